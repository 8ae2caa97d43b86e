/-! MINISTRY: a name, the reference -/
section
variable {n : Nat} {P S T : MS} {g : Nat → Int} {E : Nat} {q : Int}
theorem ISW.mk2 {t : Tok} {b : Bool} {L1 : List Tok} (hE : t.2.1 ≤ E) (k1 : TKS g E b t L1) (ht : 26 ≤ t.1 ∧ t.1 ≤ 32) : ISW g E t ∧ t.2.2 = endL g E letB t.2.1 ∧ b = false ∧ L1 = LX g E t.2.2 true := by
  rcases k1 with ⟨e1, e2⟩ | ⟨hlt, ⟨e0, e1, e2⟩ | ⟨e0, e0', e1, e2⟩ | ⟨e0, e0', e1, e2⟩⟩
  · have : t.1 = 35 := by rw [e1]
    omega
  · have ht1 : t.1 = if b = true then 34 else wnum (segL g t.2.1 (endL g E letB t.2.1)) := congrArg (fun x => x.1) e1
    have ht2 : t.2.2 = endL g E letB t.2.1 := congrArg (fun x => x.2.2) e1
    have hb : b = false := by
      cases b
      · rfl
      · rw [if_pos rfl] at ht1; omega
    obtain ⟨b1, b2, b3, b4⟩ := endL_b g E letB (E - t.2.1) t.2.1 rfl (by omega)
    have hlt2 : t.2.1 < t.2.2 := by
      rw [ht2, endL_eq, if_pos ⟨hlt, e0⟩]
      have := (endL_b g E letB (E - (t.2.1 + 1)) (t.2.1 + 1) rfl (by omega)).1
      omega
    exact ⟨⟨hlt2, by omega, fun i h1 h2 => let_b.mp (b3 i h1 (by omega))⟩, ht2, hb, by rw [ht2]; exact e2⟩
  · have ht1 : t.1 = if b = true then 34 else 33 := congrArg (fun x => x.1) e1
    split at ht1 <;> omega
  · have ht1 : t.1 = 256 + (g t.2.1).toNat := congrArg (fun x => x.1) e1
    omega
theorem RTK.isw {t : Tok} {L1 : List Tok} (h : RTK g E T (t :: L1)) (ht : 26 ≤ t.1 ∧ t.1 ≤ 32) : ISW g E t := by
  obtain ⟨t', L', T1, e, r1, r2, r3, r4, r5, r6⟩ := m_look h
  cases e
  obtain ⟨k1, k2⟩ := r2.tks r3 r6
  exact (ISW.mk2 k2 k1 ht).1
/-- what a name may change -/
def FRn (T T' : MS) : Prop := (∀ c, c ≠ 401 → T' c = T c) ∧ ∀ k, k ≠ 2 → k ≠ 4 → k ≠ 5 → k ≠ 6 → k ≠ 10 → k ≠ 37 → T' 401 k = T 401 k
theorem FRn.tr {T T' T'' : MS} (h : FRn T T') (k : FRn T' T'') : FRn T T'' := ⟨fun c hc => (k.1 c hc).trans (h.1 c hc), fun j a1 a2 a3 a4 a5 a6 => (k.2 j a1 a2 a3 a4 a5 a6).trans (h.2 j a1 a2 a3 a4 a5 a6)⟩
theorem FRt.nq {T T' : MS} (h : FRt T T') : FRn T T' := ⟨h.1, fun k a1 a2 a3 a4 a5 _ => h.2 k a1 a2 a3 a4 a5⟩
theorem FRn.u {T : MS} {k : Nat} {z : Int} (h : k = 2 ∨ k = 4 ∨ k = 5 ∨ k = 6 ∨ k = 10 ∨ k = 37) : FRn T (up T 401 k z) := ⟨fun c hc => up_c hc, fun j _ _ _ _ _ _ => up_k (by omega)⟩
theorem nm27_sn2 (g : Nat → Int) (s k : Nat) : nm27 ((List.range (k + 1)).map (fun i => g (s + i) - 96)) = 27 * nm27 ((List.range k).map (fun i => g (s + i) - 96)) + (g (s + k) - 96) := by
  unfold nm27
  rw [List.range_succ, List.map_append, List.foldl_append]
  rfl
theorem m_n58 {t : Tok} (hE : E ≤ 1600) (hw : ISW g E t) (hend : t.2.2 < E → letB (g t.2.2) = false) : ∀ (n p : Nat) (T : MS), p + n = t.2.2 → t.2.1 ≤ p → p ≤ t.2.1 + 6 → (∀ i, i < E → T 402 i = g i) → T 401 3 = (E : Int) → T 401 5 = 0 → T 401 2 = (p : Int) → T 401 37 = ((t.2.1 : Nat) : Int) → (0 ≤ nm27 ((List.range (p - t.2.1)).map (fun i => g (t.2.1 + i) - 96)) ∧ nm27 ((List.range (p - t.2.1)).map (fun i => g (t.2.1 + i) - 96)) < ((27 ^ (p - t.2.1) : Nat) : Int)) →
    (t.2.2 - t.2.1 ≤ 6 → ∃ T', Mo_name_58 (nm27 ((List.range (p - t.2.1)).map (fun i => g (t.2.1 + i) - 96))) T = some (nm27 (nmL g t), T') ∧ FRt T T' ∧ T' 401 2 = ((t.2.2 : Nat) : Int) ∧ T' 401 4 = ((t.2.2 : Nat) : Int) ∧ T' 401 5 = T 401 5 ∧ T' 401 6 = T 401 6) ∧ (6 < t.2.2 - t.2.1 → ∃ v T', Mo_name_58 (nm27 ((List.range (p - t.2.1)).map (fun i => g (t.2.1 + i) - 96))) T = some (v, T') ∧ FRt T T' ∧ BDT T' 1 (t.2.1 + 6)) := by
  obtain ⟨w1, w2, w3⟩ := hw
  intro n
  induction n with
  | zero =>
    intro p T e hp hp6 hg h3 h5 h2 h37 hv
    refine ⟨fun h6 => ?_, fun h6 => absurd h6 (by omega)⟩
    have hpe : p = t.2.2 := by omega
    have hend' : Mo_name_58 (nm27 ((List.range (p - t.2.1)).map (fun i => g (t.2.1 + i) - 96))) T = some (nm27 ((List.range (p - t.2.1)).map (fun i => g (t.2.1 + i) - 96)), up T 401 4 (T 401 2)) := by
      rw [e_Mo_name_58, h2, h3]
      by_cases c : p < E
      · rw [if_pos (by omega), if_pos (by omega), Int.toNat_natCast, hg p c, m_letq, Option.bind_some]
        dsimp only
        rw [if_pos (i01f (show letB (g p) = false by rw [hpe]; exact hend (by omega))), h2]
      · rw [if_neg (by omega)]
    rw [hend', h2, hpe]
    refine ⟨_, rfl, FRt.u (by omega), by rw [up_k (by decide), h2, hpe], up_s _ _ _ _, up_k (by decide), up_k (by decide)⟩
  | succ n ih =>
    intro p T e hp hp6 hg h3 h5 h2 h37 hv
    have hx := w3 p hp (by omega)
    have hlet : letB (g p) = true := let_b.mpr hx
    by_cases c6 : p = t.2.1 + 6
    · refine ⟨fun h6 => absurd h6 (by omega), fun h6 => ?_⟩
      rw [e_Mo_name_58, h2, h3, if_pos (by omega), if_pos (by omega), Int.toNat_natCast, hg p (by omega), m_letq, Option.bind_some]
      dsimp only
      simp only [h2, h37]
      rw [if_neg (i01t hlet), wrN (z := (p : Int) - ((t.2.1 : Nat) : Int)) (by omega) (by omega), if_pos (by omega), m_fail h5, Option.bind_some, c6]
      exact ⟨0, _, rfl, FRt.fail _ _, bdt_fail 1 _⟩
    · have hpow : (27 : Nat) ^ (p - t.2.1) ≤ 27 ^ 5 := Nat.pow_le_pow_right (by decide) (by omega)
      rw [show (27 : Nat) ^ 5 = 14348907 from rfl] at hpow
      have e27 : (27 : Nat) ^ (p + 1 - t.2.1) = 27 * 27 ^ (p - t.2.1) := by rw [show p + 1 - t.2.1 = (p - t.2.1) + 1 by omega, Nat.pow_succ, Nat.mul_comm]
      have hs := nm27_sn2 g t.2.1 (p - t.2.1)
      rw [show p - t.2.1 + 1 = p + 1 - t.2.1 by omega, show t.2.1 + (p - t.2.1) = p by omega] at hs
      have hi := ih (p + 1) (up T 401 2 ((p + 1 : Nat) : Int)) (by omega) (by omega) (by omega) (fun i hi => by rw [up_c (by decide)]; exact hg i hi) (by rw [up_k (by decide)]; exact h3) (by rw [up_k (by decide)]; exact h5) (up_s _ _ _ _) (by rw [up_k (by decide)]; exact h37) (by
        rw [hs, e27, Int.natCast_mul]
        omega)
      have heq : Mo_name_58 (nm27 ((List.range (p - t.2.1)).map (fun i => g (t.2.1 + i) - 96))) T = Mo_name_58 (nm27 ((List.range (p + 1 - t.2.1)).map (fun i => g (t.2.1 + i) - 96))) (up T 401 2 ((p + 1 : Nat) : Int)) := by
        rw [e_Mo_name_58, h2, h3, if_pos (by omega), if_pos (by omega), Int.toNat_natCast, hg p (by omega), m_letq, Option.bind_some]
        dsimp only
        simp only [h2, h37]
        rw [if_neg (i01t hlet), wrN (z := (p : Int) - ((t.2.1 : Nat) : Int)) (by omega) (by omega), if_neg (by omega), if_pos (by omega), Int.toNat_natCast, hg p (by omega), wr_suc2 (show p < 1600 by omega) (by decide), hs]
        generalize nm27 ((List.range (p - t.2.1)).map (fun i => g (t.2.1 + i) - 96)) = v at hv
        rw [wlN (z := 27 * v) (by omega) (by omega), wlN (z := 27 * v + g p) (by omega) (by omega), wlN (z := 27 * v + g p - 97) (by omega) (by omega), wlN (by omega) (by omega), show 27 * v + g p - 97 + 1 = 27 * v + (g p - 96) by omega]
      rw [heq]
      refine ⟨fun h6 => ?_, fun h6 => ?_⟩
      · obtain ⟨T', r1, r2, r3, r4, r5, r6⟩ := hi.1 h6
        exact ⟨T', r1, (FRt.u (Or.inl rfl)).tr r2, r3, r4, by rw [r5, up_k (by decide)], by rw [r6, up_k (by decide)]⟩
      · obtain ⟨v, T', r1, r2, r3⟩ := hi.2 h6
        exact ⟨v, T', r1, (FRt.u (Or.inl rfl)).tr r2, r3⟩
theorem m_name {t : Tok} {L1 : List Tok} (hw : WDT T) (h : RTK g E T (t :: L1)) : (26 ≤ t.1 ∧ t.1 ≤ 32 ∧ t.2.2 - t.2.1 ≤ 6 ∧ ∃ T', m_Mo_name T = some (nm27 (nmL g t), T') ∧ RTK g E T' L1 ∧ T' 401 37 = ((t.2.1 : Nat) : Int) ∧ FRn T T') ∨ (26 ≤ t.1 ∧ t.1 ≤ 32 ∧ 6 < t.2.2 - t.2.1 ∧ ∃ v T', m_Mo_name T = some (v, T') ∧ BDT T' 1 (t.2.1 + 6) ∧ FRn T T') ∨ (¬ (26 ≤ t.1 ∧ t.1 ≤ 32) ∧ ∃ v T', m_Mo_name T = some (v, T') ∧ BDT T' 1 t.2.1 ∧ FRn T T') := by
  obtain ⟨t', L', T1, e, r1, r2, r3, r4, r5, r6⟩ := m_look h
  cases e
  have hf : FRt T T1 := ⟨r4, fun k k2 _ _ _ _ => r5 k k2⟩
  obtain ⟨hE, hg, h3, h5, p, hp, h2, h4, hL⟩ := id r2
  obtain ⟨k1, k2⟩ := r2.tks r3 r6
  rw [e_Mo_name, h.2.2.2.1, if_pos rfl, r1, Option.bind_some]
  dsimp only
  rw [m_letq, Option.bind_some]
  dsimp only
  have bad : ∀ T2 : MS, FRn T T2 → T2 401 5 = 0 → T2 401 2 = ((t.2.1 : Nat) : Int) → ∃ v T', ((m_Mo_fail 1 (T2 401 2) T2).bind fun p3 => some ((0 : Int), p3)) = some (v, T') ∧ BDT T' 1 t.2.1 ∧ FRn T T' := fun T2 f2 z5 z2 =>
    ⟨0, up (up T2 401 5 1) 401 6 ((t.2.1 : Nat) : Int), by rw [z2, m_fail z5, Option.bind_some], bdt_fail 1 _, f2.tr (FRt.fail _ _).nq⟩
  by_cases hl : letB (lkc g t) = true
  · rw [if_neg (i01t hl)]
    by_cases c4 : T1 401 2 = T1 401 4
    · rw [if_pos c4]
      refine Or.inr (Or.inr ⟨fun ht => ?_, bad T1 hf.nq h5 r3⟩)
      have := (ISW.mk2 k2 k1 ht).2.2.1
      rw [decide_eq_false_iff_not] at this
      exact this (by rw [← c4]; exact r3)
    · rw [if_neg c4]
      obtain ⟨T2, a1, a2, a3, a4⟩ := m_own (hw.fr r4) r2
      rw [a1, Option.bind_some]
      dsimp only
      have f2 : FRn T T2 := hf.nq.tr a4.t.nq
      by_cases c26 : t.1 < 26
      · rw [if_pos c26, if_neg n10]
        exact Or.inr (Or.inr ⟨by omega, bad T2 f2 a2.2.2.2.1 a3⟩)
      · rw [if_neg c26, if_pos rfl]
        have ht : 26 ≤ t.1 ∧ t.1 ≤ 32 := by
          refine ⟨by omega, ?_⟩
          rcases id k1 with ⟨e1, e2⟩ | ⟨hlt, ⟨e0, e1, e2⟩ | ⟨e0, e0', e1, e2⟩ | ⟨e0, e0', e1, e2⟩⟩
          · exfalso
            have h35 : t.1 = 35 := by rw [e1]
            unfold lkc at hl
            rw [if_pos h35] at hl
            exact absurd hl (by decide)
          · have ht1 : t.1 = if decide (T1 401 4 = ((t.2.1 : Nat) : Int)) = true then 34 else wnum (segL g t.2.1 (endL g E letB t.2.1)) := congrArg (fun x => x.1) e1
            rw [if_neg (by rw [decide_eq_true_eq]; exact fun z => c4 (by rw [r3, z]))] at ht1
            have := wnum_le (segL g t.2.1 (endL g E letB t.2.1))
            omega
          · exfalso
            have ht1 : t.1 = if decide (T1 401 4 = ((t.2.1 : Nat) : Int)) = true then 34 else 33 := congrArg (fun x => x.1) e1
            unfold lkc at hl
            rw [if_neg (by rw [ht1]; split <;> omega), e0] at hl
            exact absurd hl (by decide)
          · exfalso
            have ht1 : t.1 = 256 + (g t.2.1).toNat := congrArg (fun x => x.1) e1
            unfold lkc at hl
            rw [if_neg (by omega), e0] at hl
            exact absurd hl (by decide)
        obtain ⟨w, w2, w3, w4⟩ := ISW.mk2 k2 k1 ht
        obtain ⟨b1, b2, b3, b4⟩ := endL_b g E letB (E - t.2.1) t.2.1 rfl (by omega)
        obtain ⟨hE2, hg2, h32, h52, p2, hp2, h22, h42, hL2⟩ := id a2
        have z : nm27 ((List.range (t.2.1 - t.2.1)).map (fun i => g (t.2.1 + i) - 96)) = 0 := by rw [Nat.sub_self]; rfl
        have hn := m_n58 (t := t) hE w (by rw [w2]; exact b4) (t.2.2 - t.2.1) t.2.1 (up T2 401 37 (T2 401 2)) (by have := w.1; omega) (Nat.le_refl _) (by omega) (fun i hi => by rw [up_c (by decide)]; exact (hg2 i hi).1) (by rw [up_k (by decide)]; exact h32) (by rw [up_k (by decide)]; exact h52) (by rw [up_k (by decide)]; exact a3) (by rw [up_s]; exact a3) (by rw [z, Nat.sub_self]; exact ⟨Int.le_refl _, by decide⟩)
        rw [z] at hn
        have f3 : FRn T (up T2 401 37 (T2 401 2)) := f2.tr (FRn.u (by omega))
        by_cases c6 : t.2.2 - t.2.1 ≤ 6
        · obtain ⟨T', s1, s2, s3, s4, s5, s6⟩ := hn.1 c6
          left
          refine ⟨ht.1, ht.2, c6, T', s1, ⟨hE, fun i hi => by rw [s2.1 402 (by decide), up_c (by decide)]; exact hg2 i hi, by rw [s2.2 3 (by decide) (by decide) (by decide) (by decide) (by decide), up_k (by decide)]; exact h32, by rw [s5, up_k (by decide)]; exact h52, t.2.2, w.2.1, s3, ⟨by rw [s4]; exact Int.le_refl _, by rw [s6, up_k (by decide)]; exact h42.2⟩, ?_⟩, ?_, f3.tr s2.nq⟩
          · rw [s4, decide_eq_true rfl]; exact w4
          · rw [s2.2 37 (by decide) (by decide) (by decide) (by decide) (by decide), up_s]; exact a3
        · obtain ⟨v, T', s1, s2, s3⟩ := hn.2 (by omega)
          exact Or.inr (Or.inl ⟨ht.1, ht.2, by omega, v, T', s1, s3, f3.tr s2.nq⟩)
  · rw [if_pos (i01f (bF hl))]
    refine Or.inr (Or.inr ⟨fun ht => ?_, bad T1 hf.nq h5 r3⟩)
    have w := (ISW.mk2 k2 k1 ht).1
    apply hl
    unfold lkc
    rw [if_neg (by omega)]
    exact let_b.mpr (w.2.2 t.2.1 (Nat.le_refl _) w.1)
/-- with a fault, all that is asked stays -/
theorem bad_asks {c : Nat} (h : T 401 5 ≠ 0) : m_Mo_asks c T = some T := by rw [e_Mo_asks, if_neg h]
theorem bad_askSg {c : Int} (h : T 401 5 ≠ 0) : m_Mo_asksSign c T = some T := by rw [e_Mo_asksSign, if_neg h]
theorem bad_number {lo hi : Int} (h : T 401 5 ≠ 0) : m_Mo_number lo hi T = some (0, T) := by rw [e_Mo_number, if_neg h]
theorem bad_name (h : T 401 5 ≠ 0) : m_Mo_name T = some (0, T) := by rw [e_Mo_name, if_neg h]
end
