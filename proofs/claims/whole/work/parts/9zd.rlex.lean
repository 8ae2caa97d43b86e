/-! the reference goes over tokens -/
section
variable {n : Nat} {P S T : MS} {g : Nat → Int} {E : Nat}
/-- the reference stands ahead of L, nothing is wrong -/
def RTK (g : Nat → Int) (E : Nat) (T : MS) (L : List Tok) : Prop := E ≤ 1600 ∧ (∀ i, i < E → T 402 i = g i ∧ 0 ≤ g i ∧ g i ≤ 255) ∧ T 401 3 = (E : Int) ∧ T 401 5 = 0 ∧ ∃ p : Nat, p ≤ E ∧ T 401 2 = (p : Int) ∧ (T 401 4 ≤ (p : Int) ∧ T 401 6 = -1) ∧ L = LX g E p (decide (T 401 4 = (p : Int)))
/-- and at its first token -/
def RTH (g : Nat → Int) (E : Nat) (T : MS) (L : List Tok) : Prop := RTK g E T L ∧ ∃ t L1, L = t :: L1 ∧ T 401 2 = ((t.2.1 : Nat) : Int)
def FRt (T T' : MS) : Prop := (∀ c, c ≠ 401 → T' c = T c) ∧ ∀ k, k ≠ 2 → k ≠ 4 → k ≠ 5 → k ≠ 6 → k ≠ 10 → T' 401 k = T 401 k
theorem FRt.rf (T : MS) : FRt T T := ⟨fun _ _ => rfl, fun _ _ _ _ _ _ => rfl⟩
theorem FRt.tr {T T' T'' : MS} (h : FRt T T') (k : FRt T' T'') : FRt T T'' := ⟨fun c hc => (k.1 c hc).trans (h.1 c hc), fun j a1 a2 a3 a4 a5 => (k.2 j a1 a2 a3 a4 a5).trans (h.2 j a1 a2 a3 a4 a5)⟩
theorem FRt.u {T : MS} {k : Nat} {z : Int} (h : k = 2 ∨ k = 4 ∨ k = 5 ∨ k = 6 ∨ k = 10) : FRt T (up T 401 k z) := ⟨fun c hc => up_c hc, fun j _ _ _ _ _ => up_k (by omega)⟩
theorem let_b {x : Int} : letB x = true ↔ 97 ≤ x ∧ x ≤ 122 := by unfold letB; rw [decide_eq_true_iff]
theorem dig_b {x : Int} : digB x = true ↔ 48 ≤ x ∧ x ≤ 57 := by unfold digB; rw [decide_eq_true_iff]
/-- the first token, where it is no blank -/
theorem LX_hd {p : Nat} {b : Bool} (hg : ∀ i, i < E → 0 ≤ g i ∧ g i ≤ 255) (h : p < E → g p ≠ 10 ∧ g p ≠ 32) (hp : p ≤ E) : ∃ t L1, LX g E p b = t :: L1 ∧ t.2.1 = p ∧ ((p = E ∧ t = (35, E, E) ∧ L1 = []) ∨ (p < E ∧ ((letB (g p) = true ∧ t = ((if b = true then 34 else wnum (segL g p (endL g E letB p))), p, endL g E letB p) ∧ L1 = LX g E (endL g E letB p) true) ∨ (letB (g p) = false ∧ digB (g p) = true ∧ t = ((if b = true then 34 else 33), p, endL g E digB p) ∧ L1 = LX g E (endL g E digB p) true) ∨ (letB (g p) = false ∧ digB (g p) = false ∧ t = (256 + (g p).toNat, p, p + 1) ∧ L1 = LX g E (p + 1) false)))) := by
  rw [LX_eq]
  by_cases c : p < E
  · rw [if_pos c]
    by_cases c1 : letB (g p) = true
    · rw [if_pos c1]
      exact ⟨_, _, rfl, rfl, Or.inr ⟨c, Or.inl ⟨c1, rfl, rfl⟩⟩⟩
    · rw [if_neg c1]
      have c1' : letB (g p) = false := by cases h : letB (g p); rfl; exact absurd h c1
      by_cases c2 : digB (g p) = true
      · rw [if_pos c2]
        exact ⟨_, _, rfl, rfl, Or.inr ⟨c, Or.inr (Or.inl ⟨c1', c2, rfl, rfl⟩)⟩⟩
      · have c2' : digB (g p) = false := by cases h : digB (g p); rfl; exact absurd h c2
        rw [if_neg c2, if_neg (fun q => q.elim (h c).1 (h c).2)]
        exact ⟨_, _, rfl, rfl, Or.inr ⟨c, Or.inr (Or.inr ⟨c1', c2', rfl, rfl⟩)⟩⟩
  · rw [if_neg c]
    exact ⟨_, _, rfl, by (try dsimp only); omega, Or.inl ⟨by omega, rfl, rfl⟩⟩
/-- what look() tells of a token -/
def lkc (g : Nat → Int) (t : Tok) : Int := if t.1 = 35 then -1 else g t.2.1
theorem m_look {L : List Tok} (h : RTK g E T L) : ∃ t L1 T', L = t :: L1 ∧ m_Mo_look T = some (lkc g t, T') ∧ RTK g E T' L ∧ T' 401 2 = ((t.2.1 : Nat) : Int) ∧ (∀ c, c ≠ 401 → T' c = T c) ∧ (∀ k, k ≠ 2 → T' 401 k = T 401 k) ∧ (t.2.1 < E → g t.2.1 ≠ 10 ∧ g t.2.1 ≠ 32) := by
  have key : ∀ (n p : Nat) (T : MS), E - p = n → p ≤ E → T 401 2 = (p : Int) → RTK g E T L → ∃ t L1 T', L = t :: L1 ∧ Mo_look_0 T = some (lkc g t, T') ∧ RTK g E T' L ∧ T' 401 2 = ((t.2.1 : Nat) : Int) ∧ (∀ c, c ≠ 401 → T' c = T c) ∧ (∀ k, k ≠ 2 → T' 401 k = T 401 k) ∧ (t.2.1 < E → g t.2.1 ≠ 10 ∧ g t.2.1 ≠ 32) := by
    intro n
    induction n with
    | zero =>
      intro p T hn hp h2 h
      obtain ⟨hE, hg, h3, h5, p', hp', h2', h4, hL⟩ := id h
      have : p' = p := by omega
      subst this
      have hpE : p' = E := by omega
      rw [e_Mo_look_0, h2, h3, if_neg (by omega), if_neg (by omega)]
      rw [LX_eq, if_neg (by omega)] at hL
      exact ⟨_, _, T, hL, by unfold lkc; rw [if_pos rfl], h, by rw [h2, hpE], fun _ _ => rfl, fun _ _ => rfl, fun q => absurd q (Nat.lt_irrefl E)⟩
    | succ n ih =>
      intro p T hn hp h2 h
      obtain ⟨hE, hg, h3, h5, p', hp', h2', h4, hL⟩ := id h
      have : p' = p := by omega
      subst this
      have hpE : p' < E := by omega
      have ec := (hg p' hpE).1
      have hblank : g p' = 10 ∨ g p' = 32 → ∃ t L1 T', L = t :: L1 ∧ Mo_look_0 (up T 401 2 ((p' + 1 : Nat) : Int)) = some (lkc g t, T') ∧ RTK g E T' L ∧ T' 401 2 = ((t.2.1 : Nat) : Int) ∧ (∀ c, c ≠ 401 → T' c = T c) ∧ (∀ k, k ≠ 2 → T' 401 k = T 401 k) ∧ (t.2.1 < E → g t.2.1 ≠ 10 ∧ g t.2.1 ≠ 32) := fun hb => by
        have hL2 : L = LX g E (p' + 1) (decide (T 401 4 = ((p' + 1 : Nat) : Int))) := by
          rw [hL, LX_eq, if_pos hpE, if_neg (fun q => by have := let_b.mp q; omega), if_neg (fun q => by have := dig_b.mp q; omega), if_pos hb]
          congr 1
          exact (decide_eq_false (by omega)).symm
        obtain ⟨t, L1, T', q1, q2, q3, q4, q5, q6, q7⟩ := ih (p' + 1) (up T 401 2 ((p' + 1 : Nat) : Int)) (by omega) (by omega) (up_s _ _ _ _) ⟨hE, fun i hi => by rw [up_c (by decide)]; exact hg i hi, by rw [up_k (by decide)]; exact h3, by rw [up_k (by decide)]; exact h5, p' + 1, by omega, up_s _ _ _ _, ⟨by rw [up_k (by decide)]; omega, by rw [up_k (by decide)]; exact h4.2⟩, by rw [up_k (by decide)]; exact hL2⟩
        exact ⟨t, L1, T', q1, q2, q3, q4, fun c hc => by rw [q5 c hc, up_c hc], fun k hk => by rw [q6 k hk, up_k hk], q7⟩
      rw [e_Mo_look_0, h2, h3, if_pos (by omega), if_pos (by omega), Int.toNat_natCast, ec, wr_suc2 (show p' < 1600 by omega) (by decide)]
      by_cases c1 : g p' = 10
      · rw [if_pos c1]; exact hblank (Or.inl c1)
      · rw [if_neg c1, if_pos (by omega)]
        by_cases c2 : g p' = 32
        · rw [if_pos c2]; exact hblank (Or.inr c2)
        · rw [if_neg c2, if_pos (by omega), if_pos (by omega)]
          obtain ⟨t, L1, r1, r2, r3⟩ := LX_hd (b := decide (T 401 4 = (p' : Int))) (fun i hi => (hg i hi).2) (fun _ => ⟨c1, c2⟩) hp
          have hx := (hg p' hpE).2
          refine ⟨t, L1, T, hL.trans r1, ?_, h, by rw [h2, r2], fun _ _ => rfl, fun _ _ => rfl, fun _ => by rw [r2]; exact ⟨c1, c2⟩⟩
          unfold lkc
          rw [if_neg, r2]
          intro h35
          rcases r3 with ⟨r3, -⟩ | ⟨-, ⟨-, r3, -⟩ | ⟨-, -, r3, -⟩ | ⟨-, -, r3, -⟩⟩
          · omega
          · rw [r3] at h35
            have := wnum_le (segL g p' (endL g E letB p'))
            dsimp only at h35
            split at h35 <;> omega
          · rw [r3] at h35
            dsimp only at h35
            split at h35 <;> omega
          · rw [r3] at h35
            dsimp only at h35
            omega
  obtain ⟨hE, hg, h3, h5, p, hp, h2, h4, hL⟩ := id h
  rw [e_Mo_look]
  exact key (E - p) p T rfl hp h2 h
/-- which tokens a place can hold -/
def TKS (g : Nat → Int) (E : Nat) (b : Bool) (t : Tok) (L1 : List Tok) : Prop := (t = (35, E, E) ∧ L1 = []) ∨ (t.2.1 < E ∧ ((letB (g t.2.1) = true ∧ t = ((if b = true then 34 else wnum (segL g t.2.1 (endL g E letB t.2.1))), t.2.1, endL g E letB t.2.1) ∧ L1 = LX g E (endL g E letB t.2.1) true) ∨ (letB (g t.2.1) = false ∧ digB (g t.2.1) = true ∧ t = ((if b = true then 34 else 33), t.2.1, endL g E digB t.2.1) ∧ L1 = LX g E (endL g E digB t.2.1) true) ∨ (letB (g t.2.1) = false ∧ digB (g t.2.1) = false ∧ t = (256 + (g t.2.1).toNat, t.2.1, t.2.1 + 1) ∧ L1 = LX g E (t.2.1 + 1) false)))
theorem RTK.tks {t : Tok} {L1 : List Tok} (h : RTK g E T (t :: L1)) (h2 : T 401 2 = ((t.2.1 : Nat) : Int)) (hb : t.2.1 < E → g t.2.1 ≠ 10 ∧ g t.2.1 ≠ 32) : TKS g E (decide (T 401 4 = ((t.2.1 : Nat) : Int))) t L1 ∧ t.2.1 ≤ E := by
  obtain ⟨hE, hg, h3, h5, p, hp, h2', h4, hL⟩ := h
  have : p = t.2.1 := by omega
  subst this
  obtain ⟨t', L', r1, r2, r3⟩ := LX_hd (b := decide (T 401 4 = ((t.2.1 : Nat) : Int))) (fun i hi => (hg i hi).2) hb hp
  rw [r1, List.cons.injEq] at hL
  obtain ⟨e1, e2⟩ := hL
  rw [← e1, ← e2] at r3
  refine ⟨?_, hp⟩
  rcases r3 with ⟨-, r4, r5⟩ | ⟨r4, r5⟩
  · exact Or.inl ⟨r4, r5⟩
  · exact Or.inr ⟨r4, r5⟩
/-- a sign -/
def sgB (a : Nat) : Prop := a < 256 ∧ ¬ (97 ≤ a ∧ a ≤ 122) ∧ ¬ (48 ≤ a ∧ a ≤ 57)
theorem TKS.sg {b : Bool} {t : Tok} {L1 : List Tok} (h : TKS g E b t L1) (hg : t.2.1 < E → 0 ≤ g t.2.1 ∧ g t.2.1 ≤ 255) {a : Nat} (ha : sgB a) : (lkc g t = a ↔ t.1 = 256 + a) ∧ (t.1 = 256 + a → t.2.1 < E ∧ L1 = LX g E (t.2.1 + 1) false) := by
  obtain ⟨a1, a2, a3⟩ := ha
  unfold lkc
  rcases h with ⟨h1, h2⟩ | ⟨h0, ⟨h1, h2, h3⟩ | ⟨h1, h2, h3, h4⟩ | ⟨h1, h2, h3, h4⟩⟩
  · have e1 : t.1 = 35 := by rw [h1]
    rw [if_pos e1]
    exact ⟨by omega, by omega⟩
  · have hl := let_b.mp h1
    have hw := wnum_le (segL g t.2.1 (endL g E letB t.2.1))
    have e1 : t.1 ≤ 34 := by
      have e := congrArg (fun x => x.1) h2
      dsimp only at e
      rw [e]; split <;> omega
    rw [if_neg (by omega)]
    exact ⟨by omega, by omega⟩
  · have hl := dig_b.mp h2
    have e1 : t.1 ≤ 34 := by
      have e := congrArg (fun x => x.1) h3
      dsimp only at e
      rw [e]; split <;> omega
    rw [if_neg (by omega)]
    exact ⟨by omega, by omega⟩
  · have e1 : t.1 = 256 + (g t.2.1).toNat := by
      have e := congrArg (fun x => x.1) h3
      exact e
    have := hg h0
    rw [if_neg (by omega)]
    exact ⟨by omega, fun _ => ⟨h0, h4⟩⟩
theorem RTK.ne {L : List Tok} (h : RTK g E T L) : L ≠ [] := by
  obtain ⟨t, L1, T', r, -⟩ := m_look h
  rw [r]; exact List.cons_ne_nil _ _
theorem m_tkSign {t : Tok} {L1 : List Tok} (h : RTK g E T (t :: L1)) {a : Nat} (ha : sgB a) : (t.1 = 256 + a ∧ ∃ T', m_Mo_takesSign a T = some (1, T') ∧ RTK g E T' L1 ∧ FRt T T' ∧ T' 401 2 = ((t.2.1 + 1 : Nat) : Int) ∧ T' 401 5 = 0) ∨ (t.1 ≠ 256 + a ∧ ∃ T', m_Mo_takesSign a T = some (0, T') ∧ RTK g E T' (t :: L1) ∧ FRt T T' ∧ T' 401 2 = ((t.2.1 : Nat) : Int)) := by
  obtain ⟨t', L', T1, e, r1, r2, r3, r4, r5, r6⟩ := m_look h
  cases e
  have hf : FRt T T1 := ⟨r4, fun k k2 _ _ _ _ => r5 k k2⟩
  obtain ⟨hE, hg, h3, h5, p, hp, h2, h4, hL⟩ := id r2
  obtain ⟨k1, k2⟩ := r2.tks r3 r6
  obtain ⟨s1, s2⟩ := k1.sg (fun q => (hg _ q).2) ha
  have hp2 : p = t.2.1 := by omega
  rw [e_Mo_takesSign, h.2.2.2.1, if_pos rfl, r1, Option.bind_some]
  dsimp only
  by_cases c : t.1 = 256 + a
  · left
    obtain ⟨s3, s4⟩ := s2 c
    rw [if_pos (s1.mpr c), r3, wr_suc2 (show t.2.1 < 1600 by omega) (by decide)]
    refine ⟨c, _, rfl, ⟨hE, fun i hi => by rw [up_c (by decide)]; exact hg i hi, by rw [up_k (by decide)]; exact h3, by rw [up_k (by decide)]; exact h5, t.2.1 + 1, s3, up_s _ _ _ _, ⟨by rw [up_k (by decide)]; omega, by rw [up_k (by decide)]; exact h4.2⟩, ?_⟩, hf.tr (FRt.u (Or.inl rfl)), up_s _ _ _ _, by rw [up_k (by decide)]; exact h5⟩
    rw [up_k (by decide), s4]
    congr 1
    exact (decide_eq_false (by omega)).symm
  · right
    rw [if_neg (fun q => c (s1.mp q))]
    exact ⟨c, T1, rfl, r2, hf, r3⟩
end
