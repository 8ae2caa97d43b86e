/-! turning: the reference tries every set -/
section
variable {n : Nat} {P S T : MS}
/-- the first v sets have been tried -/
def BSV (V : Nat → Prop) (v : Nat) (z : Int) : Prop := (z = -1 ∧ ∀ A, A < v → ¬ V A) ∨ ∃ A : Nat, z = (A : Int) ∧ A < v ∧ V A ∧ ∀ B, B < v → V B → sb A 12 < sb B 12 ∨ (sb A 12 = sb B 12 ∧ A ≤ B)
theorem BSV.skip {V : Nat → Prop} {v : Nat} {z : Int} (h : BSV V v z) (hv : V v → ∃ A : Nat, z = (A : Int) ∧ sb A 12 ≤ sb v 12) : BSV V (v + 1) z := by
  rcases h with ⟨h1, h2⟩ | ⟨A, h1, h2, h3, h4⟩
  · refine Or.inl ⟨h1, fun A hA hV => ?_⟩
    by_cases c : A = v
    · rw [c] at hV
      obtain ⟨B, b1, -⟩ := hv hV
      omega
    · exact h2 A (by omega) hV
  · refine Or.inr ⟨A, h1, by omega, h3, fun B hB hV => ?_⟩
    by_cases c : B = v
    · rw [c] at hV
      obtain ⟨B', b1, b2⟩ := hv hV
      have : B' = A := by omega
      rw [this] at b2
      rw [c]
      omega
    · exact h4 B (by omega) hV
theorem BSV.take {V : Nat → Prop} {v : Nat} {z : Int} (h : BSV V v z) (hv : V v) (hz : ∀ A : Nat, z = (A : Int) → sb v 12 < sb A 12) : BSV V (v + 1) (v : Int) := by
  refine Or.inr ⟨v, rfl, by omega, hv, fun B hB hV => ?_⟩
  by_cases c : B = v
  · rw [c]; right; exact ⟨rfl, Nat.le_refl _⟩
  · rcases h with ⟨h1, h2⟩ | ⟨A, h1, h2, h3, h4⟩
    · exact absurd hV (h2 B (by omega))
    · have a := hz A h1
      have b := h4 B (by omega) hV
      left; omega
/-- the world with these carbons turned -/
def fwA (w : Nat → Int) (A v : Nat) (i : Nat) : Int := if 2 ≤ i ∧ i < 2 + 2 * v ∧ i % 2 = 0 then xtu w A ((i - 2) / 2) else w i
theorem fwA_o (w : Nat → Int) (A v : Nat) {i : Nat} (h : i < 2 ∨ 25 ≤ i) (hv : v ≤ 12) : fwA w A v i = w i := by
  unfold fwA
  rw [if_neg (by omega)]
theorem fwA_t (w : Nat → Int) (A v : Nat) (k : Nat) : fwA w A v (2 + 2 * k) = if k < v then xtu w A k else w (2 + 2 * k) := by
  unfold fwA
  by_cases c : k < v
  · rw [if_pos c, if_pos (by omega), show (2 + 2 * k - 2) / 2 = k by omega]
  · rw [if_neg c, if_neg (by omega)]
theorem fwA_i (w : Nat → Int) (A v : Nat) (k : Nat) : fwA w A v (1 + 2 * k) = w (1 + 2 * k) := by
  unfold fwA
  rw [if_neg (by omega)]
theorem fwA_WV {w : Nat → Int} {A : Nat} (hP : PLN P) (hW : WV P w) : WV P (fwA w A (nCa P)) := by
  have h12 := nCa_le hP
  obtain ⟨w1, w2, w3, w4, w5⟩ := hW
  refine ⟨by rw [fwA_o _ _ _ (Or.inl (by decide)) h12]; exact w1, fun k hk => ?_, fun i h1 h2 => by rw [fwA_o _ _ _ (Or.inr h1) h12]; exact w3 i h1 h2, fun o f ho hf hc => by rw [fwA_o _ _ _ (Or.inr (by omega)) h12]; exact w4 o f ho hf hc, fun k h1 h2 => ?_⟩
  · rw [fwA_i, fwA_t]
    refine ⟨(w2 k hk).1, ?_⟩
    split
    · unfold xtu; omega
    · exact (w2 k hk).2
  · rw [fwA_i, fwA_t, if_neg (by omega)]; exact w5 k h1 h2
theorem one_cg {w : Nat → Int} {A f : Nat} (hP : PLN P) (hW : WV P w) (hf : f < 4) : ∀ N : Nat, w 0 + N ≤ 2000 → ∀ o, o < 8 → oneW P f N (fwA w A (nCa P)) (25 + 4 * o + f) = cg P w A N (colW w f) o := by
  have h12 := nCa_le hP
  intro N
  induction N with
  | zero => intro _ o ho; exact fwA_o _ _ _ (Or.inr (by omega)) h12
  | succ N ih =>
    intro hN o ho
    rw [oneW, dayP_k (by omega), goF_col hP (oneW_WV hP hf (fwA_WV hP hW) N (by rw [fwA_o _ _ _ (Or.inl (by decide)) h12]; omega)) hf ho, goW_s P _ ho hf, oneW_0, fwA_o _ _ _ (Or.inl (by decide)) h12]
    refine nxt_congr hP (fun k hk => ?_) (fun k hk => ?_) (fun x hx => ih (by omega) x hx) ho
    · show oneW P f N (fwA w A (nCa P)) (1 + 2 * k) = w (1 + 2 * k)
      rw [oneW_k _ _ _ (by omega) (Or.inl (by omega)), fwA_i]
    · show oneW P f N (fwA w A (nCa P)) (2 + 2 * k) = xtu w A k
      rw [oneW_k _ _ _ (by omega) (Or.inl (by omega)), fwA_t, if_pos hk]
theorem xtu_x {w : Nat → Int} {A k : Nat} (h : w (2 + 2 * k) = 0 ∨ w (2 + 2 * k) = 1) : bxor (w (2 + 2 * k)) ((bn A k : Nat) : Int) = xtu w A k := by
  unfold xtu
  rcases h with h | h <;> rcases bn_01 A k with q | q <;> rw [h, q] <;> rw [bxor_nn (by decide) (by decide) (by decide) (by decide)] <;> decide
theorem m_ins {w : Nat → Int} (hP : PLN P) (hR : RP P T) (hw : T 438 = w) : ∀ (j v : Nat) (X : Int), v + j = nCa P → (0 ≤ X ∧ X < 4096) → (∀ k, bt X k = if k < v ∧ w (1 + 2 * k) = 1 then 1 else 0) → ∃ I : Nat, Mo_insideSet_4 X v T = some ((I : Int), T) ∧ I < 4096 ∧ ∀ k, bn I k = if k < nCa P ∧ w (1 + 2 * k) = 1 then 1 else 0 := by
  have h3 := hP.2.2.1
  have h12 := nCa_le hP
  intro j
  induction j with
  | zero =>
    intro v X e hX hb
    rw [e_Mo_insideSet_4, e_Mo_carbonMany, Option.bind_some]
    dsimp only
    rw [hR.n6, if_neg (by unfold nCa at e; omega)]
    refine ⟨X.toNat, by rw [Int.toNat_of_nonneg hX.1], by omega, fun k => ?_⟩
    have h1 := hb k
    rw [show X = ((X.toNat : Nat) : Int) by omega, bt_bn, show v = nCa P by omega] at h1
    by_cases c : k < nCa P ∧ w (1 + 2 * k) = 1
    · rw [if_pos c] at h1; rw [if_pos c]; omega
    · rw [if_neg c] at h1; rw [if_neg c]; omega
  | succ j ih =>
    intro v X e hX hb
    rw [e_Mo_insideSet_4, e_Mo_carbonMany, Option.bind_some]
    dsimp only
    rw [hR.n6, if_pos (by unfold nCa at e; omega), m_inside (by omega), Option.bind_some]
    dsimp only
    rw [hw, wr_suc2 (show v < 12 by omega) (by decide)]
    by_cases c : w (1 + 2 * v) = 1
    · rw [if_pos c, if_neg n10]
      obtain ⟨b1, b2⟩ := bt_put (b := 1) (v := v) hX (Or.inr rfl) (by omega)
      refine ih (v + 1) _ (by omega) b1 (fun k => ?_)
      rw [b2 k, hb k]
      by_cases e' : k = v
      · rw [e', if_pos (Or.inr ⟨rfl, rfl⟩), if_pos ⟨by omega, c⟩]
      · by_cases q : k < v ∧ w (1 + 2 * k) = 1
        · rw [if_pos q, if_pos (Or.inl rfl), if_pos ⟨by omega, q.2⟩]
        · rw [if_neg q, if_neg (fun g => g.elim (fun g => absurd g (by decide)) (fun g => e' g.1)), if_neg (fun g => q ⟨by omega, g.2⟩)]
    · rw [if_neg c, if_pos rfl]
      refine ih (v + 1) X (by omega) hX (fun k => ?_)
      rw [hb k]
      by_cases q : k < v ∧ w (1 + 2 * k) = 1
      · rw [if_pos q, if_pos ⟨by omega, q.2⟩]
      · rw [if_neg q, if_neg (fun g => q ⟨by
          by_cases e' : k = v
          · rw [e'] at g; exact absurd g.2 c
          · omega, g.2⟩)]
theorem m_flip {w : Nat → Int} {v1 v2 v3 v4 v5 v6 : Int} {A : Nat} (hP : PLN P) (hW : WV P w) (hA : A < 4096) : ∀ (j v : Nat) (T : MS), v + j = nCa P → RP P T → T 438 = fwA w A v → ∃ T', Mo_turning_106 v1 v2 v3 v4 v5 v6 A v T = ((m_Mo_oneGoes v2 v4 T').bind fun p2 => (m_Mo_strengthOf v1 v2 p2).bind fun p3 => if p3.1 < v3 then ((m_Mo_triesAnew p3.2).bind fun p4 => Mo_turning_60 v1 v2 v3 v4 v5 v6 (wr ((A : Int) + 1)) p4) else (m_Mo_triesAnew p3.2).bind fun p4 => Mo_turning_60 v1 v2 v3 v4 A v6 (wr ((A : Int) + 1)) p4) ∧ T' 438 = fwA w A (nCa P) ∧ ∀ c, c ≠ 438 → T' c = T c := by
  have h3 := hP.2.2.1
  have h12 := nCa_le hP
  intro j
  induction j with
  | zero =>
    intro v T e hR hw
    rw [e_Mo_turning_106, e_Mo_carbonMany, Option.bind_some]
    dsimp only
    rw [hR.n6, if_neg (by unfold nCa at e; omega)]
    exact ⟨T, rfl, by rw [hw, show v = nCa P by omega], fun _ _ => rfl⟩
  | succ j ih =>
    intro v T e hR hw
    rw [e_Mo_turning_106, e_Mo_carbonMany, Option.bind_some]
    dsimp only
    rw [hR.n6, if_pos (by unfold nCa at e; omega), wrN (z := 2 * (v : Int)) (by omega) (by omega), wrN (z := 2 + 2 * (v : Int)) (by omega) (by omega), if_pos (by omega), if_pos (by omega), show (2 + 2 * (v : Int)).toNat = 2 + 2 * v by omega, hw, fwA_t, if_neg (Nat.lt_irrefl v), bt_of (by omega) (by omega) (by omega) (by omega), Int.toNat_natCast, bt_bn, xtu_x (hW.2.1 v (by omega)).2, wr_suc2 (show v < 12 by omega) (by decide)]
    obtain ⟨T', r1, r2, r3⟩ := ih (v + 1) (up T 438 (2 + 2 * v) (xtu w A v)) (by omega) (hR.fr (up_c (by decide)) (up_c (by decide)) (up_c (by decide)) (up_c (by decide)) (up_c (by decide)) (up_c (by decide)) (up_c (by decide))) (by
      funext i
      by_cases q : i = 2 + 2 * v
      · rw [q, up_s, fwA_t, if_pos (by omega)]
      · rw [up_k q, hw]
        unfold fwA
        by_cases g : 2 ≤ i ∧ i < 2 + 2 * v ∧ i % 2 = 0
        · rw [if_pos g, if_pos (by omega)]
        · rw [if_neg g, if_neg (by omega)])
    exact ⟨T', r1, r2, fun c hc => by rw [r3 c hc, up_c hc]⟩
/-- one try -/
theorem m_try {w : Nat → Int} {o f D A : Nat} {s v5 v6 : Int} (hP : PLN P) (hW : WV P w) (ho : o < 8) (hf : f < 4) (hD : w 0 + D ≤ 2000) (hA : A < 4096) (hR : RP P T) (hw : T 438 = w) (ht : TH w T) : ∃ T', Mo_turning_106 o f s D v5 v6 A 0 T = Mo_turning_60 o f s D (if s ≤ cg P w A D (colW w f) o then (A : Int) else v5) v6 ((A + 1 : Nat) : Int) T' ∧ T' 438 = w ∧ TH w T' ∧ FG T T' ∧ T' 401 57 = T 401 57 := by
  have h12 := nCa_le hP
  obtain ⟨T1, r1, r2, r3⟩ := m_flip (v1 := o) (v2 := f) (v3 := s) (v4 := D) (v5 := v5) (v6 := v6) (A := A) hP hW hA (nCa P) 0 T (by omega) hR (by
    rw [hw]; funext i; unfold fwA; rw [if_neg (by omega)])
  have r1 : Mo_turning_106 o f s D v5 v6 A 0 T = _ := r1
  have f1 : FG T T1 := ⟨fun c _ a2 _ _ => r3 c a2, fun k _ _ _ _ _ _ _ _ => by rw [r3 401 (by decide)]⟩
  obtain ⟨T2, q1, q2, q3, q4⟩ := m_oneGoes (f := f) (N := D) hP hf (T := T1) (hR.fg f1) (by rw [r2]; exact fwA_WV hP hW) (by rw [r2, fwA_o _ _ _ (Or.inl (by decide)) h12]; exact hD)
  have f2 := f1.tr q3
  have t2 : TH w T2 := ht.fg f2 (fun i hi => by rw [q2, oneW_k _ _ _ (by omega) (Or.inr hi), r2, fwA_o _ _ _ (Or.inr (by omega)) h12, hw])
  obtain ⟨T3, p1, p2, p3⟩ := m_anew T2
  have e3 : T3 438 = w := by
    funext i
    rw [p2 i]
    by_cases c : i < 57
    · rw [if_pos c, t2.1 i c]
    · rw [if_neg c, t2.2.1 i (by omega)]
  have f3 : FG T2 T3 := ⟨fun c _ a2 _ _ => p3 c a2, fun k _ _ _ _ _ _ _ _ => by rw [p3 401 (by decide)]⟩
  rw [r1, q1, Option.bind_some, m_str ho hf, Option.bind_some]
  dsimp only
  rw [p1, Option.bind_some, q2, r2, one_cg hP hW hf D hD o ho, wr_suc2 hA (by decide)]
  refine ⟨T3, ?_, e3, ht.fg (f2.tr f3) (fun i _ => by rw [e3, hw]), f2.tr f3, by rw [p3 401 (by decide), q4, r3 401 (by decide)]⟩
  by_cases c : cg P w A D (colW w f) o < s
  · rw [if_pos c, if_neg (by omega)]
  · rw [if_neg c, if_pos (by omega)]; rfl
theorem m_all {w : Nat → Int} {o f D I : Nat} {s : Int} (hP : PLN P) (hW : WV P w) (ho : o < 8) (hf : f < 4) (hD : w 0 + D ≤ 2000) (hI : I < 4096) (hI2 : ∀ k, bn I k = if k < nCa P ∧ w (1 + 2 * k) = 1 then 1 else 0) : ∀ (j v : Nat) (T : MS) (z : Int), v + j = 2 ^ nCa P → RP P T → T 438 = w → TH w T → BSV (VAL P w (colW w f) D o s) v z → ∃ z' T', Mo_turning_60 o f s D z I v T = ((m_Mo_takesBack T').bind fun p2 => some (z', p2)) ∧ BSV (VAL P w (colW w f) D o s) (2 ^ nCa P) z' ∧ TH w T' ∧ FG T T' ∧ T' 401 57 = T 401 57 := by
  have h3 := hP.2.2.1
  have h12 := nCa_le hP
  have hca : P 430 6 = (nCa P : Int) := by unfold nCa; omega
  have hp : shl 1 (nCa P : Int) = ((2 ^ nCa P : Nat) : Int) := by rw [shl_1 (by omega) (by omega), Int.toNat_natCast]
  have h4096 : (2 : Nat) ^ nCa P ≤ 2 ^ 12 := Nat.pow_le_pow_right (by decide) h12
  intro j
  induction j with
  | zero =>
    intro v T z e hR hw ht hB
    rw [e_Mo_turning_60, e_Mo_carbonMany, Option.bind_some]
    dsimp only
    rw [hR.n6, hca, hp, if_neg (by omega)]
    exact ⟨z, T, rfl, by rw [← show v = 2 ^ nCa P by omega]; exact hB, ht, FG.rf T, rfl⟩
  | succ j ih =>
    intro v T z e hR hw ht hB
    have hv : v < 4096 := by omega
    have inside : VAL P w (colW w f) D o s v → ∀ k, k < 12 → bn v k = 1 → bn I k = 1 := fun hV k hk q => by rw [hI2 k, if_pos (hV.2.1 k hk q)]
    rw [e_Mo_turning_60, e_Mo_carbonMany, Option.bind_some]
    dsimp only
    rw [hR.n6, hca, hp, if_pos (by omega)]
    have go : (∀ A : Nat, z = (A : Int) → sb v 12 < sb A 12) → (∀ k, k < 12 → bn v k = 1 → bn I k = 1) → ∃ z' T', Mo_turning_106 o f s D z I v 0 T = ((m_Mo_takesBack T').bind fun p2 => some (z', p2)) ∧ BSV (VAL P w (colW w f) D o s) (2 ^ nCa P) z' ∧ TH w T' ∧ FG T T' ∧ T' 401 57 = T 401 57 := fun hz hin => by
      obtain ⟨T1, r1, r2, r3, r4, r5⟩ := m_try (s := s) (v5 := z) (v6 := I) hP hW ho hf hD hv hR hw ht
      obtain ⟨z', T2, q1, q2, q3, q4, q5⟩ := ih (v + 1) T1 (if s ≤ cg P w v D (colW w f) o then (v : Int) else z) (by omega) (hR.fg r4) r2 r3 (by
        by_cases c : s ≤ cg P w v D (colW w f) o
        · rw [if_pos c]
          refine hB.take ⟨hv, fun k hk q => ?_, c⟩ hz
          have := hin k hk q
          rw [hI2 k] at this
          split at this
          · assumption
          · omega
        · rw [if_neg c]
          exact hB.skip (fun hV => absurd hV.2.2 c))
      exact ⟨z', T2, r1.trans q1, q2, q3, r4.tr q4, q5.trans r5⟩
    have no : (VAL P w (colW w f) D o s v → ∃ A : Nat, z = (A : Int) ∧ sb A 12 ≤ sb v 12) → ∃ z' T', Mo_turning_60 o f s D z I ((v + 1 : Nat) : Int) T = ((m_Mo_takesBack T').bind fun p2 => some (z', p2)) ∧ BSV (VAL P w (colW w f) D o s) (2 ^ nCa P) z' ∧ TH w T' ∧ FG T T' ∧ T' 401 57 = T 401 57 := fun h => ih (v + 1) T z (by omega) hR hw ht (hB.skip h)
    by_cases c1 : band (v : Int) (bxor (I : Int) (-1)) = 0
    · rw [if_pos c1]
      by_cases c2 : z = -1
      · rw [if_pos c2]
        exact go (fun A hA => by omega) ((band_out hv hI).mp c1)
      · rw [if_neg c2, m_bits0 hv, Option.bind_some]
        dsimp only
        obtain ⟨A, hA, hA2⟩ : ∃ A : Nat, z = (A : Int) ∧ A < 4096 := by
          rcases hB with ⟨h1, -⟩ | ⟨A, h1, h2, -⟩
          · exact absurd h1 c2
          · exact ⟨A, h1, by omega⟩
        rw [hA, m_bits0 hA2, Option.bind_some]
        dsimp only
        rw [← hA, wr_suc2 hv (by decide)]
        by_cases c3 : sb v 12 < sb A 12
        · rw [if_pos (by omega)]
          exact go (fun B hB => by have : B = A := by omega
                                   rw [this]; exact c3) ((band_out hv hI).mp c1)
        · rw [if_neg (by omega)]
          exact no (fun _ => ⟨A, hA, by omega⟩)
    · rw [if_neg c1, wr_suc2 hv (by decide)]
      exact no (fun hV => absurd ((band_out hv hI).mpr (inside hV)) c1)
theorem BSV.all {w c : Nat → Int} {D o : Nat} {s z : Int} (hP : PLN P) (h : BSV (VAL P w c D o s) (2 ^ nCa P) z) : BST (VAL P w c D o s) z := by
  have lt : ∀ A, VAL P w c D o s A → A < 2 ^ nCa P := fun A hA => by
    have h12 := nCa_le hP
    have e := bn_ext (x := A) (y := A % 2 ^ nCa P) 12 (fun k hk => by
      by_cases q : k < nCa P
      · unfold bn
        have l1 := Nat.testBit_mod_two_pow A (nCa P) k
        rw [Nat.testBit_eq_decide_div_mod_eq, Nat.testBit_eq_decide_div_mod_eq, decide_eq_true q, Bool.true_and] at l1
        have b1 : A / 2 ^ k % 2 = 1 ↔ A % 2 ^ nCa P / 2 ^ k % 2 = 1 := by
          rw [← decide_eq_true_iff (p := A / 2 ^ k % 2 = 1), ← decide_eq_true_iff (p := A % 2 ^ nCa P / 2 ^ k % 2 = 1), l1]
        omega
      · have hp : (2 : Nat) ^ nCa P ≤ 2 ^ k := Nat.pow_le_pow_right (by decide) (by omega)
        have hm : A % 2 ^ nCa P < 2 ^ nCa P := Nat.mod_lt _ (Nat.two_pow_pos _)
        rw [bn_big (x := A % 2 ^ nCa P) (by omega)]
        rcases bn_01 A k with g | g
        · exact g
        · have := (hA.2.1 k hk g).1; omega)
    have hm : A % 2 ^ nCa P < 2 ^ nCa P := Nat.mod_lt _ (Nat.two_pow_pos _)
    have h4096 : (2 : Nat) ^ nCa P ≤ 2 ^ 12 := Nat.pow_le_pow_right (by decide) h12
    rw [show (2 : Nat) ^ 12 = 4096 from rfl] at e h4096
    rw [Nat.mod_eq_of_lt hA.1, Nat.mod_eq_of_lt (show A % 2 ^ nCa P < 4096 by omega)] at e
    omega
  rcases h with ⟨h1, h2⟩ | ⟨A, h1, h2, h3, h4⟩
  · exact Or.inl ⟨h1, fun A hA => h2 A (lt A hA) hA⟩
  · exact Or.inr ⟨A, h1, h3, fun B hB => h4 B (lt B hB) hB⟩
theorem op_turning (h : Inv n P S T) (hn : n < 1000) (a b c d : Int) : OK2 n P (m_Ma_turning a b c d S) (m_Mo_turning a b c d T) := by
  have hP := h.pln
  have h1 := hP.1
  have h2 := hP.2.1
  have hw0 := h.w0
  rw [e_Ma_turning, e_Mo_turning]
  by_cases k1 : 0 ≤ a ∧ a < P 430 4
  · rw [c_isO1 h k1 rfl, m_isO1 hP h.rp k1, Option.bind_some, Option.bind_some]
    dsimp only
    rw [if_neg n10, if_neg n10]
    by_cases k2 : 0 ≤ b ∧ b < P 430 5
    · rw [c_isF1 h k2, m_isF1 hP h.rp k2, Option.bind_some, Option.bind_some]
      dsimp only
      rw [if_neg n10, if_neg n10]
      by_cases k3 : 1 ≤ c ∧ c ≤ 99
      · rw [m_in1 k3, Option.bind_some]
        dsimp only
        rw [if_neg n10]
        by_cases k4 : 0 ≤ d ∧ d ≤ 20 ∧ T 438 0 + d ≤ 999
        · rw [c_comes1 h (by decide) k4, m_ahead1 hw0 (by decide) k4, Option.bind_some, Option.bind_some]
          dsimp only
          rw [if_neg n10, if_neg n10, if_neg (by omega), if_neg (by omega)]
          obtain ⟨o, rfl⟩ : ∃ o : Nat, a = (o : Int) := ⟨a.toNat, by omega⟩
          obtain ⟨f, rfl⟩ : ∃ f : Nat, b = (f : Int) := ⟨b.toNat, by omega⟩
          obtain ⟨D, rfl⟩ : ∃ D : Nat, d = (D : Int) := ⟨d.toNat, by omega⟩
          have hen := h.en.2
          obtain ⟨z, S', r1, r2, r3, r4, r5⟩ := c_turns (s := c) (o := o) (f := f) (D := D) hP h.wd.1 h.en.1 h.wd.2.2.1 (by omega) (by omega) (by omega) (by omega) (by omega) (by omega)
          obtain ⟨I, i1, i2, i3⟩ := m_ins (T := T) hP h.rp rfl (nCa P) 0 0 (by omega) (by decide) (fun k => by unfold bt; rw [Int.zero_ediv, if_neg (by omega)]; rfl)
          have i1 : Mo_insideSet_4 0 0 T = _ := i1
          obtain ⟨T1, t1, t2, t3, t4, t5, t6⟩ := m_think h
          obtain ⟨z', T2, q1, q2, q3, q4, q5⟩ := m_all (s := c) (o := o) (f := f) (D := D) hP h.wd.1 (by omega) (by omega) (by omega) i2 i3 (2 ^ nCa P) 0 T1 (-1) (by omega) t2 t3 t4 (Or.inl ⟨rfl, fun A hA => absurd hA (Nat.not_lt_zero _)⟩)
          have q1 : Mo_turning_60 o f c D (-1) I 0 T1 = _ := q1
          obtain ⟨T3, y1, y2, y3⟩ := m_woke h t5 q4 q3
          rw [r1, Option.bind_some, e_Mo_insideSet, i1, Option.bind_some]
          dsimp only
          rw [t1, Option.bind_some, q1, y1, Option.bind_some, BST.eq r2 (q2.all hP)]
          obtain ⟨g1, g2⟩ := h.th
          have e27 : S' 27 = S 27 := r4.1 27 (by decide) (by decide) (by decide) (by decide) (by decide) (by decide) (by decide) (by decide) (by decide)
          exact ⟨_, S', T3, rfl, rfl, h.look r4.lk y2 r3 (by omega) (by rw [e27]; omega) (by rw [y3, q5, t6]; omega)⟩
        · rw [c_comes0 h (by decide) k4, m_ahead0 hw0 (by decide) k4]
          exact ⟨_, S, T, rfl, rfl, h.same⟩
      · rw [m_in0 k3, Option.bind_some]
        by_cases k4 : 0 ≤ d ∧ d ≤ 20 ∧ T 438 0 + d ≤ 999
        · rw [c_comes1 h (by decide) k4, Option.bind_some]
          dsimp only
          rw [if_neg n10]
          by_cases k5 : c < 1
          · rw [if_pos k5]; exact ⟨_, S, T, rfl, rfl, h.same⟩
          · rw [if_neg k5, if_pos (by omega)]; exact ⟨_, S, T, rfl, rfl, h.same⟩
        · rw [c_comes0 h (by decide) k4]
          exact ⟨_, S, T, rfl, rfl, h.same⟩
    · rw [c_isF0 h k2, m_isF0 hP h.rp k2]
      exact ⟨_, S, T, rfl, rfl, h.same⟩
  · rw [c_isO0 h k1 rfl, m_isO0 hP h.rp k1]
    exact ⟨_, S, T, rfl, rfl, h.same⟩
end
