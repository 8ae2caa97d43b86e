/-! on -/
section
variable {n : Nat} {P S T : MS}
def chkF (g : Nat → Int) : Nat → Int → Nat → Int
  | 0, x, _ => x
  | j + 1, x, v => chkF g j ((wr ((wr (3 * x)) + g v)).tmod 251) (v + 1)
def okB (C v : Nat) (b : Int) : Prop := (2 ≤ v → v < C → b ≤ 1) ∧ (C ≤ v → b ≤ 99)
theorem c_octet {i : Nat} (h : (i : Int) < S 2 1 ∧ S 2 1 ≤ 1600) : m_Te_octetAt i S = some (S 3 i, S) := by
  rw [e_Te_octetAt, if_neg (by omega), if_pos h.1, if_pos (by omega), Int.toNat_natCast]
theorem c_img79 {C D : Nat} (hD : (D : Int) < S 2 1 ∧ S 2 1 ≤ 1600) (hC : 2 ≤ C) : ∀ (j v : Nat) (x : Int), v + j = D → ∃ z, Ma_isImage_79 C D x v S = some (z, S) ∧ (z = 0 ∨ z = 1) ∧ (z = 1 ↔ (∀ i, v ≤ i → i < D → okB C i (S 3 i)) ∧ chkF (S 3) j x v = S 3 D) := by
  intro j
  induction j with
  | zero =>
    intro v x e
    rw [e_Ma_isImage_79, if_neg (by omega), c_octet hD, Option.bind_some]
    dsimp only
    rw [chkF]
    by_cases c : x = S 3 D
    · rw [if_pos c]; exact ⟨1, rfl, Or.inr rfl, ⟨fun _ => ⟨fun i h1 h2 => by omega, c⟩, fun _ => rfl⟩⟩
    · rw [if_neg c]; exact ⟨0, rfl, Or.inl rfl, ⟨fun q => absurd q (by decide), fun q => absurd q.2 c⟩⟩
  | succ j ih =>
    intro v x e
    have hgo : okB C v (S 3 v) → ∃ z, Ma_isImage_79 C D ((wr ((wr (3 * x)) + S 3 v)).tmod 251) (wr ((v : Int) + 1)) S = some (z, S) ∧ (z = 0 ∨ z = 1) ∧ (z = 1 ↔ (∀ i, v ≤ i → i < D → okB C i (S 3 i)) ∧ chkF (S 3) (j + 1) x v = S 3 D) := fun ho => by
      obtain ⟨z, z1, z2, z3⟩ := ih (v + 1) ((wr ((wr (3 * x)) + S 3 v)).tmod 251) (by omega)
      rw [wrN (z := (v : Int) + 1) (by omega) (by omega), chkF]
      refine ⟨z, z1, z2, z3.trans ⟨fun g => ⟨fun i h1 h2 => ?_, g.2⟩, fun g => ⟨fun i h1 h2 => g.1 i (by omega) h2, g.2⟩⟩⟩
      by_cases q : i = v
      · subst q; exact ho
      · exact g.1 i (by omega) h2
    have hno : ¬ okB C v (S 3 v) → ∃ z, some ((0 : Int), S) = some (z, S) ∧ (z = 0 ∨ z = 1) ∧ (z = 1 ↔ (∀ i, v ≤ i → i < D → okB C i (S 3 i)) ∧ chkF (S 3) (j + 1) x v = S 3 D) := fun ho => ⟨0, rfl, Or.inl rfl, ⟨fun q => absurd q (by decide), fun q => absurd (q.1 v (Nat.le_refl _) (by omega)) ho⟩⟩
    rw [e_Ma_isImage_79, if_pos (by omega), c_octet (by omega), Option.bind_some]
    dsimp only
    by_cases c1 : v < 2
    · rw [if_pos (by omega)]
      exact hgo ⟨fun q => by omega, fun q => by omega⟩
    · rw [if_neg (by omega)]
      by_cases c2 : v < C
      · rw [if_pos (by omega)]
        by_cases c3 : 1 < S 3 v
        · rw [if_pos c3]; exact hno (fun q => by have := q.1 (by omega) c2; omega)
        · rw [if_neg c3]; exact hgo ⟨fun _ _ => by omega, fun q => by omega⟩
      · rw [if_neg (by omega)]
        by_cases c3 : 99 < S 3 v
        · rw [if_pos c3]; exact hno (fun q => by have := q.2 (by omega); omega)
        · rw [if_neg c3]; exact hgo ⟨fun _ q => by omega, fun _ => by omega⟩
theorem m_chk402 {d : Nat} (hd : d ≤ 1600) : ∀ (j v : Nat) (x : Int), v + j = d → Mo_checked_6 402 d x v T = some (chkF (T 402) j x v, T) := by
  intro j
  induction j with
  | zero => intro v x e; rw [e_Mo_checked_6, if_neg (by omega)]; rfl
  | succ j ih =>
    intro v x e
    have hkl : kl 402 = 1600 := by decide +kernel
    rw [e_Mo_checked_6, if_pos (by omega), if_pos (by decide +kernel), hkl, if_pos (by omega), Int.toNat_natCast, wrN (z := (v : Int) + 1) (by omega) (by omega)]
    exact ih (v + 1) _ (by omega)
theorem m_img99 {L : Nat} (hL : L ≤ 1600) (h1 : 1 ≤ L) : ∀ (j v : Nat), v + j = L - 1 → ∃ z, Mo_isImage_99 L v T = some (z, T) ∧ (z = 0 ∨ z = 1) ∧ (z = 1 ↔ ∀ i, v ≤ i → i < L - 1 → T 402 i ≤ 99) := by
  intro j
  induction j with
  | zero =>
    intro v e
    rw [e_Mo_isImage_99, wrN (by omega) (by omega), if_neg (by omega)]
    exact ⟨1, rfl, Or.inr rfl, ⟨fun _ i h1 h2 => by omega, fun _ => rfl⟩⟩
  | succ j ih =>
    intro v e
    rw [e_Mo_isImage_99, wrN (z := (L : Int) - 1) (by omega) (by omega), if_pos (by omega), if_pos (by omega), Int.toNat_natCast, wrN (by omega) (by omega)]
    by_cases c : 99 < T 402 v
    · rw [if_pos c]
      exact ⟨0, rfl, Or.inl rfl, ⟨fun q => absurd q (by decide), fun q => by have := q v (Nat.le_refl _) (by omega); omega⟩⟩
    · rw [if_neg c]
      obtain ⟨z, z1, z2, z3⟩ := ih (v + 1) (by omega)
      refine ⟨z, z1, z2, z3.trans ⟨fun g i h1 h2 => ?_, fun g i h1 h2 => g i (by omega) h2⟩⟩
      by_cases q : i = v
      · subst q; omega
      · exact g i (by omega) h2
theorem m_img74 {L C : Nat} (hL : L ≤ 1600) (h1 : C + 1 ≤ L) : ∀ (j v : Nat), v + j = C → ∃ z, Mo_isImage_74 L C v T = some (z, T) ∧ (z = 0 ∨ z = 1) ∧ (z = 1 ↔ (∀ i, v ≤ i → i < C → T 402 i ≤ 1) ∧ ∀ i, C ≤ i → i < L - 1 → T 402 i ≤ 99) := by
  intro j
  induction j with
  | zero =>
    intro v e
    rw [e_Mo_isImage_74, if_neg (by omega)]
    obtain ⟨z, z1, z2, z3⟩ := m_img99 (T := T) hL (by omega) (L - 1 - C) C (by omega)
    exact ⟨z, z1, z2, z3.trans ⟨fun g => ⟨fun i h1 h2 => by omega, g⟩, fun g => g.2⟩⟩
  | succ j ih =>
    intro v e
    rw [e_Mo_isImage_74, if_pos (by omega), if_pos (by omega), Int.toNat_natCast, wrN (by omega) (by omega)]
    by_cases c : 1 < T 402 v
    · rw [if_pos c]
      exact ⟨0, rfl, Or.inl rfl, ⟨fun q => absurd q (by decide), fun q => by have := q.1 v (Nat.le_refl _) (by omega); omega⟩⟩
    · rw [if_neg c]
      obtain ⟨z, z1, z2, z3⟩ := ih (v + 1) (by omega)
      refine ⟨z, z1, z2, z3.trans ⟨fun g => ⟨fun i h1 h2 => ?_, g.2⟩, fun g => ⟨fun i h1 h2 => g.1 i (by omega) h2, g.2⟩⟩⟩
      by_cases q : i = v
      · subst q; omega
      · exact g.1 i (by omega) h2
theorem chkF_congr {g g' : Nat → Int} : ∀ (j v : Nat) (x : Int), (∀ i, v ≤ i → i < v + j → g i = g' i) → chkF g j x v = chkF g' j x v := by
  intro j
  induction j with
  | zero => intro v x _; rfl
  | succ j ih =>
    intro v x e
    rw [chkF, chkF, e v (Nat.le_refl _) (by omega)]
    exact ih (v + 1) _ (fun i h1 h2 => e i (by omega) (by omega))
/-- is it an image: both say the same -/
theorem both_isImg (h : Inv n P S T) : ∃ z, m_Ma_isImage S = some (z, S) ∧ m_Mo_isImage (T 401 1) (up T 401 1 0) = some (z, up T 401 1 0) ∧ (z = 0 ∨ z = 1) ∧ (z = 1 → ∃ N : Nat, (N : Int) = P 430 4 * P 430 5 ∧ S 2 1 = ((2 + 2 * nCa P + N + 1 : Nat) : Int) ∧ 256 * S 3 0 + S 3 1 ≤ 999 ∧ ∀ i, i < 2 + 2 * nCa P + N → okB (2 + 2 * nCa P) i (S 3 i)) := by
  have hP := h.pln
  have h1 := hP.1
  have h2 := hP.2.1
  have h3 := hP.2.2.1
  have h12 := nCa_le hP
  obtain ⟨x1, x2, x3⟩ := h.tx
  have cp := h.en.1.1
  have hN : ∃ N : Nat, (N : Int) = P 430 4 * P 430 5 ∧ N ≤ 32 := by
    have e : P 430 4 * P 430 5 = ((nOf P * nFe P : Nat) : Int) := by
      rw [Int.natCast_mul]
      unfold nOf nFe
      rw [Int.toNat_of_nonneg h1.1, Int.toNat_of_nonneg h2.1]
    refine ⟨nOf P * nFe P, e.symm, ?_⟩
    have := Nat.mul_le_mul (show nOf P ≤ 8 by unfold nOf; omega) (show nFe P ≤ 4 by unfold nFe; omega)
    exact this
  obtain ⟨N, hN1, hN2⟩ := hN
  have hca : P 430 6 = (nCa P : Int) := by unfold nCa; omega
  have hx402 : up T 401 1 0 402 = T 402 := up_c (by decide)
  have hcE : m_Ma_isImage S = if S 2 1 = 2 + 2 * (nCa P : Int) + (N : Int) + 1 then (if 999 < 256 * S 3 0 + S 3 1 then some (0, S) else Ma_isImage_79 ((2 + 2 * nCa P : Nat) : Int) ((2 + 2 * nCa P + N : Nat) : Int) 241 0 S) else some (0, S) := by
    rw [e_Ma_isImage, cp.1, cp.2.1, cp.2.2.1, ← hN1, hca, wrN (z := 2 * (nCa P : Int)) (by omega) (by omega), wrN (z := 2 + 2 * (nCa P : Int)) (by omega) (by omega), wrN (z := (N : Int)) (by omega) (by omega), wrN (z := 2 + 2 * (nCa P : Int) + (N : Int)) (by omega) (by omega), wrN (z := 2 + 2 * (nCa P : Int) + (N : Int) + 1) (by omega) (by omega)]
    by_cases c : S 2 1 = 2 + 2 * (nCa P : Int) + (N : Int) + 1
    · have e0 := (x3 0 (by omega))
      have e1 := (x3 1 (by omega))
      have q0 : m_Te_octetAt 0 S = some (S 3 0, S) := c_octet (i := 0) (by omega)
      have q1 : m_Te_octetAt 1 S = some (S 3 1, S) := c_octet (i := 1) (by omega)
      rw [if_pos c, if_pos c, q0, Option.bind_some]
      dsimp only
      rw [q1, Option.bind_some]
      dsimp only
      have k1 : wr ((wr (256 * S 3 0)) + S 3 1) = 256 * S 3 0 + S 3 1 := by rw [wrN (z := 256 * S 3 0) (by omega) (by omega), wrN (by omega) (by omega)]
      simp only [k1]
      rfl
    · rw [if_neg c, if_neg c]
  have hmE : m_Mo_isImage (T 401 1) (up T 401 1 0) = if S 2 1 = 2 + 2 * (nCa P : Int) + (N : Int) + 1 then (if S 3 (2 + 2 * nCa P + N) = chkF (S 3) (2 + 2 * nCa P + N) 241 0 then (if 999 < 256 * S 3 0 + S 3 1 then some (0, up T 401 1 0) else Mo_isImage_74 (S 2 1) ((2 + 2 * nCa P : Nat) : Int) 2 (up T 401 1 0)) else some (0, up T 401 1 0)) else some (0, up T 401 1 0) := by
    rw [e_Mo_isImage, e_Mo_carbonMany, Option.bind_some]
    dsimp only
    rw [e_Mo_officerMany, Option.bind_some]
    dsimp only
    rw [e_Mo_feelingMany, Option.bind_some]
    dsimp only
    rw [up_c (by decide : (430 : Nat) ≠ 401), h.rp.n4, h.rp.n5, h.rp.n6, ← hN1, hca, wrN (z := 2 * (nCa P : Int)) (by omega) (by omega), wrN (z := 2 + 2 * (nCa P : Int)) (by omega) (by omega), wrN (z := (N : Int)) (by omega) (by omega), wrN (z := 2 + 2 * (nCa P : Int) + (N : Int)) (by omega) (by omega), wrN (z := 2 + 2 * (nCa P : Int) + (N : Int) + 1) (by omega) (by omega), ← x1]
    by_cases c : S 2 1 = 2 + 2 * (nCa P : Int) + (N : Int) + 1
    · have e0 := (x3 0 (by omega))
      have e1 := (x3 1 (by omega))
      have eD := (x3 (2 + 2 * nCa P + N) (by omega))
      have g1 : wr (S 2 1 - 1) = ((2 + 2 * nCa P + N : Nat) : Int) := by rw [wrN (by omega) (by omega)]; omega
      have hsum : m_Mo_checked 402 ((2 + 2 * nCa P + N : Nat) : Int) (up T 401 1 0) = some (chkF (S 3) (2 + 2 * nCa P + N) 241 0, up T 401 1 0) := by
        have hs := m_chk402 (T := up T 401 1 0) (d := 2 + 2 * nCa P + N) (by omega) (2 + 2 * nCa P + N) 0 241 (by omega)
        rw [e_Mo_checked]
        have hs : Mo_checked_6 402 ((2 + 2 * nCa P + N : Nat) : Int) 241 0 (up T 401 1 0) = _ := hs
        rw [hs, chkF_congr (g := up T 401 1 0 402) (g' := S 3) _ _ _ (fun i i1 i2 => by rw [hx402]; exact (x3 i (by omega)).1.symm)]
      have k1 : wr ((wr (256 * S 3 0)) + S 3 1) = 256 * S 3 0 + S 3 1 := by rw [wrN (z := 256 * S 3 0) (by omega) (by omega), wrN (by omega) (by omega)]
      rw [if_pos c, if_pos c, g1, if_pos (by omega), hsum, Option.bind_some, Int.toNat_natCast]
      dsimp only
      simp only [hx402, ← eD.1, ← e0.1, ← e1.1, k1]
      rfl
    · rw [if_neg c, if_neg c]
  rw [hcE, hmE]
  by_cases c : S 2 1 = 2 + 2 * (nCa P : Int) + (N : Int) + 1
  · rw [if_pos c, if_pos c]
    obtain ⟨z, z1, z2, z3⟩ := c_img79 (S := S) (C := 2 + 2 * nCa P) (D := 2 + 2 * nCa P + N) (by omega) (by omega) (2 + 2 * nCa P + N) 0 241 (by omega)
    obtain ⟨y, y1, y2, y3⟩ := m_img74 (T := up T 401 1 0) (L := 2 + 2 * nCa P + N + 1) (C := 2 + 2 * nCa P) (by omega) (by omega) (2 * nCa P) 2 (by omega)
    have z1 : Ma_isImage_79 ((2 + 2 * nCa P : Nat) : Int) ((2 + 2 * nCa P + N : Nat) : Int) 241 0 S = some (z, S) := z1
    have y1 : Mo_isImage_74 (S 2 1) ((2 + 2 * nCa P : Nat) : Int) 2 (up T 401 1 0) = some (y, up T 401 1 0) := by
      rw [show S 2 1 = ((2 + 2 * nCa P + N + 1 : Nat) : Int) by omega]; exact y1
    have hy : y = 1 ↔ ∀ i, i < 2 + 2 * nCa P + N → okB (2 + 2 * nCa P) i (S 3 i) := by
      refine y3.trans ⟨fun g i hi => ?_, fun g => ⟨fun i i1 i2 => ?_, fun i i1 i2 => ?_⟩⟩
      · have e := (x3 i (by omega)).1
        refine ⟨fun k1 k2 => ?_, fun k1 => ?_⟩
        · have := g.1 i k1 k2; rw [up_c (by decide)] at this; omega
        · have := g.2 i k1 (by omega); rw [up_c (by decide)] at this; omega
      · have e := (x3 i (by omega)).1
        have := (g i (by omega)).1 i1 i2
        rw [up_c (by decide)]; omega
      · have e := (x3 i (by omega)).1
        have := (g i (by omega)).2 i1
        rw [up_c (by decide)]; omega
    have hz : z = 1 ↔ y = 1 ∧ chkF (S 3) (2 + 2 * nCa P + N) 241 0 = S 3 (2 + 2 * nCa P + N) := by
      rw [hy]
      exact z3.trans ⟨fun g => ⟨fun i hi => g.1 i (by omega) hi, g.2⟩, fun g => ⟨fun i _ hi => g.1 i hi, g.2⟩⟩
    by_cases d : 999 < 256 * S 3 0 + S 3 1
    · rw [if_pos d]
      refine ⟨0, rfl, ?_, Or.inl rfl, fun q => absurd q (by decide)⟩
      split
      · rfl
      · rfl
    · rw [if_neg d, z1, if_neg d, y1]
      by_cases k : S 3 (2 + 2 * nCa P + N) = chkF (S 3) (2 + 2 * nCa P + N) 241 0
      · rw [if_pos k]
        have hzy : z = 1 ↔ y = 1 := hz.trans ⟨fun q => q.1, fun q => ⟨q, k.symm⟩⟩
        have : z = y := by omega
        subst this
        exact ⟨z, rfl, rfl, z2, fun q => ⟨N, hN1, by omega, by omega, hy.mp q⟩⟩
      · rw [if_neg k]
        have : z = 0 := by
          rcases z2 with q | q
          · exact q
          · exact absurd (hz.mp q).2.symm k
        subst this
        exact ⟨0, rfl, rfl, Or.inl rfl, fun q => absurd q (by decide)⟩
  · rw [if_neg c, if_neg c]
    exact ⟨0, rfl, rfl, Or.inl rfl, fun q => absurd q (by decide)⟩
end
