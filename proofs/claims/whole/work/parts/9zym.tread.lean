/-! MINISTRY: all that is read, both, from between calls -/
section
variable {n : Nat} {P S T : MS}
theorem two_read (h : Inv n P S T) : ∃ S2 T2, m_Cl_readAll_s S = Cl_readAll_s_23 0 S2 ∧ m_Mo_ministry T = Mo_ministry_104 T2 ∧ RLP S2 T2 (Cl_readAll_s_23 0 S2) (Mo_ministry_104 T2) ∧ (S2 22 2 = 1 ∧ (∀ k, k ≠ 2 → k ≠ 3 → S2 22 k = S 22 k) ∧ (∀ c, c ≠ 2 → c ≠ 4 → c ≠ 5 → c ≠ 13 → c ≠ 14 → c ≠ 15 → c ≠ 20 → c ≠ 21 → c ≠ 22 → S2 c = S c) ∧ ∀ k, k < 3 ∨ 9 < k → S2 2 k = S 2 k) ∧ T2 401 1 = 0 ∧ (∀ k, 4 ≤ k → T2 430 k = T 430 k) ∧ (∀ k, 3 ≤ k → T2 435 k = T 435 k) ∧ (∀ c, c ≠ 401 → c ≠ 430 → c ≠ 434 → c ≠ 435 → T2 c = T c) ∧ ∀ k, k = 0 ∨ 6 < k → k ≠ 46 → k ≠ 47 → T2 401 k = T 401 k := by
  obtain ⟨x1, x2, x3⟩ := h.tx
  obtain ⟨E, hE⟩ : ∃ E : Nat, S 2 1 = (E : Int) := ⟨(S 2 1).toNat, by omega⟩
  have hE2 : E ≤ 1600 := by omega
  have hg : ∀ i, i < E → T 402 i = S 3 i ∧ 0 ≤ S 3 i ∧ S 3 i ≤ 255 := fun i hi => by
    obtain ⟨a1, a2, a3⟩ := x3 i (by omega)
    exact ⟨a1.symm, a2, a3⟩
  obtain ⟨m1, ⟨-, -, m2⟩, m3⟩ := h.mk0
  obtain ⟨S2, r1, r2, a2, a3, a4, a5, a6, a7, ⟨a8, a8', a8''⟩, a9, a10⟩ := c_told0 (S := S) (g := S 3) (E := E) hE2 (fun i hi => (hg i hi).2) hE rfl
  obtain ⟨T2, q1, ⟨t3, t1, t2, t4, t5, t6, t46, t47⟩, b2, b2', b3, b4, b4', b5, b6⟩ := m_told0 T
  have hT := LX_tok (fun i hi => (hg i hi).2) E 0 false (by omega) (Nat.zero_le _)
  have hlen := hT.len.2
  have hw : WDT T2 := fun q hq k hk => by
    have hr : ∀ q ∈ wdM, (404 ≤ q.1 ∧ q.1 ≤ 429) ∨ (451 ≤ q.1 ∧ q.1 ≤ 472) := by decide
    have := hr q hq
    rw [b5 q.1 (by omega) (by omega) (by omega) (by omega)]
    exact m3 q hq k hk
  have hR : RTK (S 3) E T2 (LX (S 3) E 0 false) := ⟨hE2, fun i hi => by rw [b5 402 (by decide) (by decide) (by decide) (by decide)]; exact hg i hi, by rw [t3, ← x1]; exact hE, t5, 0, Nat.zero_le _, t2, ⟨by rw [t4]; decide, t6⟩, by rw [t4]; rfl⟩
  have hP : PT S2 T2 := PT_0 a2 a3 a4 a5 a6 a7 a8 a8' (by rw [a9 23 (by decide) (by decide) (by decide) (by decide) (by decide) (by decide) (by decide) (by decide) (by decide)]; exact m1.2.1) t46 t47 b2 b3 b4 (by rw [b5 432 (by decide) (by decide) (by decide) (by decide)]; exact m2)
  have hL : LK2 (S 3) E S2 T2 (LX (S 3) E 0 false) := ⟨r2, hR, ⟨0, hT⟩, ⟨by rw [a10 1 (by omega)]; exact hE, a9 3 (by decide) (by decide) (by decide) (by decide) (by decide) (by decide) (by decide) (by decide) (by decide)⟩, hw⟩
  exact ⟨S2, T2, r1, q1, two_all 60 0 S2 T2 _ rfl hL hP a2.2.2.2.1 (by rw [t46]; omega), ⟨a8, a8'', a9, a10⟩, t1, b2', b4', b5, b6⟩
end
