/-! MINISTRY: the beginning, both -/
section
variable {n : Nat} {P S T S' T' : MS} {g : Nat → Int} {E : Nat} {q : Int}
theorem m_told0 (T : MS) : ∃ T', m_Mo_ministry T = Mo_ministry_104 T' ∧ (T' 401 3 = T 401 1 ∧ T' 401 1 = 0 ∧ T' 401 2 = 0 ∧ T' 401 4 = -1 ∧ T' 401 5 = 0 ∧ T' 401 6 = -1 ∧ T' 401 46 = 0 ∧ T' 401 47 = 0) ∧ (∀ k, k < 4 → T' 430 k = 0) ∧ (∀ k, 4 ≤ k → T' 430 k = T 430 k) ∧ (∀ k, k < 32 → T' 434 k = 0) ∧ (∀ k, k < 3 → T' 435 k = -1) ∧ (∀ k, 3 ≤ k → T' 435 k = T 435 k) ∧ (∀ c, c ≠ 401 → c ≠ 430 → c ≠ 434 → c ≠ 435 → T' c = T c) ∧ ∀ k, k = 0 ∨ 6 < k → k ≠ 46 → k ≠ 47 → T' 401 k = T 401 k := by
  rw [e_Mo_ministry]
  obtain ⟨T1, a1, a2, a3, a4⟩ := m_b40 4 0 (up (up (up (up (up (up (up T 401 3 (T 401 1)) 401 1 0) 401 2 0) 401 4 (-1)) 401 5 0) 401 6 (-1)) 401 46 0) rfl
  obtain ⟨T2, b1, b2, b3, b4⟩ := m_b60 32 0 T1 rfl
  obtain ⟨T3, c1, c2, c3, c4⟩ := m_b81 3 0 T2 rfl
  have a1 : Mo_ministry_40 0 (up (up (up (up (up (up (up T 401 3 (T 401 1)) 401 1 0) 401 2 0) 401 4 (-1)) 401 5 0) 401 6 (-1)) 401 46 0) = _ := a1
  have b1 : Mo_ministry_60 0 T1 = _ := b1
  have c1 : Mo_ministry_81 0 T2 = _ := c1
  have e401 : ∀ k, k ≠ 47 → up T3 401 47 0 401 k = up (up (up (up (up (up (up T 401 3 (T 401 1)) 401 1 0) 401 2 0) 401 4 (-1)) 401 5 0) 401 6 (-1)) 401 46 0 401 k := fun k hk => by rw [up_k hk, c4 401 (by decide), b4 401 (by decide), a4 401 (by decide)]
  refine ⟨up T3 401 47 0, by rw [a1, b1, c1], ⟨by rw [e401 3 (by decide)]; rfl, by rw [e401 1 (by decide)]; rfl, by rw [e401 2 (by decide)]; rfl, by rw [e401 4 (by decide)]; rfl, by rw [e401 5 (by decide)]; rfl, by rw [e401 6 (by decide)]; rfl, by rw [e401 46 (by decide)]; rfl, up_s _ _ _ _⟩, fun k hk => ?_, fun k hk => ?_, fun k hk => ?_, fun k hk => ?_, fun k hk => ?_, fun c h1 h2 h3 h4 => ?_, fun k h1 h2 h3 => ?_⟩
  · rw [up_c (by decide), c4 430 (by decide), b4 430 (by decide)]; exact a2 k (Nat.zero_le _) hk
  · rw [up_c (by decide), c4 430 (by decide), b4 430 (by decide), a3 k (by omega)]; simp only [up_c (show (430 : Nat) ≠ 401 by decide)]
  · rw [up_c (by decide), c4 434 (by decide)]; exact b2 k (Nat.zero_le _) hk
  · rw [up_c (by decide)]; exact c2 k (Nat.zero_le _) hk
  · rw [up_c (by decide), c3 k (by omega), b4 435 (by decide), a4 435 (by decide)]; simp only [up_c (show (435 : Nat) ≠ 401 by decide)]
  · rw [up_c h1, c4 c h4, b4 c h3, a4 c h2]; simp only [up_c h1]
  · rw [e401 k h3, up_k h2, up_k (by omega), up_k (by omega), up_k (by omega), up_k (by omega), up_k (by omega), up_k (by omega)]
theorem c_told0 (hE : E ≤ 1600) (hg : ∀ i, i < E → 0 ≤ g i ∧ g i ≤ 255) (h1 : S 2 1 = (E : Int)) (h3 : S 3 = g) : ∃ S', m_Cl_readAll_s S = Cl_readAll_s_23 0 S' ∧ CTK S' (LX g E 0 false) ∧ (S' 5 0 = 0 ∧ S' 5 1 = 0 ∧ S' 5 2 = 0 ∧ S' 5 3 = 0 ∧ S' 5 4 = 0 ∧ S' 5 5 = 0) ∧ (∀ k, k < 4 → S' 13 k = 0) ∧ S' 14 1 = 7 ∧ (S' 15 0 = -4 ∧ S' 15 1 = -5 ∧ S' 15 2 = -22 ∧ S' 15 3 = 0 ∧ S' 15 4 = -6 ∧ S' 15 5 = 50 ∧ S' 15 6 = -28) ∧ (S' 20 0 = 0 ∧ S' 20 1 = 3 ∧ S' 20 2 = 4) ∧ (S' 21 0 = 3 ∧ S' 21 1 = 4 ∧ S' 21 2 = 7) ∧ (S' 22 2 = 1 ∧ S' 22 3 = 0 ∧ ∀ k, k ≠ 2 → k ≠ 3 → S' 22 k = S 22 k) ∧ (∀ c, c ≠ 2 → c ≠ 4 → c ≠ 5 → c ≠ 13 → c ≠ 14 → c ≠ 15 → c ≠ 20 → c ≠ 21 → c ≠ 22 → S' c = S c) ∧ ∀ k, k < 3 ∨ 9 < k → S' 2 k = S 2 k := by
  obtain ⟨S1, a1, a2, a3, a4, a5, a6, a7, a8⟩ := c_clear (up S 22 2 1)
  have f1 : ∀ c, c ≠ 5 → c ≠ 13 → c ≠ 14 → c ≠ 15 → c ≠ 20 → c ≠ 21 → c ≠ 22 → S1 c = S c := fun c c1 c2 c3 c4 c5 c6 c7 => by rw [a8 c c1 c2 c3 c4 c5 c6, up_c c7]
  have e22 : S1 22 = up S 22 2 1 22 := a8 22 (by decide) (by decide) (by decide) (by decide) (by decide) (by decide)
  obtain ⟨S2, b1, b2, b3, -, b5⟩ := c_beginRd (S := up S1 22 3 0) hE hg (by rw [up_c (by decide), f1 2 (by decide) (by decide) (by decide) (by decide) (by decide) (by decide) (by decide)]; exact h1) (by rw [up_c (by decide), f1 3 (by decide) (by decide) (by decide) (by decide) (by decide) (by decide) (by decide)]; exact h3)
  have f2 : ∀ c, c ≠ 2 → c ≠ 4 → c ≠ 22 → S2 c = S1 c := fun c c1 c2 c3 => by rw [b3 c c1 c2, up_c c3]
  rw [e_Cl_readAll_s, a1, Option.bind_some, b1, Option.bind_some]
  refine ⟨S2, rfl, b2, by rw [f2 5 (by decide) (by decide) (by decide)]; exact a2, by rw [f2 13 (by decide) (by decide) (by decide)]; exact a3, by rw [f2 14 (by decide) (by decide) (by decide)]; exact a4, by rw [f2 15 (by decide) (by decide) (by decide)]; exact a5, by rw [f2 20 (by decide) (by decide) (by decide)]; exact a6, by rw [f2 21 (by decide) (by decide) (by decide)]; exact a7, ⟨?_, ?_, fun k k1 k2 => ?_⟩, fun c c1 c2 c3 c4 c5 c6 c7 c8 c9 => by rw [f2 c c1 c2 c9, f1 c c3 c4 c5 c6 c7 c8 c9], fun k hk => ?_⟩
  · rw [b3 22 (by decide) (by decide), up_k (by decide), e22, up_s]
  · rw [b3 22 (by decide) (by decide), up_s]
  · rw [b3 22 (by decide) (by decide), up_k k2, e22, up_k k1]
  · rw [b5 k hk, up_c (by decide), f1 2 (by decide) (by decide) (by decide) (by decide) (by decide) (by decide) (by decide)]
end
