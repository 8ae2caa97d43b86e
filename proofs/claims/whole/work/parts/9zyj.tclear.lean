/-! MINISTRY: the class's plan is cleared -/
section
variable {n : Nat} {P S T S' T' : MS}
theorem c_clear (S : MS) : ∃ S', m_Pl_clear_s S = some S' ∧ (S' 5 0 = 0 ∧ S' 5 1 = 0 ∧ S' 5 2 = 0 ∧ S' 5 3 = 0 ∧ S' 5 4 = 0 ∧ S' 5 5 = 0) ∧ (∀ k, k < 4 → S' 13 k = 0) ∧ S' 14 1 = 7 ∧ (S' 15 0 = -4 ∧ S' 15 1 = -5 ∧ S' 15 2 = -22 ∧ S' 15 3 = 0 ∧ S' 15 4 = -6 ∧ S' 15 5 = 50 ∧ S' 15 6 = -28) ∧ (S' 20 0 = 0 ∧ S' 20 1 = 3 ∧ S' 20 2 = 4) ∧ (S' 21 0 = 3 ∧ S' 21 1 = 4 ∧ S' 21 2 = 7) ∧ ∀ c, c ≠ 5 → c ≠ 13 → c ≠ 14 → c ≠ 15 → c ≠ 20 → c ≠ 21 → S' c = S c := by
  obtain ⟨S1, r1, r2, -, r4⟩ := c_c32 4 0 (up (up (up (up (up (up S 5 0 0) 5 1 0) 5 2 0) 5 3 0) 5 4 0) 5 5 0) rfl
  have r1 : Pl_clear_s_32 0 (up (up (up (up (up (up S 5 0 0) 5 1 0) 5 2 0) 5 3 0) 5 4 0) 5 5 0) = _ := r1
  have e5 : S1 5 = (up (up (up (up (up (up S 5 0 0) 5 1 0) 5 2 0) 5 3 0) 5 4 0) 5 5 0) 5 := r4 5 (by decide)
  rw [e_Pl_clear_s, r1, e_Pl_clear_s_32, if_neg (by decide)]
  generalize hX0 : up S1 14 1 0 = X0
  have x0 : X0 14 1 = 0 := by rw [← hX0, up_s]
  have h0 : m_Pl_beginLaw_s 0 X0 = some (up X0 20 0 0) := (beg_s (w := 0) (by decide)).trans (by rw [x0])
  rw [h0, Option.bind_some]
  generalize hX1 : up X0 20 0 0 = X1
  have x1 : X1 14 1 = 0 := by rw [← hX1, up_c (by decide)]; exact x0
  have h1 : m_Co_add_s (-4) X1 = some (1, up (up X1 15 0 (-4)) 14 1 1) := add_s (m := 0) x1 (by decide)
  rw [h1, Option.bind_some]
  dsimp only
  generalize hX2 : up (up X1 15 0 (-4)) 14 1 1 = X2
  have x2 : X2 14 1 = 1 := by rw [← hX2, up_s]
  have h2 : m_Co_add_s (-5) X2 = some (1, up (up X2 15 1 (-5)) 14 1 2) := add_s (m := 1) x2 (by decide)
  rw [h2, Option.bind_some]
  dsimp only
  generalize hX3 : up (up X2 15 1 (-5)) 14 1 2 = X3
  have x3 : X3 14 1 = 2 := by rw [← hX3, up_s]
  have h3 : m_Co_add_s (-22) X3 = some (1, up (up X3 15 2 (-22)) 14 1 3) := add_s (m := 2) x3 (by decide)
  rw [h3, Option.bind_some]
  dsimp only
  generalize hX4 : up (up X3 15 2 (-22)) 14 1 3 = X4
  have x4 : X4 14 1 = 3 := by rw [← hX4, up_s]
  have h4 : m_Pl_endLaw_s 0 X4 = some (up X4 21 0 3) := (end_s (w := 0) (by decide)).trans (by rw [x4])
  rw [h4, Option.bind_some]
  generalize hX5 : up X4 21 0 3 = X5
  have x5 : X5 14 1 = 3 := by rw [← hX5, up_c (by decide)]; exact x4
  have h5 : m_Pl_beginLaw_s 1 X5 = some (up X5 20 1 3) := (beg_s (w := 1) (by decide)).trans (by rw [x5])
  rw [h5, Option.bind_some]
  generalize hX6 : up X5 20 1 3 = X6
  have x6 : X6 14 1 = 3 := by rw [← hX6, up_c (by decide)]; exact x5
  have h6 : m_Co_add_s 0 X6 = some (1, up (up X6 15 3 0) 14 1 4) := add_s (m := 3) x6 (by decide)
  rw [h6, Option.bind_some]
  dsimp only
  generalize hX7 : up (up X6 15 3 0) 14 1 4 = X7
  have x7 : X7 14 1 = 4 := by rw [← hX7, up_s]
  have h7 : m_Pl_endLaw_s 1 X7 = some (up X7 21 1 4) := (end_s (w := 1) (by decide)).trans (by rw [x7])
  rw [h7, Option.bind_some]
  generalize hX8 : up X7 21 1 4 = X8
  have x8 : X8 14 1 = 4 := by rw [← hX8, up_c (by decide)]; exact x7
  have h8 : m_Pl_beginLaw_s 2 X8 = some (up X8 20 2 4) := (beg_s (w := 2) (by decide)).trans (by rw [x8])
  rw [h8, Option.bind_some]
  generalize hX9 : up X8 20 2 4 = X9
  have x9 : X9 14 1 = 4 := by rw [← hX9, up_c (by decide)]; exact x8
  have h9 : m_Co_add_s (-6) X9 = some (1, up (up X9 15 4 (-6)) 14 1 5) := add_s (m := 4) x9 (by decide)
  rw [h9, Option.bind_some]
  dsimp only
  generalize hX10 : up (up X9 15 4 (-6)) 14 1 5 = X10
  have x10 : X10 14 1 = 5 := by rw [← hX10, up_s]
  have h10 : m_Co_add_s 50 X10 = some (1, up (up X10 15 5 50) 14 1 6) := add_s (m := 5) x10 (by decide)
  rw [h10, Option.bind_some]
  dsimp only
  generalize hX11 : up (up X10 15 5 50) 14 1 6 = X11
  have x11 : X11 14 1 = 6 := by rw [← hX11, up_s]
  have h11 : m_Co_add_s (-28) X11 = some (1, up (up X11 15 6 (-28)) 14 1 7) := add_s (m := 6) x11 (by decide)
  rw [h11, Option.bind_some]
  dsimp only
  generalize hX12 : up (up X11 15 6 (-28)) 14 1 7 = X12
  have x12 : X12 14 1 = 7 := by rw [← hX12, up_s]
  have h12 : m_Pl_endLaw_s 2 X12 = some (up X12 21 2 7) := (end_s (w := 2) (by decide)).trans (by rw [x12])
  rw [h12, Option.bind_some]
  generalize hX13 : up X12 21 2 7 = X13
  have x13 : X13 14 1 = 7 := by rw [← hX13, up_c (by decide)]; exact x12
  refine ⟨X13, rfl, ?_⟩
  subst hX13
  subst hX12
  subst hX11
  subst hX10
  subst hX9
  subst hX8
  subst hX7
  subst hX6
  subst hX5
  subst hX4
  subst hX3
  subst hX2
  subst hX1
  subst hX0
  refine ⟨⟨by exact congrFun e5 0, by exact congrFun e5 1, by exact congrFun e5 2, by exact congrFun e5 3, by exact congrFun e5 4, by exact congrFun e5 5⟩, fun k hk => r2 k (Nat.zero_le _) hk, rfl, ⟨rfl, rfl, rfl, rfl, rfl, rfl, rfl⟩, ⟨rfl, rfl, rfl⟩, ⟨rfl, rfl, rfl⟩, fun c c1 c2 c3 c4 c5 c6 => ?_⟩
  simp only [up_c c3, up_c c4, up_c c5, up_c c6]
  rw [r4 c c2]
  simp only [up_c c1]
end
