/-! MINISTRY: the beginning, the reference's loops -/
section
variable {n : Nat} {P S T S' T' : MS} {g : Nat → Int} {E : Nat} {q : Int}
theorem m_b81 : ∀ (j v : Nat) (T : MS), v + j = 3 → ∃ T', Mo_ministry_81 v T = Mo_ministry_104 (up T' 401 47 0) ∧ (∀ k, v ≤ k → k < 3 → T' 435 k = -1) ∧ (∀ k, k < v ∨ 3 ≤ k → T' 435 k = T 435 k) ∧ ∀ c, c ≠ 435 → T' c = T c := by
  intro j
  induction j with
  | zero =>
    intro v T e
    rw [e_Mo_ministry_81, if_neg (by omega)]
    exact ⟨T, rfl, fun k _ _ => by omega, fun _ _ => rfl, fun _ _ => rfl⟩
  | succ j ih =>
    intro v T e
    rw [e_Mo_ministry_81, if_pos (by omega), if_pos (by omega), Int.toNat_natCast, wr_suc2 (show v < 3 by omega) (by decide)]
    obtain ⟨T', r1, r2, r3, r4⟩ := ih (v + 1) (up T 435 v (-1)) (by omega)
    refine ⟨T', r1, fun k h1 h2 => ?_, fun k hk => by rw [r3 k (by omega), up_k (by omega)], fun c hc => by rw [r4 c hc, up_c hc]⟩
    by_cases c : k = v
    · rw [c, r3 v (by omega), up_s]
    · exact r2 k (by omega) h2
theorem m_b60 : ∀ (j v : Nat) (T : MS), v + j = 32 → ∃ T', Mo_ministry_60 v T = Mo_ministry_81 0 T' ∧ (∀ k, v ≤ k → k < 32 → T' 434 k = 0) ∧ (∀ k, k < v → T' 434 k = T 434 k) ∧ ∀ c, c ≠ 434 → T' c = T c := by
  intro j
  induction j with
  | zero =>
    intro v T e
    rw [e_Mo_ministry_60, if_neg (by omega)]
    exact ⟨T, rfl, fun k _ _ => by omega, fun _ _ => rfl, fun _ _ => rfl⟩
  | succ j ih =>
    intro v T e
    rw [e_Mo_ministry_60, if_pos (by omega), if_pos (by omega), Int.toNat_natCast, wr_suc2 (show v < 32 by omega) (by decide)]
    obtain ⟨T', r1, r2, r3, r4⟩ := ih (v + 1) (up T 434 v 0) (by omega)
    refine ⟨T', r1, fun k h1 h2 => ?_, fun k hk => by rw [r3 k (by omega), up_k (by omega)], fun c hc => by rw [r4 c hc, up_c hc]⟩
    by_cases c : k = v
    · rw [c, r3 v (by omega), up_s]
    · exact r2 k (by omega) h2
theorem m_b40 : ∀ (j v : Nat) (T : MS), v + j = 4 → ∃ T', Mo_ministry_40 v T = Mo_ministry_60 0 T' ∧ (∀ k, v ≤ k → k < 4 → T' 430 k = 0) ∧ (∀ k, k < v ∨ 4 ≤ k → T' 430 k = T 430 k) ∧ ∀ c, c ≠ 430 → T' c = T c := by
  intro j
  induction j with
  | zero =>
    intro v T e
    rw [e_Mo_ministry_40, if_neg (by omega)]
    exact ⟨T, rfl, fun k _ _ => by omega, fun _ _ => rfl, fun _ _ => rfl⟩
  | succ j ih =>
    intro v T e
    rw [e_Mo_ministry_40, if_pos (by omega), if_pos (by omega), Int.toNat_natCast, wr_suc2 (show v < 4 by omega) (by decide)]
    obtain ⟨T', r1, r2, r3, r4⟩ := ih (v + 1) (up T 430 v 0) (by omega)
    refine ⟨T', r1, fun k h1 h2 => ?_, fun k hk => by rw [r3 k (by omega), up_k (by omega)], fun c hc => by rw [r4 c hc, up_c hc]⟩
    by_cases c : k = v
    · rw [c, r3 v (by omega), up_s]
    · exact r2 k (by omega) h2
/-- the class: four words of strengths cleared, the rest to come -/
theorem c_c32 : ∀ (j v : Nat) (S : MS), v + j = 4 → ∃ S', Pl_clear_s_32 v S = Pl_clear_s_32 4 S' ∧ (∀ k, v ≤ k → k < 4 → S' 13 k = 0) ∧ (∀ k, k < v → S' 13 k = S 13 k) ∧ ∀ c, c ≠ 13 → S' c = S c := by
  intro j
  induction j with
  | zero =>
    intro v S e
    have : v = 4 := by omega
    subst this
    exact ⟨S, rfl, fun k _ _ => by omega, fun _ _ => rfl, fun _ _ => rfl⟩
  | succ j ih =>
    intro v S e
    rw [e_Pl_clear_s_32, if_pos (by omega), if_pos (by omega), Int.toNat_natCast, wr_suc2 (show v < 4 by omega) (by decide)]
    obtain ⟨S', r1, r2, r3, r4⟩ := ih (v + 1) (up S 13 v 0) (by omega)
    refine ⟨S', r1, fun k h1 h2 => ?_, fun k hk => by rw [r3 k (by omega), up_k (by omega)], fun c hc => by rw [r4 c hc, up_c hc]⟩
    by_cases c : k = v
    · rw [c, r3 v (by omega), up_s]
    · exact r2 k (by omega) h2
theorem add_s {m : Nat} {c : Int} (h : S 14 1 = (m : Int)) (hm : m < 1616) : m_Co_add_s c S = some (1, up (up S 15 m c) 14 1 ((m + 1 : Nat) : Int)) := by
  rw [e_Co_add_s, h, if_pos (by omega), if_pos (by omega), Int.toNat_natCast, wr_suc2 hm (by decide)]
theorem beg_s {w : Nat} (hw : w < 3) : m_Pl_beginLaw_s w S = some (up S 20 w (S 14 1)) := by rw [e_Pl_beginLaw_s, if_neg (by omega), if_pos (by omega), if_pos (by omega), Int.toNat_natCast]
theorem end_s {w : Nat} (hw : w < 3) : m_Pl_endLaw_s w S = some (up S 21 w (S 14 1)) := by rw [e_Pl_endLaw_s, if_neg (by omega), if_pos (by omega), if_pos (by omega), Int.toNat_natCast]
end
