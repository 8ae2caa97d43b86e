/-! MINISTRY: a plan with nothing told -/
section
variable {n : Nat} {P S T : MS}
theorem PT_0 (a2 : S 5 0 = 0 ∧ S 5 1 = 0 ∧ S 5 2 = 0 ∧ S 5 3 = 0 ∧ S 5 4 = 0 ∧ S 5 5 = 0) (a3 : ∀ k, k < 4 → S 13 k = 0) (a4 : S 14 1 = 7) (a5 : S 15 0 = -4 ∧ S 15 1 = -5 ∧ S 15 2 = -22 ∧ S 15 3 = 0 ∧ S 15 4 = -6 ∧ S 15 5 = 50 ∧ S 15 6 = -28) (a6 : S 20 0 = 0 ∧ S 20 1 = 3 ∧ S 20 2 = 4) (a7 : S 21 0 = 3 ∧ S 21 1 = 4 ∧ S 21 2 = 7) (a8 : S 22 2 = 1) (a8' : S 22 3 = 0) (a9 : okk (S 23 1) = 0) (b1 : T 401 46 = 0) (b1' : T 401 47 = 0) (b2 : ∀ k, k < 4 → T 430 k = 0) (b3 : ∀ k, k < 32 → T 434 k = 0) (b4 : ∀ k, k < 3 → T 435 k = -1) (b5 : ∀ k, k < 16 → 0 ≤ T 432 k ∧ T 432 k ≤ 9) : PT S T := by
  obtain ⟨c0, c1, c2, c3, c4, c5⟩ := a2
  obtain ⟨d0, d1, d2, d3, d4, d5, d6⟩ := a5
  have hl : ∀ w, w < 3 → lawT T w = (if w = 0 then [43, 44, 2] else if w = 1 then [1000] else [45, 1050, 8]) := fun w hw => by unfold lawT; rw [if_pos (b4 w hw)]
  refine ⟨⟨by rw [c0, b2 0 (by decide)], by rw [c0]; decide, fun k hk => by rw [c0] at hk; omega, fun i k hi _ _ => by rw [c0] at hi; omega, b5⟩, ⟨by rw [c1, b2 1 (by decide)], by rw [c1]; decide, fun k hk => by rw [c1] at hk; omega⟩, ⟨by rw [c2, b2 2 (by decide)], by rw [c2]; decide, fun k hk => by rw [c2] at hk; omega⟩, ⟨by rw [c4, b2 3 (by decide)], by rw [c4]; decide⟩, ⟨fun f hf => ?_, fun i hi => by rw [b3 i hi]; decide, fun o f ho hf _ => b3 _ (by omega)⟩, ⟨by rw [b1]; decide, by rw [a4, b1]; rfl, by rw [a8']; decide, fun w hw => ?_, Or.inl c5, fun _ w hw c hc => ?_, [43, 44, 2, 1000, 45, 1050, 8], by rw [a4]; rfl, fun i hi => ?_⟩, ⟨by rw [c3, b1'], by rw [c3]; decide⟩, a8, a9⟩
  · rw [a3 f hf]
    exact ⟨⟨Int.le_refl _, by decide⟩, fun o ho => by rw [dg_zero, b3 _ (by omega)]⟩
  · rw [a8', hl w hw, b4 w hw, if_pos rfl]
    refine ⟨by unfold bt; rw [Int.zero_ediv]; rfl, Or.inl rfl, ?_, ?_⟩
    · rcases (show w = 0 ∨ w = 1 ∨ w = 2 by omega) with rfl | rfl | rfl <;> rfl
    · rcases (show w = 0 ∨ w = 1 ∨ w = 2 by omega) with rfl | rfl | rfl
      · refine ⟨0, a6.1, a7.1, by rw [a4]; decide, fun i hi => ?_⟩
        rcases (show i = 0 ∨ i = 1 ∨ i = 2 by have : i < 3 := hi; omega) with rfl | rfl | rfl
        · exact d0
        · exact d1
        · exact d2
      · refine ⟨3, a6.2.1, a7.2.1, by rw [a4]; decide, fun i hi => ?_⟩
        have : i = 0 := by have : i < 1 := hi; omega
        subst this
        exact d3
      · refine ⟨4, a6.2.2, a7.2.2, by rw [a4]; decide, fun i hi => ?_⟩
        rcases (show i = 0 ∨ i = 1 ∨ i = 2 by have : i < 3 := hi; omega) with rfl | rfl | rfl
        · exact d4
        · exact d5
        · exact d6
  · rw [hl w (by omega)] at hc
    rcases (show w = 0 ∨ w = 1 by omega) with rfl | rfl
    · simp only [if_true, List.mem_cons, List.not_mem_nil, or_false] at hc
      omega
    · rw [if_neg (by decide), if_pos rfl, List.mem_singleton] at hc
      omega
  · rcases (show i = 0 ∨ i = 1 ∨ i = 2 ∨ i = 3 ∨ i = 4 ∨ i = 5 ∨ i = 6 by have : i < 7 := hi; omega) with rfl | rfl | rfl | rfl | rfl | rfl | rfl
    · exact d0
    · exact d1
    · exact d2
    · exact d3
    · exact d4
    · exact d5
    · exact d6
end
