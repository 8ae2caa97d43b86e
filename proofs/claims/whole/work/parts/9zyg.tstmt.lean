/-! MINISTRY: a statement, both -/
section
variable {n : Nat} {P S T S' T' : MS} {g : Nat → Int} {E : Nat} {q : Int}
theorem RST.wrap {m : Int} {x : Option (Int × MS)} {y : Option MS} (h : RST g E S T m x y) : RST g E S T m (x.bind fun p1 => if p1.1 = 0 ∨ p1.1 = 1 then some (p1.1, p1.2) else none) y := by
  rcases h with ⟨S1, T1, L1, rfl, h⟩ | ⟨S1, T1, rfl, h⟩
  · exact Or.inl ⟨S1, T1, L1, by rw [Option.bind_some]; dsimp only; rw [if_pos (Or.inr rfl)], h⟩
  · exact Or.inr ⟨S1, T1, by rw [Option.bind_some]; dsimp only; rw [if_pos (Or.inl rfl)], h⟩
theorem two_stmt {t : Tok} {L1 : List Tok} (h : LK2 g E S T (t :: L1)) (ht : t.1 ≠ 35) (h2 : T 401 2 = ((t.2.1 : Nat) : Int)) (hp : PT S T) (hL : T 401 46 + (((t :: L1).length : Nat) : Int) ≤ 1601) (h60 : T 401 47 ≠ 60) : ∃ Y : Option MS, m_Mo_statementTold T = Y.bind (fun p => Mo_statementTold_177 p) ∧ RST g E S T (T 401 46 + (((t :: L1).length : Nat) : Int)) (m_Cl_readStatement S) Y := by
  have hw := h.2.2.2.2
  rw [e_Mo_statementTold, if_neg h60, e_Cl_readStatement]
  simp only [h.1.hd.1, h2]
  rcases m_takes hr_404 hw h.2.1 with ⟨e0, T0, a0, b0, f0⟩ | ⟨e0, T0, a0, b0, -, f0⟩
  · rw [a0, Option.bind_some]
    dsimp only
    rw [if_neg n10, if_pos (show ((t.1 : Nat) : Int) = 0 by omega)]
    exact ⟨_, rfl, (two_officer h ht b0 f0 hp).wrap⟩
  rw [a0, Option.bind_some]
  dsimp only
  rw [if_pos (show (0 : Int) = 0 from rfl), if_neg (show ¬ ((t.1 : Nat) : Int) = 0 by omega)]
  rcases m_takes hr_407 (hw.fr f0.1) b0 with ⟨e1, T1, a1, b1, f1⟩ | ⟨e1, T1, a1, b1, -, f1⟩
  · rw [a1, Option.bind_some]
    dsimp only
    have f1 := f0.t.tr f1
    rw [if_neg n10, if_pos (show ((t.1 : Nat) : Int) = 3 by omega)]
    exact ⟨_, rfl, (two_feeling h ht b1 f1 hp).wrap⟩
  rw [a1, Option.bind_some]
  dsimp only
  rw [if_pos (show (0 : Int) = 0 from rfl), if_neg (show ¬ ((t.1 : Nat) : Int) = 3 by omega)]
  have f1 := f0.tr2 f1
  rcases m_takes hr_408 (hw.fr f1.1) b1 with ⟨e2, T2, a2, b2, f2⟩ | ⟨e2, T2, a2, b2, -, f2⟩
  · rw [a2, Option.bind_some]
    dsimp only
    have f2 := f1.t.tr f2
    rw [if_neg n10, if_pos (show ((t.1 : Nat) : Int) = 4 by omega)]
    exact ⟨_, rfl, (two_carbon h ht b2 f2 hp).wrap⟩
  rw [a2, Option.bind_some]
  dsimp only
  rw [if_pos (show (0 : Int) = 0 from rfl), if_neg (show ¬ ((t.1 : Nat) : Int) = 4 by omega)]
  have f2 := f1.tr2 f2
  rcases m_takes hr_411 (hw.fr f2.1) b2 with ⟨e3, T3, a3, b3, f3⟩ | ⟨e3, T3, a3, b3, -, f3⟩
  · rw [a3, Option.bind_some]
    dsimp only
    have f3 := f2.t.tr f3
    rw [if_neg n10, if_pos (show ((t.1 : Nat) : Int) = 7 by omega)]
    exact ⟨_, rfl, (two_felt h ht b3 f3 hp).wrap⟩
  rw [a3, Option.bind_some]
  dsimp only
  rw [if_pos (show (0 : Int) = 0 from rfl), if_neg (show ¬ ((t.1 : Nat) : Int) = 7 by omega)]
  have f3 := f2.tr2 f3
  rcases m_takes hr_414 (hw.fr f3.1) b3 with ⟨e4, T4, a4, b4, f4⟩ | ⟨e4, T4, a4, b4, -, f4⟩
  · rw [a4, Option.bind_some]
    dsimp only
    have f4 := f3.t.tr f4
    rw [if_neg n10, if_pos (show ((t.1 : Nat) : Int) = 10 by omega)]
    exact ⟨_, rfl, (two_law (w := 0) (by decide) h ht b4 f4 hp hL).wrap⟩
  rw [a4, Option.bind_some]
  dsimp only
  rw [if_pos (show (0 : Int) = 0 from rfl), if_neg (show ¬ ((t.1 : Nat) : Int) = 10 by omega)]
  have f4 := f3.tr2 f4
  rcases m_takes hr_415 (hw.fr f4.1) b4 with ⟨e5, T5, a5, b5, f5⟩ | ⟨e5, T5, a5, b5, -, f5⟩
  · rw [a5, Option.bind_some]
    dsimp only
    have f5 := f4.t.tr f5
    rw [if_neg n10, if_pos (show ((t.1 : Nat) : Int) = 11 by omega)]
    exact ⟨_, rfl, (two_law (w := 1) (by decide) h ht b5 f5 hp hL).wrap⟩
  rw [a5, Option.bind_some]
  dsimp only
  rw [if_pos (show (0 : Int) = 0 from rfl), if_neg (show ¬ ((t.1 : Nat) : Int) = 11 by omega)]
  have f5 := f4.tr2 f5
  rcases m_takes hr_416 (hw.fr f5.1) b5 with ⟨e6, T6, a6, b6, f6⟩ | ⟨e6, T6, a6, b6, -, f6⟩
  · rw [a6, Option.bind_some]
    dsimp only
    have f6 := f5.t.tr f6
    rw [if_neg n10, if_pos (show ((t.1 : Nat) : Int) = 12 by omega)]
    exact ⟨_, rfl, (two_law (w := 2) (by decide) h ht b6 f6 hp hL).wrap⟩
  rw [a6, Option.bind_some]
  dsimp only
  rw [if_pos (show (0 : Int) = 0 from rfl), if_neg (show ¬ ((t.1 : Nat) : Int) = 12 by omega)]
  have f6 := f5.tr2 f6
  have hY : ∀ x : Option (Int × MS), (x.bind fun p9 => Mo_statementTold_177 (up p9.2 430 3 p9.1)) = (x.bind fun p9 => some (up p9.2 430 3 p9.1)).bind (fun p => Mo_statementTold_177 p) := fun x => by cases x <;> rfl
  rcases m_asks hr_417 (hw.fr f6.1) b6 with ⟨e7, T7, a7, b7, f7⟩ | ⟨e7, T7, a7, b7, f7⟩
  · rw [a7, Option.bind_some, if_pos (show ((t.1 : Nat) : Int) = 13 by omega), hY]
    exact ⟨_, rfl, (two_slip h ht b7 (f6.t.tr f7) hp).wrap⟩
  · rw [a7, Option.bind_some, if_neg (show ¬ ((t.1 : Nat) : Int) = 13 by omega), hY]
    refine ⟨_, rfl, ?_⟩
    have b5 : T7 401 5 ≠ 0 := by rw [b7.1]; decide
    rw [bad_number b5, c_unfit h.1, Option.bind_some, Option.bind_some]
    dsimp only
    rw [if_pos (Or.inl rfl)]
    refine Or.inr ⟨_, _, rfl, rfl, ⟨1, t.2.1, by decide, ref_89 _ _, ?_⟩, (FTx.ref _ _).mc, (f6.t.tr f7).nq.mm.tr ?_⟩
    · unfold BDT at b7 ⊢
      rw [up_c (by decide)]
      exact b7
    · exact ⟨fun c hc => up_c (by omega), fun k hk => up_k (by omega), fun k _ => by rw [up_c (by decide), up_c (by decide)]; exact ⟨rfl, rfl⟩, fun k _ => by rw [up_c (by decide)], fun k _ => by rw [up_c (by decide), up_c (by decide)]; exact ⟨rfl, rfl⟩, fun k _ => by rw [up_c (by decide)], fun k _ _ _ _ _ _ _ _ _ _ _ _ _ => by rw [up_c (by decide)], fun w k hk => by rw [up_c (by decide)]; exact w k hk⟩
end
