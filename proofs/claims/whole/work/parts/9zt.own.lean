/-! MINISTRY: the reference's own words -/
section
variable {n : Nat} {P S T : MS} {g : Nat → Int} {E : Nat} {q : Int}
theorem FRp.tr2 {T T' T'' : MS} (h : FRp T T') (k : FRp T' T'') : FRp T T'' := ⟨fun c hc => (k.1 c hc).trans (h.1 c hc), fun j a1 => (k.2 j a1).trans (h.2 j a1)⟩
theorem hr_404 : HR 404 0 := by unfold HR; decide
theorem hr_405 : HR 405 1 := by unfold HR; decide
theorem hr_406 : HR 406 2 := by unfold HR; decide
theorem hr_407 : HR 407 3 := by unfold HR; decide
theorem hr_408 : HR 408 4 := by unfold HR; decide
theorem hr_409 : HR 409 5 := by unfold HR; decide
theorem hr_410 : HR 410 6 := by unfold HR; decide
theorem hr_411 : HR 411 7 := by unfold HR; decide
theorem hr_412 : HR 412 8 := by unfold HR; decide
theorem hr_413 : HR 413 9 := by unfold HR; decide
theorem hr_414 : HR 414 10 := by unfold HR; decide
theorem hr_415 : HR 415 11 := by unfold HR; decide
theorem hr_416 : HR 416 12 := by unfold HR; decide
theorem hr_417 : HR 417 13 := by unfold HR; decide
theorem hr_418 : HR 418 14 := by unfold HR; decide
theorem hr_419 : HR 419 15 := by unfold HR; decide
theorem hr_420 : HR 420 16 := by unfold HR; decide
theorem hr_421 : HR 421 17 := by unfold HR; decide
theorem hr_422 : HR 422 18 := by unfold HR; decide
theorem hr_423 : HR 423 19 := by unfold HR; decide
theorem hr_424 : HR 424 20 := by unfold HR; decide
theorem hr_425 : HR 425 21 := by unfold HR; decide
theorem hr_426 : HR 426 22 := by unfold HR; decide
theorem hr_427 : HR 427 23 := by unfold HR; decide
theorem hr_428 : HR 428 24 := by unfold HR; decide
theorem hr_429 : HR 429 25 := by unfold HR; decide
theorem own_b0 {t : Tok} {L1 : List Tok} (hw : WDT T) (h : RTK g E T (t :: L1)) : ∃ T', m_Mo_isOwnHere T = Mo_isOwnHere_71 (if 0 ≤ t.1 ∧ t.1 < 6 then 1 else 0) T' ∧ RTK g E T' (t :: L1) ∧ T' 401 2 = ((t.2.1 : Nat) : Int) ∧ FRp T T' := by
  rw [e_Mo_isOwnHere]
  obtain ⟨T0, a0, b0, c0, f0, -⟩ := m_isHere hr_404 hw h
  rw [a0, Option.bind_some]
  dsimp only
  by_cases d0 : t.1 = 0
  · rw [if_pos d0, if_neg n10, if_pos (show 0 ≤ t.1 ∧ t.1 < 6 by omega)]; exact ⟨T0, rfl, b0, c0, f0⟩
  rw [if_neg d0, if_pos rfl]
  obtain ⟨T1, a1, b1, c1, f1, -⟩ := m_isHere hr_405 (hw.fr f0.1) b0
  have f1 := f0.tr2 f1
  rw [a1, Option.bind_some]
  dsimp only
  by_cases d1 : t.1 = 1
  · rw [if_pos d1, if_neg n10, if_pos (show 0 ≤ t.1 ∧ t.1 < 6 by omega)]; exact ⟨T1, rfl, b1, c1, f1⟩
  rw [if_neg d1, if_pos rfl]
  obtain ⟨T2, a2, b2, c2, f2, -⟩ := m_isHere hr_406 (hw.fr f1.1) b1
  have f2 := f1.tr2 f2
  rw [a2, Option.bind_some]
  dsimp only
  by_cases d2 : t.1 = 2
  · rw [if_pos d2, if_neg n10, if_pos (show 0 ≤ t.1 ∧ t.1 < 6 by omega)]; exact ⟨T2, rfl, b2, c2, f2⟩
  rw [if_neg d2, if_pos rfl]
  obtain ⟨T3, a3, b3, c3, f3, -⟩ := m_isHere hr_407 (hw.fr f2.1) b2
  have f3 := f2.tr2 f3
  rw [a3, Option.bind_some]
  dsimp only
  by_cases d3 : t.1 = 3
  · rw [if_pos d3, if_neg n10, if_pos (show 0 ≤ t.1 ∧ t.1 < 6 by omega)]; exact ⟨T3, rfl, b3, c3, f3⟩
  rw [if_neg d3, if_pos rfl]
  obtain ⟨T4, a4, b4, c4, f4, -⟩ := m_isHere hr_408 (hw.fr f3.1) b3
  have f4 := f3.tr2 f4
  rw [a4, Option.bind_some]
  dsimp only
  by_cases d4 : t.1 = 4
  · rw [if_pos d4, if_neg n10, if_pos (show 0 ≤ t.1 ∧ t.1 < 6 by omega)]; exact ⟨T4, rfl, b4, c4, f4⟩
  rw [if_neg d4, if_pos rfl]
  obtain ⟨T5, a5, b5, c5, f5, -⟩ := m_isHere hr_409 (hw.fr f4.1) b4
  have f5 := f4.tr2 f5
  rw [a5, Option.bind_some]
  dsimp only
  by_cases d5 : t.1 = 5
  · rw [if_pos d5, if_neg n10, if_pos (show 0 ≤ t.1 ∧ t.1 < 6 by omega)]; exact ⟨T5, rfl, b5, c5, f5⟩
  rw [if_neg d5, if_pos rfl]
  rw [if_neg (show ¬ (0 ≤ t.1 ∧ t.1 < 6) by omega)]
  exact ⟨T5, rfl, b5, c5, f5⟩
theorem own_b1 {t : Tok} {L1 : List Tok} (hw : WDT T) (h : RTK g E T (t :: L1)) : ∃ T', Mo_isOwnHere_71 0 T = Mo_isOwnHere_147 (if 6 ≤ t.1 ∧ t.1 < 12 then 1 else 0) T' ∧ RTK g E T' (t :: L1) ∧ T' 401 2 = ((t.2.1 : Nat) : Int) ∧ FRp T T' := by
  rw [e_Mo_isOwnHere_71, if_pos rfl]
  obtain ⟨T0, a0, b0, c0, f0, -⟩ := m_isHere hr_410 hw h
  rw [a0, Option.bind_some]
  dsimp only
  by_cases d0 : t.1 = 6
  · rw [if_pos d0, if_neg n10, if_pos (show 6 ≤ t.1 ∧ t.1 < 12 by omega)]; exact ⟨T0, rfl, b0, c0, f0⟩
  rw [if_neg d0, if_pos rfl]
  obtain ⟨T1, a1, b1, c1, f1, -⟩ := m_isHere hr_411 (hw.fr f0.1) b0
  have f1 := f0.tr2 f1
  rw [a1, Option.bind_some]
  dsimp only
  by_cases d1 : t.1 = 7
  · rw [if_pos d1, if_neg n10, if_pos (show 6 ≤ t.1 ∧ t.1 < 12 by omega)]; exact ⟨T1, rfl, b1, c1, f1⟩
  rw [if_neg d1, if_pos rfl]
  obtain ⟨T2, a2, b2, c2, f2, -⟩ := m_isHere hr_412 (hw.fr f1.1) b1
  have f2 := f1.tr2 f2
  rw [a2, Option.bind_some]
  dsimp only
  by_cases d2 : t.1 = 8
  · rw [if_pos d2, if_neg n10, if_pos (show 6 ≤ t.1 ∧ t.1 < 12 by omega)]; exact ⟨T2, rfl, b2, c2, f2⟩
  rw [if_neg d2, if_pos rfl]
  obtain ⟨T3, a3, b3, c3, f3, -⟩ := m_isHere hr_413 (hw.fr f2.1) b2
  have f3 := f2.tr2 f3
  rw [a3, Option.bind_some]
  dsimp only
  by_cases d3 : t.1 = 9
  · rw [if_pos d3, if_neg n10, if_pos (show 6 ≤ t.1 ∧ t.1 < 12 by omega)]; exact ⟨T3, rfl, b3, c3, f3⟩
  rw [if_neg d3, if_pos rfl]
  obtain ⟨T4, a4, b4, c4, f4, -⟩ := m_isHere hr_414 (hw.fr f3.1) b3
  have f4 := f3.tr2 f4
  rw [a4, Option.bind_some]
  dsimp only
  by_cases d4 : t.1 = 10
  · rw [if_pos d4, if_neg n10, if_pos (show 6 ≤ t.1 ∧ t.1 < 12 by omega)]; exact ⟨T4, rfl, b4, c4, f4⟩
  rw [if_neg d4, if_pos rfl]
  obtain ⟨T5, a5, b5, c5, f5, -⟩ := m_isHere hr_415 (hw.fr f4.1) b4
  have f5 := f4.tr2 f5
  rw [a5, Option.bind_some]
  dsimp only
  by_cases d5 : t.1 = 11
  · rw [if_pos d5, if_neg n10, if_pos (show 6 ≤ t.1 ∧ t.1 < 12 by omega)]; exact ⟨T5, rfl, b5, c5, f5⟩
  rw [if_neg d5, if_pos rfl]
  rw [if_neg (show ¬ (6 ≤ t.1 ∧ t.1 < 12) by omega)]
  exact ⟨T5, rfl, b5, c5, f5⟩
theorem own_b2 {t : Tok} {L1 : List Tok} (hw : WDT T) (h : RTK g E T (t :: L1)) : ∃ T', Mo_isOwnHere_147 0 T = Mo_isOwnHere_223 (if 12 ≤ t.1 ∧ t.1 < 18 then 1 else 0) T' ∧ RTK g E T' (t :: L1) ∧ T' 401 2 = ((t.2.1 : Nat) : Int) ∧ FRp T T' := by
  rw [e_Mo_isOwnHere_147, if_pos rfl]
  obtain ⟨T0, a0, b0, c0, f0, -⟩ := m_isHere hr_416 hw h
  rw [a0, Option.bind_some]
  dsimp only
  by_cases d0 : t.1 = 12
  · rw [if_pos d0, if_neg n10, if_pos (show 12 ≤ t.1 ∧ t.1 < 18 by omega)]; exact ⟨T0, rfl, b0, c0, f0⟩
  rw [if_neg d0, if_pos rfl]
  obtain ⟨T1, a1, b1, c1, f1, -⟩ := m_isHere hr_417 (hw.fr f0.1) b0
  have f1 := f0.tr2 f1
  rw [a1, Option.bind_some]
  dsimp only
  by_cases d1 : t.1 = 13
  · rw [if_pos d1, if_neg n10, if_pos (show 12 ≤ t.1 ∧ t.1 < 18 by omega)]; exact ⟨T1, rfl, b1, c1, f1⟩
  rw [if_neg d1, if_pos rfl]
  obtain ⟨T2, a2, b2, c2, f2, -⟩ := m_isHere hr_418 (hw.fr f1.1) b1
  have f2 := f1.tr2 f2
  rw [a2, Option.bind_some]
  dsimp only
  by_cases d2 : t.1 = 14
  · rw [if_pos d2, if_neg n10, if_pos (show 12 ≤ t.1 ∧ t.1 < 18 by omega)]; exact ⟨T2, rfl, b2, c2, f2⟩
  rw [if_neg d2, if_pos rfl]
  obtain ⟨T3, a3, b3, c3, f3, -⟩ := m_isHere hr_419 (hw.fr f2.1) b2
  have f3 := f2.tr2 f3
  rw [a3, Option.bind_some]
  dsimp only
  by_cases d3 : t.1 = 15
  · rw [if_pos d3, if_neg n10, if_pos (show 12 ≤ t.1 ∧ t.1 < 18 by omega)]; exact ⟨T3, rfl, b3, c3, f3⟩
  rw [if_neg d3, if_pos rfl]
  obtain ⟨T4, a4, b4, c4, f4, -⟩ := m_isHere hr_420 (hw.fr f3.1) b3
  have f4 := f3.tr2 f4
  rw [a4, Option.bind_some]
  dsimp only
  by_cases d4 : t.1 = 16
  · rw [if_pos d4, if_neg n10, if_pos (show 12 ≤ t.1 ∧ t.1 < 18 by omega)]; exact ⟨T4, rfl, b4, c4, f4⟩
  rw [if_neg d4, if_pos rfl]
  obtain ⟨T5, a5, b5, c5, f5, -⟩ := m_isHere hr_421 (hw.fr f4.1) b4
  have f5 := f4.tr2 f5
  rw [a5, Option.bind_some]
  dsimp only
  by_cases d5 : t.1 = 17
  · rw [if_pos d5, if_neg n10, if_pos (show 12 ≤ t.1 ∧ t.1 < 18 by omega)]; exact ⟨T5, rfl, b5, c5, f5⟩
  rw [if_neg d5, if_pos rfl]
  rw [if_neg (show ¬ (12 ≤ t.1 ∧ t.1 < 18) by omega)]
  exact ⟨T5, rfl, b5, c5, f5⟩
theorem own_b3 {t : Tok} {L1 : List Tok} (hw : WDT T) (h : RTK g E T (t :: L1)) : ∃ T', Mo_isOwnHere_223 0 T = Mo_isOwnHere_299 (if 18 ≤ t.1 ∧ t.1 < 24 then 1 else 0) T' ∧ RTK g E T' (t :: L1) ∧ T' 401 2 = ((t.2.1 : Nat) : Int) ∧ FRp T T' := by
  rw [e_Mo_isOwnHere_223, if_pos rfl]
  obtain ⟨T0, a0, b0, c0, f0, -⟩ := m_isHere hr_422 hw h
  rw [a0, Option.bind_some]
  dsimp only
  by_cases d0 : t.1 = 18
  · rw [if_pos d0, if_neg n10, if_pos (show 18 ≤ t.1 ∧ t.1 < 24 by omega)]; exact ⟨T0, rfl, b0, c0, f0⟩
  rw [if_neg d0, if_pos rfl]
  obtain ⟨T1, a1, b1, c1, f1, -⟩ := m_isHere hr_423 (hw.fr f0.1) b0
  have f1 := f0.tr2 f1
  rw [a1, Option.bind_some]
  dsimp only
  by_cases d1 : t.1 = 19
  · rw [if_pos d1, if_neg n10, if_pos (show 18 ≤ t.1 ∧ t.1 < 24 by omega)]; exact ⟨T1, rfl, b1, c1, f1⟩
  rw [if_neg d1, if_pos rfl]
  obtain ⟨T2, a2, b2, c2, f2, -⟩ := m_isHere hr_424 (hw.fr f1.1) b1
  have f2 := f1.tr2 f2
  rw [a2, Option.bind_some]
  dsimp only
  by_cases d2 : t.1 = 20
  · rw [if_pos d2, if_neg n10, if_pos (show 18 ≤ t.1 ∧ t.1 < 24 by omega)]; exact ⟨T2, rfl, b2, c2, f2⟩
  rw [if_neg d2, if_pos rfl]
  obtain ⟨T3, a3, b3, c3, f3, -⟩ := m_isHere hr_425 (hw.fr f2.1) b2
  have f3 := f2.tr2 f3
  rw [a3, Option.bind_some]
  dsimp only
  by_cases d3 : t.1 = 21
  · rw [if_pos d3, if_neg n10, if_pos (show 18 ≤ t.1 ∧ t.1 < 24 by omega)]; exact ⟨T3, rfl, b3, c3, f3⟩
  rw [if_neg d3, if_pos rfl]
  obtain ⟨T4, a4, b4, c4, f4, -⟩ := m_isHere hr_426 (hw.fr f3.1) b3
  have f4 := f3.tr2 f4
  rw [a4, Option.bind_some]
  dsimp only
  by_cases d4 : t.1 = 22
  · rw [if_pos d4, if_neg n10, if_pos (show 18 ≤ t.1 ∧ t.1 < 24 by omega)]; exact ⟨T4, rfl, b4, c4, f4⟩
  rw [if_neg d4, if_pos rfl]
  obtain ⟨T5, a5, b5, c5, f5, -⟩ := m_isHere hr_427 (hw.fr f4.1) b4
  have f5 := f4.tr2 f5
  rw [a5, Option.bind_some]
  dsimp only
  by_cases d5 : t.1 = 23
  · rw [if_pos d5, if_neg n10, if_pos (show 18 ≤ t.1 ∧ t.1 < 24 by omega)]; exact ⟨T5, rfl, b5, c5, f5⟩
  rw [if_neg d5, if_pos rfl]
  rw [if_neg (show ¬ (18 ≤ t.1 ∧ t.1 < 24) by omega)]
  exact ⟨T5, rfl, b5, c5, f5⟩
theorem own_b4 {t : Tok} {L1 : List Tok} (hw : WDT T) (h : RTK g E T (t :: L1)) : ∃ T', Mo_isOwnHere_299 0 T = some ((if 24 ≤ t.1 ∧ t.1 < 26 then 1 else 0), T') ∧ RTK g E T' (t :: L1) ∧ T' 401 2 = ((t.2.1 : Nat) : Int) ∧ FRp T T' := by
  rw [e_Mo_isOwnHere_299, if_pos rfl]
  obtain ⟨T0, a0, b0, c0, f0, -⟩ := m_isHere hr_428 hw h
  rw [a0, Option.bind_some]
  dsimp only
  by_cases d0 : t.1 = 24
  · rw [if_pos d0, if_neg n10, if_pos (show 24 ≤ t.1 ∧ t.1 < 26 by omega)]; exact ⟨T0, rfl, b0, c0, f0⟩
  rw [if_neg d0, if_pos rfl]
  obtain ⟨T1, a1, b1, c1, f1, -⟩ := m_isHere hr_429 (hw.fr f0.1) b0
  have f1 := f0.tr2 f1
  rw [a1, Option.bind_some]
  dsimp only
  by_cases d1 : t.1 = 25
  · rw [if_pos d1, if_neg n10, if_pos (show 24 ≤ t.1 ∧ t.1 < 26 by omega)]; exact ⟨T1, rfl, b1, c1, f1⟩
  rw [if_neg d1, if_pos rfl]
  rw [if_neg (show ¬ (24 ≤ t.1 ∧ t.1 < 26) by omega)]
  exact ⟨T1, rfl, b1, c1, f1⟩
theorem own_1 : Mo_isOwnHere_299 1 T = some (1, T) ∧ Mo_isOwnHere_223 1 T = some (1, T) ∧ Mo_isOwnHere_147 1 T = some (1, T) ∧ Mo_isOwnHere_71 1 T = some (1, T) := by
  have h1 : Mo_isOwnHere_299 1 T = some (1, T) := by rw [e_Mo_isOwnHere_299, if_neg n10]
  have h2 : Mo_isOwnHere_223 1 T = some (1, T) := by rw [e_Mo_isOwnHere_223, if_neg n10, h1]
  have h3 : Mo_isOwnHere_147 1 T = some (1, T) := by rw [e_Mo_isOwnHere_147, if_neg n10, h2]
  exact ⟨h1, h2, h3, by rw [e_Mo_isOwnHere_71, if_neg n10, h3]⟩
theorem m_own {t : Tok} {L1 : List Tok} (hw : WDT T) (h : RTK g E T (t :: L1)) : ∃ T', m_Mo_isOwnHere T = some ((if t.1 < 26 then 1 else 0), T') ∧ RTK g E T' (t :: L1) ∧ T' 401 2 = ((t.2.1 : Nat) : Int) ∧ FRp T T' := by
  obtain ⟨T0, a0, b0, c0, f0⟩ := own_b0 hw h
  rw [a0]
  by_cases d0 : 0 ≤ t.1 ∧ t.1 < 6
  · rw [if_pos d0, own_1.2.2.2, if_pos (by omega)]; exact ⟨T0, rfl, b0, c0, f0⟩
  rw [if_neg d0]
  obtain ⟨T1, a1, b1, c1, f1⟩ := own_b1 (hw.fr f0.1) b0
  have f1 := f0.tr2 f1
  rw [a1]
  by_cases d1 : 6 ≤ t.1 ∧ t.1 < 12
  · rw [if_pos d1, own_1.2.2.1, if_pos (by omega)]; exact ⟨T1, rfl, b1, c1, f1⟩
  rw [if_neg d1]
  obtain ⟨T2, a2, b2, c2, f2⟩ := own_b2 (hw.fr f1.1) b1
  have f2 := f1.tr2 f2
  rw [a2]
  by_cases d2 : 12 ≤ t.1 ∧ t.1 < 18
  · rw [if_pos d2, own_1.2.1, if_pos (by omega)]; exact ⟨T2, rfl, b2, c2, f2⟩
  rw [if_neg d2]
  obtain ⟨T3, a3, b3, c3, f3⟩ := own_b3 (hw.fr f2.1) b2
  have f3 := f2.tr2 f3
  rw [a3]
  by_cases d3 : 18 ≤ t.1 ∧ t.1 < 24
  · rw [if_pos d3, own_1.1, if_pos (by omega)]; exact ⟨T3, rfl, b3, c3, f3⟩
  rw [if_neg d3]
  obtain ⟨T4, a4, b4, c4, f4⟩ := own_b4 (hw.fr f3.1) b3
  have f4 := f3.tr2 f4
  rw [a4]
  by_cases d4 : 24 ≤ t.1 ∧ t.1 < 26
  · rw [if_pos d4, if_pos (by omega)]; exact ⟨T4, rfl, b4, c4, f4⟩
  · rw [if_neg d4, if_neg (by omega)]; exact ⟨T4, rfl, b4, c4, f4⟩
end
