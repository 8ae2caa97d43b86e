/-! the reference: which word is here -/
section
variable {n : Nat} {P S T : MS} {g : Nat → Int} {E : Nat} {q : Int}
theorem hr_463 : HR 463 2 := by unfold HR; decide
theorem hr_464 : HR 464 1 := by unfold HR; decide
theorem hr_465 : HR 465 15 := by unfold HR; decide
theorem hr_466 : HR 466 14 := by unfold HR; decide
theorem hr_467 : HR 467 6 := by unfold HR; decide
theorem hr_468 : HR 468 16 := by unfold HR; decide
theorem hr_469 : HR 469 3 := by unfold HR; decide
theorem hr_470 : HR 470 17 := by unfold HR; decide
theorem hr_471 : HR 471 18 := by unfold HR; decide
theorem hr_472 : HR 472 19 := by unfold HR; decide
theorem hr_461 : HR 461 24 := by unfold HR; decide
theorem hr_462 : HR 462 25 := by unfold HR; decide
theorem hr_460 : HR 460 23 := by unfold HR; decide
theorem hr_457 : HR 457 22 := by unfold HR; decide
theorem hr_458 : HR 458 21 := by unfold HR; decide
theorem hr_459 : HR 459 20 := by unfold HR; decide
def qwN (w : Nat) : Int := if w = 2 then 0 else if w = 1 then 1 else if w = 15 then 2 else if w = 14 then 3 else if w = 6 then 4 else if w = 16 then 5 else if w = 3 then 6 else if w = 17 then 7 else if w = 18 then 8 else if w = 19 then 9 else -1
theorem m_qwh {t : Tok} {L1 : List Tok} (hw : WDT T) (h : RTK g E T (t :: L1)) : ∃ T', m_Mo_qWordHere T = some (qwN t.1, T') ∧ RTK g E T' (t :: L1) ∧ T' 401 2 = ((t.2.1 : Nat) : Int) ∧ FRp T T' := by
  rw [e_Mo_qWordHere]
  unfold qwN
  obtain ⟨T0, a0, b0, d0, f0, -⟩ := m_isHere hr_463 hw h
  have w0 : WDT T0 := hw.fr f0.1
  have e0 : FRp T T0 := f0
  rw [a0, Option.bind_some]
  dsimp only
  by_cases c0 : t.1 = 2
  · rw [if_pos c0, if_pos c0, if_neg n10]
    exact ⟨T0, rfl, b0, d0, e0⟩
  · rw [if_neg c0, if_neg c0, if_pos rfl]
    obtain ⟨T1, a1, b1, d1, f1, -⟩ := m_isHere hr_464 w0 b0
    have w1 : WDT T1 := w0.fr f1.1
    have e1 : FRp T T1 := ⟨fun c hc => (f1.1 c hc).trans (e0.1 c hc), fun k hk => (f1.2 k hk).trans (e0.2 k hk)⟩
    rw [a1, Option.bind_some]
    dsimp only
    by_cases c1 : t.1 = 1
    · rw [if_pos c1, if_pos c1, if_neg n10]
      exact ⟨T1, rfl, b1, d1, e1⟩
    · rw [if_neg c1, if_neg c1, if_pos rfl]
      obtain ⟨T2, a2, b2, d2, f2, -⟩ := m_isHere hr_465 w1 b1
      have w2 : WDT T2 := w1.fr f2.1
      have e2 : FRp T T2 := ⟨fun c hc => (f2.1 c hc).trans (e1.1 c hc), fun k hk => (f2.2 k hk).trans (e1.2 k hk)⟩
      rw [a2, Option.bind_some]
      dsimp only
      by_cases c2 : t.1 = 15
      · rw [if_pos c2, if_pos c2, if_neg n10]
        exact ⟨T2, rfl, b2, d2, e2⟩
      · rw [if_neg c2, if_neg c2, if_pos rfl]
        obtain ⟨T3, a3, b3, d3, f3, -⟩ := m_isHere hr_466 w2 b2
        have w3 : WDT T3 := w2.fr f3.1
        have e3 : FRp T T3 := ⟨fun c hc => (f3.1 c hc).trans (e2.1 c hc), fun k hk => (f3.2 k hk).trans (e2.2 k hk)⟩
        rw [a3, Option.bind_some]
        dsimp only
        by_cases c3 : t.1 = 14
        · rw [if_pos c3, if_pos c3, if_neg n10]
          exact ⟨T3, rfl, b3, d3, e3⟩
        · rw [if_neg c3, if_neg c3, if_pos rfl]
          obtain ⟨T4, a4, b4, d4, f4, -⟩ := m_isHere hr_467 w3 b3
          have w4 : WDT T4 := w3.fr f4.1
          have e4 : FRp T T4 := ⟨fun c hc => (f4.1 c hc).trans (e3.1 c hc), fun k hk => (f4.2 k hk).trans (e3.2 k hk)⟩
          rw [a4, Option.bind_some]
          dsimp only
          by_cases c4 : t.1 = 6
          · rw [if_pos c4, if_pos c4, if_neg n10]
            exact ⟨T4, rfl, b4, d4, e4⟩
          · rw [if_neg c4, if_neg c4, if_pos rfl]
            obtain ⟨T5, a5, b5, d5, f5, -⟩ := m_isHere hr_468 w4 b4
            have w5 : WDT T5 := w4.fr f5.1
            have e5 : FRp T T5 := ⟨fun c hc => (f5.1 c hc).trans (e4.1 c hc), fun k hk => (f5.2 k hk).trans (e4.2 k hk)⟩
            rw [a5, Option.bind_some]
            dsimp only
            by_cases c5 : t.1 = 16
            · rw [if_pos c5, if_pos c5, if_neg n10]
              exact ⟨T5, rfl, b5, d5, e5⟩
            · rw [if_neg c5, if_neg c5, if_pos rfl]
              obtain ⟨T6, a6, b6, d6, f6, -⟩ := m_isHere hr_469 w5 b5
              have w6 : WDT T6 := w5.fr f6.1
              have e6 : FRp T T6 := ⟨fun c hc => (f6.1 c hc).trans (e5.1 c hc), fun k hk => (f6.2 k hk).trans (e5.2 k hk)⟩
              rw [a6, Option.bind_some]
              dsimp only
              by_cases c6 : t.1 = 3
              · rw [if_pos c6, if_pos c6, if_neg n10]
                exact ⟨T6, rfl, b6, d6, e6⟩
              · rw [if_neg c6, if_neg c6, if_pos rfl]
                obtain ⟨T7, a7, b7, d7, f7, -⟩ := m_isHere hr_470 w6 b6
                have w7 : WDT T7 := w6.fr f7.1
                have e7 : FRp T T7 := ⟨fun c hc => (f7.1 c hc).trans (e6.1 c hc), fun k hk => (f7.2 k hk).trans (e6.2 k hk)⟩
                rw [a7, Option.bind_some]
                dsimp only
                by_cases c7 : t.1 = 17
                · rw [if_pos c7, if_pos c7, if_neg n10]
                  exact ⟨T7, rfl, b7, d7, e7⟩
                · rw [if_neg c7, if_neg c7, if_pos rfl]
                  obtain ⟨T8, a8, b8, d8, f8, -⟩ := m_isHere hr_471 w7 b7
                  have w8 : WDT T8 := w7.fr f8.1
                  have e8 : FRp T T8 := ⟨fun c hc => (f8.1 c hc).trans (e7.1 c hc), fun k hk => (f8.2 k hk).trans (e7.2 k hk)⟩
                  rw [a8, Option.bind_some]
                  dsimp only
                  by_cases c8 : t.1 = 18
                  · rw [if_pos c8, if_pos c8, if_neg n10]
                    exact ⟨T8, rfl, b8, d8, e8⟩
                  · rw [if_neg c8, if_neg c8, if_pos rfl]
                    obtain ⟨T9, a9, b9, d9, f9, -⟩ := m_isHere hr_472 w8 b8
                    have w9 : WDT T9 := w8.fr f9.1
                    have e9 : FRp T T9 := ⟨fun c hc => (f9.1 c hc).trans (e8.1 c hc), fun k hk => (f9.2 k hk).trans (e8.2 k hk)⟩
                    rw [a9, Option.bind_some]
                    dsimp only
                    by_cases c9 : t.1 = 19
                    · rw [if_pos c9, if_pos c9, if_neg n10]
                      exact ⟨T9, rfl, b9, d9, e9⟩
                    · rw [if_neg c9, if_neg c9, if_pos rfl]
                      exact ⟨T9, rfl, b9, d9, e9⟩
def ALW (q : Int) (j : Int) : Prop := j < 3 ∨ (q = 0 ∧ j < 5) ∨ (q = 1 ∧ j = 5) ∨ (q = 2 ∧ 5 ≤ j ∧ j ≤ 6) ∨ (q = 3 ∧ 7 ≤ j)
theorem m_alw {j : Int} (hq : T 401 48 = q) (hq3 : q = 0 ∨ q = 1 ∨ q = 2 ∨ q = 3) : (ALW q j → m_Mo_isAllowed j T = some (1, T)) ∧ (¬ ALW q j → m_Mo_isAllowed j T = some (0, T)) := by
  unfold ALW
  rw [e_Mo_isAllowed, hq]
  rcases hq3 with rfl | rfl | rfl | rfl
  · rw [if_pos rfl]
    by_cases c : j < 5
    · rw [if_pos c]; exact ⟨fun _ => rfl, fun x => by omega⟩
    · rw [if_neg c]; exact ⟨fun x => by omega, fun _ => rfl⟩
  · rw [if_neg (by decide), if_pos rfl]
    by_cases c : j < 3
    · rw [if_pos c]; exact ⟨fun _ => rfl, fun x => by omega⟩
    · rw [if_neg c]
      by_cases c2 : j = 5
      · rw [if_pos c2]; exact ⟨fun _ => rfl, fun x => by omega⟩
      · rw [if_neg c2]; exact ⟨fun x => by omega, fun _ => rfl⟩
  · rw [if_neg (by decide), if_neg (by decide), if_pos rfl]
    by_cases c : j < 3
    · rw [if_pos c]; exact ⟨fun _ => rfl, fun x => by omega⟩
    · rw [if_neg c]
      by_cases c2 : 5 ≤ j ∧ j ≤ 6
      · rw [m_in1 c2, Option.bind_some, if_neg n10]; exact ⟨fun _ => rfl, fun x => by omega⟩
      · rw [m_in0 c2, Option.bind_some, if_pos rfl]; exact ⟨fun x => by omega, fun _ => rfl⟩
  · rw [if_neg (by decide), if_neg (by decide), if_neg (by decide)]
    by_cases c : j < 3
    · rw [if_pos c]; exact ⟨fun _ => rfl, fun x => by omega⟩
    · rw [if_neg c]
      by_cases c2 : j = 7
      · rw [if_pos c2]; exact ⟨fun _ => rfl, fun x => by omega⟩
      · rw [if_neg c2]
        by_cases c3 : 7 < j
        · rw [if_pos c3]; exact ⟨fun _ => rfl, fun x => by omega⟩
        · rw [if_neg c3]; exact ⟨fun x => by omega, fun _ => rfl⟩
/-- the word, among those from lo below hi -/
theorem m_qwo {t : Tok} {L1 : List Tok} {lo hi : Int} (hw : WDT T) (h : RTK g E T (t :: L1)) (hq : T 401 48 = q) (hq3 : q = 0 ∨ q = 1 ∨ q = 2 ∨ q = 3) : ∃ z T', m_Mo_qWordOf lo hi T = some (z, T') ∧ RTK g E T' (t :: L1) ∧ T' 401 2 = ((t.2.1 : Nat) : Int) ∧ FRp T T' ∧ ((lo ≤ qwN t.1 ∧ qwN t.1 < hi ∧ ALW q (qwN t.1) ∧ z = qwN t.1) ∨ (¬ (lo ≤ qwN t.1 ∧ qwN t.1 < hi ∧ ALW q (qwN t.1)) ∧ z = -1)) := by
  obtain ⟨T1, r1, r2, r3, r4⟩ := m_qwh hw h
  obtain ⟨a1, a2⟩ := m_alw (T := T1) (j := qwN t.1) (by rw [r4.2 48 (by decide)]; exact hq) hq3
  rw [e_Mo_qWordOf, r1, Option.bind_some]
  dsimp only
  by_cases c1 : qwN t.1 < lo
  · rw [if_pos c1]
    exact ⟨_, T1, rfl, r2, r3, r4, Or.inr ⟨fun x => by omega, rfl⟩⟩
  · rw [if_neg c1]
    by_cases c2 : qwN t.1 < hi
    · rw [if_pos c2]
      by_cases c3 : ALW q (qwN t.1)
      · rw [a1 c3, Option.bind_some]
        dsimp only
        rw [if_neg n10]
        exact ⟨_, T1, rfl, r2, r3, r4, Or.inl ⟨by omega, c2, c3, rfl⟩⟩
      · rw [a2 c3, Option.bind_some]
        dsimp only
        rw [if_pos rfl]
        exact ⟨_, T1, rfl, r2, r3, r4, Or.inr ⟨fun x => c3 x.2.2, rfl⟩⟩
    · rw [if_neg c2]
      exact ⟨_, T1, rfl, r2, r3, r4, Or.inr ⟨fun x => c2 x.2.1, rfl⟩⟩
theorem qwN_cases (w : Nat) : (w = 2 ∧ qwN w = 0) ∨ (w = 1 ∧ qwN w = 1) ∨ (w = 15 ∧ qwN w = 2) ∨ (w = 14 ∧ qwN w = 3) ∨ (w = 6 ∧ qwN w = 4) ∨ (w = 16 ∧ qwN w = 5) ∨ (w = 3 ∧ qwN w = 6) ∨ (w = 17 ∧ qwN w = 7) ∨ (w = 18 ∧ qwN w = 8) ∨ (w = 19 ∧ qwN w = 9) ∨ ((w ≠ 2 ∧ w ≠ 1 ∧ w ≠ 15 ∧ w ≠ 14 ∧ w ≠ 6 ∧ w ≠ 16 ∧ w ≠ 3 ∧ w ≠ 17 ∧ w ≠ 18 ∧ w ≠ 19) ∧ qwN w = -1) := by
  unfold qwN
  by_cases c0 : w = 2
  · rw [c0]; simp
  · rw [if_neg c0]
    by_cases c1 : w = 1
    · rw [c1]; simp
    · rw [if_neg c1]
      by_cases c2 : w = 15
      · rw [c2]; simp
      · rw [if_neg c2]
        by_cases c3 : w = 14
        · rw [c3]; simp
        · rw [if_neg c3]
          by_cases c4 : w = 6
          · rw [c4]; simp
          · rw [if_neg c4]
            by_cases c5 : w = 16
            · rw [c5]; simp
            · rw [if_neg c5]
              by_cases c6 : w = 3
              · rw [c6]; simp
              · rw [if_neg c6]
                by_cases c7 : w = 17
                · rw [c7]; simp
                · rw [if_neg c7]
                  by_cases c8 : w = 18
                  · rw [c8]; simp
                  · rw [if_neg c8]
                    by_cases c9 : w = 19
                    · rw [c9]; simp
                    · rw [if_neg c9]
                      simp [c0, c1, c2, c3, c4, c5, c6, c7, c8, c9]
/-- as the class sees it -/
theorem qw_vl (w : Nat) (hq3 : q = 0 ∨ q = 1 ∨ q = 2 ∨ q = 3) : (0 ≤ qwN w ∧ qwN w < 8 ∧ ALW q (qwN w) → vlH q w = some (qwN w)) ∧ (¬ (0 ≤ qwN w ∧ qwN w < 8 ∧ ALW q (qwN w)) → vlH q w = none) := by
  unfold ALW
  rcases qwN_cases w with ⟨rfl, e⟩ | ⟨rfl, e⟩ | ⟨rfl, e⟩ | ⟨rfl, e⟩ | ⟨rfl, e⟩ | ⟨rfl, e⟩ | ⟨rfl, e⟩ | ⟨rfl, e⟩ | ⟨rfl, e⟩ | ⟨rfl, e⟩ | ⟨e', e⟩
  all_goals rw [e]
  all_goals unfold vlH
  all_goals first
    | (rcases hq3 with rfl | rfl | rfl | rfl <;> simp; done)
    | (refine ⟨fun x => by omega, fun _ => ?_⟩
       obtain ⟨h1, h2, h3, h4, h5, h6, h7, h8, h9, h10⟩ := e'
       simp [h1, h2, h3, h4, h5, h6, h7, h8])
end
