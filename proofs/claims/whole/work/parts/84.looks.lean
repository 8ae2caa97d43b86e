/-! THE CALLS THAT LOOK -/
section
variable {n : Nat} {P S T : MS}
theorem Inv.w0 (h : Inv n P S T) : 0 ≤ T 438 0 ∧ T 438 0 ≤ 999 := ⟨h.wd.1.1.1, h.wd.2.1⟩
theorem c_strN (h : Inv n P S T) {o f : Nat} (ho : o < 8) (hf : f < 4) : m_St_strength_now o f S = some (T 438 (25 + 4 * o + f), S) := c_str_now h.wd.2.2.1 ho hf
theorem op_feels (h : Inv n P S T) (a b : Int) : OK2 n P (m_Ma_feels a b S) (m_Mo_feels a b T) := by
  have hP := h.pln
  have h1 := hP.1
  have h2 := hP.2.1
  rw [e_Ma_feels, e_Mo_feels]
  by_cases c : 0 ≤ a ∧ a < P 430 4
  · rw [c_isO1 h c rfl, m_isO1 hP h.rp c, Option.bind_some, Option.bind_some]
    dsimp only
    rw [if_neg (by decide), if_neg (by decide)]
    by_cases d : 0 ≤ b ∧ b < P 430 5
    · obtain ⟨o, rfl⟩ : ∃ o : Nat, a = (o : Int) := ⟨a.toNat, by omega⟩
      obtain ⟨f, rfl⟩ : ∃ f : Nat, b = (f : Int) := ⟨b.toNat, by omega⟩
      rw [c_isF1 h d, m_isF1 hP h.rp d, Option.bind_some, Option.bind_some]
      dsimp only
      rw [if_neg (by decide), if_neg (by decide), c_strN h (by omega) (by omega), m_str (by omega) (by omega)]
      exact ⟨_, S, T, rfl, rfl, h.same⟩
    · rw [c_isF0 h d, m_isF0 hP h.rp d]
      exact ⟨_, S, T, rfl, rfl, h.same⟩
  · rw [c_isO0 h c rfl, m_isO0 hP h.rp c]
    exact ⟨_, S, T, rfl, rfl, h.same⟩
theorem m_ahead1 {a lo hi : Int} (h0 : 0 ≤ T 438 0 ∧ T 438 0 ≤ 999) (hb : 0 ≤ lo ∧ hi ≤ 1000) (c : lo ≤ a ∧ a ≤ hi ∧ T 438 0 + a ≤ 999) : m_Mo_isAhead a lo hi T = some (1, T) := by
  rw [e_Mo_isAhead, m_in1 ⟨c.1, c.2.1⟩, Option.bind_some]
  dsimp only
  rw [if_neg (by decide), wrN (by omega) (by omega), if_neg (by omega)]
theorem m_ahead0 {a lo hi : Int} (h0 : 0 ≤ T 438 0 ∧ T 438 0 ≤ 999) (hb : 0 ≤ lo ∧ hi ≤ 1000) (c : ¬ (lo ≤ a ∧ a ≤ hi ∧ T 438 0 + a ≤ 999)) : m_Mo_isAhead a lo hi T = some (0, T) := by
  rw [e_Mo_isAhead]
  by_cases d : lo ≤ a ∧ a ≤ hi
  · rw [m_in1 d, Option.bind_some]
    dsimp only
    rw [if_neg (by decide), wrN (by omega) (by omega), if_pos (by omega)]
  · rw [m_in0 d, Option.bind_some, if_pos rfl]
theorem c_comes1 (h : Inv n P S T) {a hi : Int} (hb : hi ≤ 1000) (c : 0 ≤ a ∧ a ≤ hi ∧ T 438 0 + a ≤ 999) : m_Ma_comes a hi S = some (1, S) := by
  have h0 := h.w0
  have e := h.wd.2.2.1.1
  rw [e_Ma_comes, if_neg (by omega), if_neg (by omega), e, wrN (by omega) (by omega), if_neg (by omega)]
theorem c_comes0 (h : Inv n P S T) {a hi : Int} (hb : hi ≤ 1000) (c : ¬ (0 ≤ a ∧ a ≤ hi ∧ T 438 0 + a ≤ 999)) : m_Ma_comes a hi S = some (0, S) := by
  have h0 := h.w0
  have e := h.wd.2.2.1.1
  rw [e_Ma_comes]
  by_cases c1 : a < 0
  · rw [if_pos c1]
  · rw [if_neg c1]
    by_cases c2 : hi < a
    · rw [if_pos c2]
    · rw [if_neg c2, e, wrN (by omega) (by omega), if_pos (by omega)]
/-- the reference goes into thought -/
theorem m_think (h : Inv n P S T) : ∃ T1, m_Mo_putsAside T = some T1 ∧ RP P T1 ∧ T1 438 = T 438 ∧ TH (T 438) T1 ∧ LKm (up T 401 56 1) T1 ∧ T1 401 57 = T 401 57 := by
  obtain ⟨T1, q1, q2, q3, q4, q5⟩ := m_aside T
  refine ⟨T1, q1, h.rp.fr (q4 430 (by decide) (by decide)) (q4 431 (by decide) (by decide)) (q4 432 (by decide) (by decide)) (q4 433 (by decide) (by decide)) (q4 435 (by decide) (by decide)) (q4 436 (by decide) (by decide)) (q4 437 (by decide) (by decide)), q4 438 (by decide) (by decide), ⟨q2, fun i _ => by rw [q4 438 (by decide) (by decide)], q3⟩, ⟨fun c hc => ?_, fun k hk => ?_⟩, q5 57 (by decide)⟩
  · simp only [List.mem_cons, List.not_mem_nil, or_false, not_or] at hc
    rw [q4 c hc.2.1 hc.1, up_c hc.1]
  · by_cases e : k = 56
    · subst e; rw [q3, up_s]
    · rw [q5 k e, up_k e]
theorem FG.lk {T T' : MS} (h : FG T T') (e : T' 438 = T 438) : LKm T T' := ⟨fun c hc => by
  simp only [List.mem_cons, List.not_mem_nil, or_false, not_or] at hc
  by_cases c8 : c = 438
  · subst c8; exact e
  · exact h.1 c hc.1 c8 hc.2.2.1 hc.2.2.2.2.2.2.2.2.2.2.2, fun k hk => by
  simp only [List.mem_cons, List.not_mem_nil, or_false, not_or] at hk
  exact h.2 k hk.1 hk.2.1 hk.2.2.1 hk.2.2.2.1 hk.2.2.2.2.1 hk.2.2.2.2.2.1 hk.2.2.2.2.2.2.1 hk.2.2.2.2.2.2.2.2⟩
/-- and comes back: what is not scratch is as it was -/
theorem m_woke (h : Inv n P S T) {T1 T2 : MS} (h1 : LKm (up T 401 56 1) T1) (hF : FG T1 T2) (ht : TH (T 438) T2) : ∃ T3, m_Mo_takesBack T2 = some T3 ∧ LKm T T3 ∧ T3 401 57 = T2 401 57 := by
  obtain ⟨T3, q1, q2, q3, q4, q5⟩ := m_back ht
  refine ⟨T3, q1, ⟨fun c hc => ?_, fun k hk => ?_⟩, q5 57 (by decide)⟩
  · have hc' := hc
    simp only [List.mem_cons, List.not_mem_nil, or_false, not_or] at hc
    by_cases c8 : c = 438
    · subst c8; exact q2
    · rw [q4 c c8 hc.1, hF.1 c hc.1 c8 hc.2.2.1 hc.2.2.2.2.2.2.2.2.2.2.2, h1.1 c hc', up_c hc.1]
  · have hk' := hk
    simp only [List.mem_cons, List.not_mem_nil, or_false, not_or] at hk
    by_cases e : k = 56
    · subst e; rw [q3, h.wd.2.2.2.2.2]
    · rw [q5 k e, hF.2 k hk.1 hk.2.1 hk.2.2.1 hk.2.2.2.1 hk.2.2.2.2.1 hk.2.2.2.2.2.1 hk.2.2.2.2.2.2.1 hk.2.2.2.2.2.2.2.2, h1.2 k hk', up_k e]
theorem op_later (h : Inv n P S T) (hn : n < 1000) (a b d : Int) : OK2 n P (m_Ma_later a b d S) (m_Mo_later a b d T) := by
  have hP := h.pln
  have h1 := hP.1
  have h2 := hP.2.1
  have hw0 := h.w0
  rw [e_Ma_later, e_Mo_later]
  by_cases c : 0 ≤ a ∧ a < P 430 4
  · rw [c_isO1 h c rfl, m_isO1 hP h.rp c, Option.bind_some, Option.bind_some]
    dsimp only
    rw [if_neg (by decide), if_neg (by decide)]
    by_cases d2 : 0 ≤ b ∧ b < P 430 5
    · rw [c_isF1 h d2, m_isF1 hP h.rp d2, Option.bind_some, Option.bind_some]
      dsimp only
      rw [if_neg (by decide), if_neg (by decide)]
      by_cases d3 : 0 ≤ d ∧ d ≤ 60 ∧ T 438 0 + d ≤ 999
      · rw [c_comes1 h (by decide) d3, m_ahead1 hw0 (by decide) d3, Option.bind_some, Option.bind_some]
        dsimp only
        rw [if_neg (by decide), if_neg (by decide)]
        obtain ⟨o, rfl⟩ : ∃ o : Nat, a = (o : Int) := ⟨a.toNat, by omega⟩
        obtain ⟨f, rfl⟩ : ∃ f : Nat, b = (f : Int) := ⟨b.toNat, by omega⟩
        obtain ⟨N, rfl⟩ : ∃ N : Nat, d = (N : Int) := ⟨d.toNat, by omega⟩
        have hen := h.en.2
        obtain ⟨S', b1, b2, b3, b4, b5, b6⟩ := c_flowAhead hP h.wd.1 (N := N) (by omega) h.en.1 h.wd.2.2.1 (by omega)
        obtain ⟨T1, r1, r2, r3, r4, r5, r6⟩ := m_think h
        obtain ⟨T2, q1, q2, q3⟩ := m_oneGoes (f := f) (N := N) hP (by omega) r2 (by rw [r3]; exact h.wd.1) (by rw [r3]; omega)
        have hth := r4.fg q3 (fun i hi => by rw [q2, oneW_k _ _ _ (by omega) (Or.inr hi)])
        obtain ⟨T3, t1, t2, t3⟩ := m_woke h r5 q3 hth
        rw [b1, r1, Option.bind_some, Option.bind_some, q1, Option.bind_some, c_str_then b3 (by omega) (by omega), m_str (by omega) (by omega), Option.bind_some, Option.bind_some]
        dsimp only
        rw [t1, Option.bind_some, q2, r3, one_flow hP (by omega) h.wd.1 N (by omega) o (by omega)]
        have hq := h.th
        sorry
      · rw [c_comes0 h (by decide) d3, m_ahead0 hw0 (by decide) d3]
        exact ⟨_, S, T, rfl, rfl, h.same⟩
    · rw [c_isF0 h d2, m_isF0 hP h.rp d2]
      exact ⟨_, S, T, rfl, rfl, h.same⟩
  · rw [c_isO0 h c rfl, m_isO0 hP h.rp c]
    exact ⟨_, S, T, rfl, rfl, h.same⟩
end
