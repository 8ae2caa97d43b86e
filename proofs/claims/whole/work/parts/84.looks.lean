/-! THE CALLS THAT LOOK -/
section
variable {n : Nat} {P S T : MS}
theorem Inv.w0 (h : Inv n P S T) : 0 ≤ T 438 0 ∧ T 438 0 ≤ 999 := ⟨h.wd.1.1.1, h.wd.2.1⟩
theorem c_strN (h : Inv n P S T) {o f : Nat} (ho : o < 8) (hf : f < 4) : m_St_strength_now o f S = some (T 438 (25 + 4 * o + f), S) := c_str_now h.wd.2.2.1 ho hf
theorem op_feels (h : Inv n P S T) (a b : Int) : OK2 n P (m_Ma_feels a b S) (m_Mo_feels a b T) := by
  have hP := h.pln
  have h1 := hP.1
  have h2 := hP.2.1
  rw [e_Ma_feels, e_Mo_feels]
  by_cases c : 0 ≤ a ∧ a < P 430 4
  · rw [c_isO1 h c rfl, m_isO1 hP h.rp c, Option.bind_some, Option.bind_some]
    dsimp only
    rw [if_neg (by decide), if_neg (by decide)]
    by_cases d : 0 ≤ b ∧ b < P 430 5
    · obtain ⟨o, rfl⟩ : ∃ o : Nat, a = (o : Int) := ⟨a.toNat, by omega⟩
      obtain ⟨f, rfl⟩ : ∃ f : Nat, b = (f : Int) := ⟨b.toNat, by omega⟩
      rw [c_isF1 h d, m_isF1 hP h.rp d, Option.bind_some, Option.bind_some]
      dsimp only
      rw [if_neg (by decide), if_neg (by decide), c_strN h (by omega) (by omega), m_str (by omega) (by omega)]
      exact ⟨_, S, T, rfl, rfl, h.same⟩
    · rw [c_isF0 h d, m_isF0 hP h.rp d]
      exact ⟨_, S, T, rfl, rfl, h.same⟩
  · rw [c_isO0 h c rfl, m_isO0 hP h.rp c]
    exact ⟨_, S, T, rfl, rfl, h.same⟩
theorem m_ahead1 {a lo hi : Int} (h0 : 0 ≤ T 438 0 ∧ T 438 0 ≤ 999) (hb : 0 ≤ lo ∧ hi ≤ 1000) (c : lo ≤ a ∧ a ≤ hi ∧ T 438 0 + a ≤ 999) : m_Mo_isAhead a lo hi T = some (1, T) := by
  rw [e_Mo_isAhead, m_in1 ⟨c.1, c.2.1⟩, Option.bind_some]
  dsimp only
  rw [if_neg (by decide), wrN (by omega) (by omega), if_neg (by omega)]
theorem m_ahead0 {a lo hi : Int} (h0 : 0 ≤ T 438 0 ∧ T 438 0 ≤ 999) (hb : 0 ≤ lo ∧ hi ≤ 1000) (c : ¬ (lo ≤ a ∧ a ≤ hi ∧ T 438 0 + a ≤ 999)) : m_Mo_isAhead a lo hi T = some (0, T) := by
  rw [e_Mo_isAhead]
  by_cases d : lo ≤ a ∧ a ≤ hi
  · rw [m_in1 d, Option.bind_some]
    dsimp only
    rw [if_neg (by decide), wrN (by omega) (by omega), if_pos (by omega)]
  · rw [m_in0 d, Option.bind_some, if_pos rfl]
theorem c_comes1 (h : Inv n P S T) {a hi : Int} (hb : hi ≤ 1000) (c : 0 ≤ a ∧ a ≤ hi ∧ T 438 0 + a ≤ 999) : m_Ma_comes a hi S = some (1, S) := by
  have h0 := h.w0
  have e := h.wd.2.2.1.1
  rw [e_Ma_comes, if_neg (by omega), if_neg (by omega), e, wrN (by omega) (by omega), if_neg (by omega)]
theorem c_comes0 (h : Inv n P S T) {a hi : Int} (hb : hi ≤ 1000) (c : ¬ (0 ≤ a ∧ a ≤ hi ∧ T 438 0 + a ≤ 999)) : m_Ma_comes a hi S = some (0, S) := by
  have h0 := h.w0
  have e := h.wd.2.2.1.1
  rw [e_Ma_comes]
  by_cases c1 : a < 0
  · rw [if_pos c1]
  · rw [if_neg c1]
    by_cases c2 : hi < a
    · rw [if_pos c2]
    · rw [if_neg c2, e, wrN (by omega) (by omega), if_pos (by omega)]
/-- the reference goes into thought -/
theorem m_think (h : Inv n P S T) : ∃ T1, m_Mo_putsAside T = some T1 ∧ RP P T1 ∧ T1 438 = T 438 ∧ TH (T 438) T1 ∧ LKm (up T 401 56 1) T1 ∧ T1 401 57 = T 401 57 := by
  obtain ⟨T1, q1, q2, q3, q4, q5⟩ := m_aside T
  refine ⟨T1, q1, h.rp.fr (q4 430 (by decide) (by decide)) (q4 431 (by decide) (by decide)) (q4 432 (by decide) (by decide)) (q4 433 (by decide) (by decide)) (q4 435 (by decide) (by decide)) (q4 436 (by decide) (by decide)) (q4 437 (by decide) (by decide)), q4 438 (by decide) (by decide), ⟨q2, fun i _ => by rw [q4 438 (by decide) (by decide)], q3⟩, ⟨fun c hc => ?_, fun k hk => ?_⟩, q5 57 (by decide)⟩
  · simp only [List.mem_cons, List.not_mem_nil, or_false, not_or] at hc
    rw [q4 c hc.2.1 hc.1, up_c hc.1]
  · by_cases e : k = 56
    · subst e; rw [q3, up_s]
    · rw [q5 k e, up_k e]
theorem FG.lk {T T' : MS} (h : FG T T') (e : T' 438 = T 438) : LKm T T' := ⟨fun c hc => by
  simp only [List.mem_cons, List.not_mem_nil, or_false, not_or] at hc
  by_cases c8 : c = 438
  · subst c8; exact e
  · exact h.1 c hc.1 c8 hc.2.2.1 hc.2.2.2.2.2.2.2.2.2.2.2, fun k hk => by
  simp only [List.mem_cons, List.not_mem_nil, or_false, not_or] at hk
  exact h.2 k hk.1 hk.2.1 hk.2.2.1 hk.2.2.2.1 hk.2.2.2.2.1 hk.2.2.2.2.2.1 hk.2.2.2.2.2.2.1 hk.2.2.2.2.2.2.2.2⟩
/-- and comes back: what is not scratch is as it was -/
theorem m_woke (h : Inv n P S T) {T1 T2 : MS} (h1 : LKm (up T 401 56 1) T1) (hF : FG T1 T2) (ht : TH (T 438) T2) : ∃ T3, m_Mo_takesBack T2 = some T3 ∧ LKm T T3 ∧ T3 401 57 = T2 401 57 := by
  obtain ⟨T3, q1, q2, q3, q4, q5⟩ := m_back ht
  refine ⟨T3, q1, ⟨fun c hc => ?_, fun k hk => ?_⟩, q5 57 (by decide)⟩
  · have hc' := hc
    simp only [List.mem_cons, List.not_mem_nil, or_false, not_or] at hc
    by_cases c8 : c = 438
    · subst c8; exact q2
    · rw [q4 c c8 hc.1, hF.1 c hc.1 c8 hc.2.2.1 hc.2.2.2.2.2.2.2.2.2.2.2, h1.1 c hc', up_c hc.1]
  · have hk' := hk
    simp only [List.mem_cons, List.not_mem_nil, or_false, not_or] at hk
    by_cases e : k = 56
    · subst e; rw [q3, h.wd.2.2.2.2.2]
    · rw [q5 k e, hF.2 k hk.1 hk.2.1 hk.2.2.1 hk.2.2.2.1 hk.2.2.2.2.1 hk.2.2.2.2.2.1 hk.2.2.2.2.2.2.1 hk.2.2.2.2.2.2.2.2, h1.2 k hk', up_k e]
theorem op_later (h : Inv n P S T) (hn : n < 1000) (a b d : Int) : OK2 n P (m_Ma_later a b d S) (m_Mo_later a b d T) := by
  have hP := h.pln
  have h1 := hP.1
  have h2 := hP.2.1
  have hw0 := h.w0
  rw [e_Ma_later, e_Mo_later]
  by_cases c : 0 ≤ a ∧ a < P 430 4
  · rw [c_isO1 h c rfl, m_isO1 hP h.rp c, Option.bind_some, Option.bind_some]
    dsimp only
    rw [if_neg (by decide), if_neg (by decide)]
    by_cases d2 : 0 ≤ b ∧ b < P 430 5
    · rw [c_isF1 h d2, m_isF1 hP h.rp d2, Option.bind_some, Option.bind_some]
      dsimp only
      rw [if_neg (by decide), if_neg (by decide)]
      by_cases d3 : 0 ≤ d ∧ d ≤ 60 ∧ T 438 0 + d ≤ 999
      · rw [c_comes1 h (by decide) d3, m_ahead1 hw0 (by decide) d3, Option.bind_some, Option.bind_some]
        dsimp only
        rw [if_neg (by decide), if_neg (by decide)]
        obtain ⟨o, rfl⟩ : ∃ o : Nat, a = (o : Int) := ⟨a.toNat, by omega⟩
        obtain ⟨f, rfl⟩ : ∃ f : Nat, b = (f : Int) := ⟨b.toNat, by omega⟩
        obtain ⟨N, rfl⟩ : ∃ N : Nat, d = (N : Int) := ⟨d.toNat, by omega⟩
        have hen := h.en.2
        obtain ⟨S', b1, b2, b3, b4, b5, b6⟩ := c_flowAhead hP h.wd.1 (N := N) (by omega) h.en.1 h.wd.2.2.1 (by omega)
        obtain ⟨T1, r1, r2, r3, r4, r5, r6⟩ := m_think h
        obtain ⟨T2, q1, q2, q3, q4⟩ := m_oneGoes (f := f) (N := N) hP (by omega) r2 (by rw [r3]; exact h.wd.1) (by rw [r3]; omega)
        have hth := r4.fg q3 (fun i hi => by rw [q2, oneW_k _ _ _ (by omega) (Or.inr hi)])
        obtain ⟨T3, t1, t2, t3⟩ := m_woke h r5 q3 hth
        rw [b1, r1, Option.bind_some, Option.bind_some, q1, Option.bind_some, c_str_then b3 (by omega) (by omega), m_str (by omega) (by omega), Option.bind_some, Option.bind_some]
        dsimp only
        rw [t1, Option.bind_some, q2, r3, one_flow hP (by omega) h.wd.1 N (by omega) o (by omega)]
        obtain ⟨g1, g2⟩ := h.th
        exact ⟨_, S', T3, rfl, rfl, h.look b4.lk t2 b2 (by omega) (by rw [b6]; omega) (by rw [t3, q4, r6]; omega)⟩
      · rw [c_comes0 h (by decide) d3, m_ahead0 hw0 (by decide) d3]
        exact ⟨_, S, T, rfl, rfl, h.same⟩
    · rw [c_isF0 h d2, m_isF0 hP h.rp d2]
      exact ⟨_, S, T, rfl, rfl, h.same⟩
  · rw [c_isO0 h c rfl, m_isO0 hP h.rp c]
    exact ⟨_, S, T, rfl, rfl, h.same⟩
/-- the officer who feels it most: both search alike -/
theorem both_strongest {S' T2 : MS} {f : Nat} {w : Nat → Int} (hP : PLN P) (hE : CP P S') (hR : RP P T2) (hf : f < 4) (hS : SWn S' 27 w) (hm : ∀ o, o < 8 → T2 438 (25 + 4 * o + f) = w (25 + 4 * o + f)) : ∀ (n v : Nat) (b q : Int), v + n = nOf P →
    ∃ z, Ma_strongest_33 f b q v S' = some (z, S') ∧ Mo_strongest_40 f b q v T2 = (m_Mo_takesBack T2).bind fun p => some (z, p) := by
  have hO := nOf_le hP
  have hO1 := hP.1
  intro n
  induction n with
  | zero =>
    intro v b q hv
    rw [e_Ma_strongest_33, e_Mo_strongest_40, hE.1, if_neg (by unfold nOf at hv; omega), m_oMany, Option.bind_some]
    dsimp only
    rw [hR.n4, if_neg (by unfold nOf at hv; omega)]
    exact ⟨_, rfl, rfl⟩
  | succ n ih =>
    intro v b q hv
    rw [e_Ma_strongest_33, e_Mo_strongest_40, hE.1, if_pos (by unfold nOf at hv; omega), m_oMany, Option.bind_some]
    dsimp only
    rw [hR.n4, if_pos (by unfold nOf at hv; omega), c_str_then hS (by omega) hf, m_str (by omega) hf, Option.bind_some, Option.bind_some]
    dsimp only
    simp only [hm v (show v < 8 by omega), wrN (show -2147483648 ≤ (v : Int) + 1 by omega) (show (v : Int) + 1 < 2147483648 by omega)]
    by_cases c : q < w (25 + 4 * v + f)
    · rw [if_pos c, if_pos c, m_str (by omega) hf, Option.bind_some]
      dsimp only
      rw [hm v (by omega)]
      exact ih (v + 1) v (w (25 + 4 * v + f)) (by omega)
    · rw [if_neg c, if_neg c]
      exact ih (v + 1) b q (by omega)
theorem op_strongest (h : Inv n P S T) (hn : n < 1000) (b d : Int) : OK2 n P (m_Ma_strongest b d S) (m_Mo_strongest b d T) := by
  have hP := h.pln
  have h1 := hP.1
  have h2 := hP.2.1
  have hw0 := h.w0
  rw [e_Ma_strongest, e_Mo_strongest]
  by_cases d2 : 0 ≤ b ∧ b < P 430 5
  · rw [c_isF1 h d2, m_isF1 hP h.rp d2, Option.bind_some, Option.bind_some]
    dsimp only
    rw [if_neg (by decide), if_neg (by decide)]
    by_cases d3 : 0 ≤ d ∧ d ≤ 60 ∧ T 438 0 + d ≤ 999
    · rw [c_comes1 h (by decide) d3, m_ahead1 hw0 (by decide) d3, Option.bind_some, Option.bind_some]
      dsimp only
      rw [if_neg (by decide), if_neg (by decide)]
      obtain ⟨f, rfl⟩ : ∃ f : Nat, b = (f : Int) := ⟨b.toNat, by omega⟩
      obtain ⟨N, rfl⟩ : ∃ N : Nat, d = (N : Int) := ⟨d.toNat, by omega⟩
      have hen := h.en.2
      obtain ⟨S', b1, b2, b3, b4, b5, b6⟩ := c_flowAhead hP h.wd.1 (N := N) (by omega) h.en.1 h.wd.2.2.1 (by omega)
      obtain ⟨T1, r1, r2, r3, r4, r5, r6⟩ := m_think h
      obtain ⟨T2, q1, q2, q3, q4⟩ := m_oneGoes (f := f) (N := N) hP (by omega) r2 (by rw [r3]; exact h.wd.1) (by rw [r3]; omega)
      have hth := r4.fg q3 (fun i hi => by rw [q2, oneW_k _ _ _ (by omega) (Or.inr hi)])
      obtain ⟨T3, t1, t2, t3⟩ := m_woke h r5 q3 hth
      obtain ⟨z, z1, z2⟩ := both_strongest (f := f) (w := flowIt P N (T 438)) hP b2.1 (r2.fg q3) (by omega) b3 (fun o ho => by rw [q2, r3, one_flow hP (by omega) h.wd.1 N (by omega) o ho]) (nOf P) 0 (-1) 0 (by omega)
      rw [b1, r1, Option.bind_some, Option.bind_some, q1, Option.bind_some]
      obtain ⟨g1, g2⟩ := h.th
      refine ⟨z, S', T3, z1, ?_, h.look b4.lk t2 b2 (by omega) (by rw [b6]; omega) (by rw [t3, q4, r6]; omega)⟩
      refine z2.trans ?_
      rw [t1]
      rfl
    · rw [c_comes0 h (by decide) d3, m_ahead0 hw0 (by decide) d3]
      exact ⟨_, S, T, rfl, rfl, h.same⟩
  · rw [c_isF0 h d2, m_isF0 hP h.rp d2]
    exact ⟨_, S, T, rfl, rfl, h.same⟩
theorem op_acted (h : Inv n P S T) (hn : n < 1000) (d : Int) : OK2 n P (m_Ma_acted d S) (m_Mo_acted d T) := by
  have hP := h.pln
  have hw0 := h.w0
  rw [e_Ma_acted, e_Mo_acted]
  by_cases d3 : 0 ≤ d ∧ d ≤ 60 ∧ T 438 0 + d ≤ 999
  · rw [c_comes1 h (by decide) d3, m_ahead1 hw0 (by decide) d3, Option.bind_some, Option.bind_some]
    dsimp only
    rw [if_neg (by decide), if_neg (by decide)]
    obtain ⟨N, rfl⟩ : ∃ N : Nat, d = (N : Int) := ⟨d.toNat, by omega⟩
    have hen := h.en.2
    obtain ⟨g1, g2⟩ := h.th
    obtain ⟨S1, s1, s2, s3, s4, s5⟩ := c_copyW stc_then stc_now (by decide) S
    have hF : FW_then S S1 := ⟨fun c h1 h2 _ _ _ _ _ _ _ => s5 c h1 h2, fun k _ _ => by rw [s5 30 (by decide) (by decide)]⟩
    have e5 : S1 27 5 = S 27 5 := s3 5 (by decide)
    have e30 : S1 30 = S 30 := s5 30 (by decide) (by decide)
    obtain ⟨S', b1, b2, b3, b4, b5, b6, b7⟩ := c_days_then (th := 1) hP h.wd.1 (N := N) (by omega) (by omega) N 0 S1 (by omega) (h.en.1.fr (fun c h1 h2 => s5 c (by omega) (by omega))) (h.wd.2.2.1.copy s2 s4) (fun h => absurd h (by decide)) (by rw [e5]; omega) (by rw [e30]; omega)
    obtain ⟨T1, r1, r2, r3, r4, r5, r6⟩ := m_think h
    obtain ⟨T2, q1, q2, q3, q4, q5⟩ := m_daysG (th := 1) hP h.wd.1 h.wd.2.2.2.1.kn (N := N) (by omega) N 0 (up T1 401 57 0) (by omega) (r2.fg FG_57) (by rw [up_k (by decide)]; exact r4.2.2) (by rw [up_c (by decide), r3]; rfl) (by rw [up_s]; omega)
    have hFG : FG T1 T2 := FG_57.tr q5
    have hth := r4.fg hFG (fun i hi => by rw [q3, itT_th (by decide), flowIt_k _ _ (by omega) (Or.inr hi), r3])
    obtain ⟨T3, t1, t2, t3⟩ := m_woke h r5 hFG hth
    have hcb := cntT_b hP 1 (T 438) N
    have e57 : T2 401 57 = cntT P 1 N (T 438) := by rw [q4, up_s]; show 0 - 0 + _ = _; omega
    rw [s1, r1, Option.bind_some, Option.bind_some]
    have hd1 : m_Mo_daysGo N T1 = some T2 := by rw [e_Mo_daysGo]; exact q1
    rw [hd1, Option.bind_some, t1, Option.bind_some]
    refine ⟨cntT P 1 N (T 438), S', T3, b1, by rw [t3, e57], h.look (hF.lk.tr b6.lk) t2 b2 (by rw [e30] at b7; omega) (by rw [e5] at b5; omega) (by rw [t3, e57]; omega)⟩
  · rw [c_comes0 h (by decide) d3, m_ahead0 hw0 (by decide) d3]
    exact ⟨_, S, T, rfl, rfl, h.same⟩
/-! settled -/
theorem m_set1 : ∀ (n v : Nat) (T : MS), v + n = 32 → (∀ i, i < v → T 441 i = T 438 (25 + i)) → ∃ T', Mo_isSettled_2 v T = (m_Mo_dayGoes T').bind (fun p => Mo_isSettled_35 0 p) ∧ (∀ i, i < 32 → T' 441 i = T 438 (25 + i)) ∧ ∀ c, c ≠ 441 → T' c = T c := by
  intro n
  induction n with
  | zero =>
    intro v T hv hs
    rw [e_Mo_isSettled_2, if_neg (by omega)]
    exact ⟨T, rfl, fun i hi => hs i (by omega), fun _ _ => rfl⟩
  | succ n ih =>
    intro v T hv hs
    rw [e_Mo_isSettled_2, if_pos (by omega), wrN (z := 25 + (v : Int)) (by omega) (by omega), if_pos (by omega), if_pos (by omega), Int.toNat_natCast, wrN (by omega) (by omega), show (25 + (v : Int)).toNat = 25 + v by omega]
    obtain ⟨T', q1, q2, q3⟩ := ih (v + 1) (up T 441 v (T 438 (25 + v))) (by omega) (fun i hi => by
      rw [up_c (c' := 438) (by decide)]
      by_cases e : i = v
      · subst e; rw [up_s]
      · rw [up_k e]; exact hs i (by omega))
    exact ⟨T', q1, fun i hi => by rw [q2 i hi, up_c (by decide)], fun c hc => by rw [q3 c hc, up_c hc]⟩
theorem m_set2 (T : MS) : ∀ (n v : Nat), v + n = 32 → ∃ z, Mo_isSettled_35 v T = some (z, T) ∧ (z = 0 ∨ z = 1) ∧ (z = 1 ↔ ∀ i, v ≤ i → i < 32 → T 441 i = T 438 (25 + i)) := by
  intro n
  induction n with
  | zero =>
    intro v hv
    rw [e_Mo_isSettled_35, if_neg (by omega)]
    exact ⟨1, rfl, Or.inr rfl, ⟨fun _ i h1 h2 => by omega, fun _ => rfl⟩⟩
  | succ n ih =>
    intro v hv
    rw [e_Mo_isSettled_35, if_pos (by omega), if_pos (by omega), wrN (z := 25 + (v : Int)) (by omega) (by omega), if_pos (by omega), Int.toNat_natCast, wrN (by omega) (by omega), show (25 + (v : Int)).toNat = 25 + v by omega]
    by_cases c : T 441 v = T 438 (25 + v)
    · rw [if_pos c]
      obtain ⟨z, z1, z2, z3⟩ := ih (v + 1) (by omega)
      refine ⟨z, z1, z2, z3.trans ⟨fun g i h1 h2 => ?_, fun g i h1 h2 => g i (by omega) h2⟩⟩
      by_cases e : i = v
      · subst e; exact c
      · exact g i (by omega) h2
    · rw [if_neg c]
      exact ⟨0, rfl, Or.inl rfl, ⟨fun g => absurd g (by decide), fun g => absurd (g v (Nat.le_refl _) (by omega)) c⟩⟩
theorem m_set8 {z v : Int} (hz : z ≠ -1) (T : MS) : Mo_settles_8 z v T = (m_Mo_takesBack T).bind fun p => some (z, p) := by
  rw [e_Mo_settles_8]
  by_cases c1 : v < 60
  · rw [if_pos c1]
    by_cases c2 : T 438 0 < 999
    · rw [if_pos c2, if_neg hz]
    · rw [if_neg c2]
  · rw [if_neg c1]
theorem FG_441 {T T' : MS} (h : ∀ c, c ≠ 441 → T' c = T c) {m : Nat → Int} (ht : TH m T) : TH m T' := ⟨by rw [h 439 (by decide)]; exact ht.1, by rw [h 438 (by decide)]; exact ht.2.1, by rw [h 401 (by decide)]; exact ht.2.2⟩
/-- what thoughts of many days leave -/
def FT (T T' : MS) : Prop := (∀ c, c ≠ 401 → c ≠ 438 → c ≠ 440 → c ≠ 441 → c ≠ 475 → T' c = T c) ∧ ∀ k, k ≠ 48 → k ≠ 51 → k ≠ 52 → k ≠ 53 → k ≠ 54 → k ≠ 55 → k ≠ 57 → k ≠ 103 → T' 401 k = T 401 k
theorem FG.ft {T T' : MS} (h : FG T T') : FT T T' := ⟨fun c a1 a2 a3 _ a5 => h.1 c a1 a2 a3 a5, h.2⟩
theorem FT.tr {T T' T'' : MS} (h : FT T T') (g : FT T' T'') : FT T T'' := ⟨fun c h1 h2 h3 h4 h5 => (g.1 c h1 h2 h3 h4 h5).trans (h.1 c h1 h2 h3 h4 h5), fun k a1 a2 a3 a4 a5 a6 a7 a8 => (g.2 k a1 a2 a3 a4 a5 a6 a7 a8).trans (h.2 k a1 a2 a3 a4 a5 a6 a7 a8)⟩
theorem FT.rf (T : MS) : FT T T := ⟨fun _ _ _ _ _ _ => rfl, fun _ _ _ _ _ _ _ _ _ => rfl⟩
theorem m_wokeT (h : Inv n P S T) {T1 T2 : MS} (h1 : LKm (up T 401 56 1) T1) (hF : FT T1 T2) (ht : TH (T 438) T2) : ∃ T3, m_Mo_takesBack T2 = some T3 ∧ LKm T T3 ∧ T3 401 57 = T2 401 57 := by
  obtain ⟨T3, q1, q2, q3, q4, q5⟩ := m_back ht
  refine ⟨T3, q1, ⟨fun c hc => ?_, fun k hk => ?_⟩, q5 57 (by decide)⟩
  · have hc' := hc
    simp only [List.mem_cons, List.not_mem_nil, or_false, not_or] at hc
    by_cases c8 : c = 438
    · subst c8; exact q2
    · rw [q4 c c8 hc.1, hF.1 c hc.1 c8 hc.2.2.1 hc.2.2.2.1 hc.2.2.2.2.2.2.2.2.2.2.2, h1.1 c hc', up_c hc.1]
  · have hk' := hk
    simp only [List.mem_cons, List.not_mem_nil, or_false, not_or] at hk
    by_cases e : k = 56
    · subst e; rw [q3, h.wd.2.2.2.2.2]
    · rw [q5 k e, hF.2 k hk.1 hk.2.1 hk.2.2.1 hk.2.2.2.1 hk.2.2.2.2.1 hk.2.2.2.2.2.1 hk.2.2.2.2.2.2.1 hk.2.2.2.2.2.2.2.2, h1.2 k hk', up_k e]
theorem both_settles (h : Inv n P S T) {m : Nat → Int} (hm : m = T 438) : ∀ (j v : Nat) (S1 T1 : MS), v + j = 60 → EM P S1 → SWn S1 27 (flowIt P v m) → S1 30 3 + j < 15999999 → S1 24 0 = m 0 → RP P T1 → T1 438 = flowIt P v m → TH m T1 → (0 ≤ T1 401 57 ∧ T1 401 57 + 32 * j < 900000000) → (v = 0 ∨ m 0 + v ≤ 999) →
    ∃ z S2 T2, Ma_settles_7 v S1 = some (z, S2) ∧ Mo_settles_8 (-1) v T1 = (m_Mo_takesBack T2).bind (fun p => some (z, p)) ∧ EM P S2 ∧ FW_then S1 S2 ∧ S2 30 3 ≤ S1 30 3 + j ∧ S2 27 5 = S1 27 5 ∧ FT T1 T2 ∧ TH m T2 ∧ (0 ≤ T2 401 57 ∧ T2 401 57 ≤ T1 401 57 + 32 * j) := by
  have hP := h.pln
  have hw0 := h.w0
  have hO := nOf_le hP
  rw [← hm] at hw0
  intro j
  induction j with
  | zero =>
    intro v S1 T1 hv hE hS hB h24 hR hT ht hA hd
    rw [e_Ma_settles_7, if_neg (by omega), e_Mo_settles_8, if_neg (by omega)]
    exact ⟨_, S1, T1, rfl, rfl, hE, FW_then.rf S1, by omega, rfl, FT.rf T1, ht, by omega⟩
  | succ j ih =>
    intro v S1 T1 hv hE hS hB h24 hR hT ht hA hd
    have hd0 : T1 438 0 = m 0 + v := by rw [hT, flowIt_0]
    rw [e_Ma_settles_7, if_pos (by omega), e_Mo_settles_8, if_pos (by omega), hd0, wrN (z := (v : Int) + 1) (by omega) (by omega), e_Ma_comes, if_neg (by omega), if_neg (by omega), h24, wrN (by omega) (by omega)]
    by_cases c : m 0 + v < 999
    · rw [if_neg (by omega), Option.bind_some, if_pos c, if_pos rfl]
      dsimp only
      rw [if_neg (by decide)]
      have hW := flowIt_WV hP (m := m) (by rw [hm]; exact h.wd.1) v (by omega)
      obtain ⟨z, S2, a1, a2, a3, a4, a5, a6, a7, a8, a9⟩ := c_flow_then hP hW hE (by omega) hS
      obtain ⟨T2, b1, b2, b3⟩ := m_set1 32 0 T1 rfl (fun i hi => by omega)
      have ht2 := FG_441 b3 ht
      obtain ⟨T3, d1, d2, d3, d4, d5⟩ := m_dayGoes (T := T2) hP (hR.fr (b3 430 (by decide)) (b3 431 (by decide)) (b3 432 (by decide)) (b3 433 (by decide)) (b3 435 (by decide)) (b3 436 (by decide)) (b3 437 (by decide))) (by rw [b3 438 (by decide), hT]; exact hW) (by rw [b3 438 (by decide), hT]; unfold KN; rw [flowIt_k _ _ (by decide) (Or.inr (by decide)), hm]; exact h.wd.2.2.2.1.kn) (by rw [b3 401 (by decide)]; omega)
      obtain ⟨y, y1, y2, y3⟩ := m_set2 T3 32 0 rfl
      have e3 : T3 438 = flowIt P (v + 1) m := by rw [d3, ht2.2.2, kp2_th (by decide), b3 438 (by decide), hT]; rfl
      have e441 : T3 441 = T2 441 := d5.1 441 (by decide) (by decide) (by decide) (by decide)
      have hFT : FT T1 T3 := FT.tr ⟨fun c _ _ _ h4 _ => b3 c h4, fun k _ _ _ _ _ _ _ _ => by rw [b3 401 (by decide)]⟩ d5.ft
      have ht3 : TH m T3 := ht2.fg d5 (fun i hi => by rw [e3, flowIt_k _ _ (by omega) (Or.inr hi), b3 438 (by decide), hT, flowIt_k _ _ (by omega) (Or.inr hi)])
      have hbn := an2_b hP (goW P (T2 438)) (nOf P)
      have e57 : T3 401 57 = T1 401 57 + an2 P (goW P (T2 438)) (nOf P) := by rw [d4, b3 401 (by decide)]
      have hyz : y = 1 ↔ z = 0 := by
        rw [y3, a9]
        constructor
        · intro g o f ho hf
          have := g (4 * o + f) (by omega) (by omega)
          rw [e441, b2 _ (by omega), hT, e3, flowIt, dayP_k (by omega), show 25 + (4 * o + f) = 25 + 4 * o + f by omega] at this
          exact this.symm
        · intro g i _ hi
          have := g (i / 4) (i % 4) (by omega) (by omega)
          rw [e441, b2 _ hi, hT, e3, flowIt, dayP_k (by omega), show 25 + i = 25 + 4 * (i / 4) + i % 4 by omega]
          exact this.symm
      have hsett : m_Mo_isSettled T1 = some (y, T3) := by rw [e_Mo_isSettled]; refine b1.trans ?_; rw [d1, Option.bind_some]; exact y1
      rw [a1, Option.bind_some, hsett, Option.bind_some]
      dsimp only
      by_cases cz : z = 0
      · rw [if_pos cz, hyz.mpr cz, if_neg (by decide), m_set8 (by omega)]
        exact ⟨_, S2, T3, rfl, rfl, a3.em, a5, by omega, a8, hFT, ht3, by rw [e57]; omega⟩
      · have hy0 : y = 0 := by
          rcases y2 with g | g
          · exact g
          · exact absurd (hyz.mp g) cz
        rw [if_neg cz, hy0, if_pos rfl]
        obtain ⟨z', S3, T4, f1, f2, f3, f4, f5, f6, f7, f8, f9⟩ := ih (v + 1) S2 T3 (by omega) a3.em a4 (by omega) (by rw [a5.1 24 (by decide) (by decide) (by decide) (by decide) (by decide) (by decide) (by decide) (by decide) (by decide)]; exact h24) d2 e3 ht3 (by rw [e57]; omega) (Or.inr (by omega))
        exact ⟨z', S3, T4, f1, f2, f3, a5.tr f4, by omega, by rw [f6, a8], hFT.tr f7, f8, by rw [e57] at f9; omega⟩
    · rw [if_pos (by omega), Option.bind_some, if_neg c]
      dsimp only
      rw [if_pos rfl]
      exact ⟨_, S1, T1, rfl, rfl, hE, FW_then.rf S1, by omega, rfl, FT.rf T1, ht, by omega⟩
theorem op_settles (h : Inv n P S T) (hn : n < 1000) : OK2 n P (m_Ma_settles S) (m_Mo_settles T) := by
  have hP := h.pln
  have hw0 := h.w0
  have hen := h.en.2
  obtain ⟨g1, g2⟩ := h.th
  obtain ⟨S', b1, b2, b3, b4, b5, b6⟩ := c_flowAhead hP h.wd.1 (N := 0) (by omega) h.en.1 h.wd.2.2.1 (by omega)
  have b1 : m_Ma_flowAhead 0 S = some S' := b1
  obtain ⟨T1, r1, r2, r3, r4, r5, r6⟩ := m_think h
  obtain ⟨z, S2, T2, f1, f2, f3, f4, f5, f6, f7, f8, f9⟩ := both_settles h rfl 60 0 S' T1 rfl b2 b3 (by omega) (by rw [b4.1 24 (by decide) (by decide) (by decide) (by decide) (by decide) (by decide) (by decide) (by decide) (by decide)]; exact h.wd.2.2.1.1) r2 r3 r4 (by rw [r6]; omega) (Or.inl rfl)
  obtain ⟨T3, t1, t2, t3⟩ := m_wokeT h r5 f7 f8
  rw [e_Ma_settles, b1, Option.bind_some, e_Mo_settles, r1, Option.bind_some]
  refine ⟨z, S2, T3, f1, ?_, h.look (b4.lk.tr f4.lk) t2 f3 (by omega) (by rw [f6, b6]; omega) (by rw [t3]; omega)⟩
  refine f2.trans ?_
  rw [t1]
  rfl
end
