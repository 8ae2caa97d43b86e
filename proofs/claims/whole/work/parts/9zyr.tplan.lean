/-! MINISTRY: what was told is in use, both -/
section
variable {n : Nat} {P S T S' T' : MS}
def sw (c : Nat) : Nat := if 5 ≤ c ∧ c ≤ 21 then c + 26 else if 31 ≤ c ∧ c ≤ 47 then c - 26 else c
/-- the class's memory when the two plans have changed places -/
def swS (S : MS) : MS := up (up (fun c k => S (sw c) k) 22 2 0) 23 1 0
theorem swS_lo {c : Nat} (h : 5 ≤ c ∧ c ≤ 21) : swS S c = S (c + 26) := by
  unfold swS
  rw [up_c (by omega), up_c (by omega)]
  funext k
  show S (sw c) k = _
  unfold sw
  rw [if_pos h]
theorem swS_hi {c : Nat} (h : 31 ≤ c ∧ c ≤ 47) : swS S c = S (c - 26) := by
  unfold swS
  rw [up_c (by omega), up_c (by omega)]
  funext k
  show S (sw c) k = _
  unfold sw
  rw [if_neg (by omega), if_pos h]
theorem swS_o {c : Nat} (h : ¬(5 ≤ c ∧ c ≤ 23)) (h2 : ¬(31 ≤ c ∧ c ≤ 47)) : swS S c = S c := by
  unfold swS
  rw [up_c (by omega), up_c (by omega)]
  funext k
  show S (sw c) k = _
  unfold sw
  rw [if_neg (by omega), if_neg h2]
theorem seg_sh {f g : Nat → Int} {d : Nat} : ∀ (m a : Nat), (∀ i, a ≤ i → i < a + m → f (d + i) = g i) → seg f (d + a) m = seg g a m := by
  intro m
  induction m with
  | zero => intro a _; rfl
  | succ m ih =>
    intro a h
    show f (d + a) :: seg f (d + a + 1) m = g a :: seg g (a + 1) m
    rw [h a (by omega) (by omega), Nat.add_assoc, ih (a + 1) (fun i h1 h2 => h i (by omega) (by omega))]
theorem bt_all : ∀ M, M ≤ 12 → ∀ k, k < 12 → bt ((2 ^ M - 1 : Nat) : Int) k = if k < M then 1 else 0 := by decide
theorem min_ok (h : Inv n P S T) (hn : n < 1000) {S1 T1 : MS} (r : RDs S T S1 T1) (hp : PT S1 T1) (h5 : T1 401 5 = 0 ∧ T1 401 6 = -1) (h8 : S1 2 8 = 0 ∧ S1 2 9 = -1) (hr : m_Cl_readAll_s S = some (1, S1)) : ∃ z S4 T', call 126 [vr 1] (S, CD) = some (some (.inl z), (S4, CE)) ∧ Mo_ministry_126 T1 = some (z, T') ∧ Inv (n + 1) T' (swS S4) T' := by
  obtain ⟨r1, r2, r3, r4, r5, r6, r7⟩ := r
  obtain ⟨⟨o1, o2, o3, o4, o5⟩, ⟨f1, f2, f3⟩, ⟨c1, c2, c3⟩, ⟨p1, p2, p3⟩, ⟨d1, d2, d3⟩, ⟨l1, l2, l3, l4, l5, l6, -⟩, ⟨n1, n2, n3⟩, -, -⟩ := hp
  obtain ⟨N, hN⟩ : ∃ N : Nat, T1 401 46 = (N : Int) := ⟨(T1 401 46).toNat, by omega⟩
  obtain ⟨M, hM⟩ : ∃ M : Nat, S1 5 2 = (M : Int) := ⟨(S1 5 2).toNat, by omega⟩
  obtain ⟨S4, a1, a2, ⟨a3, a4⟩, ⟨a5, a6⟩, ⟨a7, a8, a9, a10, a11⟩, ⟨a12, a13⟩, a14, a15, a16⟩ := min_go hr hM (by omega)
  obtain ⟨T', b1, b2, b3, b4, b5, b6, b7, b8, b9, b10, b11, b12, b13⟩ := m_stands0 (T := T1) (N := N) (M := M) (by omega) (by omega) h5.1 hN (by rw [← c1]; exact hM)
  rw [n1] at a1
  refine ⟨T1 401 47, S4, T', a1, b1, ?_⟩
  -- the class's cells
  have q31 : swS S4 31 = S1 5 := (swS_hi (by decide)).trans (a2 5 (by decide))
  have q32 : swS S4 32 = S1 6 := (swS_hi (by decide)).trans (a2 6 (by decide))
  have q33 : swS S4 33 = S1 7 := (swS_hi (by decide)).trans (a2 7 (by decide))
  have q34 : swS S4 34 = S1 8 := (swS_hi (by decide)).trans (a2 8 (by decide))
  have q35 : swS S4 35 = S1 9 := (swS_hi (by decide)).trans (a2 9 (by decide))
  have q36 : swS S4 36 = S1 10 := (swS_hi (by decide)).trans (a2 10 (by decide))
  have q37 : swS S4 37 = S1 11 := (swS_hi (by decide)).trans (a2 11 (by decide))
  have q38 : swS S4 38 = S1 12 := (swS_hi (by decide)).trans (a2 12 (by decide))
  have q40 : swS S4 40 = S1 14 := (swS_hi (by decide)).trans (a2 14 (by decide))
  have q41 : swS S4 41 = S1 15 := (swS_hi (by decide)).trans (a2 15 (by decide))
  have q43 : swS S4 43 = S 17 := (swS_hi (by decide)).trans ((a2 17 (by decide)).trans (r1 17 (by decide)))
  have q44 : swS S4 44 = S 18 := (swS_hi (by decide)).trans ((a2 18 (by decide)).trans (r1 18 (by decide)))
  have q46 : swS S4 46 = S1 20 := (swS_hi (by decide)).trans (a2 20 (by decide))
  have q47 : swS S4 47 = S1 21 := (swS_hi (by decide)).trans (a2 21 (by decide))
  have q17 : swS S4 17 = S 43 := (swS_lo (by decide)).trans ((a2 43 (by decide)).trans (r1 43 (by decide)))
  have q18 : swS S4 18 = S 44 := (swS_lo (by decide)).trans ((a2 44 (by decide)).trans (r1 44 (by decide)))
  have q48 : swS S4 48 = S 48 := (swS_o (by decide) (by decide)).trans ((a2 48 (by decide)).trans (r1 48 (by decide)))
  have q49 : swS S4 49 = S 49 := (swS_o (by decide) (by decide)).trans ((a2 49 (by decide)).trans (r1 49 (by decide)))
  have qo : ∀ c, c = 1 ∨ 51 < c → c ≠ 118 → swS S4 c = S c := fun c hc h118 => (swS_o (by omega) (by omega)).trans ((a2 c (by simp only [List.mem_cons, List.not_mem_nil, or_false, not_or]; omega)).trans (r1 c (by omega)))
  have q2 : swS S4 2 = S4 2 := swS_o (by decide) (by decide)
  have q24 : swS S4 24 = S4 24 := swS_o (by decide) (by decide)
  have q25 : swS S4 25 = S4 25 := swS_o (by decide) (by decide)
  have q27 : swS S4 27 = S 27 := (swS_o (by decide) (by decide)).trans ((a2 27 (by decide)).trans (r1 27 (by decide)))
  have q30 : swS S4 30 = S4 30 := swS_o (by decide) (by decide)
  have q51 : swS S4 51 = S4 51 := swS_o (by decide) (by decide)
  have q118 : swS S4 118 = S4 118 := swS_o (by decide) (by decide)
  have s30 : S1 30 = S 30 := r1 30 (by decide)
  have hen := h.en
  have e303 : S4 30 3 = S 30 3 + 1 := by rw [a5, s30, wrN (by have := hen.1.2.1.1; omega) (by have := hen.2; omega)]
  -- the reference's cells
  have t4 : T' 430 4 = S1 5 0 := (b2 0 (by decide)).trans o1.symm
  have t5 : T' 430 5 = S1 5 1 := (b2 1 (by decide)).trans f1.symm
  have t6 : T' 430 6 = S1 5 2 := (b2 2 (by decide)).trans c1.symm
  have t7 : T' 430 7 = S1 5 4 := (b2 3 (by decide)).trans p1.symm
  have eO : nOf T' = (S1 5 0).toNat := by unfold nOf; rw [t4]
  have eF : nFe T' = (S1 5 1).toNat := by unfold nFe; rw [t5]
  have eC : nCa T' = M := by unfold nCa; rw [t6, hM, Int.toNat_natCast]
  have tw : ∀ k, T' 401 k = T1 401 k ∨ k ∈ [7, 8, 64, 71] := fun k => by
    by_cases hk : k ∈ [7, 8, 64, 71]
    · exact Or.inr hk
    · exact Or.inl (b9 k hk)
  have tz : ∀ k, k ∈ [56, 57, 72, 73, 107] → T' 401 k = T 401 k := fun k hk => by
    simp only [List.mem_cons, List.not_mem_nil, or_false] at hk
    rw [b9 k (by simp only [List.mem_cons, List.not_mem_nil, or_false, not_or]; omega)]
    exact r4 k (by simp only [List.mem_cons, List.not_mem_nil, or_false]; omega)
  have tc : ∀ c, (401 < c ∧ c < 430) ∨ (438 < c ∧ c ≠ 473 ∧ c ≠ 474) → T' c = T c := fun c hc => (b8 c (by simp only [List.mem_cons, List.not_mem_nil, or_false, not_or]; omega)).trans (r2 c (by omega))
  have hlaw : ∀ w, w < 3 → lawC T' w = lawT T1 w := fun w hw => by
    unfold lawC lawT
    rw [(b3 w hw).1, (b3 w hw).2]
    by_cases c : T1 435 w = -1
    · rw [if_pos c, if_pos c]
    · rw [if_neg c, if_neg c]
      have := (l4 w hw).2.1
      exact seg_sh _ _ (fun i h1 h2 => b6 i (by omega))
  have h432 : ∀ k, k < 16 → 0 ≤ T' 432 k ∧ T' 432 k ≤ 9 := fun k hk => by rw [(b4 k hk).2.2]; exact o5 k hk
  have hcar : ∀ k, k < 12 → T' 433 (36 + 3 * k) = T1 433 (3 * k) ∧ T' 433 (37 + 3 * k) = T1 433 (3 * k + 1) ∧ T' 433 (38 + 3 * k) = T1 433 (3 * k + 2) := fun k hk => ⟨b5 (3 * k) (by omega), by rw [show 37 + 3 * k = 36 + (3 * k + 1) by omega]; exact b5 (3 * k + 1) (by omega), by rw [show 38 + 3 * k = 36 + (3 * k + 2) by omega]; exact b5 (3 * k + 2) (by omega)⟩
  have hpl : PLN T' := by
    refine ⟨by rw [t4]; exact o2, by rw [t5]; exact f2, by rw [t6]; exact c2, by rw [t7]; exact ⟨p2, p3⟩, fun k h1 h2 => ?_, fun k hk => ?_, fun w hw => ?_, fun w hw => ?_⟩
    · have := (b4 (k - 16) (by omega)).2.1
      rw [show 16 + (k - 16) = k by omega] at this
      rw [this]; exact o5 _ (by omega)
    · rw [eC] at hk
      obtain ⟨x1, x2, x3⟩ := hcar k (by omega)
      obtain ⟨⟨y1, y2, y3⟩, y4, y5, y6, y7⟩ := c3 k (by omega)
      rw [x1, x2, x3, ← y1, ← y2, ← y3, t4]
      exact ⟨y4, y5, y6, y7⟩
    · rw [hlaw w hw]; exact (l4 w hw).2.2.1
    · rw [(b3 w hw).1, (b3 w hw).2]
      have := (l4 w hw).2.1
      omega
  have hCP : CP T' (swS S4) := by
    refine ⟨by rw [q31, t4], by rw [q31, t5], by rw [q31, t6], by rw [q31, t7], fun o ho => ?_, fun k hk => ?_, fun w hw => ?_, fun hz w hw => ?_, by rw [q40, l2]; omega⟩
    · rw [eO] at ho
      rw [q33, q34, (o3 o (by omega)).2.1, (o3 o (by omega)).2.2, show 16 + 2 * o = 16 + (2 * o) from rfl, (b4 (2 * o) (by omega)).2.1, show 17 + 2 * o = 16 + (2 * o + 1) by omega, (b4 (2 * o + 1) (by omega)).2.1]
      exact ⟨rfl, rfl⟩
    · rw [eC] at hk
      obtain ⟨x1, x2, x3⟩ := hcar k (by omega)
      obtain ⟨⟨y1, y2, y3⟩, -⟩ := c3 k (by omega)
      rw [q36, q37, q38, x1, x2, x3]
      exact ⟨y1, y2, y3⟩
    · obtain ⟨-, -, -, a, z1, z2, z3, z4⟩ := l4 w hw
      rw [hlaw w hw, q46, q47, q40, q41]
      exact ⟨a, z1, z2, by omega, z3, z4⟩
    · rw [q31] at hz
      rw [hlaw w (by omega)]
      exact l6 hz w hw
  have hCK : CK T' (swS S4) := by
    obtain ⟨k1, k2, k3⟩ := hen.1.2.1
    have hb := hen.2
    refine ⟨by rw [q30, e303]; omega, fun j hj => ?_, fun j hj => ?_⟩
    · have := k2 j hj
      rw [q48, q30, e303]
      exact ⟨this.1, by omega, fun hx => absurd hx (by omega)⟩
    · have := k3 j hj
      rw [q49, q30, e303]
      exact ⟨this.1, by omega, fun hx => absurd hx (by omega)⟩
  have hCV : CV (swS S4) := ⟨by rw [q43]; exact h.mk0.2.1.1, by rw [q44]; exact h.mk0.2.1.2.1⟩
  have hw : ∀ k, k < 218 → T' 438 k = wIni T1 M k := b7
  have w0 : T' 438 0 = 0 := by rw [hw 0 (by decide)]; unfold wIni; rw [if_neg (by decide), if_neg (by omega)]
  have wi : ∀ k, k < 12 → T' 438 (1 + 2 * k) = (if k < M then 1 else 0) ∧ T' 438 (2 + 2 * k) = 0 := fun k hk => by
    rw [hw _ (by omega), hw _ (by omega)]
    unfold wIni
    rw [if_neg (by omega), if_neg (show ¬(25 ≤ 2 + 2 * k ∧ 2 + 2 * k < 57) by omega), if_neg (show ¬((2 + 2 * k) % 2 = 1 ∧ 2 + 2 * k < 1 + 2 * M) by omega)]
    refine ⟨?_, rfl⟩
    by_cases c : k < M
    · rw [if_pos (by omega), if_pos c]
    · rw [if_neg (by omega), if_neg c]
  have wst : ∀ i, i < 32 → T' 438 (25 + i) = T1 434 i := fun i hi => by
    rw [hw _ (by omega)]
    unfold wIni
    rw [if_pos (by omega), show 25 + i - 25 = i by omega]
  have w57 : T' 438 57 = 0 := by rw [hw 57 (by decide)]; unfold wIni; rw [if_neg (by decide), if_neg (by omega)]
  have hWV : WV T' (T' 438) := by
    refine ⟨by rw [w0]; decide, fun k hk => ?_, fun i h1 h2 => ?_, fun o f ho hf hx => ?_, fun k h1 h2 => ?_⟩
    · rw [(wi k hk).1, (wi k hk).2]
      exact ⟨by by_cases c : k < M; exact Or.inr (if_pos c); exact Or.inl (if_neg c), Or.inl rfl⟩
    · have := wst (i - 25) (by omega)
      rw [show 25 + (i - 25) = i by omega] at this
      rw [this]; exact d2 _ (by omega)
    · rw [show 25 + 4 * o + f = 25 + (4 * o + f) by omega, wst _ (by omega)]
      exact d3 o f ho hf (by rw [eO, eF] at hx; omega)
    · rw [eC] at h1
      rw [(wi k h2).1, (wi k h2).2, if_neg (by omega)]
      exact ⟨rfl, rfl⟩
  have hSW : SWn (swS S4) 24 (T' 438) := by
    have hp : ∀ M, M ≤ 12 → 1 ≤ 2 ^ M ∧ 2 ^ M ≤ 4096 := by decide
    have := hp M (by omega)
    refine ⟨by rw [q24, a7, w0], by rw [q24, a8]; omega, by rw [q24, a9]; decide, fun k hk => ⟨?_, ?_⟩, fun f hf => ?_⟩
    · rw [q24, a8, (wi k hk).1]; exact bt_all M (by omega) k hk
    · rw [q24, a9, (wi k hk).2]; unfold bt; rw [Int.zero_ediv]; rfl
    · rw [show 24 + 1 = 25 from rfl, q25, a11 f hf]
      refine ⟨(d1 f hf).1, fun o ho => ?_⟩
      rw [show 25 + 4 * o + f = 25 + (4 * o + f) by omega, wst _ (by omega)]
      exact (d1 f hf).2 o ho
  have hKR : KR (swS S4 24 5) (swS S4 26) (T' 438) := by
    refine ⟨by rw [q24, a10]; decide, by rw [q24, a10, w57]; rfl, fun i hi => ?_⟩
    rw [w57] at hi; omega
  have ht : ∀ q ∈ wdM, (404 ≤ q.1 ∧ q.1 ≤ 429) ∨ (451 ≤ q.1 ∧ q.1 ≤ 472) := by decide
  refine Inv.mk1 hpl ⟨fun _ _ _ => rfl, fun _ _ _ => rfl, fun _ _ _ => rfl, fun _ _ _ => rfl, fun _ _ _ => ⟨rfl, rfl⟩, fun _ _ _ => rfl⟩ ⟨fun o ho => ?_, fun f hf => ?_⟩ ⟨?_, ?_, fun k hk => ?_⟩ ⟨?_, ?_⟩ (h.rf.fr (qo 134 (by decide) (by decide)) (tc 403 (by decide)))
    (h.sd.fr (by rw [qo 1 (by decide) (by decide)]) (tz 73 (by decide))) (h.im.fr (by rw [qo 1 (by decide) (by decide)]) (qo 133 (by decide) (by decide)) (tz 107 (by decide)) (tc 476 (by decide)))
    ⟨⟨rfl, rfl, by rw [qo 132 (by decide) (by decide)]; exact h.mk0.1.2.2⟩, ⟨by rw [q17]; exact hen.1.2.2.1, by rw [q18]; exact hen.1.2.2.2, h432⟩, fun q hq k hk => by
      have := ht q hq
      rw [tc q.1 (by omega)]
      exact h.mk0.2.2 q hq k hk⟩
    ⟨hWV, by rw [w0]; decide, hSW, hKR, by rw [q24, a10]; omega, by rw [tz 56 (by decide)]; exact h.wd.2.2.2.2.2⟩
    ⟨by rw [q27]; have := h.th.1; omega, by rw [tz 57 (by decide)]; have := h.th.2; omega⟩ ⟨⟨hCP, hCK, hCV⟩, by rw [q30, e303]; have := hen.2; omega⟩
    ⟨by rw [q51, a13, b13], by rw [q51, a13]; decide, by rw [q51, a12]; decide, by rw [tz 72 (by decide)]; exact h.hi.2.2.2.1, fun i hi => ?_⟩
    ⟨⟨by rw [q118, a14, b12], by rw [q118, a14]; decide, fun i hi => ?_⟩, Or.inl (by rw [q118, a15]), Or.inl (by rw [q118, a16]), fun hx => ?_, fun hx => ?_⟩
  · rw [eO] at ho
    rw [q32, (b4 o (by omega)).1]
    exact (o3 o (by omega)).1
  · rw [eF] at hf
    rw [q35, show 24 + f = 16 + (8 + f) by omega, (b4 (8 + f) (by omega)).1]
    exact f3 f (by omega)
  · rw [q2, a3, b9 1 (by decide)]; exact r3.symm
  · rw [q2, a3]; decide
  · rw [q2, a3] at hk; omega
  · rw [q2, a4 8 (by decide), h8.1, b10, h5.1]
  · rw [q2, a4 9 (by decide), h8.2, b11, h5.2]
  · rw [q51, a13] at hi; omega
  · rw [q118, a14] at hi; omega
  · rw [q118, a15] at hx; exact absurd hx (by decide)
  · rw [q118, a16] at hx; exact absurd hx (by decide)
/-- what MINISTRY comes to -/
theorem op_ministry (h : Inv n P S T) (hn : n < 1000) : ∃ z T', m_Mo_ministry T = some (z, T') ∧ ((∃ S', call 126 [vr 1] (S, CD) = some (some (.inl z), (S', CD)) ∧ Inv (n + 1) P S' T') ∨ ∃ S' P', call 126 [vr 1] (S, CD) = some (some (.inl z), (S', CE)) ∧ Inv (n + 1) P' (swS S') T') := by
  obtain ⟨S2, T2, e1, e2, e3, ⟨f0, -, f1, -⟩, g1, g2, g3, g4, g5⟩ := two_read h
  rw [← e1] at e3
  rcases e3 with ⟨S1, T1, x1, x2, x3, x4, x5, x6, x7⟩ | ⟨S1, T1, x1, x2, x3, x6, x7⟩
  · have r := RDs.mk h f0 f1 g1 g2 g3 g4 g5 x6 x7
    obtain ⟨z, S4, T', y1, y2, y3⟩ := min_ok h hn r x5 x3 x4 x1
    exact ⟨z, T', by rw [e2, x2, y2], Or.inr ⟨S4, T', y1, y3⟩⟩
  · have r := RDs.mk h f0 f1 g1 g2 g3 g4 g5 x6 x7
    obtain ⟨z, S', T', y1, y2, y3⟩ := min_bad h hn r x3
    rw [c_refuse1 h hn r, Option.bind_some] at y1
    injection y1 with y1
    injection y1 with y4 y5
    refine ⟨z, T', by rw [e2, x2, y2], Or.inl ⟨S', ?_, y3⟩⟩
    have := min_no x1 (c_refuse1 h hn r)
    rw [← y4, ← y5]
    exact this
end
