/-! chance -/
section
variable {n : Nat} {P S T : MS}
theorem bandL_31 {z : Int} (h0 : 0 ≤ z) (h1 : z < 9223372036854775808) : bandL z 2147483647 = z % 2147483648 := by
  rw [bandL_eq]
  show (BitVec.ofInt 64 z &&& BitVec.ofInt 64 2147483647).toInt = _
  have e : (BitVec.ofInt 64 z &&& BitVec.ofInt 64 2147483647).toNat = z.toNat % 2 ^ 31 := by
    rw [BitVec.toNat_and, bv64 h0 (by omega), bv64 (z := 2147483647) (by decide) (by decide), show (2147483647 : Int).toNat = 2 ^ 31 - 1 from rfl, Nat.and_two_pow_sub_one_eq_mod]
  rw [bvI64 _ (by rw [e]; omega), e]
  omega
def lcg (s : Int) : Int := (1103515245 * s + 12345) % 2147483648
theorem lcg_b (s : Int) : 0 ≤ lcg s ∧ lcg s < 2147483648 := by unfold lcg; omega
def drw (s a : Int) : Int := (lcg s / 64) % a
theorem drw_b (s : Int) {a : Int} (h : 0 < a) : 0 ≤ drw s a ∧ drw s a < a := ⟨Int.emod_nonneg _ (by omega), Int.emod_lt_of_pos _ h⟩
theorem c_draw {a : Int} (hs : 0 ≤ S 1 13 ∧ S 1 13 < 2147483648) (ha : 0 < a) : m_Ma_draw a S = some (drw (S 1 13) a, up S 1 13 (lcg (S 1 13))) := by
  have hb := lcg_b (S 1 13)
  have e1 : wr (bandL (wl ((wl (1103515245 * (S 1 13))) + 12345)) 2147483647) = lcg (S 1 13) := by
    rw [wlN (z := 1103515245 * S 1 13) (by omega) (by omega), wlN (by omega) (by omega), bandL_31 (by omega) (by omega)]
    exact wrN (by omega) (by exact hb.2)
  rw [e_Ma_draw, if_pos ha, if_neg (by omega), e1, Int.tdiv_eq_ediv_of_nonneg hb.1, wrN (z := lcg (S 1 13) / 64) (by omega) (by omega), Int.tmod_eq_emod_of_nonneg (by omega)]
  rfl
theorem m_draw {a : Int} (hs : 0 ≤ T 401 73 ∧ T 401 73 < 2147483648) (ha : 0 < a ∧ a < 2147483648) : m_Mo_drawOf a T = some (drw (T 401 73) a, up T 401 73 (lcg (T 401 73))) := by
  have hb := lcg_b (T 401 73)
  have hd := drw_b (T 401 73) ha.1
  have e1 : (wl ((wl (1103515245 * (T 401 73))) + 12345)).tmod 2147483648 = lcg (T 401 73) := by
    rw [wlN (z := 1103515245 * T 401 73) (by omega) (by omega), wlN (by omega) (by omega), Int.tmod_eq_emod_of_nonneg (by omega)]
    rfl
  rw [e_Mo_drawOf, if_neg (by omega), e1, Int.tdiv_eq_ediv_of_nonneg hb.1, wlN (z := lcg (T 401 73) / 64) (by omega) (by omega), Int.tmod_eq_emod_of_nonneg (by omega)]
  show some (wr (drw (T 401 73) a), _) = _
  rw [wrN (by omega) (by omega)]
def CH (P S T : MS) : Prop := EM P S ∧ WV P (T 438) ∧ SWn S 24 (T 438) ∧ KR (S 24 5) (S 26) (T 438) ∧ RP P T ∧ SDr S T ∧ T 401 56 = 0
theorem CH.sd (h : CH P S T) {s : Int} (hs : 0 ≤ s ∧ s < 2147483648) : CH P (up S 1 13 s) (up T 401 73 s) := by
  obtain ⟨h1, h2, h3, h4, h5, h6, h7⟩ := h
  refine ⟨h1.fr (fun c c1 c2 => up_c (by omega)), by rw [up_c (by decide)]; exact h2, by rw [up_c (by decide)]; exact h3.fr (by rw [up_c (by decide)]) (by rw [up_c (by decide)]) (by rw [up_c (by decide)]) (up_c (by decide)), by rw [up_c (by decide), up_c (by decide), up_c (by decide)]; exact h4, h5.fr (up_c (by decide)) (up_c (by decide)) (up_c (by decide)) (up_c (by decide)) (up_c (by decide)) (up_c (by decide)) (up_c (by decide)), ⟨by rw [up_s, up_s], by rw [up_s]; exact hs⟩, by rw [up_k (by decide)]; exact h7⟩
theorem flip1 {x : Int} (h : x = 0 ∨ x = 1) : bxor x 1 = 1 - x := by
  rcases h with rfl | rfl
  · rw [bxor_nn (by decide) (by decide) (by decide) (by decide)]; rfl
  · rw [bxor_nn (by decide) (by decide) (by decide) (by decide)]; rfl
theorem CH.fl (h : CH P S T) (hP : PLN P) {k : Nat} (hk : k < nCa P) : CH P (up S 24 2 (bxor (S 24 2) (shl 1 (k : Int)))) (up T 438 (2 + 2 * k) (bxor (T 438 (2 + 2 * k)) 1)) := by
  have h12 := nCa_le hP
  obtain ⟨h1, h2, h3, h4, h5, h6, h7⟩ := h
  obtain ⟨s1, s2, s3, s4, s5⟩ := h3
  obtain ⟨v1, v2, v3, v4, v5⟩ := h2
  obtain ⟨f1, f2⟩ := bt_flip (x := S 24 2) (k := k) s3 (by omega)
  have hfl := flip1 (v2 k (by omega)).2
  have hu : up T 438 (2 + 2 * k) (bxor (T 438 (2 + 2 * k)) 1) 438 = upW (T 438) (2 + 2 * k) (1 - T 438 (2 + 2 * k)) := by
    rw [hfl]
    funext i
    by_cases e : i = 2 + 2 * k
    · subst e; rw [up_s, upW_s]
    · rw [up_k e, upW_k e]
  refine ⟨h1.fr (fun c c1 c2 => up_c (by omega)), ?_, ?_, ?_, h5.fr (up_c (by decide)) (up_c (by decide)) (up_c (by decide)) (up_c (by decide)) (up_c (by decide)) (up_c (by decide)) (up_c (by decide)), h6.fr (by rw [up_c (by decide)]) (by rw [up_c (by decide)]), by rw [up_c (by decide)]; exact h7⟩
  · rw [hu]
    refine ⟨by rw [upW_k (by omega)]; exact v1, fun q hq => ⟨?_, ?_⟩, fun i i1 i2 => by rw [upW_k (by omega)]; exact v3 i i1 i2, fun o' f' ho' hf' hc => by rw [upW_k (by omega)]; exact v4 o' f' ho' hf' hc, fun q q1 q2 => by rw [upW_k (by omega), upW_k (by omega)]; exact v5 q q1 q2⟩
    · rw [upW_k (by omega)]; exact (v2 q hq).1
    · by_cases e : q = k
      · subst e; rw [upW_s]; have := (v2 q hq).2; omega
      · rw [upW_k (by omega)]; exact (v2 q hq).2
  · rw [hu]
    refine ⟨by rw [up_k (by decide), upW_k (by omega)]; exact s1, by rw [up_k (by decide)]; exact s2, by rw [up_s]; exact f1, fun q hq => ⟨?_, ?_⟩, fun f' hf' => ?_⟩
    · rw [up_k (by decide), upW_k (by omega)]; exact (s4 q hq).1
    · rw [up_s, f2 q hq]
      by_cases e : q = k
      · subst e; rw [if_pos rfl, upW_s, (s4 q hq).2]
      · rw [if_neg e, upW_k (by omega)]; exact (s4 q hq).2
    · show (0 ≤ up S 24 2 _ 25 f' ∧ up S 24 2 _ 25 f' < _) ∧ ∀ o', o' < 8 → dg (up S 24 2 _ 25 f') o' = _
      rw [up_c (by decide)]
      refine ⟨(s5 f' hf').1, fun o' ho' => ?_⟩
      rw [upW_k (by omega)]
      exact (s5 f' hf').2 o' ho'
  · rw [hu, up_k (by decide), up_c (by decide)]
    exact h4.lo57 (fun i hi => upW_k (by omega))
theorem wr_succ {v N : Nat} (h : v < N) (hN : N ≤ 1000) : wr ((v : Int) + 1) = ((v + 1 : Nat) : Int) := by rw [wrN (by omega) (by omega)]; rfl
theorem both_slip (hP : PLN P) (h : CH P S T) {N c v : Nat} (hv : v < N) (hc : c ≤ v) (hN : N ≤ 1000) : ∃ (b : Nat) (S' T' : MS), Ma_chance_29 N c v S = ((m_En_wholeDay_now S').bind fun p => Ma_chance_29 N (b : Int) ((v + 1 : Nat) : Int) p.2) ∧ Mo_chance_25 N c v T = ((m_Mo_dayGoes T').bind fun p => Mo_chance_25 N (b : Int) ((v + 1 : Nat) : Int) p) ∧ b ≤ c + 1 ∧ CH P S' T' ∧ FA S S' ∧ FB T T' ∧ T' 438 0 = T 438 0 ∧ S' 30 = S 30 ∧ S' 24 5 = S 24 5 ∧ T' 401 57 = T 401 57 := by
  have h12 := nCa_le hP
  have h3 := hP.2.2.1
  obtain ⟨sd1, sd2, sd3⟩ := h.2.2.2.2.2.1
  have cp := h.1.1
  have rp := h.2.2.2.2.1
  have l1 := lcg_b (S 1 13)
  have q1 : CH P (up S 1 13 (lcg (S 1 13))) (up T 401 73 (lcg (S 1 13))) := h.sd l1
  have ec : m_Ma_draw 100 S = some (drw (S 1 13) 100, up S 1 13 (lcg (S 1 13))) := c_draw ⟨sd2, sd3⟩ (by decide)
  have em : m_Mo_drawOf 100 T = some (drw (S 1 13) 100, up T 401 73 (lcg (S 1 13))) := by rw [m_draw (a := 100) (by omega) (by decide), sd1]
  rw [e_Ma_chance_29, e_Mo_chance_25, if_pos (by omega), if_pos (by omega), e_Ma_slipsNow, ec, em, Option.bind_some, Option.bind_some]
  have u31 : up S 1 13 (lcg (S 1 13)) 31 4 = P 430 7 := by rw [up_c (by decide), cp.2.2.2.1]
  have u430 : up T 401 73 (lcg (S 1 13)) 430 7 = P 430 7 := by rw [up_c (by decide), rp.1 7 (by decide) (by decide)]
  simp only [u31, u430]
  have w1 := wr_succ hv hN
  have w2 := wr_succ (Nat.lt_of_le_of_lt hc hv) hN
  have noslip : ∃ (b : Nat) (S' T' : MS), ((m_En_wholeDay_now (up S 1 13 (lcg (S 1 13)))).bind fun p => Ma_chance_29 N c (wr ((v : Int) + 1)) p.2) = ((m_En_wholeDay_now S').bind fun p => Ma_chance_29 N (b : Int) ((v + 1 : Nat) : Int) p.2) ∧ ((m_Mo_dayGoes (up T 401 73 (lcg (S 1 13)))).bind fun p => Mo_chance_25 N c (wr ((v : Int) + 1)) p) = ((m_Mo_dayGoes T').bind fun p => Mo_chance_25 N (b : Int) ((v + 1 : Nat) : Int) p) ∧ b ≤ c + 1 ∧ CH P S' T' ∧ FA S S' ∧ FB T T' ∧ T' 438 0 = T 438 0 ∧ S' 30 = S 30 ∧ S' 24 5 = S 24 5 ∧ T' 401 57 = T 401 57 :=
    ⟨c, up S 1 13 (lcg (S 1 13)), up T 401 73 (lcg (S 1 13)), by rw [w1], by rw [w1], Nat.le_succ c, q1, ⟨fun c c1 _ _ _ _ _ _ _ _ _ => up_c c1, fun k hk => up_k hk⟩, ⟨fun c c1 _ _ _ => up_c c1, fun k _ _ _ _ _ _ _ k8 _ => up_k k8⟩, by rw [up_c (by decide)], up_c (by decide), by rw [up_c (by decide)], by rw [up_k (by decide)]⟩
  by_cases c1 : drw (S 1 13) 100 < P 430 7
  · rw [if_pos c1, if_pos c1, e_Mo_carbonMany, Option.bind_some]
    dsimp only
    rw [up_c (by decide : (430 : Nat) ≠ 401), cp.2.2.1, rp.n6]
    by_cases c2 : 0 < P 430 6
    · have l2 := lcg_b (lcg (S 1 13))
      have hd := drw_b (lcg (S 1 13)) c2
      have ec2 : m_Ma_draw (P 430 6) (up S 1 13 (lcg (S 1 13))) = some (drw (lcg (S 1 13)) (P 430 6), up (up S 1 13 (lcg (S 1 13))) 1 13 (lcg (lcg (S 1 13)))) := by
        rw [c_draw (by rw [up_s]; omega) c2, up_s]
      have em2 : m_Mo_drawOf (P 430 6) (up T 401 73 (lcg (S 1 13))) = some (drw (lcg (S 1 13)) (P 430 6), up (up T 401 73 (lcg (S 1 13))) 401 73 (lcg (lcg (S 1 13)))) := by
        rw [m_draw (by rw [up_s]; omega) (by omega), up_s]
      obtain ⟨k, hk⟩ : ∃ k : Nat, drw (lcg (S 1 13)) (P 430 6) = (k : Int) := ⟨(drw (lcg (S 1 13)) (P 430 6)).toNat, by omega⟩
      rw [hk] at hd ec2 em2
      have q2 := (q1.sd l2).fl hP (k := k) (by unfold nCa; omega)
      have e430 : up T 401 73 (lcg (S 1 13)) 430 6 = P 430 6 := by rw [up_c (by decide), rp.n6]
      rw [if_pos c2, if_pos c2, ec2, Option.bind_some, Option.bind_some, e_Mo_carbonMany, Option.bind_some]
      dsimp only
      rw [e430, em2, Option.bind_some]
      dsimp only
      rw [if_neg n10, wrN (z := 2 * (k : Int)) (by omega) (by omega), wrN (z := 2 + 2 * (k : Int)) (by omega) (by omega), if_pos (by omega), if_pos (by omega), show (2 + 2 * (k : Int)).toNat = 2 + 2 * k by omega]
      rw [up_c (by decide : (24 : Nat) ≠ 1), up_c (by decide : (24 : Nat) ≠ 1)] at q2
      refine ⟨c + 1, _, _, by rw [w1, w2, up_c (by decide : (24 : Nat) ≠ 1)], by rw [w1, w2], Nat.le_refl _, q2, ⟨fun c c1 c2 _ _ _ _ _ _ _ _ => by rw [up_c c2, up_c c1, up_c c1], fun k hk => by rw [up_c (by decide), up_k hk, up_k hk]⟩, ⟨fun c c1 c2 _ _ => by rw [up_c c2, up_c c1, up_c c1], fun k _ _ _ _ _ _ _ k8 _ => by rw [up_c (by decide), up_k k8, up_k k8]⟩, by rw [up_k (by omega), up_c (by decide), up_c (by decide)], by rw [up_c (by decide), up_c (by decide), up_c (by decide)], by rw [up_k (by decide), up_c (by decide), up_c (by decide)], by rw [up_c (by decide), up_k (by decide), up_k (by decide)]⟩
    · rw [if_neg c2, if_neg c2, Option.bind_some, if_pos rfl]
      exact noslip
  · rw [if_neg c1, if_neg c1, Option.bind_some, if_pos rfl]
    exact noslip
theorem both_ch (hP : PLN P) {N : Nat} (hN : N ≤ 1000) : ∀ (j v c : Nat) (S T : MS), v + j = N → c ≤ v → CH P S T → T 438 0 + j ≤ 999 → (S 30 3 + j < 15999999 ∧ S 24 5 + 32 * j < 1700000000) → (0 ≤ T 401 57 ∧ T 401 57 + 32 * j < 900000000) →
    ∃ (r : Int) (S' T' : MS), Ma_chance_29 N c v S = some (r, S') ∧ Mo_chance_25 N c v T = some (r, T') ∧ CH P S' T' ∧ FA S S' ∧ FB T T' ∧ T' 438 0 ≤ 999 ∧ S' 30 3 ≤ S 30 3 + j ∧ S' 24 5 ≤ S 24 5 + 32 * j ∧ 0 ≤ T' 401 57 ∧ T' 401 57 ≤ T 401 57 + 32 * j := by
  have hO := nOf_le hP
  intro j
  induction j with
  | zero =>
    intro v c S T e hc h hd hb ha
    rw [e_Ma_chance_29, e_Mo_chance_25, if_neg (by omega), if_neg (by omega)]
    exact ⟨c, S, T, rfl, rfl, h, FA.rf S, FB.rf T, by omega, by omega, by omega, by omega, by omega⟩
  | succ j ih =>
    intro v c S T e hc h hd hb ha
    obtain ⟨b, S1, T1, p1, p2, p3, p4, p5, p6, p7, p8, p9, p10⟩ := both_slip hP h (N := N) (c := c) (v := v) (by omega) hc hN
    obtain ⟨g1, g2, g3, g4, g5, g6, g7⟩ := p4
    obtain ⟨S2, q1, q2, q3, q4, q5, q6, q7⟩ := c_wholeDay_now (th := 0) hP g2 g1 (by rw [p8]; omega) g3 (by have := g4.1; omega) (fun _ => g4)
    obtain ⟨T2, r1, r2, r3, r4, r5⟩ := m_dayGoes hP g5 g2 g4.kn (by omega)
    rw [g7] at r3
    have hn2 := an2_b hP (goW P (T1 438)) (nOf P)
    have t0 : T2 438 0 = T 438 0 + 1 := by rw [r3, dayP_0, kp2_lo (by decide), goW_o _ _ (Or.inl (by decide)), p7]
    have hWV : WV P (T2 438) := by
      have hg := goW_WV hP g2
      rw [r3]
      refine ⟨?_, fun k hk => ?_, fun i i1 i2 => ?_, fun o f ho hf hcc => ?_, fun k k1 k2 => ?_⟩
      · rw [← r3, t0]; have := g2.1; omega
      · rw [dayP_k (by omega), dayP_k (by omega), kp2_lo (by omega), kp2_lo (by omega)]; exact hg.2.1 k hk
      · rw [dayP_k (by omega), kp2_lo (by omega)]; exact hg.2.2.1 i i1 i2
      · rw [dayP_k (by omega), kp2_lo (by omega)]; exact hg.2.2.2.1 o f ho hf hcc
      · rw [dayP_k (by omega), dayP_k (by omega), kp2_lo (by omega), kp2_lo (by omega)]; exact hg.2.2.2.2 k k1 k2
    have hsd : SDr S2 T2 := g6.fr (by rw [q6.1 1 (by decide) (by decide) (by decide) (by decide) (by decide) (by decide) (by decide) (by decide) (by decide)]) (r5.2 73 (by decide) (by decide) (by decide) (by decide) (by decide) (by decide) (by decide) (by decide))
    have hCH : CH P S2 T2 := ⟨q2, hWV, by rw [r3]; exact q3, by rw [r3]; exact q5 rfl, r2, hsd, by rw [r5.2 56 (by decide) (by decide) (by decide) (by decide) (by decide) (by decide) (by decide) (by decide)]; exact g7⟩
    rw [p8] at q7
    obtain ⟨r, S3, T3, u1, u2, u3, u4, u5, u6, u7, u8, u9, u10⟩ := ih (v + 1) b S2 T2 (by omega) (by omega) hCH (by omega) (by omega) (by omega)
    rw [p1, p2, q1, r1, Option.bind_some, Option.bind_some]
    exact ⟨r, S3, T3, u1, u2, u3, (p5.tr q6.fa).tr u4, (p6.tr r5.fb).tr u5, u6, by omega, by omega, u9, by omega⟩
theorem op_chance (h : Inv n P S T) (hn : n < 600) (a : Int) : OK2 n P (m_Ma_chance a S) (m_Mo_chance a T) := by
  have hP := h.pln
  have hw0 := h.w0
  have hr := h.rf 3 (by decide)
  have rf1 : m_Ma_refuse 3 S = some (-1, up S 134 3 (S 134 3 + 1)) := c_refuse (k := 3) h (by omega) (by decide)
  have rf2 : m_Mo_refuses 3 T = some (-1, up T 403 3 (T 403 3 + 1)) := m_refuses (k := 3) h (by omega) (by decide)
  rw [e_Ma_chance, e_Mo_chance]
  by_cases c : 1 ≤ a ∧ a ≤ 100 ∧ T 438 0 + a ≤ 999
  · rw [if_neg (by omega), c_comes1 h (by decide) ⟨by omega, c.2⟩, m_ahead1 hw0 (by decide) c, Option.bind_some, Option.bind_some]
    dsimp only
    rw [if_neg n10, if_neg n10]
    obtain ⟨N, rfl⟩ : ∃ N : Nat, a = (N : Int) := ⟨a.toNat, by omega⟩
    obtain ⟨S1, T1, b1, b2, b3, b4, b5, b6, b7, b8, b9⟩ := both_begin h
    obtain ⟨w1, w2, w3, w4, w5, w6⟩ := h.wd
    have hen := h.en.2
    have hth := h.th.2
    have e24 : S1 24 = S 24 := b4 24 (by decide) (by decide) (by decide)
    have e25 : S1 25 = S 25 := b4 25 (by decide) (by decide) (by decide)
    have e26 : S1 26 = S 26 := b4 26 (by decide) (by decide) (by decide)
    have e30 : S1 30 = S 30 := b4 30 (by decide) (by decide) (by decide)
    have e438 : T1 438 = T 438 := b9 438 (by decide) (by decide)
    have e57 : T1 401 57 = T 401 57 := b8 57 (by decide) (by decide)
    have he5 := w4.1
    have hCH : CH P S1 T1 := ⟨h.en.1.fr (fun c h1 h2 => b4 c (by omega) (by omega) (by omega)), by rw [e438]; exact w1, by rw [e438]; exact w3.fr (by rw [e24]) (by rw [e24]) (by rw [e24]) e25, by rw [e438, e24, e26]; exact w4, h.rp.fr (b9 430 (by decide) (by decide)) (b9 431 (by decide) (by decide)) (b9 432 (by decide) (by decide)) (b9 433 (by decide) (by decide)) (b9 435 (by decide) (by decide)) (b9 436 (by decide) (by decide)) (b9 437 (by decide) (by decide)), h.sd.fr (by rw [b4 1 (by decide) (by decide) (by decide)]) (b8 73 (by decide) (by decide)), by rw [b8 56 (by decide) (by decide)]; exact w6⟩
    obtain ⟨r, S2, T2, q1, q2, q3, q4, q5, q6, q7, q8, q9, q10⟩ := both_ch hP (N := N) (by omega) N 0 0 S1 T1 (by omega) (Nat.le_refl _) hCH (by rw [e438]; omega) (by rw [e30, e24]; omega) (by rw [e57]; omega)
    have q1 : Ma_chance_29 N 0 0 S1 = some (r, S2) := q1
    have q2 : Mo_chance_25 N 0 0 T1 = some (r, T2) := q2
    obtain ⟨g1, g2, g3, g4, g5, g6, g7⟩ := q3
    rw [b1, b2, Option.bind_some, Option.bind_some, q1, q2]
    rw [e30] at q7
    rw [e24] at q8
    rw [e57] at q10
    refine ⟨r, S2, T2, rfl, rfl, h.act b3 b4 b5 b6 b7 b8 b9 q4 q5 g6 g1 (by omega) ⟨g2, q6, g3, g4, by omega, g7⟩ ⟨q9, by omega⟩⟩
  · have hno : OK2 n P ((m_Ma_refuse 3 S).bind fun p1 => some (p1.1, p1.2)) ((m_Mo_refuses 3 T).bind fun p2 => some (p2.1, p2.2)) := by
      rw [rf1, rf2]
      exact ⟨_, _, _, rfl, rfl, h.refuse (by omega) (by decide)⟩
    rw [m_ahead0 hw0 (by decide) c, Option.bind_some, if_pos rfl]
    by_cases c1 : a < 1
    · rw [if_pos c1]; exact hno
    · rw [if_neg c1, c_comes0 h (by decide) (fun q => c ⟨by omega, q.2⟩), Option.bind_some, if_pos rfl]
      exact hno
end
