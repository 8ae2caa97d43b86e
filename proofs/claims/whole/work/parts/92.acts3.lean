/-! DAYS, AND THEIR UNDOING -/
section
variable {n : Nat} {P S T : MS}
theorem op_days (h : Inv n P S T) (hn : n < 600) (a : Int) : OK2 n P (m_Ma_days a S) (m_Mo_days a T) := by
  have hP := h.pln
  have hw0 := h.w0
  have hr := h.rf 3 (by decide)
  have rf1 : m_Ma_refuse 3 S = some (-1, up S 134 3 (S 134 3 + 1)) := c_refuse (k := 3) h (by omega) (by decide)
  have rf2 : m_Mo_refuses 3 T = some (-1, up T 403 3 (T 403 3 + 1)) := m_refuses (k := 3) h (by omega) (by decide)
  rw [e_Ma_days, e_Mo_days]
  by_cases c : 1 ≤ a ∧ a ≤ 100 ∧ T 438 0 + a ≤ 999
  · rw [if_neg (by omega), c_comes1 h (by decide) ⟨by omega, c.2⟩, m_ahead1 hw0 (by decide) c, Option.bind_some, Option.bind_some]
    dsimp only
    rw [if_neg n10, if_neg n10]
    obtain ⟨N, rfl⟩ : ∃ N : Nat, a = (N : Int) := ⟨a.toNat, by omega⟩
    obtain ⟨S1, T1, b1, b2, b3, b4, b5, b6, b7, b8, b9⟩ := both_begin h
    obtain ⟨w1, w2, w3, w4, w5, w6⟩ := h.wd
    have hen := h.en.2
    have e24 : S1 24 = S 24 := b4 24 (by decide) (by decide) (by decide)
    have e25 : S1 25 = S 25 := b4 25 (by decide) (by decide) (by decide)
    have e26 : S1 26 = S 26 := b4 26 (by decide) (by decide) (by decide)
    have e30 : S1 30 = S 30 := b4 30 (by decide) (by decide) (by decide)
    have e438 : T1 438 = T 438 := b9 438 (by decide) (by decide)
    have he5 := w4.1
    obtain ⟨S2, q1, q2, q3, q4, q5, q6, q7⟩ := c_days_now (th := 0) hP w1 (N := N) (by omega) (by omega) N 0 S1 (by omega) (h.en.1.fr (fun c h1 h2 => b4 c (by omega) (by omega) (by omega))) (w3.fr (by rw [e24]) (by rw [e24]) (by rw [e24]) e25) (fun _ => by rw [e24, e26]; exact w4) (by rw [e24]; omega) (by rw [e30]; omega)
    obtain ⟨T2, r1, r2, r3, r4, r5⟩ := m_daysG (th := 0) hP w1 w4.kn (N := N) (by omega) N 0 (up T1 401 57 0) (by omega) ((h.rp.fr (b9 430 (by decide) (by decide)) (b9 431 (by decide) (by decide)) (b9 432 (by decide) (by decide)) (b9 433 (by decide) (by decide)) (b9 435 (by decide) (by decide)) (b9 436 (by decide) (by decide)) (b9 437 (by decide) (by decide))).fg FG_57) (by rw [up_k (by decide), b8 56 (by decide) (by decide)]; exact w6) (by rw [up_c (by decide), e438]; rfl) (by rw [up_s]; omega)
    have hFG : FG T1 T2 := FG_57.tr r5
    have hcb := cntT_b hP 0 (T 438) N
    have e57 : T2 401 57 = cntT P 0 N (T 438) := by rw [r4, up_s]; show 0 - 0 + _ = _; omega
    have hd1 : m_Mo_daysGo N T1 = some T2 := by rw [e_Mo_daysGo]; exact r1
    have q1 : Ma_days_29 N 0 0 S1 = some (cntT P 0 N (T 438), S2) := q1
    rw [b1, b2, Option.bind_some, Option.bind_some, hd1, Option.bind_some, q1]
    refine ⟨_, S2, T2, rfl, by rw [e57], h.act b3 b4 b5 b6 b7 b8 b9 q6.fa hFG.fb (h.sd.fr (by rw [q6.1 1 (by decide) (by decide) (by decide) (by decide) (by decide) (by decide) (by decide) (by decide) (by decide), b4 1 (by decide) (by decide) (by decide)]) (by rw [hFG.2 73 (by decide) (by decide) (by decide) (by decide) (by decide) (by decide) (by decide) (by decide), b8 73 (by decide) (by decide)])) q2 (by rw [e30] at q7; omega) ⟨by rw [r3]; exact itT_WV hP 0 w1 N (by omega), by rw [r3, itT_0 hP]; omega, by rw [r3]; exact q3, by rw [r3]; exact q4 rfl, by rw [e24] at q5; omega, by rw [hFG.2 56 (by decide) (by decide) (by decide) (by decide) (by decide) (by decide) (by decide) (by decide), b8 56 (by decide) (by decide)]; exact w6⟩ (by rw [e57]; omega)⟩
  · have hno : OK2 n P ((m_Ma_refuse 3 S).bind fun p1 => some (p1.1, p1.2)) ((m_Mo_refuses 3 T).bind fun p2 => some (p2.1, p2.2)) := by
      rw [rf1, rf2]
      exact ⟨_, _, _, rfl, rfl, h.refuse (by omega) (by decide)⟩
    rw [m_ahead0 hw0 (by decide) c, Option.bind_some, if_pos rfl]
    by_cases c1 : a < 1
    · rw [if_pos c1]; exact hno
    · rw [if_neg c1, c_comes0 h (by decide) (fun q => c ⟨by omega, q.2⟩), Option.bind_some, if_pos rfl]
      exact hno
theorem m_undo1 {b : Nat} (hb : b < 20) : ∀ (j v : Nat) (T : MS), v + j = 218 → T 401 72 = (b : Int) → ∃ T', Mo_undo_21 v T = Mo_undo_21 218 T' ∧ (∀ k, T' 438 k = if v ≤ k ∧ k < 218 then T 450 (218 * b + k) else T 438 k) ∧ ∀ c, c ≠ 438 → T' c = T c := by
  intro j
  induction j with
  | zero =>
    intro v T hv ht
    obtain rfl : v = 218 := by omega
    exact ⟨T, rfl, fun k => by rw [if_neg (by omega)], fun _ _ => rfl⟩
  | succ j ih =>
    intro v T hv ht
    rw [e_Mo_undo_21, if_pos (by omega), ht, wrN (z := 218 * (b : Int)) (by omega) (by omega), wrN (z := 218 * (b : Int) + (v : Int)) (by omega) (by omega), if_pos (by omega), if_pos (by omega), Int.toNat_natCast, wrN (by omega) (by omega), show (218 * (b : Int) + (v : Int)).toNat = 218 * b + v by omega]
    obtain ⟨T', q1, q2, q3⟩ := ih (v + 1) (up T 438 v (T 450 (218 * b + v))) (by omega) (by rw [up_c (by decide)]; exact ht)
    refine ⟨T', q1, fun k => ?_, fun c hc => by rw [q3 c hc, up_c hc]⟩
    rw [q2 k, up_c (c' := 450) (by decide)]
    by_cases e : k = v
    · subst e; rw [if_neg (by omega), up_s, if_pos (by omega)]
    · rw [up_k e]
      by_cases c : v + 1 ≤ k ∧ k < 218
      · rw [if_pos c, if_pos (by omega)]
      · rw [if_neg c, if_neg (by omega)]
theorem op_undo (h : Inv n P S T) (hn : n < 600) : OK2 n P (m_Ma_undo S) (m_Mo_undo T) := by
  have hP := h.pln
  have hr := h.rf 4 (by decide)
  have rf1 : m_Ma_refused 4 S = some (0, up S 134 4 (S 134 4 + 1)) := c_refused (k := 4) h (by omega) (by decide)
  obtain ⟨h1, h2, h3, h4, h5⟩ := h.hi
  rw [e_Ma_undo, e_Mo_undo, e_Hi_takeBack_now, ← h1]
  by_cases c : S 51 2 = 0
  · rw [if_pos c, if_pos c, Option.bind_some]
    dsimp only
    rw [if_pos rfl, rf1, Option.bind_some, if_pos (Or.inl rfl), wrN (by omega) (by omega)]
    exact ⟨_, _, _, rfl, rfl, h.refuse (by omega) (by decide)⟩
  · rw [if_neg c, if_neg c]
    obtain ⟨A, hA⟩ : ∃ A : Nat, S 51 1 = (A : Int) := ⟨(S 51 1).toNat, by omega⟩
    obtain ⟨B, hB⟩ : ∃ B : Nat, T 401 72 = (B : Int) := ⟨(T 401 72).toNat, by omega⟩
    have hm : ∀ x : Int, 0 ≤ x → x < 20 → (wr (wr (x + 20) - 1)).tmod 20 = (((x.toNat + 19) % 20 : Nat) : Int) := by
      intro x x0 x1
      rw [wrN (z := x + 20) (by omega) (by omega), wrN (by omega) (by omega), Int.tmod_eq_emod_of_nonneg (by omega)]
      omega
    have hx : (A + 19) % 20 < 20 := Nat.mod_lt _ (by decide)
    have h0 := h5 0 (by omega)
    rw [hA, hB, Int.toNat_natCast, Int.toNat_natCast, Nat.sub_zero, Nat.sub_zero, show (B + 20) % 20 = B by omega] at h0
    rw [hm _ h3.1 h3.2, hA, Int.toNat_natCast, if_pos (by omega), Int.toNat_natCast, wrN (z := S 51 2 - 1) (by omega) (by omega)]
    have hst := stc_row hx
    have hrr := (st_k _ hx).2.2.2.2.2.2.2
    rw [hrr]
    obtain ⟨S1, q1, q2, q3, q4, q5, q6⟩ := c_copyA (a := 24) (b := 53 + 3 * ((A + 19) % 20)) stc_now hst (by omega) (up (up S 51 2 (S 51 2 - 1)) 51 1 (((A + 19) % 20 : Nat) : Int))
    rw [q1, Option.bind_some, Option.bind_some]
    dsimp only
    rw [if_neg n10, e_Fi_forget, Option.bind_some]
    obtain ⟨T1, r1, r2, r3⟩ := m_undo1 (b := B) (by omega) 218 0 T rfl hB
    have r1 : Mo_undo_21 0 T = Mo_undo_21 218 T1 := r1
    have t401 : T1 401 = T 401 := r3 401 (by decide)
    rw [r1, e_Mo_undo_21, if_neg (by decide), t401, hm _ h4.1 h4.2, wrN (by omega) (by omega), hB, Int.toNat_natCast, ← h1]
    generalize hx1 : (A + 19) % 20 = x at *
    have d51 : S1 51 = (up (up S 51 2 (S 51 2 - 1)) 51 1 (x : Int)) 51 := q6 51 (by omega) (by omega) (by omega)
    have dS : ∀ k, k ≠ 24 → k ≠ 25 → k ≠ 26 → k ≠ 51 → S1 k = S k := fun k k1 k2 k3 k4 => by rw [q6 k k1 k2 k3, up_c k4, up_c k4]
    have hrow : ∀ k, k < 218 → T1 438 k = T 450 (218 * B + k) := fun k hk => by rw [r2 k, if_pos (by omega)]
    obtain ⟨g1, g2, g3, g4, g5⟩ := h0
    have a1 : (up (up S 51 2 (S 51 2 - 1)) 51 1 (x : Int)) (53 + 3 * x) = S (53 + 3 * x) := by rw [up_c (by omega), up_c (by omega)]
    have a2 : (up (up S 51 2 (S 51 2 - 1)) 51 1 (x : Int)) (53 + 3 * x + 1) = S (53 + 3 * x + 1) := by rw [up_c (by omega), up_c (by omega)]
    have a3 : (up (up S 51 2 (S 51 2 - 1)) 51 1 (x : Int)) (53 + 3 * x + 2) = S (53 + 3 * x + 2) := by rw [up_c (by omega), up_c (by omega)]
    rw [a1] at q2
    rw [a2] at q4
    rw [a3] at q5
    obtain ⟨z1, z2⟩ := h.th
    refine ⟨1, up (up S1 118 13 0) 118 14 0, up (up T1 401 72 (((B + 19) % 20 : Nat) : Int)) 401 71 (S 51 2 - 1), rfl, rfl, ?_⟩
    have hS2 : ∀ k, k ≠ 118 → (up (up S1 118 13 0) 118 14 0) k = S1 k := fun k hk => by rw [up_c hk, up_c hk]
    have hT2 : ∀ k, k ≠ 401 → (up (up T1 401 72 (((B + 19) % 20 : Nat) : Int)) 401 71 (S 51 2 - 1)) k = T1 k := fun k hk => by rw [up_c hk, up_c hk]
    have hT4 : ∀ k, k ≠ 71 → k ≠ 72 → (up (up T1 401 72 (((B + 19) % 20 : Nat) : Int)) 401 71 (S 51 2 - 1)) 401 k = T 401 k := fun k k1 k2 => by rw [up_k k1, up_k k2, t401]
    have e71 : (up (up T1 401 72 (((B + 19) % 20 : Nat) : Int)) 401 71 (S 51 2 - 1)) 401 71 = S 51 2 - 1 := up_s _ _ _ _
    have e72 : (up (up T1 401 72 (((B + 19) % 20 : Nat) : Int)) 401 71 (S 51 2 - 1)) 401 72 = (((B + 19) % 20 : Nat) : Int) := by rw [up_k (by decide), up_s]
    have e13 : (up (up S1 118 13 0) 118 14 0) 118 13 = 0 := by rw [up_k (by decide), up_s]
    have e14 : (up (up S1 118 13 0) 118 14 0) 118 14 = 0 := up_s _ _ _ _
    have eo : ∀ k, k ≠ 13 → k ≠ 14 → (up (up S1 118 13 0) 118 14 0) 118 k = S 118 k := fun k k1 k2 => by rw [up_k k2, up_k k1, dS 118 (by decide) (by decide) (by decide) (by decide)]
    generalize up (up S1 118 13 0) 118 14 0 = S2 at *
    generalize up (up T1 401 72 (((B + 19) % 20 : Nat) : Int)) 401 71 (S 51 2 - 1) = T2 at *
    have d1 : S2 51 1 = (x : Int) := by rw [hS2 51 (by decide), d51, up_s]
    have d2 : S2 51 2 = S 51 2 - 1 := by rw [hS2 51 (by decide), d51, up_k (by decide), up_s]
    have hhi : HIr n P (fun c => if c = 24 ∨ c = 25 ∨ c = 26 then S c else S2 c) (fun c => if c = 438 then T 438 else T2 c) := by
      have f51 : (fun c => if c = 24 ∨ c = 25 ∨ c = 26 then S c else S2 c) 51 = S2 51 := if_neg (by decide)
      have f401 : (fun c => if c = 438 then T 438 else T2 c) 401 = T2 401 := if_neg (by decide)
      have f450 : (fun c => if c = 438 then T 438 else T2 c) 450 = T 450 := by show (if 450 = 438 then T 438 else T2 450) = _; rw [if_neg (by decide), hT2 450 (by decide), r3 450 (by decide)]
      have fst : ∀ c, 53 ≤ c → c ≤ 112 → (fun c => if c = 24 ∨ c = 25 ∨ c = 26 then S c else S2 c) c = S c := fun c c1 c2 => by
        show (if c = 24 ∨ c = 25 ∨ c = 26 then S c else S2 c) = _
        rw [if_neg (by omega), hS2 c (by omega), dS c (by omega) (by omega) (by omega) (by omega)]
      generalize (fun c => if c = 24 ∨ c = 25 ∨ c = 26 then S c else S2 c) = S3 at *
      generalize (fun c => if c = 438 then T 438 else T2 c) = T3 at *
      refine ⟨by rw [f51, f401, d2, e71], by rw [f51, d2]; omega, by rw [f51, d1]; omega, by rw [f401, e72]; omega, fun i hi => ?_⟩
      rw [f51, d2] at hi
      rw [f51, d1, f401, e72, f450, Int.toNat_natCast, Int.toNat_natCast]
      have ho := h5 (i + 1) (by omega)
      rw [hA, hB, Int.toNat_natCast, Int.toNat_natCast] at ho
      rw [show (x + 19 - i) % 20 = (A + 19 - (i + 1)) % 20 by omega, show ((B + 19) % 20 + 20 - i) % 20 = (B + 20 - (i + 1)) % 20 by omega]
      have hy : (A + 19 - (i + 1)) % 20 < 20 := Nat.mod_lt _ (by decide)
      generalize (A + 19 - (i + 1)) % 20 = y at *
      obtain ⟨k1, k2, k3, k4, k5⟩ := ho
      exact ⟨k1, k2, k3.fr (by rw [fst _ (by omega) (by omega)]) (by rw [fst _ (by omega) (by omega)]) (by rw [fst _ (by omega) (by omega)]) (fst _ (by omega) (by omega)), by rw [fst _ (by omega) (by omega), fst (53 + 3 * y + 2) (by omega) (by omega)]; exact k4, by rw [fst _ (by omega) (by omega)]; exact k5⟩
    refine h.act hhi (fun c c1 c2 c3 => ?_) (fun k k1 k2 => ?_) ?_ ?_ (fun k k1 k2 => ?_) (fun c c1 c2 => ?_) ⟨fun c _ c2 c3 c4 _ _ _ _ _ _ => ?_, fun k _ => ?_⟩ ⟨fun c _ c2 _ _ => ?_, fun k _ _ _ _ _ _ _ _ _ => ?_⟩ (h.sd.fr (by rw [hS2 1 (by decide), dS 1 (by decide) (by decide) (by decide) (by decide)]) (hT4 73 (by decide) (by decide))) (h.en.1.fr (fun c h1 h2 => by rw [hS2 c (by omega), dS c (by omega) (by omega) (by omega) (by omega)])) (by rw [hS2 30 (by decide), dS 30 (by decide) (by decide) (by decide) (by decide)]; omega) ?_ (by rw [hT4 57 (by decide) (by decide)]; omega)
    · show (if c = 24 ∨ c = 25 ∨ c = 26 then S c else S2 c) = S c
      by_cases e : c = 24 ∨ c = 25 ∨ c = 26
      · rw [if_pos e]
      · rw [if_neg e, hS2 c c2, dS c (by omega) (by omega) (by omega) c1]
    · show (if 118 = 24 ∨ 118 = 25 ∨ 118 = 26 then S 118 else S2 118) k = S 118 k
      rw [if_neg (by decide)]; exact eo k k1 k2
    · show (if 118 = 24 ∨ 118 = 25 ∨ 118 = 26 then S 118 else S2 118) 13 = 0
      rw [if_neg (by decide)]; exact e13
    · show (if 118 = 24 ∨ 118 = 25 ∨ 118 = 26 then S 118 else S2 118) 14 = 0
      rw [if_neg (by decide)]; exact e14
    · show (if 401 = 438 then T 438 else T2 401) k = T 401 k
      rw [if_neg (by decide)]; exact hT4 k k1 k2
    · show (if c = 438 then T 438 else T2 c) = T c
      by_cases e : c = 438
      · rw [if_pos e, e]
      · rw [if_neg e, hT2 c c1, r3 c e]
    · show S2 c = (if c = 24 ∨ c = 25 ∨ c = 26 then S c else S2 c)
      rw [if_neg (by omega)]
    · show S2 1 k = (if 1 = 24 ∨ 1 = 25 ∨ 1 = 26 then S 1 else S2 1) k
      rw [if_neg (by decide)]
    · show T2 c = (if c = 438 then T 438 else T2 c)
      rw [if_neg c2]
    · show T2 401 k = (if 401 = 438 then T 438 else T2 401) k
      rw [if_neg (by decide)]
    · have e438 : T2 438 = T1 438 := hT2 438 (by decide)
      have e24 : S2 24 = S1 24 := hS2 24 (by decide)
      have e25 : S2 25 = S1 25 := hS2 25 (by decide)
      have e26 : S2 26 = S1 26 := hS2 26 (by decide)
      refine ⟨by rw [e438]; exact g1.lo (fun i hi => hrow i (by omega)), by rw [e438, hrow 0 (by decide)]; exact g2, ?_, ?_, by rw [e24, q2 5 (Or.inr rfl)]; omega, by rw [hT4 56 (by decide) (by decide)]; exact h.wd.2.2.2.2.2⟩
      · rw [e438]
        exact (g3.copy (S' := S2) (a := 24) (fun k hk => by rw [e24]; exact q2 k (Or.inl hk)) (fun k hk => by rw [show 24 + 1 = 25 from rfl, e25]; exact q4 k hk)).lo (fun i hi => hrow i (by omega))
      · rw [e438, e24, q2 5 (Or.inr rfl), e26]
        exact (g4.row (fun k hk => q5 k hk)).m218 hrow
end
