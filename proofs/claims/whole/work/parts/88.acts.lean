/-! ACTS: what is remembered -/
section
variable {n : Nat} {P S T : MS}
theorem m_keep1 {b : Nat} (hb : b < 20) : ∀ (j v : Nat) (T : MS), v + j = 218 → T 401 72 = (b : Int) → ∃ T', Mo_keeps_15 v T = Mo_keeps_15 218 T' ∧ (∀ k, T' 450 k = if 218 * b + v ≤ k ∧ k < 218 * b + 218 then T 438 (k - 218 * b) else T 450 k) ∧ ∀ c, c ≠ 450 → T' c = T c := by
  intro j
  induction j with
  | zero =>
    intro v T hv ht
    obtain rfl : v = 218 := by omega
    exact ⟨T, rfl, fun k => by rw [if_neg (by omega)], fun _ _ => rfl⟩
  | succ j ih =>
    intro v T hv ht
    rw [e_Mo_keeps_15, if_pos (by omega), if_pos (by omega), ht, wrN (z := 218 * (b : Int)) (by omega) (by omega), wrN (z := 218 * (b : Int) + (v : Int)) (by omega) (by omega), if_pos (by omega), Int.toNat_natCast, wrN (by omega) (by omega), show (218 * (b : Int) + (v : Int)).toNat = 218 * b + v by omega]
    obtain ⟨T', q1, q2, q3⟩ := ih (v + 1) (up T 450 (218 * b + v) (T 438 v)) (by omega) (by rw [up_c (by decide)]; exact ht)
    refine ⟨T', q1, fun k => ?_, fun c hc => by rw [q3 c hc, up_c hc]⟩
    rw [q2 k, up_c (c' := 438) (by decide)]
    by_cases e : k = 218 * b + v
    · subst e; rw [if_neg (by omega), up_s, if_pos (by omega)]; congr 1; omega
    · rw [up_k e]
      by_cases c : 218 * b + (v + 1) ≤ k ∧ k < 218 * b + 218
      · rw [if_pos c, if_pos (by omega)]
      · rw [if_neg c, if_neg (by omega)]
theorem m_keeps (h : HIr n P S T) : ∃ T', m_Mo_keeps T = some T' ∧ T' 401 72 = (((T 401 72).toNat + 1) % 20 : Nat) ∧ T' 401 71 = (if T 401 71 < 20 then T 401 71 + 1 else T 401 71) ∧ (∀ k, k ≠ 71 → k ≠ 72 → T' 401 k = T 401 k) ∧ (∀ c, c ≠ 401 → c ≠ 450 → T' c = T c) ∧ ∀ k, T' 450 k = if 218 * (((T 401 72).toNat + 1) % 20) ≤ k ∧ k < 218 * (((T 401 72).toNat + 1) % 20) + 218 then T 438 (k - 218 * (((T 401 72).toNat + 1) % 20)) else T 450 k := by
  obtain ⟨h1, h2, h3, h4, h5⟩ := h
  have hm : (wr (T 401 72 + 1)).tmod 20 = ((((T 401 72).toNat + 1) % 20 : Nat) : Int) := by
    rw [wrN (by omega) (by omega), Int.tmod_eq_emod_of_nonneg (by omega)]
    omega
  have hb : ((T 401 72).toNat + 1) % 20 < 20 := Nat.mod_lt _ (by decide)
  generalize ((T 401 72).toNat + 1) % 20 = b at *
  obtain ⟨T1, q1, q2, q3⟩ := m_keep1 hb 218 0 (up T 401 72 b) rfl (by rw [up_s])
  have e71 : T1 401 71 = T 401 71 := by rw [q3 401 (by decide), up_k (by decide)]
  rw [e_Mo_keeps, hm]
  have e0 : Mo_keeps_15 0 (up T 401 72 b) = Mo_keeps_15 218 T1 := q1
  rw [e0, e_Mo_keeps_15, if_neg (by decide), e71]
  have k450 : ∀ k, T1 450 k = if 218 * b ≤ k ∧ k < 218 * b + 218 then T 438 (k - 218 * b) else T 450 k := fun k => by rw [q2 k, up_c (c' := 438) (by decide), up_c (c' := 450) (by decide), Nat.add_zero]
  by_cases c : T 401 71 < 20
  · rw [if_pos c, if_pos c, wrN (by omega) (by omega)]
    exact ⟨_, rfl, by rw [up_k (by decide), q3 401 (by decide), up_s], up_s _ _ _ _, fun k k1 k2 => by rw [up_k k1, q3 401 (by decide), up_k k2], fun c c1 c2 => by rw [up_c c1, q3 c c2, up_c c1], fun k => by rw [up_c (by decide), k450 k]⟩
  · rw [if_neg c, if_neg c]
    exact ⟨T1, rfl, by rw [q3 401 (by decide), up_s], e71, fun k k1 k2 => by rw [q3 401 (by decide), up_k k2], fun c c1 c2 => by rw [q3 c c2, up_c c1], k450⟩
/-- the class remembers -/
theorem c_begin (h : Inv n P S T) : ∃ S', m_Ma_beginAct S = some S' ∧ S' 51 1 = (((S 51 1).toNat + 1) % 20 : Nat) ∧ S' 51 2 = (if S 51 2 < 20 then S 51 2 + 1 else S 51 2) ∧ (∀ c, c ≠ 51 → c ≠ 118 → (c < 53 ∨ 112 < c) → S' c = S c) ∧ (∀ k, k ≠ 13 → k ≠ 14 → S' 118 k = S 118 k) ∧ S' 118 13 = 0 ∧ S' 118 14 = 0 ∧
    (∀ k, k < 3 ∨ k = 5 → S' (53 + 3 * (S 51 1).toNat) k = S 24 k) ∧ (∀ k, k < 4 → S' (54 + 3 * (S 51 1).toNat) k = S 25 k) ∧ (∀ k, k < 40 → S' (55 + 3 * (S 51 1).toNat) k = S 26 k) ∧ ∀ a, a < 20 → a ≠ (S 51 1).toNat → S' (53 + 3 * a) = S (53 + 3 * a) ∧ S' (54 + 3 * a) = S (54 + 3 * a) ∧ S' (55 + 3 * a) = S (55 + 3 * a) := by
  obtain ⟨h1, h2, h3, h4, h5⟩ := h.hi
  obtain ⟨a, ha⟩ : ∃ a : Nat, S 51 1 = (a : Int) := ⟨(S 51 1).toNat, by omega⟩
  have ha20 : a < 20 := by omega
  have hst := stc_row ha20
  have hr := (st_k a ha20).2.2.2.2.2.2.2
  obtain ⟨S1, q1, q2, q3, q4, q5, q6⟩ := c_copyA (a := 53 + 3 * a) (b := 24) hst stc_now (by omega) S
  have e51 : S1 51 = S 51 := q6 51 (by omega) (by omega) (by omega)
  rw [e_Ma_beginAct, e_Hi_remember_now, ha, if_pos (by omega), Int.toNat_natCast, hr, if_pos hst.1, q1, Option.bind_some, Option.bind_some, e_Fi_forget, Option.bind_some, e51, ha]
  have hm : (wr ((a : Int) + 1)).tmod 20 = (((a + 1) % 20 : Nat) : Int) := by
    rw [wrN (by omega) (by omega), Int.tmod_eq_emod_of_nonneg (by omega)]
    omega
  have hi : imn (wr (S 51 2 + 1)) 20 = if S 51 2 < 20 then S 51 2 + 1 else S 51 2 := by
    rw [wrN (by omega) (by omega)]
    by_cases c : S 51 2 < 20
    · rw [if_pos c, imn_le (by omega)]
    · rw [if_neg c, imn_ge (by omega)]; omega
  have e51' : (up S1 51 1 ((wr ((a : Int) + 1)).tmod 20)) 51 2 = S 51 2 := by rw [up_k (by decide), e51]
  rw [hm, hi]
  refine ⟨_, rfl, ?_, ?_, fun c c1 c2 c3 => ?_, fun k k1 k2 => ?_, ?_, ?_, fun k hk => ?_, fun k hk => ?_, fun k hk => ?_, fun b hb hne => ⟨?_, ?_, ?_⟩⟩
  · rw [up_c (by decide), up_c (by decide), up_k (by decide), up_s]
  · rw [up_c (by decide), up_c (by decide), up_s]
  · rw [up_c c2, up_c c2, up_c c1, up_c c1, q6 c (by omega) (by omega) (by omega)]
  · rw [up_k k2, up_k k1, up_c (by decide), up_c (by decide), q6 118 (by omega) (by omega) (by omega)]
  · rw [up_k (by decide), up_s]
  · rw [up_s]
  · rw [up_c (by omega), up_c (by omega), up_c (by omega), up_c (by omega), q2 k hk]
  · rw [up_c (by omega), up_c (by omega), up_c (by omega), up_c (by omega), show 54 + 3 * a = 53 + 3 * a + 1 by omega, q4 k hk]
  · rw [up_c (by omega), up_c (by omega), up_c (by omega), up_c (by omega), show 55 + 3 * a = 53 + 3 * a + 2 by omega, q5 k hk]
  · rw [up_c (by omega), up_c (by omega), up_c (by omega), up_c (by omega), q6 _ (by omega) (by omega) (by omega)]
  · rw [up_c (by omega), up_c (by omega), up_c (by omega), up_c (by omega), q6 _ (by omega) (by omega) (by omega)]
  · rw [up_c (by omega), up_c (by omega), up_c (by omega), up_c (by omega), q6 _ (by omega) (by omega) (by omega)]
theorem KR.row {e : Int} {r r' m : Nat → Int} (h : KR e r m) (he : ∀ k, k < 40 → r' k = r k) : KR e r' m := by
  obtain ⟨h1, h2, h3⟩ := h
  refine ⟨h1, h2, fun i hi => ?_⟩
  rw [he _ (Nat.mod_lt _ (by decide))]
  exact h3 i hi
theorem KR.m218 {e : Int} {r m m' : Nat → Int} (h : KR e r m) (he : ∀ k, k < 218 → m' k = m k) : KR e r m' := by
  have hk := h.kn
  obtain ⟨h1, h2, h3⟩ := h
  have hk : 0 ≤ m 57 ∧ m 57 ≤ 40 := hk
  refine ⟨h1, by rw [he 57 (by decide)]; exact h2, fun i hi => ?_⟩
  rw [he 57 (by decide)] at hi ⊢
  have := h3 i hi
  unfold rowK rngK at this ⊢
  rw [he _ (by omega), he _ (by omega), he _ (by omega), he _ (by omega)]
  exact this
/-- both remember: the history holds on -/
theorem both_begin (h : Inv n P S T) : ∃ S1 T1, m_Ma_beginAct S = some S1 ∧ m_Mo_keeps T = some T1 ∧ HIr n P S1 T1 ∧ (∀ c, c ≠ 51 → c ≠ 118 → (c < 53 ∨ 112 < c) → S1 c = S c) ∧ (∀ k, k ≠ 13 → k ≠ 14 → S1 118 k = S 118 k) ∧ S1 118 13 = 0 ∧ S1 118 14 = 0 ∧ (∀ k, k ≠ 71 → k ≠ 72 → T1 401 k = T 401 k) ∧ (∀ c, c ≠ 401 → c ≠ 450 → T1 c = T c) := by
  obtain ⟨S1, s1, s2, s3, s4, s5, s6, s7, s8, s9, s10, s11⟩ := c_begin h
  obtain ⟨T1, t1, t2, t3, t4, t5, t6⟩ := m_keeps h.hi
  obtain ⟨h1, h2, h3, h4, h5⟩ := h.hi
  obtain ⟨w1, w2, w3, w4, w5, w6⟩ := h.wd
  refine ⟨S1, T1, s1, t1, ⟨by rw [s3, t3, h1], by rw [s3]; split <;> omega, by rw [s2]; omega, by rw [t2]; omega, fun i hi => ?_⟩, s4, s5, s6, s7, t4, t5⟩
  rw [s2, t2, Int.toNat_natCast, Int.toNat_natCast]
  rw [s3] at hi
  have hi20 : i < 20 := by split at hi <;> omega
  generalize hA : (S 51 1).toNat = A at *
  generalize hB : (T 401 72).toNat = B at *
  have hA20 : A < 20 := by omega
  have hB20 : B < 20 := by omega
  by_cases e : i = 0
  · subst e
    rw [show ((A + 1) % 20 + 19 - 0) % 20 = A by omega, show ((B + 1) % 20 + 20 - 0) % 20 = (B + 1) % 20 by omega]
    have hrow : ∀ k, k < 218 → T1 450 (218 * ((B + 1) % 20) + k) = T 438 k := fun k hk => by rw [t6, if_pos (by omega)]; congr 1; omega
    refine ⟨w1.lo (fun j hj => hrow j (by omega)), by show T1 450 (218 * ((B + 1) % 20) + 0) ≤ 999; rw [hrow 0 (by decide)]; exact w2, (w3.copy (S' := S1) (a := 53 + 3 * A) (fun k hk => s8 k (Or.inl hk)) (fun k hk => by rw [show 53 + 3 * A + 1 = 54 + 3 * A by omega]; exact s9 k hk)).lo (fun j hj => hrow j (by omega)), ?_, by rw [s8 5 (Or.inr rfl)]; exact w5⟩
    rw [s8 5 (Or.inr rfl)]
    exact (w4.row (fun k hk => by rw [show 53 + 3 * A + 2 = 55 + 3 * A by omega]; exact s10 k hk)).m218 hrow
  · have hi' : ((i - 1 : Nat) : Int) < S 51 2 := by split at hi <;> omega
    have ho := h5 (i - 1) hi'
    rw [show (A + 19 - (i - 1)) % 20 = ((A + 1) % 20 + 19 - i) % 20 by omega, show (B + 20 - (i - 1)) % 20 = ((B + 1) % 20 + 20 - i) % 20 by omega] at ho
    have hne : ((A + 1) % 20 + 19 - i) % 20 ≠ A := by omega
    have hne2 : ((B + 1) % 20 + 20 - i) % 20 ≠ (B + 1) % 20 := by omega
    have hl1 : ((A + 1) % 20 + 19 - i) % 20 < 20 := Nat.mod_lt _ (by decide)
    have hl2 : ((B + 1) % 20 + 20 - i) % 20 < 20 := Nat.mod_lt _ (by decide)
    generalize ((A + 1) % 20 + 19 - i) % 20 = x at *
    generalize ((B + 1) % 20 + 20 - i) % 20 = y at *
    obtain ⟨r1, r2, r3⟩ := s11 x hl1 hne
    have hrow : ∀ k, k < 218 → T1 450 (218 * y + k) = T 450 (218 * y + k) := fun k hk => by rw [t6, if_neg (by omega)]
    obtain ⟨g1, g2, g3, g4, g5⟩ := ho
    refine ⟨g1.lo (fun j hj => hrow j (by omega)), by show T1 450 (218 * y + 0) ≤ 999; rw [hrow 0 (by decide)]; exact g2, (g3.fr (by rw [r1]) (by rw [r1]) (by rw [r1]) (by rw [show 53 + 3 * x + 1 = 54 + 3 * x by omega]; exact r2)).lo (fun j hj => hrow j (by omega)), ?_, by rw [r1]; exact g5⟩
    rw [r1, show 53 + 3 * x + 2 = 55 + 3 * x by omega, r3, show 55 + 3 * x = 53 + 3 * x + 2 by omega]
    exact g4.m218 hrow
/-- what an act may change behind that -/
def FA (S S' : MS) : Prop := (∀ c, c ≠ 1 → c ≠ 24 → c ≠ 25 → c ≠ 26 → c ≠ 30 → c ≠ 42 → c ≠ 45 → c ≠ 48 → c ≠ 49 → c ≠ 50 → S' c = S c) ∧ ∀ k, k ≠ 13 → S' 1 k = S 1 k
def FB (T T' : MS) : Prop := (∀ c, c ≠ 401 → c ≠ 438 → c ≠ 440 → c ≠ 475 → T' c = T c) ∧ ∀ k, k ≠ 48 → k ≠ 51 → k ≠ 52 → k ≠ 53 → k ≠ 54 → k ≠ 55 → k ≠ 57 → k ≠ 73 → k ≠ 103 → T' 401 k = T 401 k
theorem FA.rf (S : MS) : FA S S := ⟨fun _ _ _ _ _ _ _ _ _ _ _ => rfl, fun _ _ => rfl⟩
theorem FB.rf (T : MS) : FB T T := ⟨fun _ _ _ _ _ => rfl, fun _ _ _ _ _ _ _ _ _ _ => rfl⟩
theorem FA.tr {S S' S'' : MS} (h : FA S S') (g : FA S' S'') : FA S S'' := ⟨fun c a1 a2 a3 a4 a5 a6 a7 a8 a9 a10 => (g.1 c a1 a2 a3 a4 a5 a6 a7 a8 a9 a10).trans (h.1 c a1 a2 a3 a4 a5 a6 a7 a8 a9 a10), fun k hk => (g.2 k hk).trans (h.2 k hk)⟩
theorem FB.tr {T T' T'' : MS} (h : FB T T') (g : FB T' T'') : FB T T'' := ⟨fun c a1 a2 a3 a4 => (g.1 c a1 a2 a3 a4).trans (h.1 c a1 a2 a3 a4), fun k a1 a2 a3 a4 a5 a6 a7 a8 a9 => (g.2 k a1 a2 a3 a4 a5 a6 a7 a8 a9).trans (h.2 k a1 a2 a3 a4 a5 a6 a7 a8 a9)⟩
theorem FW_now.fa {S S' : MS} (h : FW_now S S') : FA S S' := ⟨fun c _ a2 a3 a4 a5 a6 a7 a8 a9 a10 => h.1 c a2 a3 a4 a5 a6 a7 a8 a9 a10, fun k _ => by rw [h.1 1 (by decide) (by decide) (by decide) (by decide) (by decide) (by decide) (by decide) (by decide) (by decide)]⟩
theorem FG.fb {T T' : MS} (h : FG T T') : FB T T' := ⟨h.1, fun k a1 a2 a3 a4 a5 a6 a7 _ a9 => h.2 k a1 a2 a3 a4 a5 a6 a7 a9⟩
theorem Inv.act (h : Inv n P S T) {S1 T1 S2 T2 : MS} (hH : HIr n P S1 T1) (s4 : ∀ c, c ≠ 51 → c ≠ 118 → (c < 53 ∨ 112 < c) → S1 c = S c) (s5 : ∀ k, k ≠ 13 → k ≠ 14 → S1 118 k = S 118 k) (s6 : S1 118 13 = 0) (s7 : S1 118 14 = 0) (t4 : ∀ k, k ≠ 71 → k ≠ 72 → T1 401 k = T 401 k) (t5 : ∀ c, c ≠ 401 → c ≠ 450 → T1 c = T c)
    (hA : FA S1 S2) (hB : FB T1 T2) (hsd : SDr S2 T2) (hE : EM P S2) (hst : S2 30 3 ≤ S 30 3 + 1000) (hw : WDr (n + 1) P S2 T2) (h57 : 0 ≤ T2 401 57 ∧ T2 401 57 ≤ 4000 * ((n + 1 : Nat) : Int)) : Inv (n + 1) P S2 T2 := by
  have s : ∀ c, c ≠ 1 → c ≠ 24 → c ≠ 25 → c ≠ 26 → c ≠ 30 → c ≠ 42 → c ≠ 45 → c ≠ 48 → c ≠ 49 → c ≠ 50 → c ≠ 51 → c ≠ 118 → (c < 53 ∨ 112 < c) → S2 c = S c := fun c a1 a2 a3 a4 a5 a6 a7 a8 a9 a10 a11 a12 a13 => (hA.1 c a1 a2 a3 a4 a5 a6 a7 a8 a9 a10).trans (s4 c a11 a12 a13)
  have t : ∀ c, c ≠ 401 → c ≠ 438 → c ≠ 440 → c ≠ 475 → c ≠ 450 → T2 c = T c := fun c a1 a2 a3 a4 a5 => (hB.1 c a1 a2 a3 a4).trans (t5 c a1 a5)
  have u : ∀ k, k ∉ [48, 51, 52, 53, 54, 55, 57, 73, 103, 71, 72] → T2 401 k = T 401 k := fun k hk => by
    simp only [List.mem_cons, List.not_mem_nil, or_false, not_or] at hk
    obtain ⟨a1, a2, a3, a4, a5, a6, a7, a8, a9, a10, a11⟩ := hk
    exact (hB.2 k a1 a2 a3 a4 a5 a6 a7 a8 a9).trans (t4 k a10 a11)
  have s1 : ∀ k, k ≠ 13 → S2 1 k = S 1 k := fun k hk => by rw [hA.2 k hk, s4 1 (by decide) (by decide) (by decide)]
  have d118 : S2 118 = S1 118 := hA.1 118 (by decide) (by decide) (by decide) (by decide) (by decide) (by decide) (by decide) (by decide) (by decide) (by decide)
  have D : ∀ c, c = 2 ∨ c = 3 ∨ c = 17 ∨ c = 18 ∨ c = 22 ∨ c = 23 ∨ c = 27 ∨ c = 32 ∨ c = 35 ∨ c = 119 ∨ c = 120 ∨ c = 121 ∨ c = 122 ∨ c = 132 ∨ c = 133 ∨ c = 134 → S2 c = S c := fun c hc => s c (by omega) (by omega) (by omega) (by omega) (by omega) (by omega) (by omega) (by omega) (by omega) (by omega) (by omega) (by omega) (by omega)
  obtain ⟨g1, g2⟩ := h.th
  refine Inv.mk1 h.pln (h.rp.fr (t 430 (by decide) (by decide) (by decide) (by decide) (by decide)) (t 431 (by decide) (by decide) (by decide) (by decide) (by decide)) (t 432 (by decide) (by decide) (by decide) (by decide) (by decide)) (t 433 (by decide) (by decide) (by decide) (by decide) (by decide)) (t 435 (by decide) (by decide) (by decide) (by decide) (by decide)) (t 436 (by decide) (by decide) (by decide) (by decide) (by decide)) (t 437 (by decide) (by decide) (by decide) (by decide) (by decide))) (h.nm.fr (D 32 (by decide)) (D 35 (by decide)))
    (h.tx.fr (by rw [D 2 (by decide)]) (D 3 (by decide)) (u 1 (by decide)) (t 402 (by decide) (by decide) (by decide) (by decide) (by decide))) (h.ft.fr (by rw [D 2 (by decide)]) (by rw [D 2 (by decide)]) (u 7 (by decide)) (u 8 (by decide))) (h.rf.fr (D 134 (by decide)) (t 403 (by decide) (by decide) (by decide) (by decide) (by decide)))
    hsd (h.im.fr (s1 11 (by decide)) (D 133 (by decide)) (u 107 (by decide)) (t 476 (by decide) (by decide) (by decide) (by decide) (by decide))) (h.mk0.fr (D 22 (by decide)) (by rw [D 23 (by decide)]) (by rw [D 132 (by decide)]) (D 17 (by decide)) (D 18 (by decide)) (fun c hx => t c (by omega) (by omega) (by omega) (by omega) (by omega)))
    hw ⟨by rw [D 27 (by decide)]; omega, h57⟩ ⟨hE, by have := h.en.2; omega⟩
    (hH.fr (by rw [hA.1 51 (by decide) (by decide) (by decide) (by decide) (by decide) (by decide) (by decide) (by decide) (by decide) (by decide)]) (by rw [hA.1 51 (by decide) (by decide) (by decide) (by decide) (by decide) (by decide) (by decide) (by decide) (by decide) (by decide)]) (fun c h1 h2 => hA.1 c (by omega) (by omega) (by omega) (by omega) (by omega) (by omega) (by omega) (by omega) (by omega) (by omega)) (hB.2 71 (by decide) (by decide) (by decide) (by decide) (by decide) (by decide) (by decide) (by decide) (by decide)) (hB.2 72 (by decide) (by decide) (by decide) (by decide) (by decide) (by decide) (by decide) (by decide) (by decide)) (hB.1 450 (by decide) (by decide) (by decide) (by decide))) ?_
  obtain ⟨r1, r2, r3, r4, r5⟩ := h.fd
  refine ⟨?_, Or.inl (by rw [d118, s6]), Or.inl (by rw [d118, s7]), fun hh => ?_, fun hh => ?_⟩
  · unfold ROr at r1 ⊢
    rw [d118, s5 5 (by decide) (by decide), D 119 (by decide), D 120 (by decide), D 121 (by decide), u 64 (by decide), t 446 (by decide) (by decide) (by decide) (by decide) (by decide)]
    exact r1
  · rw [d118, s6] at hh; exact absurd hh (by decide)
  · rw [d118, s7] at hh; exact absurd hh (by decide)
end
