/-! MINISTRY: the reference takes what was told into use -/
section
variable {n : Nat} {P S T S' T' V : MS}
def cpU (V : MS) (c o a N : Nat) : MS := fun c' k => if c' = c then (if o + a ≤ k ∧ k < o + N then V c (k - o) else V c k) else V c' k
theorem cpU_end {c o N : Nat} : cpU V c o N N = V := by
  funext c' k
  unfold cpU
  by_cases h : c' = c
  · rw [if_pos h, if_neg (by omega), h]
  · rw [if_neg h]
theorem cpU_step {c o a N : Nat} (h : a < N) (hN : N ≤ o) : cpU (up V c (o + a) (V c a)) c o (a + 1) N = cpU V c o a N := by
  funext c' k
  unfold cpU
  by_cases e : c' = c
  · rw [if_pos e, if_pos e]
    by_cases r : o + (a + 1) ≤ k ∧ k < o + N
    · rw [if_pos r, if_pos (by omega), up_k (by omega)]
    · rw [if_neg r]
      by_cases k1 : k = o + a
      · subst k1
        rw [up_s, if_pos (by omega), show o + a - o = a by omega]
      · rw [up_k k1, if_neg (by omega)]
  · rw [if_neg e, if_neg e, up_c e]
theorem cpU_ne {c o a N c' : Nat} (h : c' ≠ c) : cpU V c o a N c' = V c' := by funext k; unfold cpU; rw [if_neg h]
theorem cpU_in {c o N k : Nat} (h : k < N) : cpU V c o 0 N c (o + k) = V c k := by unfold cpU; rw [if_pos rfl, if_pos (by omega), show o + k - o = k by omega]
theorem cpU_lo {c o N k : Nat} (h : k < o) : cpU V c o 0 N c k = V c k := by unfold cpU; rw [if_pos rfl, if_neg (by omega)]
theorem cpU_2 {c d o a N : Nat} (hc : c ≠ d) : cpU (up V c (o + a) (V c a)) d o (a + 1) N = up (cpU V d o (a + 1) N) c (o + a) (V c a) := by
  funext c' k
  by_cases e : c' = d
  · subst e
    rw [up_c (Ne.symm hc)]
    unfold cpU
    rw [if_pos rfl, if_pos rfl, up_c (Ne.symm hc)]
  · rw [cpU_ne e]
    by_cases e2 : c' = c
    · subst e2
      unfold up
      simp only [if_true]
      rw [cpU_ne e]
    · rw [up_c e2, up_c e2, cpU_ne e]
theorem m_st2 : ∀ (j v : Nat) (V : MS), v + j = 4 → Mo_stands_2 (v : Int) V = Mo_stands_29 0 (cpU V 430 4 v 4) := by
  intro j
  induction j with
  | zero =>
    intro v V e
    have : v = 4 := by omega
    subst this
    rw [e_Mo_stands_2, if_neg (by omega), cpU_end]
  | succ j ih =>
    intro v V e
    have e1 : wr (4 + (v : Int)) = ((4 + v : Nat) : Int) := wrA (z := 4) (by omega)
    rw [e_Mo_stands_2, if_pos (by omega), if_pos (by omega), e1, if_pos (by omega), wr_suc2 (show v < 4 by omega) (by decide), Int.toNat_natCast, Int.toNat_natCast, ih (v + 1) _ (by omega), cpU_step (by omega) (by decide)]
theorem m_st29 : ∀ (j v : Nat) (V : MS), v + j = 3 → Mo_stands_29 (v : Int) V = Mo_stands_70 0 (cpU (cpU V 435 3 v 3) 436 3 v 3) := by
  intro j
  induction j with
  | zero =>
    intro v V e
    have : v = 3 := by omega
    subst this
    rw [e_Mo_stands_29, if_neg (by omega), cpU_end, cpU_end]
  | succ j ih =>
    intro v V e
    have e1 : wr (3 + (v : Int)) = ((3 + v : Nat) : Int) := wrA (z := 3) (by omega)
    rw [e_Mo_stands_29, if_pos (by omega), if_pos (by omega), e1, if_pos (by omega), if_pos (by omega), if_pos (by omega), wr_suc2 (show v < 3 by omega) (by decide), Int.toNat_natCast, Int.toNat_natCast, ih (v + 1) _ (by omega)]
    have q : up V 435 (3 + v) (V 435 v) 436 v = V 436 v := by rw [up_c (by decide)]
    refine congrArg (Mo_stands_70 0) ?_
    have z : cpU (up (up V 435 (3 + v) (V 435 v)) 436 (3 + v) (V 436 v)) 435 3 (v + 1) 3 = up (cpU (up V 435 (3 + v) (V 435 v)) 435 3 (v + 1) 3) 436 (3 + v) (V 436 v) := by
      have := cpU_2 (V := up V 435 (3 + v) (V 435 v)) (c := 436) (d := 435) (o := 3) (a := v) (N := 3) (by decide)
      rw [q] at this
      exact this
    rw [z, cpU_step (by omega) (by decide)]
    have y := cpU_step (V := cpU V 435 3 v 3) (c := 436) (o := 3) (a := v) (N := 3) (by omega) (by decide)
    rw [cpU_ne (show (436 : Nat) ≠ 435 by decide)] at y
    exact y
theorem m_st70 : ∀ (j v : Nat) (V : MS), v + j = 16 → Mo_stands_70 (v : Int) V = Mo_stands_114 0 (cpU (cpU V 431 16 v 16) 432 16 v 16) := by
  intro j
  induction j with
  | zero =>
    intro v V e
    have : v = 16 := by omega
    subst this
    rw [e_Mo_stands_70, if_neg (by omega), cpU_end, cpU_end]
  | succ j ih =>
    intro v V e
    have e1 : wr (16 + (v : Int)) = ((16 + v : Nat) : Int) := wrA (z := 16) (by omega)
    rw [e_Mo_stands_70, if_pos (by omega), if_pos (by omega), e1, if_pos (by omega), if_pos (by omega), if_pos (by omega), wr_suc2 (show v < 16 by omega) (by decide), Int.toNat_natCast, Int.toNat_natCast, ih (v + 1) _ (by omega)]
    have q : up V 431 (16 + v) (V 431 v) 432 v = V 432 v := by rw [up_c (by decide)]
    refine congrArg (Mo_stands_114 0) ?_
    have z : cpU (up (up V 431 (16 + v) (V 431 v)) 432 (16 + v) (V 432 v)) 431 16 (v + 1) 16 = up (cpU (up V 431 (16 + v) (V 431 v)) 431 16 (v + 1) 16) 432 (16 + v) (V 432 v) := by
      have := cpU_2 (V := up V 431 (16 + v) (V 431 v)) (c := 432) (d := 431) (o := 16) (a := v) (N := 16) (by decide)
      rw [q] at this
      exact this
    rw [z, cpU_step (by omega) (by decide)]
    have y := cpU_step (V := cpU V 431 16 v 16) (c := 432) (o := 16) (a := v) (N := 16) (by omega) (by decide)
    rw [cpU_ne (show (432 : Nat) ≠ 431 by decide)] at y
    exact y
theorem m_st114 : ∀ (j v : Nat) (V : MS), v + j = 36 → Mo_stands_114 (v : Int) V = Mo_stands_143 0 (cpU V 433 36 v 36) := by
  intro j
  induction j with
  | zero =>
    intro v V e
    have : v = 36 := by omega
    subst this
    rw [e_Mo_stands_114, if_neg (by omega), cpU_end]
  | succ j ih =>
    intro v V e
    have e1 : wr (36 + (v : Int)) = ((36 + v : Nat) : Int) := wrA (z := 36) (by omega)
    rw [e_Mo_stands_114, if_pos (by omega), if_pos (by omega), e1, if_pos (by omega), wr_suc2 (show v < 36 by omega) (by decide), Int.toNat_natCast, Int.toNat_natCast, ih (v + 1) _ (by omega), cpU_step (by omega) (by decide)]
theorem m_st143 {N : Nat} (hN : N ≤ 1600) : ∀ (j v : Nat) (V : MS), v + j = N → V 401 46 = (N : Int) → Mo_stands_143 (v : Int) V = Mo_stands_175 0 (cpU V 437 1600 v N) := by
  intro j
  induction j with
  | zero =>
    intro v V e h
    have : v = N := by omega
    subst this
    rw [e_Mo_stands_143, if_neg (by omega), cpU_end]
  | succ j ih =>
    intro v V e h
    have e1 : wr (1600 + (v : Int)) = ((1600 + v : Nat) : Int) := wrA (z := 1600) (by omega)
    rw [e_Mo_stands_143, if_pos (by omega), if_pos (by omega), e1, if_pos (by omega), wr_suc2 (show v < 1600 by omega) (by decide), Int.toNat_natCast, Int.toNat_natCast, ih (v + 1) _ (by omega) (by rw [up_c (by decide)]; exact h), cpU_step (by omega) hN]
def zrU (V : MS) (a N : Nat) : MS := fun c k => if c = 438 then (if a ≤ k ∧ k < N then 0 else V 438 k) else V c k
def inU (V : MS) (a N : Nat) : MS := fun c k => if c = 438 then (if k % 2 = 1 ∧ 1 + 2 * a ≤ k ∧ k < 1 + 2 * N then 1 else V 438 k) else V c k
def stU (V : MS) (a N : Nat) : MS := fun c k => if c = 438 then (if 25 + a ≤ k ∧ k < 25 + N then V 434 (k - 25) else V 438 k) else V c k
theorem zrU_ne {a N c : Nat} (h : c ≠ 438) : zrU V a N c = V c := by funext k; unfold zrU; rw [if_neg h]
theorem inU_ne {a N c : Nat} (h : c ≠ 438) : inU V a N c = V c := by funext k; unfold inU; rw [if_neg h]
theorem stU_ne {a N c : Nat} (h : c ≠ 438) : stU V a N c = V c := by funext k; unfold stU; rw [if_neg h]
theorem zrU_step {a N : Nat} (h : a < N) : zrU (up V 438 a 0) (a + 1) N = zrU V a N := by
  funext c k
  by_cases e : c = 438
  · subst e
    unfold zrU
    rw [if_pos rfl, if_pos rfl]
    by_cases r : a + 1 ≤ k ∧ k < N
    · rw [if_pos r, if_pos (by omega)]
    · rw [if_neg r]
      by_cases k1 : k = a
      · subst k1; rw [up_s, if_pos (by omega)]
      · rw [up_k k1, if_neg (by omega)]
  · rw [zrU_ne e, zrU_ne e, up_c e]
theorem inU_step {a N : Nat} (h : a < N) : inU (up V 438 (1 + 2 * a) 1) (a + 1) N = inU V a N := by
  funext c k
  by_cases e : c = 438
  · subst e
    unfold inU
    rw [if_pos rfl, if_pos rfl]
    by_cases r : k % 2 = 1 ∧ 1 + 2 * (a + 1) ≤ k ∧ k < 1 + 2 * N
    · rw [if_pos r, if_pos (by omega)]
    · rw [if_neg r]
      by_cases k1 : k = 1 + 2 * a
      · subst k1; rw [up_s, if_pos (by omega)]
      · rw [up_k k1, if_neg (by omega)]
  · rw [inU_ne e, inU_ne e, up_c e]
theorem stU_step {a N : Nat} (h : a < N) : stU (up V 438 (25 + a) (V 434 a)) (a + 1) N = stU V a N := by
  funext c k
  by_cases e : c = 438
  · subst e
    unfold stU
    rw [if_pos rfl, if_pos rfl, up_c (show (434 : Nat) ≠ 438 by decide)]
    by_cases r : 25 + (a + 1) ≤ k ∧ k < 25 + N
    · rw [if_pos r, if_pos (by omega)]
    · rw [if_neg r]
      by_cases k1 : k = 25 + a
      · subst k1; rw [up_s, if_pos (by omega), show 25 + a - 25 = a by omega]
      · rw [up_k k1, if_neg (by omega)]
  · rw [stU_ne e, stU_ne e, up_c e]
theorem zrU_end {N : Nat} : zrU V N N = V := by
  funext c k
  by_cases e : c = 438
  · subst e; unfold zrU; rw [if_pos rfl, if_neg (by omega)]
  · rw [zrU_ne e]
theorem inU_end {N : Nat} : inU V N N = V := by
  funext c k
  by_cases e : c = 438
  · subst e; unfold inU; rw [if_pos rfl, if_neg (by omega)]
  · rw [inU_ne e]
theorem stU_end {N : Nat} : stU V N N = V := by
  funext c k
  by_cases e : c = 438
  · subst e; unfold stU; rw [if_pos rfl, if_neg (by omega)]
  · rw [stU_ne e]
theorem m_st175 : ∀ (j v : Nat) (V : MS), v + j = 218 → Mo_stands_175 (v : Int) V = Mo_stands_197 0 (zrU V v 218) := by
  intro j
  induction j with
  | zero =>
    intro v V e
    have : v = 218 := by omega
    subst this
    rw [e_Mo_stands_175, if_neg (by omega), zrU_end]
  | succ j ih =>
    intro v V e
    rw [e_Mo_stands_175, if_pos (by omega), if_pos (by omega), wr_suc2 (show v < 218 by omega) (by decide), Int.toNat_natCast, ih (v + 1) _ (by omega), zrU_step (by omega)]
theorem m_st197 {N : Nat} (hN : N ≤ 12) : ∀ (j v : Nat) (V : MS), v + j = N → V 430 2 = (N : Int) → Mo_stands_197 (v : Int) V = Mo_stands_226 0 (inU V v N) := by
  intro j
  induction j with
  | zero =>
    intro v V e h
    have : v = N := by omega
    subst this
    rw [e_Mo_stands_197, if_neg (by omega), inU_end]
  | succ j ih =>
    intro v V e h
    have e1 : wr (1 + wr (2 * (v : Int))) = ((1 + 2 * v : Nat) : Int) := by
      rw [show wr (2 * (v : Int)) = ((2 * v : Nat) : Int) by rw [wrN (by omega) (by omega)]; omega]
      exact wrA (z := 1) (by omega)
    rw [e_Mo_stands_197, if_pos (by omega), e1, if_pos (by omega), wr_suc2 (show v < 12 by omega) (by decide), Int.toNat_natCast, ih (v + 1) _ (by omega) (by rw [up_c (by decide)]; exact h), inU_step (by omega)]
theorem m_st226 : ∀ (j v : Nat) (V : MS), v + j = 32 → Mo_stands_226 (v : Int) V = some (up (up (stU V v 32) 401 71 0) 401 64 0) := by
  intro j
  induction j with
  | zero =>
    intro v V e
    have : v = 32 := by omega
    subst this
    rw [e_Mo_stands_226, if_neg (by omega), stU_end]
  | succ j ih =>
    intro v V e
    have e1 : wr (25 + (v : Int)) = ((25 + v : Nat) : Int) := wrA (z := 25) (by omega)
    rw [e_Mo_stands_226, if_pos (by omega), if_pos (by omega), e1, if_pos (by omega), wr_suc2 (show v < 32 by omega) (by decide), Int.toNat_natCast, Int.toNat_natCast, ih (v + 1) _ (by omega), stU_step (by omega)]
/-- the world that begins -/
def wIni (T : MS) (N k : Nat) : Int := if 25 ≤ k ∧ k < 57 then T 434 (k - 25) else if k % 2 = 1 ∧ k < 1 + 2 * N then 1 else 0
theorem m_stands0 {N M : Nat} (hN : N ≤ 1600) (hM : M ≤ 12) (h5 : T 401 5 = 0) (h46 : T 401 46 = (N : Int)) (h2 : T 430 2 = (M : Int)) : ∃ T', Mo_ministry_126 T = some (T 401 47, T') ∧ (∀ k, k < 4 → T' 430 (4 + k) = T 430 k) ∧ (∀ k, k < 3 → T' 435 (3 + k) = T 435 k ∧ T' 436 (3 + k) = T 436 k) ∧ (∀ k, k < 16 → T' 431 (16 + k) = T 431 k ∧ T' 432 (16 + k) = T 432 k ∧ T' 432 k = T 432 k) ∧ (∀ k, k < 36 → T' 433 (36 + k) = T 433 k) ∧ (∀ k, k < N → T' 437 (1600 + k) = T 437 k) ∧ (∀ k, k < 218 → T' 438 k = wIni T M k) ∧ (∀ c, c ∉ [401, 430, 431, 432, 433, 435, 436, 437, 438] → T' c = T c) ∧ (∀ k, k ∉ [7, 8, 64, 71] → T' 401 k = T 401 k) ∧ T' 401 7 = T 401 5 ∧ T' 401 8 = T 401 6 ∧ T' 401 64 = 0 ∧ T' 401 71 = 0 := by
  have e0 : ∀ c, c ≠ 401 → up (up T 401 7 (T 401 5)) 401 8 (T 401 6) c = T c := fun c hc => by rw [up_c hc, up_c hc]
  have e1 : ∀ k, k ≠ 7 → k ≠ 8 → up (up T 401 7 (T 401 5)) 401 8 (T 401 6) 401 k = T 401 k := fun k h7 h8 => by rw [up_k h8, up_k h7]
  have e7 : up (up T 401 7 (T 401 5)) 401 8 (T 401 6) 401 7 = T 401 5 := by rw [up_k (by decide), up_s]
  have e8 : up (up T 401 7 (T 401 5)) 401 8 (T 401 6) 401 8 = T 401 6 := by rw [up_s]
  rw [e_Mo_ministry_126, if_pos h5, e_Mo_stands]
  generalize up (up T 401 7 (T 401 5)) 401 8 (T 401 6) = V at *
  have h1 : Mo_stands_2 0 V = Mo_stands_29 0 (cpU V 430 4 0 4) := m_st2 4 0 V rfl
  have h1' : Mo_stands_29 0 (cpU V 430 4 0 4) = Mo_stands_70 0 (cpU (cpU (cpU V 430 4 0 4) 435 3 0 3) 436 3 0 3) := m_st29 3 0 (cpU V 430 4 0 4) rfl
  have h3 : Mo_stands_70 0 (cpU (cpU (cpU V 430 4 0 4) 435 3 0 3) 436 3 0 3) = Mo_stands_114 0 (cpU (cpU (cpU (cpU (cpU V 430 4 0 4) 435 3 0 3) 436 3 0 3) 431 16 0 16) 432 16 0 16) := m_st70 16 0 (cpU (cpU (cpU V 430 4 0 4) 435 3 0 3) 436 3 0 3) rfl
  generalize hA : cpU (cpU (cpU V 430 4 0 4) 435 3 0 3) 436 3 0 3 = A at h1' h3
  have h4 : Mo_stands_114 0 (cpU (cpU A 431 16 0 16) 432 16 0 16) = Mo_stands_143 0 (cpU (cpU (cpU A 431 16 0 16) 432 16 0 16) 433 36 0 36) := m_st114 36 0 (cpU (cpU A 431 16 0 16) 432 16 0 16) rfl
  generalize hB : cpU (cpU (cpU A 431 16 0 16) 432 16 0 16) 433 36 0 36 = B at h4
  have a401 : A 401 = V 401 := by rw [← hA, cpU_ne (by decide), cpU_ne (by decide), cpU_ne (by decide)]
  have b401 : B 401 = V 401 := by rw [← hB, cpU_ne (by decide), cpU_ne (by decide), cpU_ne (by decide), a401]
  have h6 : Mo_stands_143 0 B = Mo_stands_175 0 (cpU B 437 1600 0 N) := m_st143 hN N 0 B (Nat.zero_add N) (by rw [b401, e1 46 (by decide) (by decide)]; exact h46)
  have h7 : Mo_stands_175 0 (cpU B 437 1600 0 N) = Mo_stands_197 0 (zrU (cpU B 437 1600 0 N) 0 218) := m_st175 218 0 (cpU B 437 1600 0 N) rfl
  have b430 : ∀ k, k < 4 → B 430 k = T 430 k := fun k hk => by rw [← hB, cpU_ne (by decide), cpU_ne (by decide), cpU_ne (by decide), ← hA, cpU_ne (by decide), cpU_ne (by decide), cpU_lo hk, e0 430 (by decide)]
  have h8 : Mo_stands_197 0 (zrU (cpU B 437 1600 0 N) 0 218) = Mo_stands_226 0 (inU (zrU (cpU B 437 1600 0 N) 0 218) 0 M) := m_st197 hM M 0 (zrU (cpU B 437 1600 0 N) 0 218) (Nat.zero_add M) (by rw [zrU_ne (by decide), cpU_ne (by decide), b430 2 (by decide)]; exact h2)
  have h9 : Mo_stands_226 0 (inU (zrU (cpU B 437 1600 0 N) 0 218) 0 M) = some (up (up (stU (inU (zrU (cpU B 437 1600 0 N) 0 218) 0 M) 0 32) 401 71 0) 401 64 0) := m_st226 32 0 (inU (zrU (cpU B 437 1600 0 N) 0 218) 0 M) rfl
  rw [h1, h1', h3, h4, h6, h7, h8, h9, Option.bind_some]
  have u : ∀ c, c ≠ 401 → c ≠ 438 → up (up (stU (inU (zrU (cpU B 437 1600 0 N) 0 218) 0 M) 0 32) 401 71 0) 401 64 0 c = cpU B 437 1600 0 N c := fun c a b => by rw [up_c a, up_c a, stU_ne b, inU_ne b, zrU_ne b]
  have u1 : ∀ k, k ≠ 71 → k ≠ 64 → up (up (stU (inU (zrU (cpU B 437 1600 0 N) 0 218) 0 M) 0 32) 401 71 0) 401 64 0 401 k = V 401 k := fun k a b => by rw [up_k b, up_k a, stU_ne (by decide), inU_ne (by decide), zrU_ne (by decide), cpU_ne (by decide), b401]
  have u2 : up (up (stU (inU (zrU (cpU B 437 1600 0 N) 0 218) 0 M) 0 32) 401 71 0) 401 64 0 401 64 = 0 ∧ up (up (stU (inU (zrU (cpU B 437 1600 0 N) 0 218) 0 M) 0 32) 401 71 0) 401 64 0 401 71 = 0 := ⟨up_s _ _ _ _, by rw [up_k (by decide), up_s]⟩
  have u3 : ∀ k, k < 218 → up (up (stU (inU (zrU (cpU B 437 1600 0 N) 0 218) 0 M) 0 32) 401 71 0) 401 64 0 438 k = wIni T M k := fun k hk => by
    rw [up_c (by decide), up_c (by decide)]
    unfold stU wIni
    rw [if_pos rfl, inU_ne (show (434 : Nat) ≠ 438 by decide), zrU_ne (show (434 : Nat) ≠ 438 by decide), cpU_ne (show (434 : Nat) ≠ 437 by decide), ← hB, cpU_ne (show (434 : Nat) ≠ 433 by decide), cpU_ne (show (434 : Nat) ≠ 432 by decide), cpU_ne (show (434 : Nat) ≠ 431 by decide), ← hA, cpU_ne (show (434 : Nat) ≠ 436 by decide), cpU_ne (show (434 : Nat) ≠ 435 by decide), cpU_ne (show (434 : Nat) ≠ 430 by decide), e0 434 (by decide)]
    by_cases c1 : 25 ≤ k ∧ k < 57
    · rw [if_pos (by omega), if_pos c1]
    · rw [if_neg (by omega), if_neg c1]
      unfold inU
      rw [if_pos rfl]
      by_cases c2 : k % 2 = 1 ∧ k < 1 + 2 * M
      · rw [if_pos (by omega), if_pos c2]
      · rw [if_neg (by omega), if_neg c2]
        unfold zrU
        rw [if_pos rfl, if_pos (by omega)]
  generalize up (up (stU (inU (zrU (cpU B 437 1600 0 N) 0 218) 0 M) 0 32) 401 71 0) 401 64 0 = T' at *
  have uB : ∀ c, c ≠ 401 → c ≠ 438 → c ≠ 437 → T' c = B c := fun c a b d => by rw [u c a b, cpU_ne d]
  refine ⟨T', by rw [u1 47 (by decide) (by decide), e1 47 (by decide) (by decide)], fun k hk => ?_, fun k hk => ⟨?_, ?_⟩, fun k hk => ⟨?_, ?_, ?_⟩, fun k hk => ?_, fun k hk => ?_, u3, fun c hc => ?_, fun k hk => ?_, by rw [u1 7 (by decide) (by decide)]; exact e7, by rw [u1 8 (by decide) (by decide)]; exact e8, u2.1, u2.2⟩
  · rw [uB 430 (by decide) (by decide) (by decide), ← hB, cpU_ne (by decide), cpU_ne (by decide), cpU_ne (by decide), ← hA, cpU_ne (by decide), cpU_ne (by decide), cpU_in hk, e0 430 (by decide)]
  · rw [uB 435 (by decide) (by decide) (by decide), ← hB, cpU_ne (by decide), cpU_ne (by decide), cpU_ne (by decide), ← hA, cpU_ne (by decide), cpU_in hk, cpU_ne (by decide), e0 435 (by decide)]
  · rw [uB 436 (by decide) (by decide) (by decide), ← hB, cpU_ne (by decide), cpU_ne (by decide), cpU_ne (by decide), ← hA, cpU_in hk, cpU_ne (by decide), cpU_ne (by decide), e0 436 (by decide)]
  · rw [uB 431 (by decide) (by decide) (by decide), ← hB, cpU_ne (by decide), cpU_ne (by decide), cpU_in hk, ← hA, cpU_ne (by decide), cpU_ne (by decide), cpU_ne (by decide), e0 431 (by decide)]
  · rw [uB 432 (by decide) (by decide) (by decide), ← hB, cpU_ne (by decide), cpU_in hk, cpU_ne (by decide), ← hA, cpU_ne (by decide), cpU_ne (by decide), cpU_ne (by decide), e0 432 (by decide)]
  · rw [uB 432 (by decide) (by decide) (by decide), ← hB, cpU_ne (by decide), cpU_lo hk, cpU_ne (by decide), ← hA, cpU_ne (by decide), cpU_ne (by decide), cpU_ne (by decide), e0 432 (by decide)]
  · rw [uB 433 (by decide) (by decide) (by decide), ← hB, cpU_in hk, cpU_ne (by decide), cpU_ne (by decide), ← hA, cpU_ne (by decide), cpU_ne (by decide), cpU_ne (by decide), e0 433 (by decide)]
  · rw [u 437 (by decide) (by decide), cpU_in hk, ← hB, cpU_ne (by decide), cpU_ne (by decide), cpU_ne (by decide), ← hA, cpU_ne (by decide), cpU_ne (by decide), cpU_ne (by decide), e0 437 (by decide)]
  · simp only [List.mem_cons, List.not_mem_nil, or_false, not_or] at hc
    obtain ⟨c1, c2, c3, c4, c5, c6, c7, c8, c9⟩ := hc
    rw [uB c c1 c9 c8, ← hB, cpU_ne c5, cpU_ne c4, cpU_ne c3, ← hA, cpU_ne c7, cpU_ne c6, cpU_ne c2, e0 c c1]
  · simp only [List.mem_cons, List.not_mem_nil, or_false, not_or] at hk
    obtain ⟨c1, c2, c3, c4⟩ := hk
    rw [u1 k c4 c3, e1 k c1 c2]
end
