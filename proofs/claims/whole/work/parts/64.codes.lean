/-! THE RUNS OF CODES, both -/
theorem m_clip (v : Int) (T : MS) : m_Mo_qClip v T = some (hld v, T) := by
  rw [e_Mo_qClip]
  unfold hld
  by_cases h1 : 1000000 < v
  · rw [if_pos (lcp_pos.mpr h1), if_pos h1]
  · rw [if_neg (fun h => h1 (lcp_pos.mp h)), if_neg h1]
    by_cases h2 : v < -1000000
    · rw [if_pos (lcp_neg.mpr h2), if_pos h2]
    · rw [if_neg (fun h => h2 (lcp_neg.mp h)), if_neg h2]
theorem m_held (v : Int) (h : -9223372036854775808 ≤ v ∧ v < 9223372036854775808) (S : MS) : m_Co_held v S = some (hld v, S) := by
  rw [e_Co_held]
  unfold hld
  by_cases h1 : 1000000 < v
  · rw [if_pos (lcp_pos.mpr h1), if_pos h1]
  · rw [if_neg (fun h => h1 (lcp_pos.mp h)), if_neg h1]
    by_cases h2 : v < -1000000
    · rw [if_pos (lcp_neg.mpr h2), if_pos h2]
    · rw [if_neg (fun h => h2 (lcp_neg.mp h)), if_neg h2, wrN (by omega) (by omega)]
theorem abs_ab {a b : Int} {m : Nat} (ha : a.natAbs ≤ m) (hb : b.natAbs ≤ m) : (a * b).natAbs ≤ m * m := by
  rw [Int.natAbs_mul]; exact Nat.mul_le_mul ha hb
theorem m_floor {a b : Int} (ha : vt false a) (T : MS) : m_Mo_qFloor a b T = some (fdv a b, T) := by
  have ha : -1000000 ≤ a ∧ a ≤ 1000000 := ha
  have hq := tdiv_abs a b
  have hw : wl (a.tdiv b) = a.tdiv b := wlN (by omega) (by omega)
  rw [e_Mo_qFloor]
  unfold fdv
  by_cases h0 : b = 0
  · rw [if_pos (lcp_0.mpr h0), if_pos h0]
  · rw [if_neg (fun h => h0 (lcp_0.mp h)), if_neg h0, if_neg h0, if_neg h0, hw]
    by_cases h1 : a.tmod b = 0
    · rw [if_pos (lcp_0.mpr h1), if_pos h1]
    · rw [if_neg (fun h => h1 (lcp_0.mp h)), if_neg h1]
      have h2 : wl (a.tdiv b - 1) = a.tdiv b - 1 := wlN (by omega) (by omega)
      by_cases h3 : a < 0
      · rw [if_pos (lcp_neg.mpr h3), e_Mo_qFloor_32]
        by_cases h4 : b < 0
        · rw [if_pos (lcp_neg.mpr h4), if_pos rfl, if_pos (by simp [h3, h4])]
        · rw [if_neg (fun h => h4 (lcp_neg.mp h)), if_neg (by decide), if_neg (by simp [h3, h4]), h2]
      · rw [if_neg (fun h => h3 (lcp_neg.mp h)), e_Mo_qFloor_32]
        by_cases h4 : b < 0
        · rw [if_pos (lcp_neg.mpr h4), if_neg (by decide), if_neg (by simp [h3, h4]), h2]
        · rw [if_neg (fun h => h4 (lcp_neg.mp h)), if_pos rfl, if_pos (by simp [h3, h4])]
theorem bxor_neg {a b : Int} (ha : -2147483648 ≤ a ∧ a < 2147483648) (hb : -2147483648 ≤ b ∧ b < 2147483648) : bxor a b < 0 ↔ (a < 0) ≠ (b < 0) := by
  rw [bxor_eq]
  have e : ((Int32.ofInt a ^^^ Int32.ofInt b).toInt < 0) ↔ (BitVec.ofInt 32 a ^^^ BitVec.ofInt 32 b).msb = true := by
    rw [BitVec.msb_eq_toInt]
    simp only [decide_eq_true_eq]
    exact Iff.rfl
  have h1 : (BitVec.ofInt 32 a).msb = decide (a < 0) := by
    rw [BitVec.msb_eq_toInt, BitVec.toInt_ofInt_eq_self (by decide) (by simpa using ha.1) (by simpa using ha.2)]
  have h2 : (BitVec.ofInt 32 b).msb = decide (b < 0) := by
    rw [BitVec.msb_eq_toInt, BitVec.toInt_ofInt_eq_self (by decide) (by simpa using hb.1) (by simpa using hb.2)]
  rw [e, BitVec.msb_xor, h1, h2]
  by_cases g1 : a < 0 <;> by_cases g2 : b < 0 <;> simp [g1, g2]
theorem j_floor {a b : Int} (ha : vt false a) (hb : vt false b) (h0 : b ≠ 0) (S : MS) : m_Mt_floorDiv a b S = some (fdv a b, S) := by
  have ha : -1000000 ≤ a ∧ a ≤ 1000000 := ha
  have hb : -1000000 ≤ b ∧ b ≤ 1000000 := hb
  have hq := tdiv_abs a b
  have hw : wr (a.tdiv b) = a.tdiv b := wrN (by omega) (by omega)
  have hd := Int.tmod_add_tdiv_mul a b
  have hm : (a.tmod b).natAbs ≤ a.natAbs := by rw [Int.natAbs_tmod]; exact Nat.mod_le _ _
  have hw2 : wr (a.tdiv b * b) = a.tdiv b * b := by
    apply wrN
    · generalize a.tdiv b * b = x at hd; omega
    · generalize a.tdiv b * b = x at hd; omega
  rw [e_Mt_floorDiv, if_neg h0, hw, hw2]
  unfold fdv
  rw [if_neg h0]
  have hx := bxor_neg (a := a) (b := b) (by omega) (by omega)
  by_cases h1 : a.tmod b = 0
  · rw [if_pos h1]
    have : a.tdiv b * b = a := by rw [h1] at hd; omega
    rw [if_pos this]
    simp
  · rw [if_neg h1]
    have : ¬ a.tdiv b * b = a := by intro h; rw [h] at hd; omega
    rw [if_neg this]
    by_cases h2 : (a < 0) = (b < 0)
    · rw [if_pos h2, if_neg (fun h => (hx.mp h) h2)]
    · rw [if_neg h2, if_pos (hx.mpr h2), wrN (by omega) (by omega)]
theorem m_puts {v : Int} {T : MS} {n : Nat} (hn : T 401 103 = (n : Int)) (hl : n < 1700) : m_Mo_qPuts v T = some (up (up T 475 n v) 401 103 ((n : Int) + 1)) := by
  rw [e_Mo_qPuts, hn, if_pos (by omega), wrN (by omega) (by omega), Int.toNat_natCast]
theorem m_joins {c : Int} {T : MS} {n : Nat} {a b : Int} (hn : T 401 103 = (n : Int) + 2) (hl : n < 1000) (ha : T 475 n = a) (hb : T 475 (n + 1) = b) (h1 : -1000000 ≤ a ∧ a ≤ 1000000) (h2 : -1000000 ≤ b ∧ b ≤ 1000000) (hc : 1 ≤ c ∧ c ≤ 11) : m_Mo_qJoins c T = some (up (up (up T 401 103 n) 475 n (ev2 c a b)) 401 103 ((n : Int) + 1)) := by
  have e1 : wr (T 401 103 - 1) = (n : Int) + 1 := by rw [hn, wrN (by omega) (by omega)]; omega
  have e2 : wr (T 401 103 - 2) = (n : Int) := by rw [hn, wrN (by omega) (by omega)]; omega
  have e3 : ((n : Int) + 1).toNat = n + 1 := by omega
  have hP : ∀ v, m_Mo_qPuts v (up T 401 103 n) = some (up (up (up T 401 103 n) 475 n v) 401 103 ((n : Int) + 1)) := fun v => m_puts (up_s _ _ _ _) (by omega)
  have hab := abs_ab (a := a) (b := b) (m := 1000000) (by omega) (by omega)
  have w1 : wl (a + b) = a + b := wlN (by omega) (by omega)
  have w2 : wl (a - b) = a - b := wlN (by omega) (by omega)
  have w3 : wl (a * b) = a * b := by generalize a * b = x at hab ⊢; exact wlN (by omega) (by omega)
  rw [e_Mo_qJoins, e1, e2, e3, Int.toNat_natCast, ha, hb, if_pos (by omega), if_pos (by omega)]
  simp only [hP, m_clip, m_floor (show vt false a from h1), Option.bind_some, w1, w2, w3]
  rcases (show c = 1 ∨ c = 2 ∨ c = 3 ∨ c = 4 ∨ c = 5 ∨ c = 6 ∨ c = 7 ∨ c = 8 ∨ c = 9 ∨ c = 10 ∨ c = 11 by omega) with rfl | rfl | rfl | rfl | rfl | rfl | rfl | rfl | rfl | rfl | rfl
  · rw [if_pos rfl, ev2_1]
  · rw [if_neg (by decide), if_pos rfl, ev2_2]
  · rw [if_neg (by decide), if_neg (by decide), if_pos rfl, ev2_3]
  · rw [if_neg (by decide), if_neg (by decide), if_neg (by decide), if_pos rfl, ev2_4]
  · rw [if_neg (by decide), if_neg (by decide), if_neg (by decide), if_neg (by decide), if_pos rfl, ev2_5]
    by_cases h : a < b
    · rw [if_pos (lcp_neg.mpr h), if_pos h]
    · rw [if_neg (fun g => h (lcp_neg.mp g)), if_neg h]
  · rw [if_neg (by decide), if_neg (by decide), if_neg (by decide), if_neg (by decide), if_neg (by decide), if_pos rfl, ev2_6]
    by_cases h : b < a
    · rw [if_pos (lcp_pos.mpr h), if_pos h]
    · rw [if_neg (fun g => h (lcp_pos.mp g)), if_neg h]
  · rw [if_neg (by decide), if_neg (by decide), if_neg (by decide), if_neg (by decide), if_neg (by decide), if_neg (by decide), if_pos rfl, ev2_7]
    by_cases h : a < b
    · rw [if_pos (lcp_neg.mpr h), if_pos h]
    · rw [if_neg (fun g => h (lcp_neg.mp g)), if_neg h]
  · rw [if_neg (by decide), if_neg (by decide), if_neg (by decide), if_neg (by decide), if_neg (by decide), if_neg (by decide), if_neg (by decide), if_pos rfl, ev2_8]
    by_cases h : b < a
    · rw [if_pos (lcp_pos.mpr h), if_pos h]
    · rw [if_neg (fun g => h (lcp_pos.mp g)), if_neg h]
  · rw [if_neg (by decide), if_neg (by decide), if_neg (by decide), if_neg (by decide), if_neg (by decide), if_neg (by decide), if_neg (by decide), if_neg (by decide), if_pos rfl, ev2_9]
    by_cases h : a = b
    · rw [if_pos (lcp_0.mpr h), if_pos h]
    · rw [if_neg (fun g => h (lcp_0.mp g)), if_neg h]
  · rw [if_neg (by decide), if_neg (by decide), if_neg (by decide), if_neg (by decide), if_neg (by decide), if_neg (by decide), if_neg (by decide), if_neg (by decide), if_neg (by decide), if_pos rfl, ev2_10]
  · rw [if_neg (by decide), if_neg (by decide), if_neg (by decide), if_neg (by decide), if_neg (by decide), if_neg (by decide), if_neg (by decide), if_neg (by decide), if_neg (by decide), if_neg (by decide), ev2_11]
    by_cases h : 0 < a + b
    · rw [if_pos (lcp_pos.mpr h), if_pos h]
    · rw [if_neg (fun g => h (lcp_pos.mp g)), if_neg h]
/-- what else there was stays: all but the pile and its height -/
def FQ (T T' : MS) : Prop := (∀ c, c ≠ 401 → c ≠ 475 → T' c = T c) ∧ ∀ k, k ≠ 103 → T' 401 k = T 401 k
theorem FQ.rf (T : MS) : FQ T T := ⟨fun _ _ _ => rfl, fun _ _ => rfl⟩
theorem FQ.tr {T T' T'' : MS} (h : FQ T T') (g : FQ T' T'') : FQ T T'' := ⟨fun c h1 h2 => (g.1 c h1 h2).trans (h.1 c h1 h2), fun k h1 => (g.2 k h1).trans (h.2 k h1)⟩
theorem FQ_1 {T : MS} {n : Nat} {v x : Int} : FQ T (up (up T 475 n v) 401 103 x) := ⟨fun c h1 h2 => by rw [up_c h1, up_c h2], fun k h1 => by rw [up_k h1, up_c (by decide)]⟩
theorem FQ_2 {T : MS} {n : Nat} {v x y : Int} : FQ T (up (up (up T 401 103 y) 475 n v) 401 103 x) := ⟨fun c h1 h2 => by rw [up_c h1, up_c h2, up_c h1], fun k h1 => by rw [up_k h1, up_c (by decide), up_k h1]⟩
theorem FQ_3 {T : MS} {n : Nat} {v : Int} : FQ T (up T 475 n v) := ⟨fun c h1 h2 => by rw [up_c h2], fun k h1 => by rw [up_c (by decide)]⟩
def mpv (T : MS) (o : Nat) (k : Nat) : Int :=
  if k = 0 then T 432 (17 + 2 * o) else if k = 1 then T 432 (16 + 2 * o) else if k = 2 then T 438 0 else if k = 3 then T 401 52 else if k = 4 then T 401 53 else if k = 5 then T 401 54 else if k = 6 then T 401 55 else T 401 51
theorem mpv_fq {T T' : MS} (h : FQ T T') (o : Nat) : mpv T' o = mpv T o := by
  funext k
  unfold mpv
  rw [h.1 432 (by decide) (by decide), h.1 438 (by decide) (by decide), h.2 52 (by decide), h.2 53 (by decide), h.2 54 (by decide), h.2 55 (by decide), h.2 51 (by decide)]
theorem m_part {T : MS} {o : Nat} {k x : Int} (ho : T 401 51 = (o : Int)) (hl : o < 8) (hk : 0 ≤ k ∧ k < 8) : m_Mo_qPartOf k x T = some (mpv T o k.toNat, T) := by
  have e1 : wr (17 + wr (2 * (o : Int))) = ((17 + 2 * o : Nat) : Int) := by rw [wrN (z := 2 * (o : Int)) (by omega) (by omega), wrN (by omega) (by omega)]; omega
  have e2 : wr (16 + wr (2 * (o : Int))) = ((16 + 2 * o : Nat) : Int) := by rw [wrN (z := 2 * (o : Int)) (by omega) (by omega), wrN (by omega) (by omega)]; omega
  rw [e_Mo_qPartOf, ho, e1, e2, Int.toNat_natCast, Int.toNat_natCast]
  rcases (show k = 0 ∨ k = 1 ∨ k = 2 ∨ k = 3 ∨ k = 4 ∨ k = 5 ∨ k = 6 ∨ k = 7 by omega) with rfl | rfl | rfl | rfl | rfl | rfl | rfl | rfl
  · rw [if_pos rfl, if_pos (by omega)]; rfl
  · rw [if_neg (by decide), if_pos rfl, if_pos (by omega)]; rfl
  · rfl
  · rfl
  · rfl
  · rfl
  · rfl
  · show some ((o : Int), T) = some (T 401 51, T); rw [ho]
theorem ty1_len {q c : Int} {τ τ' : List Bool} (h : ty1 q c τ = some τ') (hl : τ.length ≤ 60) : τ'.length ≤ 60 := by
  rcases ty1_inv h with ⟨_, _, _, rfl⟩ | ⟨_, _, t, rfl, rfl⟩ | ⟨_, _, _, _, rfl⟩ | ⟨rfl, _, rfl⟩ | ⟨rfl, t, rfl, rfl⟩ | ⟨_, t, rfl, rfl⟩ | ⟨_, t, rfl, rfl⟩ | ⟨_, t, rfl, rfl⟩ <;> simp only [List.length_cons] at * <;> omega
/-- on the pile: a number more, a number for one, a number for two -/
theorem pl_1 {f : Nat → Int} {n : Nat} {s : List Int} {T : MS} {v x : Int} (hf : T 475 = f) (hs : stk f n = s) : stk ((up (up T 475 n v) 401 103 x) 475) (n + 1) = v :: s := by
  rw [up_c (by decide), stk, up_s, ← hs, ← hf]
  congr 1
  exact stk_congr (fun k hk => up_k (by omega))
theorem stk_cons {f : Nat → Int} {k : Nat} {a : Int} {r : List Int} (h : stk f k = a :: r) : ∃ n, k = n + 1 ∧ f n = a ∧ stk f n = r := by
  cases k with
  | zero => cases h
  | succ n => rw [stk] at h; injection h with h1 h2; exact ⟨n, rfl, h1, h2⟩
/-- one code of a law -/
theorem m_cT1 {w o : Int} {q : Int} {T : MS} {a e k o' : Nat} {s : List Int} {τ τ' : List Bool} (hw : 0 ≤ w ∧ w < 3) (hq : q < 3) (he : T 436 (3 + w.toNat) = (e : Int)) (ha : a < e) (he2 : e ≤ 1600) (hk : T 401 103 = (k : Int)) (hs : stk (T 475) k = s) (hv : VT τ s) (hl : τ.length ≤ 60) (ho : T 401 51 = (o' : Int)) (ho2 : o' < 8) (hp : pvok q (mpv T o')) (ht : ty1 q (T 437 (1600 + a)) τ = some τ') :
    ∃ (T1 : MS) (k1 : Nat), Mo_codesTell_24 w o a T = Mo_codesTell_24 w o ((a : Int) + 1) T1 ∧ T1 401 103 = (k1 : Int) ∧ stk (T1 475) k1 = ev1 (mpv T o') (fun _ => 0) (fun _ => 0) (T 437 (1600 + a)) s ∧ FQ T T1 := by
  have hkl : k = τ.length := by rw [← VT_len hv, ← hs, stk_len]
  rw [e_Mo_codesTell_24, wrN (z := 3 + w) (by omega) (by omega), if_pos (by omega), show (3 + w).toNat = 3 + w.toNat by omega, he, if_pos (by omega), wrN (z := 1600 + (a : Int)) (by omega) (by omega), if_pos (by omega), show (1600 + (a : Int)).toNat = 1600 + a by omega, wrN (z := (a : Int) + 1) (by omega) (by omega)]
  generalize T 437 (1600 + a) = c at ht ⊢
  rcases ty1_inv ht with ⟨g1, g2, g3, rfl⟩ | ⟨g1, g2, t, rfl, rfl⟩ | ⟨g1, g2, g3, g4, rfl⟩ | ⟨rfl, g2, rfl⟩ | ⟨rfl, t, rfl, rfl⟩ | ⟨g1, t, rfl, rfl⟩ | ⟨g1, t, rfl, rfl⟩ | ⟨g1, t, rfl, rfl⟩
  · rw [if_neg (by omega), wrN (by omega) (by omega), m_puts hk (by omega), ev1_num g1]
    exact ⟨_, k + 1, rfl, up_s _ _ _ _, pl_1 rfl hs, FQ_1⟩
  · omega
  · rw [if_pos (by omega), if_neg (by omega), wrN (by omega) (by omega), m_part ho ho2 (by omega), Option.bind_some, m_puts hk (by omega), ev1_part ⟨g1, g2⟩]
    exact ⟨_, k + 1, rfl, up_s _ _ _ _, pl_1 rfl hs, FQ_1⟩
  · rw [if_pos (by decide), if_pos (by decide), if_pos rfl, m_puts hk (by omega)]
    exact ⟨_, k + 1, rfl, up_s _ _ _ _, pl_1 rfl hs, FQ_1⟩
  · obtain ⟨v, r, rfl, h3, h4⟩ := VT_1 hv
    obtain ⟨n, rfl, h5, h6⟩ := stk_cons hs
    have h3 : v = 0 ∨ v = 1 := h3
    rw [if_pos (by decide), if_pos (by decide), if_neg (by decide), if_pos rfl, hk, wrN (by simp only [List.length_cons] at hl hkl; omega) (by simp only [List.length_cons] at hl hkl; omega), show (((n + 1 : Nat) : Int) - 1) = (n : Int) by omega, if_pos (by simp only [List.length_cons] at hl hkl; omega), if_pos (by simp only [List.length_cons] at hl hkl; omega), Int.toNat_natCast, h5, wlN (by omega) (by omega)]
    refine ⟨_, n + 1, rfl, by rw [up_c (by decide), hk], ?_, FQ_3⟩
    rw [stk, up_s, stk_congr (g := T 475) (fun j hj => up_k (by omega)), h6]
    rfl
  all_goals
    obtain ⟨b, v, r, rfl, h3, h4, h5⟩ := VT_2 hv
    obtain ⟨n, rfl, h6, h7⟩ := stk_cons hs
    obtain ⟨n, rfl, h8, h9⟩ := stk_cons h7
    simp only [List.length_cons] at hl hkl
    have hb : -1000000 ≤ b ∧ b ≤ 1000000 := by first | exact h3 | (rcases h3 with rfl | rfl <;> decide)
    have hv2 : -1000000 ≤ v ∧ v ≤ 1000000 := by first | exact h4 | (rcases h4 with rfl | rfl <;> decide)
    rw [if_pos (by omega), if_pos (by omega), if_neg (by omega), if_neg (by omega), m_joins (n := n) (by rw [hk]; omega) (by omega) h8 h6 hv2 hb (by omega), ev1_two (by omega)]
    refine ⟨_, n + 1, rfl, up_s _ _ _ _, ?_, FQ_2⟩
    rw [up_c (by decide), stk, up_s, stk_congr (g := T 475) (fun j hj => by rw [up_k (by omega), up_c (by decide)]), h9]
theorem m_cT {w o : Int} {q : Int} (hw : 0 ≤ w ∧ w < 3) (hq : q < 3) {o' : Nat} (ho2 : o' < 8) : ∀ (n a : Nat) (T : MS) (k : Nat) (s : List Int) (τ τ' : List Bool), T 436 (3 + w.toNat) = ((a + n : Nat) : Int) → a + n ≤ 1600 → T 401 103 = (k : Int) → stk (T 475) k = s → VT τ s → τ.length ≤ 60 → T 401 51 = (o' : Int) → pvok q (mpv T o') → tyS q (seg (T 437) (1600 + a) n) τ = some τ' →
    ∃ T' k', Mo_codesTell_24 w o a T = some (T' 475 0, T') ∧ stk (T' 475) k' = evS (mpv T o') (fun _ => 0) (fun _ => 0) (seg (T 437) (1600 + a) n) s ∧ FQ T T' := by
  intro n
  induction n with
  | zero =>
    intro a T k s τ τ' he he2 hk hs hv hl ho hp ht
    rw [e_Mo_codesTell_24, wrN (z := 3 + w) (by omega) (by omega), if_pos (by omega), show (3 + w).toNat = 3 + w.toNat by omega, he, if_neg (by omega)]
    exact ⟨T, k, rfl, hs, FQ.rf T⟩
  | succ n ih =>
    intro a T k s τ τ' he he2 hk hs hv hl ho hp ht
    rw [seg, tyS] at ht
    cases h1 : ty1 q (T 437 (1600 + a)) τ with
    | none => rw [h1] at ht; cases ht
    | some t =>
      rw [h1] at ht
      obtain ⟨T1, k1, e1, e2, e3, e4⟩ := m_cT1 (o := o) hw hq he (by omega) he2 hk hs hv hl ho ho2 hp h1
      have h437 : T1 437 = T 437 := e4.1 437 (by decide) (by decide)
      obtain ⟨T', k', r1, r2, r3⟩ := ih (a + 1) T1 k1 _ t τ' (by rw [e4.1 436 (by decide) (by decide), he]; congr 1; omega) (by omega) e2 e3 (ev1_VT hp (fun _ => by show _ ∧ _; omega) (fun _ => by show _ ∧ _; omega) h1 hv) (ty1_len h1 hl) (by rw [e4.2 51 (by decide), ho]) (by rw [mpv_fq e4]; exact hp) (by rw [h437]; exact ht)
      refine ⟨T', k', ?_, ?_, e4.tr r3⟩
      · rw [e1, ← r1]; congr 1
      · rw [r2, h437, mpv_fq e4]; rfl
/-- one code of a question -/
theorem m_qT1 {i : Int} {T : MS} {a e k o' : Nat} {s : List Int} {τ τ' : List Bool} {fl st : Int → Int} (hof : ∀ (z x : Int) (T' : MS), vt false x → FQ T T' → z = 0 ∨ z = 1 → m_Mo_qOf z x i T' = some ((if z = 0 then fl x else st x), T')) (hfl : ∀ x, vt false (fl x)) (hst : ∀ x, vt false (st x)) (he : T 401 97 = (e : Int)) (ha : a < e) (he2 : e ≤ 1700) (hk : T 401 103 = (k : Int)) (hs : stk (T 475) k = s) (hv : VT τ s) (hl : τ.length ≤ 60) (ho : T 401 51 = (o' : Int)) (ho2 : o' < 8) (hp : pvok 3 (mpv T o')) (ht : ty1 3 (T 473 a) τ = some τ') :
    ∃ (T1 : MS) (k1 : Nat), Mo_qTold_7 i a T = Mo_qTold_7 i ((a : Int) + 1) T1 ∧ T1 401 103 = (k1 : Int) ∧ stk (T1 475) k1 = ev1 (mpv T o') fl st (T 473 a) s ∧ FQ T T1 := by
  have hkl : k = τ.length := by rw [← VT_len hv, ← hs, stk_len]
  rw [e_Mo_qTold_7, he, if_pos (by omega), if_pos (by omega), Int.toNat_natCast, wrN (z := (a : Int) + 1) (by omega) (by omega)]
  generalize T 473 a = c at ht ⊢
  rcases ty1_inv ht with ⟨g1, g2, g3, rfl⟩ | ⟨g1, g2, t, rfl, rfl⟩ | ⟨g1, g2, g3, g4, rfl⟩ | ⟨rfl, g2, rfl⟩ | ⟨rfl, t, rfl, rfl⟩ | ⟨g1, t, rfl, rfl⟩ | ⟨g1, t, rfl, rfl⟩ | ⟨g1, t, rfl, rfl⟩
  · rw [if_neg (by omega), wrN (by omega) (by omega), m_puts hk (by omega), ev1_num g1]
    exact ⟨_, k + 1, rfl, up_s _ _ _ _, pl_1 rfl hs, FQ_1⟩
  · obtain ⟨v, r, rfl, h3, h4⟩ := VT_1 hv
    obtain ⟨n, rfl, h5, h6⟩ := stk_cons hs
    simp only [List.length_cons] at hl hkl
    rw [if_pos (by omega), if_neg (by omega), hk, wrN (z := ((n + 1 : Nat) : Int) - 1) (by omega) (by omega), show (((n + 1 : Nat) : Int) - 1) = (n : Int) by omega, if_pos (by omega), Int.toNat_natCast, h5, wrN (z := c - 60) (by omega) (by omega), hof _ _ _ h3 (FQ.rf T) (by omega), Option.bind_some]
    dsimp only
    rw [m_clip, Option.bind_some]
    dsimp only
    rw [if_pos (by omega), ev1_of g1]
    refine ⟨_, n + 1, rfl, by rw [up_c (by decide), hk], ?_, FQ_3⟩
    rw [stk, up_s, stk_congr (g := T 475) (fun j hj => up_k (by omega)), h6]
    congr 1
    have hx : vt false (if c - 60 = 0 then fl v else st v) := by split; · exact hfl v
                                                                 · exact hst v
    have hx : -1000000 ≤ (if c - 60 = 0 then fl v else st v) ∧ (if c - 60 = 0 then fl v else st v) ≤ 1000000 := hx
    unfold hld
    rw [if_neg (by omega), if_neg (by omega)]
    by_cases hc : c = 60
    · rw [if_pos hc, if_pos (by omega)]
    · rw [if_neg hc, if_neg (by omega)]
  · have hpp : vt false (mpv T o' (c - 40).toNat) := hp _ (by omega) (by rw [show (((c - 40).toNat : Nat) : Int) = c - 40 by omega]; exact g3)
    have hpp : -1000000 ≤ mpv T o' (c - 40).toNat ∧ mpv T o' (c - 40).toNat ≤ 1000000 := hpp
    have hh : hld (mpv T o' (c - 40).toNat) = mpv T o' (c - 40).toNat := by unfold hld; rw [if_neg (by omega), if_neg (by omega)]
    rw [if_pos (by omega), if_pos (by omega), if_neg (by omega), wrN (by omega) (by omega), m_part ho ho2 (by omega), Option.bind_some, m_clip, Option.bind_some, hh, m_puts hk (by omega), ev1_part ⟨g1, g2⟩]
    exact ⟨_, k + 1, rfl, up_s _ _ _ _, pl_1 rfl hs, FQ_1⟩
  · rw [if_pos (by decide), if_pos (by decide), if_pos (by decide), if_pos rfl, m_puts hk (by omega)]
    exact ⟨_, k + 1, rfl, up_s _ _ _ _, pl_1 rfl hs, FQ_1⟩
  · obtain ⟨v, r, rfl, h3, h4⟩ := VT_1 hv
    obtain ⟨n, rfl, h5, h6⟩ := stk_cons hs
    have h3 : v = 0 ∨ v = 1 := h3
    simp only [List.length_cons] at hl hkl
    rw [if_pos (by decide), if_pos (by decide), if_pos (by decide), if_neg (by decide), if_pos rfl, hk, wrN (by omega) (by omega), show (((n + 1 : Nat) : Int) - 1) = (n : Int) by omega, if_pos (by omega), if_pos (by omega), Int.toNat_natCast, h5, wlN (by omega) (by omega)]
    refine ⟨_, n + 1, rfl, by rw [up_c (by decide), hk], ?_, FQ_3⟩
    rw [stk, up_s, stk_congr (g := T 475) (fun j hj => up_k (by omega)), h6]
    rfl
  all_goals
    obtain ⟨b, v, r, rfl, h3, h4, h5⟩ := VT_2 hv
    obtain ⟨n, rfl, h6, h7⟩ := stk_cons hs
    obtain ⟨n, rfl, h8, h9⟩ := stk_cons h7
    simp only [List.length_cons] at hl hkl
    have hb : -1000000 ≤ b ∧ b ≤ 1000000 := by first | exact h3 | (rcases h3 with rfl | rfl <;> decide)
    have hv2 : -1000000 ≤ v ∧ v ≤ 1000000 := by first | exact h4 | (rcases h4 with rfl | rfl <;> decide)
    rw [if_pos (by omega), if_pos (by omega), if_pos (by omega), if_neg (by omega), if_neg (by omega), m_joins (n := n) (by rw [hk]; omega) (by omega) h8 h6 hv2 hb (by omega), ev1_two (by omega)]
    refine ⟨_, n + 1, rfl, up_s _ _ _ _, ?_, FQ_2⟩
    rw [up_c (by decide), stk, up_s, stk_congr (g := T 475) (fun j hj => by rw [up_k (by omega), up_c (by decide)]), h9]
theorem m_qT {i : Int} {o' : Nat} (ho2 : o' < 8) {fl st : Int → Int} (hfl : ∀ x, vt false (fl x)) (hst : ∀ x, vt false (st x)) : ∀ (n a : Nat) (T : MS) (k : Nat) (s : List Int) (τ τ' : List Bool), (∀ (z x : Int) (T' : MS), vt false x → FQ T T' → z = 0 ∨ z = 1 → m_Mo_qOf z x i T' = some ((if z = 0 then fl x else st x), T')) → T 401 97 = ((a + n : Nat) : Int) → a + n ≤ 1700 → T 401 103 = (k : Int) → stk (T 475) k = s → VT τ s → τ.length ≤ 60 → T 401 51 = (o' : Int) → pvok 3 (mpv T o') → tyS 3 (seg (T 473) a n) τ = some τ' →
    ∃ T' k', Mo_qTold_7 i a T = some (T' 475 0, T') ∧ stk (T' 475) k' = evS (mpv T o') fl st (seg (T 473) a n) s ∧ FQ T T' := by
  intro n
  induction n with
  | zero =>
    intro a T k s τ τ' hof he he2 hk hs hv hl ho hp ht
    rw [e_Mo_qTold_7, he, if_neg (by omega)]
    exact ⟨T, k, rfl, hs, FQ.rf T⟩
  | succ n ih =>
    intro a T k s τ τ' hof he he2 hk hs hv hl ho hp ht
    rw [seg, tyS] at ht
    cases h1 : ty1 3 (T 473 a) τ with
    | none => rw [h1] at ht; cases ht
    | some t =>
      rw [h1] at ht
      obtain ⟨T1, k1, e1, e2, e3, e4⟩ := m_qT1 (i := i) hof hfl hst he (by omega) he2 hk hs hv hl ho ho2 hp h1
      have h473 : T1 473 = T 473 := e4.1 473 (by decide) (by decide)
      obtain ⟨T', k', r1, r2, r3⟩ := ih (a + 1) T1 k1 _ t τ' (fun z x T' hx hF hz => hof z x T' hx (e4.tr hF) hz) (by rw [e4.2 97 (by decide), he]; congr 1; omega) (by omega) e2 e3 (ev1_VT hp hfl hst h1 hv) (ty1_len h1 hl) (by rw [e4.2 51 (by decide), ho]) (by rw [mpv_fq e4]; exact hp) (by rw [h473]; exact ht)
      refine ⟨T', k', ?_, ?_, e4.tr r3⟩
      · rw [e1, ← r1]; congr 1
      · rw [r2, h473, mpv_fq e4]; rfl
theorem c2 {c a b : Int} {S : MS} (h : ((1 ≤ c ∧ c ≤ 9) ∧ vt false a ∧ vt false b) ∨ ((10 ≤ c ∧ c ≤ 11) ∧ vt true a ∧ vt true b)) : m_Co_ofTwo (-20 - c) a b S = some (ev2 c a b, S) := by
  rw [e_Co_ofTwo]
  rcases h with ⟨hc, h1, h2⟩ | ⟨hc, h1, h2⟩
  · have h1' : -1000000 ≤ a ∧ a ≤ 1000000 := h1
    have h2' : -1000000 ≤ b ∧ b ≤ 1000000 := h2
    have hab := abs_ab (a := a) (b := b) (m := 1000000) (by omega) (by omega)
    rcases (show c = 1 ∨ c = 2 ∨ c = 3 ∨ c = 4 ∨ c = 5 ∨ c = 6 ∨ c = 7 ∨ c = 8 ∨ c = 9 by omega) with rfl | rfl | rfl | rfl | rfl | rfl | rfl | rfl | rfl
    · rw [if_neg (by decide), if_neg (by decide), if_neg (by decide), if_neg (by decide), if_neg (by decide), if_neg (by decide), if_neg (by decide), if_neg (by decide), if_neg (by decide), if_neg (by decide), if_pos (by decide), ev2_1]
      rw [wlN (by omega) (by omega), m_held _ (by omega), Option.bind_some]
    · rw [if_neg (by decide), if_neg (by decide), if_neg (by decide), if_neg (by decide), if_neg (by decide), if_neg (by decide), if_neg (by decide), if_neg (by decide), if_neg (by decide), if_pos (by decide), ev2_2]
      rw [wlN (by omega) (by omega), m_held _ (by omega), Option.bind_some]
    · rw [if_neg (by decide), if_neg (by decide), if_neg (by decide), if_neg (by decide), if_neg (by decide), if_neg (by decide), if_neg (by decide), if_neg (by decide), if_pos (by decide), ev2_3]
      generalize a * b = x at hab ⊢
      rw [wlN (by omega) (by omega), m_held _ (by omega), Option.bind_some]
    · rw [if_neg (by decide), if_neg (by decide), if_neg (by decide), if_neg (by decide), if_neg (by decide), if_neg (by decide), if_neg (by decide), if_pos (by decide), ev2_4]
      by_cases h0 : b = 0
      · rw [if_pos h0]; unfold fdv; rw [if_pos h0]
      · rw [if_neg h0, j_floor h1 h2 h0, Option.bind_some]
    · rw [if_neg (by decide), if_neg (by decide), if_neg (by decide), if_neg (by decide), if_neg (by decide), if_neg (by decide), if_pos (by decide), ev2_5]
      split <;> rfl
    · rw [if_neg (by decide), if_neg (by decide), if_neg (by decide), if_neg (by decide), if_neg (by decide), if_pos (by decide), ev2_6]
      split <;> rfl
    · rw [if_neg (by decide), if_neg (by decide), if_neg (by decide), if_neg (by decide), if_pos (by decide), ev2_7]
      split <;> rfl
    · rw [if_neg (by decide), if_neg (by decide), if_neg (by decide), if_pos (by decide), ev2_8]
      split <;> rfl
    · rw [if_neg (by decide), if_neg (by decide), if_pos (by decide), ev2_9]
      split <;> rfl
  · have ha : a = 0 ∨ a = 1 := h1
    have hb : b = 0 ∨ b = 1 := h2
    rcases (show c = 10 ∨ c = 11 by omega) with rfl | rfl
    · rw [if_neg (by decide), if_pos (by decide), ev2_10]
      rcases ha with rfl | rfl <;> rcases hb with rfl | rfl <;> (rw [band_nn (by decide) (by decide) (by decide) (by decide)]; rfl)
    · rw [if_pos (by decide), ev2_11]
      rcases ha with rfl | rfl <;> rcases hb with rfl | rfl <;> (rw [bor_nn (by decide) (by decide) (by decide) (by decide)]; rfl)
/-! the class's run of e -/
theorem c1_e {c : Int} {a : Int} {S : MS} (ha : -1000000 ≤ a ∧ a ≤ 1000000) (hc : c = 12 ∨ c = 60 ∨ c = 61) : m_Co_ofOne_e (mc c) a S = some ((if c = 12 then 1 - a else if c = 60 then (if 0 ≤ a ∧ a < 4 then S 43 a.toNat else 0) else (if 0 ≤ a ∧ a < 8 then S 44 a.toNat else -1)), S) := by
  rw [e_Co_ofOne_e]
  rcases hc with rfl | rfl | rfl
  · rw [show mc 12 = -11 from rfl, if_neg (by decide), if_neg (by decide), if_pos rfl, wrN (by omega) (by omega)]; rfl
  · rw [show mc 60 = -12 from rfl, if_neg (by decide), if_pos rfl, if_neg (show ¬ (60 : Int) = 12 by decide), if_pos (show (60 : Int) = 60 from rfl)]
    by_cases h1 : a < 0
    · rw [if_pos h1, if_neg (by omega)]
    · rw [if_neg h1]
      by_cases h2 : a < 4
      · rw [if_pos h2, if_pos (by omega), if_pos (by omega)]
      · rw [if_neg h2, if_neg (by omega)]
  · rw [show mc 61 = -13 from rfl, if_pos rfl, if_neg (show ¬ (61 : Int) = 12 by decide), if_neg (show ¬ (61 : Int) = 60 by decide)]
    by_cases h1 : a < 0
    · rw [if_pos h1, if_neg (by omega)]
    · rw [if_neg h1]
      by_cases h2 : a < 8
      · rw [if_pos h2, if_pos (by omega), if_pos (by omega)]
      · rw [if_neg h2, if_neg (by omega)]
def FP_e (S S' : MS) : Prop := ∀ c, c ≠ 45 → S' c = S c
def cfl_e (S : MS) (a : Int) : Int := if 0 ≤ a ∧ a < 4 then S 43 a.toNat else 0
def cst_e (S : MS) (a : Int) : Int := if 0 ≤ a ∧ a < 8 then S 44 a.toNat else -1
theorem c_T1_e {q c : Int} {S : MS} {a e k : Nat} {s : List Int} {τ τ' : List Bool} {pv : Nat → Int} (ha : a < e) (he2 : e ≤ 1616) (hi : S 41 a = mc c) (hs : stk (S 45) k = s) (hv : VT τ s) (hl : τ.length ≤ 60) (hpv : ∀ j : Nat, j < 8 → alw q j = true → S 42 j = pv j) (ht : ty1 q c τ = some τ') :
    ∃ (S1 : MS) (k1 : Nat), Co_run_e_19 k e a S = Co_run_e_19 k1 e ((a : Int) + 1) S1 ∧ stk (S1 45) k1 = ev1 pv (cfl_e S) (cst_e S) c s ∧ FP_e S S1 := by
  have hkl : k = τ.length := by rw [← VT_len hv, ← hs, stk_len]
  rw [e_Co_run_e_19, if_pos (by omega), if_pos (by omega), Int.toNat_natCast, hi, wrN (z := (a : Int) + 1) (by omega) (by omega)]
  rcases ty1_inv ht with ⟨g1, g2, g3, rfl⟩ | ⟨g1, g2, t, rfl, rfl⟩ | ⟨g1, g2, g3, g4, rfl⟩ | ⟨rfl, g2, rfl⟩ | ⟨rfl, t, rfl, rfl⟩ | ⟨g1, t, rfl, rfl⟩ | ⟨g1, t, rfl, rfl⟩ | ⟨g1, t, rfl, rfl⟩
  · rw [show mc c = c - 1000 from if_pos g1, if_neg (by omega), if_pos (by omega), if_neg (by omega), if_pos (by omega), Int.toNat_natCast, wrN (by omega) (by omega), ev1_num g1]
    refine ⟨_, k + 1, rfl, ?_, fun c hc => up_c hc⟩
    rw [stk, up_s, stk_congr (g := S 45) (fun j hj => up_k (by omega)), hs]
  · obtain ⟨v, r, rfl, h3, h4⟩ := VT_1 hv
    obtain ⟨n, rfl, h5, h6⟩ := stk_cons hs
    simp only [List.length_cons] at hl hkl
    have hm : mc c = 48 - c := by unfold mc; rw [if_neg (by omega), if_pos (by omega)]
    have hw : wr (((n + 1 : Nat) : Int) - 1) = (n : Int) := by rw [wrN (by omega) (by omega)]; omega
    rw [if_pos (by omega), if_pos (by omega), if_neg (by omega), hw, if_pos (by omega), Int.toNat_natCast, h5, c1_e h3 (by omega), Option.bind_some, if_pos (by omega), ev1_of g1]
    refine ⟨_, n + 1, rfl, ?_, fun c hc => up_c hc⟩
    rw [stk, up_s, stk_congr (g := S 45) (fun j hj => up_k (by omega)), h6, if_neg (by omega)]
    rfl
  · have hm : mc c = 39 - c := by unfold mc; rw [if_neg (by omega), if_neg (by omega), if_pos (by omega)]
    rw [hm, if_neg (by omega), if_pos (by omega), if_pos (by omega), wrN (z := -1 - (39 - c)) (by omega) (by omega), if_pos (by omega), if_pos (by omega), Int.toNat_natCast, wrN (by omega) (by omega), show (-1 - (39 - c)).toNat = (c - 40).toNat by omega, hpv _ (by omega) (by rw [show (((c - 40).toNat : Nat) : Int) = c - 40 by omega]; exact g3), ev1_part ⟨g1, g2⟩]
    refine ⟨_, k + 1, rfl, ?_, fun c hc => up_c hc⟩
    rw [stk, up_s, stk_congr (g := S 45) (fun j hj => up_k (by omega)), hs]
  · rw [show mc 13 = 1 from rfl, if_neg (by decide), if_pos (by omega), if_neg (by decide), if_pos (by omega), Int.toNat_natCast, wrN (by omega) (by omega)]
    refine ⟨_, k + 1, rfl, ?_, fun c hc => up_c hc⟩
    rw [stk, up_s, stk_congr (g := S 45) (fun j hj => up_k (by omega)), hs]
    rfl
  · obtain ⟨v, r, rfl, h3, h4⟩ := VT_1 hv
    obtain ⟨n, rfl, h5, h6⟩ := stk_cons hs
    simp only [List.length_cons] at hl hkl
    have h3 : -1000000 ≤ v ∧ v ≤ 1000000 := by rcases h3 with rfl | rfl <;> decide
    have hw : wr (((n + 1 : Nat) : Int) - 1) = (n : Int) := by rw [wrN (by omega) (by omega)]; omega
    rw [if_pos (by decide), if_pos (by decide), if_neg (by omega), hw, if_pos (by omega), Int.toNat_natCast, h5, c1_e h3 (Or.inl rfl), Option.bind_some, if_pos (by omega)]
    refine ⟨_, n + 1, rfl, ?_, fun c hc => up_c hc⟩
    rw [stk, up_s, stk_congr (g := S 45) (fun j hj => up_k (by omega)), h6]
    rfl
  all_goals
    obtain ⟨b, v, r, rfl, h3, h4, h5⟩ := VT_2 hv
    obtain ⟨n, rfl, h6, h7⟩ := stk_cons hs
    obtain ⟨n, rfl, h8, h9⟩ := stk_cons h7
    simp only [List.length_cons] at hl hkl
    have hm : mc c = -20 - c := by unfold mc; rw [if_neg (by omega), if_neg (by omega), if_neg (by omega), if_neg (by omega), if_neg (by omega)]
    have hw1 : wr (((n + 1 + 1 : Nat) : Int) + (-1)) = (n : Int) + 1 := by rw [wrN (by omega) (by omega)]; omega
    have hw2 : wr ((n : Int) + 1 - 1) = (n : Int) := by rw [wrN (by omega) (by omega)]; omega
    rw [if_pos (by omega), if_neg (by omega), if_neg (by omega), hw1, hw2, if_pos (by omega), if_pos (by omega), Int.toNat_natCast, show ((n : Int) + 1).toNat = n + 1 by omega, h6, h8, hm]
    have h2 : m_Co_ofTwo (-20 - c) v b S = some (ev2 c v b, S) := c2 (by first | exact Or.inl ⟨by omega, h4, h3⟩ | exact Or.inr ⟨by omega, h4, h3⟩)
    rw [h2, Option.bind_some, if_pos (by omega), ev1_two (by omega)]
    refine ⟨_, n + 1, rfl, ?_, fun c hc => up_c hc⟩
    rw [stk, up_s, stk_congr (g := S 45) (fun j hj => up_k (by omega)), h9]
theorem c_T_e {q : Int} {pv : Nat → Int} (hp : pvok q pv) : ∀ (cs : List Int) (a : Nat) (S : MS) (k : Nat) (s : List Int) (τ τ' : List Bool), a + cs.length ≤ 1616 → (∀ i : Nat, i < cs.length → S 41 (a + i) = mc (cs.getD i 0)) → stk (S 45) k = s → VT τ s → τ.length ≤ 60 → (∀ j : Nat, j < 8 → alw q j = true → S 42 j = pv j) → (∀ x, vt false (cfl_e S x)) → (∀ x, vt false (cst_e S x)) → tyS q cs τ = some τ' → τ' ≠ [] →
    ∃ S' k', Co_run_e_19 k ((a + cs.length : Nat) : Int) a S = some (S' 45 0, S') ∧ stk (S' 45) k' = evS pv (cfl_e S) (cst_e S) cs s ∧ FP_e S S' := by
  intro cs
  induction cs with
  | nil =>
    intro a S k s τ τ' he hi hs hv hl hpv hf1 hf2 ht hne
    cases ht
    have hk0 : 0 < k := by
      cases τ with
      | nil => exact absurd rfl hne
      | cons b t =>
        have := VT_len hv
        rw [← hs, stk_len, List.length_cons] at this
        omega
    rw [e_Co_run_e_19, List.length_nil, if_neg (by omega), if_pos (by omega)]
    exact ⟨S, k, rfl, hs, fun _ _ => rfl⟩
  | cons c cs ih =>
    intro a S k s τ τ' he hi hs hv hl hpv hf1 hf2 ht hne
    rw [List.length_cons] at he hi
    rw [tyS] at ht
    cases h1 : ty1 q c τ with
    | none => rw [h1] at ht; cases ht
    | some t =>
      rw [h1] at ht
      have hi0 : S 41 a = mc c := by have := hi 0 (by omega); simpa using this
      obtain ⟨S1, k1, e1, e3, e4⟩ := c_T1_e (pv := pv) (e := a + (cs.length + 1)) (by omega) he hi0 hs hv hl hpv h1
      have g1 : cfl_e S1 = cfl_e S := by funext x; unfold cfl_e; rw [e4 43 (by decide)]
      have g2 : cst_e S1 = cst_e S := by funext x; unfold cst_e; rw [e4 44 (by decide)]
      obtain ⟨S', k', r1, r2, r3⟩ := ih (a + 1) S1 k1 _ t τ' (by omega) (fun i hi2 => by
        have := hi (i + 1) (by omega)
        rw [e4 41 (by decide), show a + 1 + i = a + (i + 1) by omega, this]
        rfl) e3 (ev1_VT hp hf1 hf2 h1 hv) (ty1_len h1 hl) (fun j h2 h3 => by rw [e4 42 (by decide)]; exact hpv j h2 h3) (by rw [g1]; exact hf1) (by rw [g2]; exact hf2) ht hne
      refine ⟨S', k', ?_, ?_, fun c hc => (r3 c hc).trans (e4 c hc)⟩
      · rw [List.length_cons, e1, ← r1]
        congr 1
        omega
      · rw [r2, g1, g2]; rfl
theorem c_run_e {q : Int} {pv : Nat → Int} {cs : List Int} {a : Nat} {b : Bool} {S : MS} (hp : pvok q pv) (hsz : ((a + cs.length : Nat) : Int) ≤ S 40 1) (hl : a + cs.length ≤ 1616) (hi : ∀ i : Nat, i < cs.length → S 41 (a + i) = mc (cs.getD i 0)) (hpv : ∀ j : Nat, j < 8 → alw q j = true → S 42 j = pv j) (hf1 : ∀ x, vt false (cfl_e S x)) (hf2 : ∀ x, vt false (cst_e S x)) (ht : tyS q cs [] = some [b]) :
    ∃ S', m_Co_run_e (a : Int) ((a + cs.length : Nat) : Int) S = some (evC pv (cfl_e S) (cst_e S) cs, S') ∧ FP_e S S' := by
  obtain ⟨S', k', r1, r2, r3⟩ := c_T_e hp cs a S 0 [] [] [b] hl hi rfl trivial (by decide) hpv hf1 hf2 ht (by simp)
  obtain ⟨h1, h2⟩ := evC_of hp hf1 hf2 ht
  rw [h1] at r2
  obtain ⟨n, rfl, h3, h4⟩ := stk_cons r2
  cases n with
  | succ n => cases h4
  | zero =>
    refine ⟨S', ?_, r3⟩
    rw [e_Co_run_e, imn_le hsz, imx_ge (by omega), ← h3]
    exact r1
/-! the class's run of a -/
theorem c1_a {c : Int} {a : Int} {S : MS} (ha : -1000000 ≤ a ∧ a ≤ 1000000) (hc : c = 12 ∨ c = 60 ∨ c = 61) : m_Co_ofOne_a (mc c) a S = some ((if c = 12 then 1 - a else if c = 60 then (if 0 ≤ a ∧ a < 4 then S 129 a.toNat else 0) else (if 0 ≤ a ∧ a < 8 then S 130 a.toNat else -1)), S) := by
  rw [e_Co_ofOne_a]
  rcases hc with rfl | rfl | rfl
  · rw [show mc 12 = -11 from rfl, if_neg (by decide), if_neg (by decide), if_pos rfl, wrN (by omega) (by omega)]; rfl
  · rw [show mc 60 = -12 from rfl, if_neg (by decide), if_pos rfl, if_neg (show ¬ (60 : Int) = 12 by decide), if_pos (show (60 : Int) = 60 from rfl)]
    by_cases h1 : a < 0
    · rw [if_pos h1, if_neg (by omega)]
    · rw [if_neg h1]
      by_cases h2 : a < 4
      · rw [if_pos h2, if_pos (by omega), if_pos (by omega)]
      · rw [if_neg h2, if_neg (by omega)]
  · rw [show mc 61 = -13 from rfl, if_pos rfl, if_neg (show ¬ (61 : Int) = 12 by decide), if_neg (show ¬ (61 : Int) = 60 by decide)]
    by_cases h1 : a < 0
    · rw [if_pos h1, if_neg (by omega)]
    · rw [if_neg h1]
      by_cases h2 : a < 8
      · rw [if_pos h2, if_pos (by omega), if_pos (by omega)]
      · rw [if_neg h2, if_neg (by omega)]
def FP_a (S S' : MS) : Prop := ∀ c, c ≠ 131 → S' c = S c
def cfl_a (S : MS) (a : Int) : Int := if 0 ≤ a ∧ a < 4 then S 129 a.toNat else 0
def cst_a (S : MS) (a : Int) : Int := if 0 ≤ a ∧ a < 8 then S 130 a.toNat else -1
theorem c_T1_a {q c : Int} {S : MS} {a e k : Nat} {s : List Int} {τ τ' : List Bool} {pv : Nat → Int} (ha : a < e) (he2 : e ≤ 1616) (hi : S 127 a = mc c) (hs : stk (S 131) k = s) (hv : VT τ s) (hl : τ.length ≤ 60) (hpv : ∀ j : Nat, j < 8 → alw q j = true → S 128 j = pv j) (ht : ty1 q c τ = some τ') :
    ∃ (S1 : MS) (k1 : Nat), Co_run_a_19 k e a S = Co_run_a_19 k1 e ((a : Int) + 1) S1 ∧ stk (S1 131) k1 = ev1 pv (cfl_a S) (cst_a S) c s ∧ FP_a S S1 := by
  have hkl : k = τ.length := by rw [← VT_len hv, ← hs, stk_len]
  rw [e_Co_run_a_19, if_pos (by omega), if_pos (by omega), Int.toNat_natCast, hi, wrN (z := (a : Int) + 1) (by omega) (by omega)]
  rcases ty1_inv ht with ⟨g1, g2, g3, rfl⟩ | ⟨g1, g2, t, rfl, rfl⟩ | ⟨g1, g2, g3, g4, rfl⟩ | ⟨rfl, g2, rfl⟩ | ⟨rfl, t, rfl, rfl⟩ | ⟨g1, t, rfl, rfl⟩ | ⟨g1, t, rfl, rfl⟩ | ⟨g1, t, rfl, rfl⟩
  · rw [show mc c = c - 1000 from if_pos g1, if_neg (by omega), if_pos (by omega), if_neg (by omega), if_pos (by omega), Int.toNat_natCast, wrN (by omega) (by omega), ev1_num g1]
    refine ⟨_, k + 1, rfl, ?_, fun c hc => up_c hc⟩
    rw [stk, up_s, stk_congr (g := S 131) (fun j hj => up_k (by omega)), hs]
  · obtain ⟨v, r, rfl, h3, h4⟩ := VT_1 hv
    obtain ⟨n, rfl, h5, h6⟩ := stk_cons hs
    simp only [List.length_cons] at hl hkl
    have hm : mc c = 48 - c := by unfold mc; rw [if_neg (by omega), if_pos (by omega)]
    have hw : wr (((n + 1 : Nat) : Int) - 1) = (n : Int) := by rw [wrN (by omega) (by omega)]; omega
    rw [if_pos (by omega), if_pos (by omega), if_neg (by omega), hw, if_pos (by omega), Int.toNat_natCast, h5, c1_a h3 (by omega), Option.bind_some, if_pos (by omega), ev1_of g1]
    refine ⟨_, n + 1, rfl, ?_, fun c hc => up_c hc⟩
    rw [stk, up_s, stk_congr (g := S 131) (fun j hj => up_k (by omega)), h6, if_neg (by omega)]
    rfl
  · have hm : mc c = 39 - c := by unfold mc; rw [if_neg (by omega), if_neg (by omega), if_pos (by omega)]
    rw [hm, if_neg (by omega), if_pos (by omega), if_pos (by omega), wrN (z := -1 - (39 - c)) (by omega) (by omega), if_pos (by omega), if_pos (by omega), Int.toNat_natCast, wrN (by omega) (by omega), show (-1 - (39 - c)).toNat = (c - 40).toNat by omega, hpv _ (by omega) (by rw [show (((c - 40).toNat : Nat) : Int) = c - 40 by omega]; exact g3), ev1_part ⟨g1, g2⟩]
    refine ⟨_, k + 1, rfl, ?_, fun c hc => up_c hc⟩
    rw [stk, up_s, stk_congr (g := S 131) (fun j hj => up_k (by omega)), hs]
  · rw [show mc 13 = 1 from rfl, if_neg (by decide), if_pos (by omega), if_neg (by decide), if_pos (by omega), Int.toNat_natCast, wrN (by omega) (by omega)]
    refine ⟨_, k + 1, rfl, ?_, fun c hc => up_c hc⟩
    rw [stk, up_s, stk_congr (g := S 131) (fun j hj => up_k (by omega)), hs]
    rfl
  · obtain ⟨v, r, rfl, h3, h4⟩ := VT_1 hv
    obtain ⟨n, rfl, h5, h6⟩ := stk_cons hs
    simp only [List.length_cons] at hl hkl
    have h3 : -1000000 ≤ v ∧ v ≤ 1000000 := by rcases h3 with rfl | rfl <;> decide
    have hw : wr (((n + 1 : Nat) : Int) - 1) = (n : Int) := by rw [wrN (by omega) (by omega)]; omega
    rw [if_pos (by decide), if_pos (by decide), if_neg (by omega), hw, if_pos (by omega), Int.toNat_natCast, h5, c1_a h3 (Or.inl rfl), Option.bind_some, if_pos (by omega)]
    refine ⟨_, n + 1, rfl, ?_, fun c hc => up_c hc⟩
    rw [stk, up_s, stk_congr (g := S 131) (fun j hj => up_k (by omega)), h6]
    rfl
  all_goals
    obtain ⟨b, v, r, rfl, h3, h4, h5⟩ := VT_2 hv
    obtain ⟨n, rfl, h6, h7⟩ := stk_cons hs
    obtain ⟨n, rfl, h8, h9⟩ := stk_cons h7
    simp only [List.length_cons] at hl hkl
    have hm : mc c = -20 - c := by unfold mc; rw [if_neg (by omega), if_neg (by omega), if_neg (by omega), if_neg (by omega), if_neg (by omega)]
    have hw1 : wr (((n + 1 + 1 : Nat) : Int) + (-1)) = (n : Int) + 1 := by rw [wrN (by omega) (by omega)]; omega
    have hw2 : wr ((n : Int) + 1 - 1) = (n : Int) := by rw [wrN (by omega) (by omega)]; omega
    rw [if_pos (by omega), if_neg (by omega), if_neg (by omega), hw1, hw2, if_pos (by omega), if_pos (by omega), Int.toNat_natCast, show ((n : Int) + 1).toNat = n + 1 by omega, h6, h8, hm]
    have h2 : m_Co_ofTwo (-20 - c) v b S = some (ev2 c v b, S) := c2 (by first | exact Or.inl ⟨by omega, h4, h3⟩ | exact Or.inr ⟨by omega, h4, h3⟩)
    rw [h2, Option.bind_some, if_pos (by omega), ev1_two (by omega)]
    refine ⟨_, n + 1, rfl, ?_, fun c hc => up_c hc⟩
    rw [stk, up_s, stk_congr (g := S 131) (fun j hj => up_k (by omega)), h9]
theorem c_T_a {q : Int} {pv : Nat → Int} (hp : pvok q pv) : ∀ (cs : List Int) (a : Nat) (S : MS) (k : Nat) (s : List Int) (τ τ' : List Bool), a + cs.length ≤ 1616 → (∀ i : Nat, i < cs.length → S 127 (a + i) = mc (cs.getD i 0)) → stk (S 131) k = s → VT τ s → τ.length ≤ 60 → (∀ j : Nat, j < 8 → alw q j = true → S 128 j = pv j) → (∀ x, vt false (cfl_a S x)) → (∀ x, vt false (cst_a S x)) → tyS q cs τ = some τ' → τ' ≠ [] →
    ∃ S' k', Co_run_a_19 k ((a + cs.length : Nat) : Int) a S = some (S' 131 0, S') ∧ stk (S' 131) k' = evS pv (cfl_a S) (cst_a S) cs s ∧ FP_a S S' := by
  intro cs
  induction cs with
  | nil =>
    intro a S k s τ τ' he hi hs hv hl hpv hf1 hf2 ht hne
    cases ht
    have hk0 : 0 < k := by
      cases τ with
      | nil => exact absurd rfl hne
      | cons b t =>
        have := VT_len hv
        rw [← hs, stk_len, List.length_cons] at this
        omega
    rw [e_Co_run_a_19, List.length_nil, if_neg (by omega), if_pos (by omega)]
    exact ⟨S, k, rfl, hs, fun _ _ => rfl⟩
  | cons c cs ih =>
    intro a S k s τ τ' he hi hs hv hl hpv hf1 hf2 ht hne
    rw [List.length_cons] at he hi
    rw [tyS] at ht
    cases h1 : ty1 q c τ with
    | none => rw [h1] at ht; cases ht
    | some t =>
      rw [h1] at ht
      have hi0 : S 127 a = mc c := by have := hi 0 (by omega); simpa using this
      obtain ⟨S1, k1, e1, e3, e4⟩ := c_T1_a (pv := pv) (e := a + (cs.length + 1)) (by omega) he hi0 hs hv hl hpv h1
      have g1 : cfl_a S1 = cfl_a S := by funext x; unfold cfl_a; rw [e4 129 (by decide)]
      have g2 : cst_a S1 = cst_a S := by funext x; unfold cst_a; rw [e4 130 (by decide)]
      obtain ⟨S', k', r1, r2, r3⟩ := ih (a + 1) S1 k1 _ t τ' (by omega) (fun i hi2 => by
        have := hi (i + 1) (by omega)
        rw [e4 127 (by decide), show a + 1 + i = a + (i + 1) by omega, this]
        rfl) e3 (ev1_VT hp hf1 hf2 h1 hv) (ty1_len h1 hl) (fun j h2 h3 => by rw [e4 128 (by decide)]; exact hpv j h2 h3) (by rw [g1]; exact hf1) (by rw [g2]; exact hf2) ht hne
      refine ⟨S', k', ?_, ?_, fun c hc => (r3 c hc).trans (e4 c hc)⟩
      · rw [List.length_cons, e1, ← r1]
        congr 1
        omega
      · rw [r2, g1, g2]; rfl
theorem c_run_a {q : Int} {pv : Nat → Int} {cs : List Int} {a : Nat} {b : Bool} {S : MS} (hp : pvok q pv) (hsz : ((a + cs.length : Nat) : Int) ≤ S 126 1) (hl : a + cs.length ≤ 1616) (hi : ∀ i : Nat, i < cs.length → S 127 (a + i) = mc (cs.getD i 0)) (hpv : ∀ j : Nat, j < 8 → alw q j = true → S 128 j = pv j) (hf1 : ∀ x, vt false (cfl_a S x)) (hf2 : ∀ x, vt false (cst_a S x)) (ht : tyS q cs [] = some [b]) :
    ∃ S', m_Co_run_a (a : Int) ((a + cs.length : Nat) : Int) S = some (evC pv (cfl_a S) (cst_a S) cs, S') ∧ FP_a S S' := by
  obtain ⟨S', k', r1, r2, r3⟩ := c_T_a hp cs a S 0 [] [] [b] hl hi rfl trivial (by decide) hpv hf1 hf2 ht (by simp)
  obtain ⟨h1, h2⟩ := evC_of hp hf1 hf2 ht
  rw [h1] at r2
  obtain ⟨n, rfl, h3, h4⟩ := stk_cons r2
  cases n with
  | succ n => cases h4
  | zero =>
    refine ⟨S', ?_, r3⟩
    rw [e_Co_run_a, imn_le hsz, imx_ge (by omega), ← h3]
    exact r1
