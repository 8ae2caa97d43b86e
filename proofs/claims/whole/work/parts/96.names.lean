/-! officer, letter -/
section
variable {n : Nat} {P S T : MS}
theorem c_isIn {w : Nat → Int} (hS : SWn S 24 w) {k : Nat} (hk : k < 12) : m_Ro_isIn k S = some ((if w (1 + 2 * k) = 1 then 1 else 0), S) := by
  obtain ⟨s1, s2, s3, s4, s5⟩ := hS
  obtain ⟨b1, b2⟩ := s4 k hk
  rw [e_Ro_isIn, bt_of (by omega) (by omega) (by omega) (by omega), Int.toNat_natCast, b1]
  split <;> rfl
theorem both_lead (hP : PLN P) (hR : RP P T) (hC : CP P S) (hW : WV P (T 438)) (hS : SWn S 24 (T 438)) {a x : Int} {b : Int} (hx : -2147483648 ≤ x ∧ x < 2147483648) (hb : ∀ k, k < nCa P → frC P k (bt x k) = if b = 0 then frC P k (T 438 (2 + 2 * k)) else toC P k (T 438 (2 + 2 * k))) : ∀ (j v : Nat) (c : Int), v + j = nCa P → 0 ≤ c ∧ c ≤ v → ∃ r, Ro_countFrom2_5 a x c v S = some (r, S) ∧ Mo_leadingMany_5 a b c v T = some (r, T) := by
  have h3 := hP.2.2.1
  have h12 := nCa_le hP
  intro j
  induction j with
  | zero =>
    intro v c e hc
    rw [e_Ro_countFrom2_5, e_Mo_leadingMany_5, e_Mo_carbonMany, Option.bind_some]
    dsimp only
    rw [hR.n6, hC.2.2.1, if_neg (by unfold nCa at e; omega), if_neg (by unfold nCa at e; omega)]
    exact ⟨c, rfl, rfl⟩
  | succ j ih =>
    intro v c e hc
    have hb := hb v (by omega)
    have hw := hW.2.1 v (by omega)
    rw [e_Ro_countFrom2_5, e_Mo_leadingMany_5, e_Mo_carbonMany, Option.bind_some]
    dsimp only
    rw [hR.n6, hC.2.2.1, if_pos (by unfold nCa at e; omega), if_pos (by unfold nCa at e; omega), c_isIn hS (by omega), m_inside (by omega), Option.bind_some, Option.bind_some, c_giverP hC (by omega) (by omega) hx, hb, wrN (z := (v : Int) + 1) (by omega) (by omega), wrN (z := c + 1) (by omega) (by omega), m_to hR (by omega) hw.2, m_from hR (by omega) hw.2]
    dsimp only
    have i1 := ih (v + 1) c (by omega) (by omega)
    have i2 := ih (v + 1) (c + 1) (by omega) (by omega)
    by_cases d : T 438 (1 + 2 * v) = 1
    · rw [if_pos d, if_neg n10, if_neg n10, Option.bind_some]
      dsimp only
      by_cases b0 : b = 0
      · rw [if_pos b0, if_pos b0, Option.bind_some]
        dsimp only
        by_cases e1 : frC P v (T 438 (2 + 2 * v)) = a
        · rw [if_pos e1, if_pos e1]; exact i2
        · rw [if_neg e1, if_neg e1]; exact i1
      · rw [if_neg b0, if_neg b0, Option.bind_some]
        dsimp only
        by_cases e1 : toC P v (T 438 (2 + 2 * v)) = a
        · rw [if_pos e1, if_pos e1]; exact i2
        · rw [if_neg e1, if_neg e1]; exact i1
    · rw [if_neg d, if_pos rfl, if_pos rfl]
      exact i1
theorem op_officer (h : Inv n P S T) (a b : Int) : OK2 n P (m_Ma_officer a b S) (m_Mo_officer a b T) := by
  have hP := h.pln
  have h12 := nCa_le hP
  have hO8 := hP.1
  have cp := h.en.1.1
  obtain ⟨w1, w2, w3, w4, w5, w6⟩ := h.wd
  obtain ⟨s1, s2, s3, s4, s5⟩ := id w3
  rw [e_Ma_officer, e_Mo_officer]
  by_cases c : 0 ≤ a ∧ a < P 430 4
  · rw [c_isO1 h c rfl, m_isO1 hP h.rp c, Option.bind_some, Option.bind_some]
    dsimp only
    rw [if_neg n10, if_neg n10]
    obtain ⟨o, rfl⟩ : ∃ o : Nat, a = (o : Int) := ⟨a.toNat, by omega⟩
    obtain ⟨q1, q2⟩ := cp.2.2.2.2.1 o (by unfold nOf; omega)
    by_cases d : 0 ≤ b ∧ b ≤ 3
    · rw [m_in1 d, Option.bind_some]
      dsimp only
      rw [if_neg n10, wrN (z := 2 * (o : Int)) (by omega) (by omega), wrN (z := 16 + 2 * (o : Int)) (by omega) (by omega), wrN (z := 16 + 2 * (o : Int) + b) (by omega) (by omega)]
      rcases (show b = 0 ∨ b = 1 ∨ b = 2 ∨ b = 3 by omega) with rfl | rfl | rfl | rfl
      · rw [if_pos rfl, if_pos (by omega), if_pos (by decide), if_pos (by omega), Int.toNat_natCast, q1, show (16 + 2 * (o : Int) + 0).toNat = 16 + 2 * o by omega, h.rp.2.2.1 _ (by omega) (by omega)]
        exact ⟨_, S, T, rfl, rfl, h.same⟩
      · rw [if_neg (by decide), if_pos rfl, if_pos (by omega), if_pos (by decide), if_pos (by omega), Int.toNat_natCast, q2, show (16 + 2 * (o : Int) + 1).toNat = 17 + 2 * o by omega, h.rp.2.2.1 _ (by omega) (by omega)]
        exact ⟨_, S, T, rfl, rfl, h.same⟩
      · rw [if_neg (by decide), if_neg (by decide), if_pos rfl, if_neg (by decide), if_pos rfl, e_Ro_countTo, e_Ro_countFrom2, e_Mo_leadingMany, bxor_not (by omega) (by omega)]
        obtain ⟨r, r1, r2⟩ := both_lead (a := o) (x := -1 - S 24 2) (b := 1) hP h.rp cp w1 w3 (by omega) (fun k hk => by
          rw [bt_not, (s4 k (by omega)).2, if_neg n10]
          rcases (w1.2.1 k (by omega)).2 with e | e
          · rw [e]; rfl
          · rw [e]; rfl) (nCa P) 0 0 (by omega) (by omega)
        have r1 : Ro_countFrom2_5 o (-1 - S 24 2) 0 0 S = some (r, S) := r1
        have r2 : Mo_leadingMany_5 o 1 0 0 T = some (r, T) := r2
        rw [r1, r2]
        exact ⟨_, S, T, rfl, rfl, h.same⟩
      · rw [if_neg (by decide), if_neg (by decide), if_neg (by decide), if_pos rfl, if_neg (by decide), if_neg (by decide), e_Ro_countFrom1, e_Ro_countFrom2, e_Mo_leadingMany]
        obtain ⟨r, r1, r2⟩ := both_lead (a := o) (x := S 24 2) (b := 0) hP h.rp cp w1 w3 (by omega) (fun k hk => by
          rw [(s4 k (by omega)).2, if_pos rfl]) (nCa P) 0 0 (by omega) (by omega)
        have r1 : Ro_countFrom2_5 o (S 24 2) 0 0 S = some (r, S) := r1
        have r2 : Mo_leadingMany_5 o 0 0 0 T = some (r, T) := r2
        rw [r1, r2]
        exact ⟨_, S, T, rfl, rfl, h.same⟩
    · rw [m_in0 d, Option.bind_some, if_neg (by omega), if_neg (by omega), if_neg (by omega), if_neg (by omega), if_pos rfl]
      exact ⟨_, S, T, rfl, rfl, h.same⟩
  · rw [c_isO0 h c rfl, m_isO0 hP h.rp c]
    exact ⟨_, S, T, rfl, rfl, h.same⟩
/-! names -/
theorem nm27_snoc (L : List Int) (x : Int) : nm27 (L ++ [x]) = 27 * nm27 L + x := by
  unfold nm27
  rw [List.foldl_append]
  rfl
theorem nm27_b : ∀ (m : Nat) (L : List Int), L.length = m → (∀ x ∈ L, 1 ≤ x ∧ x ≤ 26) → 0 ≤ nm27 L ∧ nm27 L < ((27 ^ m : Nat) : Int) ∧ (1 ≤ m → 1 ≤ nm27 L) := by
  intro m
  induction m with
  | zero =>
    intro L e _
    rw [List.length_eq_zero_iff.mp e]
    exact ⟨by decide, by decide, fun h => absurd h (by decide)⟩
  | succ m ih =>
    intro L e hL
    rcases List.eq_nil_or_concat L with rfl | ⟨L', x, rfl⟩
    · simp at e
    · rw [List.concat_eq_append] at *
      rw [List.length_append, List.length_singleton] at e
      have i := ih L' (by omega) (fun y hy => hL y (List.mem_append_left _ hy))
      have hx := hL x (List.mem_append_right _ (List.mem_singleton.mpr rfl))
      have hp : ((27 ^ (m + 1) : Nat) : Int) = ((27 ^ m : Nat) : Int) * 27 := by rw [Nat.pow_succ, Int.natCast_mul]; rfl
      rw [nm27_snoc, hp]
      omega
theorem nm27_6 {L : List Int} (h6 : L.length ≤ 6) (hL : ∀ x ∈ L, 1 ≤ x ∧ x ≤ 26) : 0 ≤ nm27 L ∧ nm27 L < 387420489 ∧ (1 ≤ L.length → 1 ≤ nm27 L) := by
  obtain ⟨h1, h2, h3⟩ := nm27_b L.length L rfl hL
  have hp : 27 ^ L.length ≤ 27 ^ 6 := Nat.pow_le_pow_right (by decide) h6
  have h27 : 27 ^ 6 = 387420489 := by decide
  refine ⟨h1, ?_, h3⟩
  omega
theorem m_len {a v : Int} : ∀ (m : Nat) (L : List Int) (c : Int), L.length = m → m ≤ 6 → (∀ x ∈ L, 1 ≤ x ∧ x ≤ 26) → 0 ≤ c ∧ c + m ≤ 100 → Mo_letter_67 a v c (nm27 L) T = Mo_letter_67 a v (c + m) 0 T := by
  intro m
  induction m with
  | zero =>
    intro L c e _ _ _
    rw [List.length_eq_zero_iff.mp e, show c + ((0 : Nat) : Int) = c by omega]
    rfl
  | succ m ih =>
    intro L c e h6 hL hc
    rcases List.eq_nil_or_concat L with rfl | ⟨L', x, rfl⟩
    · simp at e
    · rw [List.concat_eq_append] at *
      have hb := nm27_6 (by omega) hL
      have e' := e
      rw [List.length_append, List.length_singleton] at e'
      have hx := hL x (List.mem_append_right _ (List.mem_singleton.mpr rfl))
      have hL' : ∀ y ∈ L', 1 ≤ y ∧ y ≤ 26 := fun y hy => hL y (List.mem_append_left _ hy)
      have hb' := nm27_6 (L := L') (by omega) hL'
      have hd : (nm27 (L' ++ [x])).tdiv 27 = nm27 L' := by
        rw [Int.tdiv_eq_ediv_of_nonneg hb.1, nm27_snoc]
        omega
      rw [e_Mo_letter_67, if_pos (lcp_pos.mpr (by have := hb.2.2 (by omega); omega)), hd, wlN (by omega) (by omega), wrN (by omega) (by omega), ih L' (c + 1) (by omega) (by omega) hL' (by omega)]
      congr 1
      omega
theorem m_let : ∀ (m : Nat) (L : List Int) (a : Nat), L.length = m + 1 → m + 1 ≤ 6 → (∀ x ∈ L, 1 ≤ x ∧ x ≤ 26) → a ≤ m → Mo_letter_102 a (nm27 L) m T = some (L.getD a 0, T) := by
  intro m
  induction m with
  | zero =>
    intro L a e h6 hL ha
    rcases List.eq_nil_or_concat L with rfl | ⟨L', x, rfl⟩
    · simp at e
    · rw [List.concat_eq_append] at *
      have hb := nm27_6 (by omega) hL
      have e' := e
      rw [List.length_append, List.length_singleton] at e'
      have hx := hL x (List.mem_append_right _ (List.mem_singleton.mpr rfl))
      have hn : L' = [] := List.length_eq_zero_iff.mp (by omega)
      subst hn
      have ha : a = 0 := by omega
      subst ha
      rw [e_Mo_letter_102, if_neg (by decide), Int.tmod_eq_emod_of_nonneg hb.1, nm27_snoc]
      have : (27 * nm27 [] + x) % 27 = x := by omega
      rw [this, wrN (by omega) (by omega)]
      rfl
  | succ m ih =>
    intro L a e h6 hL ha
    rcases List.eq_nil_or_concat L with rfl | ⟨L', x, rfl⟩
    · simp at e
    · rw [List.concat_eq_append] at *
      have hb := nm27_6 (by omega) hL
      have e' := e
      rw [List.length_append, List.length_singleton] at e'
      have hx := hL x (List.mem_append_right _ (List.mem_singleton.mpr rfl))
      have hL' : ∀ y ∈ L', 1 ≤ y ∧ y ≤ 26 := fun y hy => hL y (List.mem_append_left _ hy)
      have hb' := nm27_6 (L := L') (by omega) hL'
      by_cases d : a = m + 1
      · subst d
        have : (27 * nm27 L' + x) % 27 = x := by omega
        rw [e_Mo_letter_102, if_neg (by omega), Int.tmod_eq_emod_of_nonneg hb.1, nm27_snoc, this, wrN (by omega) (by omega), List.getD_eq_getElem?_getD, List.getElem?_append_right (by omega), show m + 1 - L'.length = 0 by omega]
        rfl
      · have hd : (nm27 (L' ++ [x])).tdiv 27 = nm27 L' := by
          rw [Int.tdiv_eq_ediv_of_nonneg hb.1, nm27_snoc]
          omega
        rw [e_Mo_letter_102, if_pos (by omega), hd, wlN (by omega) (by omega), wrN (by omega) (by omega), show ((m + 1 : Nat) : Int) + -1 = (m : Int) by omega, ih L' a (by omega) (by omega) hL' (by omega), List.getD_eq_getElem?_getD, List.getD_eq_getElem?_getD, List.getElem?_append_left (by omega)]
theorem m_letN {c v : Int} (h : NMR c v) {a : Nat} (ha : a < 6) : Mo_letter_67 a v 0 v T = some (c / ((2 ^ (5 * (5 - a)) : Nat) : Int) % 32, T) ∧ 0 ≤ c ∧ c < 1073741824 := by
  obtain ⟨L, l1, l6, hL, rfl, rfl⟩ := h
  have hb := nm27_6 l6 hL
  have hg : ∀ i, 0 ≤ L.getD i 0 ∧ L.getD i 0 ≤ 26 := fun i => by
    by_cases c : i < L.length
    · rw [List.getD_eq_getElem?_getD, List.getElem?_eq_getElem c]
      have := hL _ (List.getElem_mem c)
      show 0 ≤ L[i] ∧ L[i] ≤ 26
      omega
    · rw [List.getD_eq_getElem?_getD, List.getElem?_eq_none (by omega)]
      decide
  have h0 := hg 0
  have h1 := hg 1
  have h2 := hg 2
  have h3 := hg 3
  have h4 := hg 4
  have h5 := hg 5
  refine ⟨?_, by unfold nm5; omega, by unfold nm5; omega⟩
  have hc : nm5 L / ((2 ^ (5 * (5 - a)) : Nat) : Int) % 32 = L.getD a 0 := by
    unfold nm5
    rcases (show a = 0 ∨ a = 1 ∨ a = 2 ∨ a = 3 ∨ a = 4 ∨ a = 5 by omega) with rfl | rfl | rfl | rfl | rfl | rfl
    · rw [show ((2 ^ (5 * (5 - 0)) : Nat) : Int) = 33554432 by decide]; omega
    · rw [show ((2 ^ (5 * (5 - 1)) : Nat) : Int) = 1048576 by decide]; omega
    · rw [show ((2 ^ (5 * (5 - 2)) : Nat) : Int) = 32768 by decide]; omega
    · rw [show ((2 ^ (5 * (5 - 3)) : Nat) : Int) = 1024 by decide]; omega
    · rw [show ((2 ^ (5 * (5 - 4)) : Nat) : Int) = 32 by decide]; omega
    · rw [show ((2 ^ (5 * (5 - 5)) : Nat) : Int) = 1 by decide]; omega
  rw [hc, m_len L.length L 0 rfl l6 hL (by omega), e_Mo_letter_67, if_neg (fun q => by have := lcp_pos.mp q; omega)]
  by_cases d : a < L.length
  · rw [if_pos (by omega), wrN (by omega) (by omega)]
    have := m_let (T := T) (L.length - 1) L a (by omega) (by omega) hL (by omega)
    rw [show 0 + (L.length : Int) - 1 = ((L.length - 1 : Nat) : Int) by omega]
    exact this
  · rw [if_neg (by omega), List.getD_eq_getElem?_getD, List.getElem?_eq_none (by omega)]
    rfl
theorem op_letter (h : Inv n P S T) (a b d : Int) : OK2 n P (m_Ma_letter a b d S) (m_Mo_letter a b d T) := by
  have hP := h.pln
  have hO8 := hP.1
  have hF4 := hP.2.1
  have cp := h.en.1.1
  rw [e_Ma_letter, e_Mo_letter]
  by_cases hd : 0 ≤ d ∧ d ≤ 5
  · obtain ⟨i, rfl⟩ : ∃ i : Nat, d = (i : Int) := ⟨d.toNat, by omega⟩
    have key : ∀ c v : Int, NMR c v → band (shr c (wr (5 * (wr (5 - (i : Int)))))) 31 = c / ((2 ^ (5 * (5 - i)) : Nat) : Int) % 32 := fun c v hc => by
      obtain ⟨-, g1, g2⟩ := m_letN (T := T) hc (a := i) (by omega)
      rw [wrN (z := 5 - (i : Int)) (by omega) (by omega), wrN (z := 5 * (5 - (i : Int))) (by omega) (by omega), shr_div (by omega) (by omega) (by omega) (by omega), band_31, show (5 * (5 - (i : Int))).toNat = 5 * (5 - i) by omega]
    rw [if_neg (by omega), if_pos (by omega)]
    by_cases a0 : a = 0
    · subst a0
      rw [if_pos rfl, m_in1 (by decide), Option.bind_some]
      dsimp only
      rw [if_neg n10, if_pos (by decide), show (wr (4 + 0)).toNat = 4 from rfl, h.rp.n4]
      by_cases c : 0 ≤ b ∧ b < P 430 4
      · obtain ⟨o, rfl⟩ : ∃ o : Nat, b = (o : Int) := ⟨b.toNat, by omega⟩
        have hnm := h.nm.1 o (by unfold nOf; omega)
        rw [c_isO1 h c rfl, Option.bind_some, wrN (z := P 430 4 - 1) (by omega) (by omega), m_in1 (by omega), Option.bind_some]
        dsimp only
        rw [if_neg n10, if_neg n10, if_pos (by omega), Int.toNat_natCast, key _ _ hnm, m_in1 hd, Option.bind_some]
        dsimp only
        rw [if_neg n10, show wr (16 + wr (8 * 0)) = 16 from rfl, wrN (by omega) (by omega), if_pos (by omega), show (16 + (o : Int)).toNat = 16 + o by omega, h.rp.2.1 _ (by omega) (by omega), (m_letN hnm (by omega)).1]
        exact ⟨_, S, T, rfl, rfl, h.same⟩
      · rw [c_isO0 h c rfl, Option.bind_some, wrN (z := P 430 4 - 1) (by omega) (by omega), m_in0 (by omega), Option.bind_some]
        dsimp only
        rw [if_pos rfl, if_pos rfl, e_Ma_letter_50, if_neg (by decide)]
        exact ⟨_, S, T, rfl, rfl, h.same⟩
    · rw [if_neg a0, e_Ma_letter_50]
      by_cases a1 : a = 1
      · subst a1
        rw [if_pos rfl, m_in1 (by decide), Option.bind_some]
        dsimp only
        rw [if_neg n10, if_pos (by decide), show (wr (4 + 1)).toNat = 5 from rfl, h.rp.n5]
        by_cases c : 0 ≤ b ∧ b < P 430 5
        · obtain ⟨o, rfl⟩ : ∃ o : Nat, b = (o : Int) := ⟨b.toNat, by omega⟩
          have hnm := h.nm.2 o (by unfold nFe; omega)
          rw [c_isF1 h c, Option.bind_some, wrN (z := P 430 5 - 1) (by omega) (by omega), m_in1 (by omega), Option.bind_some]
          dsimp only
          rw [if_neg n10, if_neg n10, if_pos (by omega), Int.toNat_natCast, key _ _ hnm, m_in1 hd, Option.bind_some]
          dsimp only
          rw [if_neg n10, show wr (16 + wr (8 * 1)) = 24 from rfl, wrN (by omega) (by omega), if_pos (by omega), show (24 + (o : Int)).toNat = 24 + o by omega, h.rp.2.1 _ (by omega) (by omega), (m_letN hnm (by omega)).1]
          exact ⟨_, S, T, rfl, rfl, h.same⟩
        · rw [c_isF0 h c, Option.bind_some, wrN (z := P 430 5 - 1) (by omega) (by omega), m_in0 (by omega), Option.bind_some]
          dsimp only
          rw [if_pos rfl, if_pos rfl]
          exact ⟨_, S, T, rfl, rfl, h.same⟩
      · rw [if_neg a1, m_in0 (by omega), Option.bind_some, if_pos rfl]
        exact ⟨_, S, T, rfl, rfl, h.same⟩
  · have hno : m_Mo_letter a b d T = some (-1, T) := by
      rw [e_Mo_letter]
      by_cases ha : 0 ≤ a ∧ a ≤ 1
      · have hN : T 430 (wr (4 + a)).toNat = P 430 (4 + a.toNat) := by
          rcases (show a = 0 ∨ a = 1 by omega) with rfl | rfl
          · exact h.rp.n4
          · exact h.rp.n5
        have hB : 0 ≤ P 430 (4 + a.toNat) ∧ P 430 (4 + a.toNat) ≤ 8 := by
          rcases (show a = 0 ∨ a = 1 by omega) with rfl | rfl
          · exact hO8
          · exact ⟨hF4.1, by have := hF4.2; exact Int.le_trans this (by decide)⟩
        rw [m_in1 ha, Option.bind_some]
        dsimp only
        rw [if_neg n10, hN, wrN (z := 4 + a) (by omega) (by omega), if_pos (by omega), wrN (by omega) (by omega)]
        by_cases c : 0 ≤ b ∧ b ≤ P 430 (4 + a.toNat) - 1
        · rw [m_in1 c, Option.bind_some]
          dsimp only
          rw [if_neg n10, m_in0 hd, Option.bind_some, if_pos rfl]
        · rw [m_in0 c, Option.bind_some, if_pos rfl]
      · rw [m_in0 ha, Option.bind_some, if_pos rfl]
    rw [← e_Mo_letter, hno]
    by_cases d0 : d < 0
    · rw [if_pos d0]; exact ⟨_, S, T, rfl, rfl, h.same⟩
    · rw [if_neg d0, if_neg (by omega)]
      exact ⟨_, S, T, rfl, rfl, h.same⟩
end
