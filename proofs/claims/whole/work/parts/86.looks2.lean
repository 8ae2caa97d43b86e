/-! MORE CALLS THAT LOOK -/
theorem ushr_nn {k : Nat} (n : Nat) (hn : n < 2147483648) (hk : k < 32) : ushr (n : Int) (k : Int) = ((n >>> k : Nat) : Int) := by
  rw [ushr_eq]
  show (BitVec.ofInt 32 (n : Int) >>> (((BitVec.ofInt 32 (k : Int)) &&& 31#32) % 32#32).toNat).toInt = _
  have e0 : ∀ b : Nat, b < 32 → ((BitVec.ofInt 32 (b : Int) &&& 31#32) % 32#32).toNat = b := by decide +kernel
  have e : (BitVec.ofInt 32 (n : Int) >>> k).toNat = n >>> k := by
    rw [BitVec.toNat_ushiftRight, bv32 (by omega) (by omega), Int.toNat_natCast]
  have hl : n >>> k ≤ n := Nat.shiftRight_le n k
  rw [e0 k hk, bvI32 _ (by rw [e]; omega), e]
theorem band_nat {a b : Nat} (ha : a < 2147483648) (hb : b < 2147483648) : band (a : Int) (b : Int) = ((a &&& b : Nat) : Int) := by
  rw [band_nn (by omega) (by omega) (by omega) (by omega), Int.toNat_natCast, Int.toNat_natCast]
def sumN (g : Nat → Int) : Nat → Int
  | 0 => 0
  | n + 1 => sumN g n + g n
theorem sumN_congr {g h : Nat → Int} : ∀ {n : Nat}, (∀ k, k < n → g k = h k) → sumN g n = sumN h n := by
  intro n
  induction n with
  | zero => intro _; rfl
  | succ n ih => intro e; rw [sumN, sumN, ih (fun k hk => e k (by omega)), e n (by omega)]
theorem sumN_ext {g : Nat → Int} {n : Nat} : ∀ (d : Nat), (∀ k, n ≤ k → k < n + d → g k = 0) → sumN g (n + d) = sumN g n := by
  intro d
  induction d with
  | zero => intro _; rfl
  | succ d ih => intro e; rw [show n + (d + 1) = n + d + 1 by omega, sumN, ih (fun k h1 h2 => e k h1 (by omega)), e (n + d) (by omega) (by omega), Int.add_zero]
def pc1 (x : Nat) : Nat := x - ((x >>> 1) &&& 1431655765)
def pc2 (y : Nat) : Nat := (y &&& 858993459) + ((y >>> 2) &&& 858993459)
def pc3 (y : Nat) : Nat := (y + (y >>> 4)) &&& 252645135
def pc4 (y : Nat) : Nat := y + (y >>> 8)
def pc5 (y : Nat) : Nat := y + (y >>> 16)
def pcs (x : Nat) : Nat := (List.range 12).foldl (fun a k => a + x / 2 ^ k % 2) 0
theorem pc_all' : ∀ a : Nat, a < 64 → ∀ b : Nat, b < 64 → (pc5 (pc4 (pc3 (pc2 (pc1 (64 * a + b)))))) &&& 63 = pcs (64 * a + b) := by decide +kernel
theorem pc_all (x : Nat) (h : x < 4096) : (pc5 (pc4 (pc3 (pc2 (pc1 x))))) &&& 63 = pcs x := by
  have := pc_all' (x / 64) (by omega) (x % 64) (by omega)
  rw [show 64 * (x / 64) + x % 64 = x by omega] at this
  exact this
theorem pcs_sum (x : Nat) : ((pcs x : Nat) : Int) = sumN (bt (x : Int)) 12 := by
  have e : ∀ k : Nat, bt (x : Int) k = ((x / 2 ^ k % 2 : Nat) : Int) := fun k => by
    unfold bt
    rw [← Int.natCast_ediv]
    rfl
  unfold pcs
  simp only [show List.range 12 = [0, 1, 2, 3, 4, 5, 6, 7, 8, 9, 10, 11] from rfl, List.foldl_cons, List.foldl_nil, sumN, e, Int.natCast_add]
  rfl
theorem c_bits {x : Int} (h0 : 0 ≤ x) (h1 : x < 4096) (S : MS) : m_In_bitCount x S = some (sumN (bt x) 12, S) := by
  obtain ⟨n, rfl⟩ : ∃ n : Nat, x = (n : Int) := ⟨x.toNat, by omega⟩
  have l1 : (n >>> 1) &&& 1431655765 ≤ n := Nat.le_trans Nat.and_le_left (Nat.shiftRight_le n 1)
  have s1 : wr ((n : Int) - band (ushr n 1) 1431655765) = ((pc1 n : Nat) : Int) := by
    rw [show (1 : Int) = ((1 : Nat) : Int) from rfl, ushr_nn n (by omega) (by decide), show (1431655765 : Int) = ((1431655765 : Nat) : Int) from rfl, band_nat (by have := Nat.shiftRight_le n 1; omega) (by decide), wrN (by omega) (by omega)]
    unfold pc1
    omega
  have b1 : pc1 n ≤ n := Nat.sub_le _ _
  have l2 : pc1 n &&& 858993459 ≤ pc1 n := Nat.and_le_left
  have l3 : (pc1 n >>> 2) &&& 858993459 ≤ pc1 n := Nat.le_trans Nat.and_le_left (Nat.shiftRight_le _ 2)
  have s2 : wr (band ((pc1 n : Nat) : Int) 858993459 + band (ushr ((pc1 n : Nat) : Int) 2) 858993459) = ((pc2 (pc1 n) : Nat) : Int) := by
    rw [show (2 : Int) = ((2 : Nat) : Int) from rfl, ushr_nn _ (by omega) (by decide), show (858993459 : Int) = ((858993459 : Nat) : Int) from rfl, band_nat (by omega) (by decide), band_nat (by have := Nat.shiftRight_le (pc1 n) 2; omega) (by decide), wrN (by omega) (by omega)]
    rfl
  have b2 : pc2 (pc1 n) ≤ 2 * n := by unfold pc2; omega
  have h3 : ∀ y : Nat, y < 100000 → band (wr ((y : Int) + ushr y 4)) 252645135 = ((pc3 y : Nat) : Int) := by
    intro y hy
    have := Nat.shiftRight_le y 4
    rw [show (4 : Int) = ((4 : Nat) : Int) from rfl, ushr_nn _ (by omega) (by decide), wrN (by omega) (by omega), ← Int.natCast_add, show (252645135 : Int) = ((252645135 : Nat) : Int) from rfl, band_nat (by omega) (by decide)]
    rfl
  have h4 : ∀ y : Nat, y < 1000000 → wr ((y : Int) + ushr y 8) = ((pc4 y : Nat) : Int) := by
    intro y hy
    have := Nat.shiftRight_le y 8
    rw [show (8 : Int) = ((8 : Nat) : Int) from rfl, ushr_nn _ (by omega) (by decide), wrN (by omega) (by omega), ← Int.natCast_add]
    rfl
  have h5 : ∀ y : Nat, y < 10000000 → wr ((y : Int) + ushr y 16) = ((pc5 y : Nat) : Int) := by
    intro y hy
    have := Nat.shiftRight_le y 16
    rw [show (16 : Int) = ((16 : Nat) : Int) from rfl, ushr_nn _ (by omega) (by decide), wrN (by omega) (by omega), ← Int.natCast_add]
    rfl
  have b3 : pc3 (pc2 (pc1 n)) ≤ 4 * n := by
    unfold pc3
    have h1 := Nat.shiftRight_le (pc2 (pc1 n)) 4
    have h2 : (pc2 (pc1 n) + pc2 (pc1 n) >>> 4) &&& 252645135 ≤ pc2 (pc1 n) + pc2 (pc1 n) >>> 4 := Nat.and_le_left
    omega
  have b4 : pc4 (pc3 (pc2 (pc1 n))) ≤ 8 * n := by
    unfold pc4
    have h1 := Nat.shiftRight_le (pc3 (pc2 (pc1 n))) 8
    omega
  have b5 : pc5 (pc4 (pc3 (pc2 (pc1 n)))) ≤ 16 * n := by
    unfold pc5
    have h1 := Nat.shiftRight_le (pc4 (pc3 (pc2 (pc1 n)))) 16
    omega
  rw [e_In_bitCount, s1, s2, h3 _ (by omega), h4 _ (by omega), h5 _ (by omega), show (63 : Int) = ((63 : Nat) : Int) from rfl, band_nat (by omega) (by decide), pc_all n (by omega), pcs_sum]
theorem n10 : ¬ (1 : Int) = 0 := by decide
theorem c_kept_part {S : MS} {m : Nat → Int} {k a : Int} (hK : KR (S 24 5) (S 26) m) (hk : 0 ≤ k ∧ k < m 57) (he : S 24 5 < 3000000) (ha : 0 ≤ a ∧ a ≤ 3) : m_St_keptPart_now k a S = some (m (58 + 4 * k.toNat + a.toNat), S) := by
  obtain ⟨h1, h2, h3⟩ := hK
  obtain ⟨i, rfl⟩ : ∃ i : Nat, k = (i : Int) := ⟨k.toNat, by omega⟩
  obtain ⟨g1, g2⟩ := h3 i hk.2
  have hm : imn (S 24 5) 40 = m 57 := by
    rw [h2]
    by_cases c : S 24 5 < 40
    · rw [if_pos c, imn_le (by omega)]
    · rw [if_neg c, imn_ge (by omega)]
  have h57 : 0 ≤ m 57 ∧ m 57 ≤ S 24 5 := by rw [h2]; split <;> omega
  have hat : (wr ((wr ((S 24 5) - m 57)) + (i : Int))).tmod 40 = (((S 24 5 - m 57 + i).toNat % 40 : Nat) : Int) := by
    rw [wrN (z := S 24 5 - m 57) (by omega) (by omega), wrN (by omega) (by omega), Int.tmod_eq_emod_of_nonneg (by omega)]
    omega
  rw [e_St_keptPart_now, e_St_told_now, Option.bind_some]
  dsimp only
  rw [hm, hat, if_neg (by omega), if_pos (by omega), Int.toNat_natCast, g1, Int.toNat_natCast]
  obtain ⟨r1, r2, r3, r4⟩ := g2
  unfold rowK
  generalize hx0 : m (58 + 4 * i) = x0 at *
  generalize hx1 : m (59 + 4 * i) = x1 at *
  generalize hx2 : m (60 + 4 * i) = x2 at *
  generalize hx3 : m (61 + 4 * i) = x3 at *
  have t1 : (((x0 * 8 + x1) * 4 + x2) * 100 + x3).tdiv 100 = (x0 * 8 + x1) * 4 + x2 := by rw [Int.tdiv_eq_ediv_of_nonneg (by omega)]; omega
  have t2 : ((x0 * 8 + x1) * 4 + x2).tdiv 4 = x0 * 8 + x1 := by rw [Int.tdiv_eq_ediv_of_nonneg (by omega)]; omega
  have t3 : (x0 * 8 + x1).tdiv 8 = x0 := by rw [Int.tdiv_eq_ediv_of_nonneg (by omega)]; omega
  have t4 : (x0 * 8 + x1).tmod 8 = x1 := by rw [Int.tmod_eq_emod_of_nonneg (by omega)]; omega
  have t5 : ((x0 * 8 + x1) * 4 + x2).tmod 4 = x2 := by rw [Int.tmod_eq_emod_of_nonneg (by omega)]; omega
  have t6 : (((x0 * 8 + x1) * 4 + x2) * 100 + x3).tmod 100 = x3 := by rw [Int.tmod_eq_emod_of_nonneg (by omega)]; omega
  rw [t1, wrN (z := (x0 * 8 + x1) * 4 + x2) (by omega) (by omega), t2, wrN (z := x0 * 8 + x1) (by omega) (by omega), t3, wrN (z := x0) (by omega) (by omega), t4, t5, t6]
  rcases (show a = 0 ∨ a = 1 ∨ a = 2 ∨ a = 3 by omega) with rfl | rfl | rfl | rfl
  · rw [if_pos rfl, ← hx0]; rfl
  · rw [if_neg (by decide), if_pos rfl, ← hx1]; congr 3; show 59 + 4 * i = 58 + 4 * i + 1; omega
  · rw [if_neg (by decide), if_neg (by decide), if_pos rfl, ← hx2]; congr 3; show 60 + 4 * i = 58 + 4 * i + 2; omega
  · rw [if_neg (by decide), if_neg (by decide), if_neg (by decide), if_pos rfl, ← hx3]; congr 3; show 61 + 4 * i = 58 + 4 * i + 3; omega
theorem c_kept_none {S : MS} {m : Nat → Int} {k a : Int} (hK : KR (S 24 5) (S 26) m) (hk : 0 ≤ k ∧ k < m 57) (he : S 24 5 < 3000000) (ha : ¬ (0 ≤ a ∧ a ≤ 3)) : m_St_keptPart_now k a S = some (-1, S) := by
  obtain ⟨h1, h2, h3⟩ := hK
  obtain ⟨i, rfl⟩ : ∃ i : Nat, k = (i : Int) := ⟨k.toNat, by omega⟩
  have hm : imn (S 24 5) 40 = m 57 := by
    rw [h2]
    by_cases c : S 24 5 < 40
    · rw [if_pos c, imn_le (by omega)]
    · rw [if_neg c, imn_ge (by omega)]
  have h57 : 0 ≤ m 57 ∧ m 57 ≤ S 24 5 := by rw [h2]; split <;> omega
  have hat : (wr ((wr ((S 24 5) - m 57)) + (i : Int))).tmod 40 = (((S 24 5 - m 57 + i).toNat % 40 : Nat) : Int) := by
    rw [wrN (z := S 24 5 - m 57) (by omega) (by omega), wrN (by omega) (by omega), Int.tmod_eq_emod_of_nonneg (by omega)]
    omega
  rw [e_St_keptPart_now, e_St_told_now, Option.bind_some]
  dsimp only
  rw [hm, hat, if_neg (by omega), if_pos (by omega), if_neg (by omega), if_neg (by omega), if_neg (by omega), if_neg (by omega)]
section
variable {n : Nat} {P S T : MS}
theorem op_kept (h : Inv n P S T) (hn : n < 600) (a b : Int) : OK2 n P (m_Ma_kept a b S) (m_Mo_kept a b T) := by
  obtain ⟨w1, w2, w3, w4, w5, w6⟩ := h.wd
  have hkn := w4.kn
  have hm : imn (S 24 5) 40 = T 438 57 := by
    rw [w4.2.1]
    by_cases c : S 24 5 < 40
    · rw [if_pos c, imn_le (by omega)]
    · rw [if_neg c, imn_ge (by omega)]
  have hkn : 0 ≤ T 438 57 ∧ T 438 57 ≤ 40 := hkn
  rw [e_Ma_kept, e_Mo_kept, wrN (by omega) (by omega)]
  by_cases c : 0 ≤ a ∧ a ≤ T 438 57 - 1
  · rw [if_neg (by omega), e_St_told_now, Option.bind_some, m_in1 c, Option.bind_some]
    dsimp only
    rw [hm, if_pos (by omega), if_neg (by decide)]
    by_cases d : 0 ≤ b ∧ b ≤ 3
    · rw [c_kept_part w4 (by omega) (by omega) d, m_in1 d, Option.bind_some, Option.bind_some]
      dsimp only
      rw [if_neg (by decide), wrN (z := 4 * a) (by omega) (by omega), wrN (z := 58 + 4 * a) (by omega) (by omega), wrN (by omega) (by omega), if_pos (by omega), show (58 + 4 * a + b).toNat = 58 + 4 * a.toNat + b.toNat by omega]
      exact ⟨_, S, T, rfl, rfl, h.same⟩
    · rw [c_kept_none w4 (by omega) (by omega) d, m_in0 d]
      exact ⟨_, S, T, rfl, rfl, h.same⟩
  · rw [m_in0 c, Option.bind_some, if_pos rfl]
    by_cases c1 : a < 0
    · rw [if_pos c1]; exact ⟨_, S, T, rfl, rfl, h.same⟩
    · rw [if_neg c1, e_St_told_now, Option.bind_some]
      dsimp only
      rw [hm, if_neg (by omega)]
      exact ⟨_, S, T, rfl, rfl, h.same⟩
theorem op_carbon (h : Inv n P S T) (a b : Int) : OK2 n P (m_Ma_carbon a b S) (m_Mo_carbon a b T) := by
  have hP := h.pln
  have h3 := hP.2.2.1
  rw [e_Ma_carbon, e_Mo_carbon]
  by_cases c : 0 ≤ a ∧ a < P 430 6
  · obtain ⟨k, rfl⟩ : ∃ k : Nat, a = (k : Int) := ⟨a.toNat, by omega⟩
    have hk : k < nCa P := by unfold nCa; omega
    obtain ⟨q1, q2, q3⟩ := h.en.1.1.2.2.2.2.2.1 k hk
    obtain ⟨s1, s2, s3, s4, s5⟩ := h.wd.2.2.1
    obtain ⟨b1, b2⟩ := s4 k (by omega)
    rw [c_isC1 h c, m_isC1 hP h.rp c, Option.bind_some, Option.bind_some]
    dsimp only
    rw [if_neg n10, if_neg n10, Int.toNat_natCast, q1, q2, q3, bt_of (by omega) (by omega) (by omega) (by omega), bt_of (by omega) (by omega) (by omega) (by omega), Int.toNat_natCast, b1, b2]
    by_cases d : 0 ≤ b ∧ b ≤ 4
    · rw [m_in1 d, Option.bind_some]
      dsimp only
      rw [if_neg (show ¬ (1 : Int) = 0 by decide), wrN (z := 3 * (k : Int)) (by omega) (by omega), wrN (z := 36 + 3 * (k : Int)) (by omega) (by omega), wrN (z := 36 + 3 * (k : Int) + b) (by omega) (by omega), wrN (z := 2 * (k : Int)) (by omega) (by omega), wrN (z := 1 + 2 * (k : Int)) (by omega) (by omega), wrN (z := 1 + 2 * (k : Int) + b) (by omega) (by omega), wrN (z := 1 + 2 * (k : Int) + b - 3) (by omega) (by omega)]
      rcases (show b = 0 ∨ b = 1 ∨ b = 2 ∨ b = 3 ∨ b = 4 by omega) with rfl | rfl | rfl | rfl | rfl
      · rw [if_pos rfl, if_pos (by omega), if_pos (by decide), if_pos (by omega), show (36 + 3 * (k : Int) + 0).toNat = 36 + 3 * k by omega, h.rp.2.2.2.1 _ (by omega) (by omega)]
        exact ⟨_, S, T, rfl, rfl, h.same⟩
      · rw [if_neg (by decide), if_pos rfl, if_pos (by omega), if_pos (by decide), if_pos (by omega), show (36 + 3 * (k : Int) + 1).toNat = 37 + 3 * k by omega, h.rp.2.2.2.1 _ (by omega) (by omega)]
        exact ⟨_, S, T, rfl, rfl, h.same⟩
      · rw [if_neg (by decide), if_neg (by decide), if_pos rfl, if_pos (by omega), if_pos (by decide), if_pos (by omega), show (36 + 3 * (k : Int) + 2).toNat = 38 + 3 * k by omega, h.rp.2.2.2.1 _ (by omega) (by omega)]
        exact ⟨_, S, T, rfl, rfl, h.same⟩
      · rw [if_neg (by decide), if_neg (by decide), if_neg (by decide), if_pos rfl, if_neg (by decide), if_pos (by omega), show (1 + 2 * (k : Int) + 3 - 3).toNat = 1 + 2 * k by omega]
        exact ⟨_, S, T, rfl, rfl, h.same⟩
      · rw [if_neg (by decide), if_neg (by decide), if_neg (by decide), if_neg (by decide), if_pos rfl, if_neg (by decide), if_pos (by omega), show (1 + 2 * (k : Int) + 4 - 3).toNat = 2 + 2 * k by omega]
        exact ⟨_, S, T, rfl, rfl, h.same⟩
    · rw [m_in0 d, Option.bind_some, if_neg (by omega), if_neg (by omega), if_neg (by omega), if_neg (by omega), if_neg (by omega), if_pos rfl]
      exact ⟨_, S, T, rfl, rfl, h.same⟩
  · rw [c_isC0 h c, m_isC0 hP h.rp c]
    exact ⟨_, S, T, rfl, rfl, h.same⟩
theorem op_passes (h : Inv n P S T) (hn : n < 600) (a b : Int) : OK2 n P (m_Ma_passes a b S) (m_Mo_passes a b T) := by
  have hP := h.pln
  have h3 := hP.2.2.1
  have h2 := hP.2.1
  have hO8 : P 430 4 ≤ 8 := hP.1.2
  rw [e_Ma_passes, e_Mo_passes]
  by_cases c : 0 ≤ a ∧ a < P 430 6
  · obtain ⟨k, rfl⟩ : ∃ k : Nat, a = (k : Int) := ⟨a.toNat, by omega⟩
    have hk : k < nCa P := by unfold nCa; omega
    rw [c_isC1 h c, m_isC1 hP h.rp c, Option.bind_some, Option.bind_some]
    dsimp only
    rw [if_neg (by decide), if_neg (by decide)]
    by_cases d : 0 ≤ b ∧ b < P 430 5
    · obtain ⟨f, rfl⟩ : ∃ f : Nat, b = (f : Int) := ⟨b.toNat, by omega⟩
      obtain ⟨w1, w2, w3, w4, w5, w6⟩ := h.wd
      obtain ⟨s1, s2, s3, s4, s5⟩ := w3
      obtain ⟨b1, b2⟩ := s4 k (by omega)
      obtain ⟨i1, i2⟩ := w1.2.1 k (by omega)
      obtain ⟨hto, hfr⟩ := toC_b hP hk (T 438 (2 + 2 * k))
      obtain ⟨o, ho⟩ : ∃ o : Nat, frC P k (T 438 (2 + 2 * k)) = (o : Int) := ⟨(frC P k (T 438 (2 + 2 * k))).toNat, by omega⟩
      have hsb := w1.2.2.1 (25 + 4 * o + f) (by omega) (by omega)
      rw [c_isF1 h d, m_isF1 hP h.rp d, Option.bind_some, Option.bind_some]
      dsimp only
      rw [if_neg n10, if_neg n10, bt_of (by omega) (by omega) (by omega) (by omega), Int.toNat_natCast, b1, m_from h.rp (by omega) i2, ho, Option.bind_some]
      dsimp only
      rw [m_str (by omega) (by omega), Option.bind_some]
      dsimp only
      obtain ⟨T', q1, q2⟩ := m_through (k := k) (s := T 438 (25 + 4 * o + f)) hP h.rp w1 hk hsb
      have hlk : LKm T T' := q2.fg.lk (q2.1 438 (by decide) (by decide))
      have e57 : T' 401 57 = T 401 57 := q2.2 57 (by decide) (by decide) (by decide) (by decide) (by decide) (by decide) (by decide)
      obtain ⟨g1, g2⟩ := h.th
      rw [q1, Option.bind_some]
      dsimp only
      by_cases c1 : T 438 (1 + 2 * k) = 0
      · rw [if_pos c1, if_neg (show ¬ (T 438 (1 + 2 * k) = 1 ∧ T 438 (25 + 4 * o + f) ≠ 0) from fun g => by omega)]
        exact ⟨_, S, T', rfl, rfl, h.look (LKc.rf S) hlk h.en.1 (by omega) (by omega) (by rw [e57]; omega)⟩
      · have c1' : T 438 (1 + 2 * k) = 1 := by omega
        have hen := h.en.2
        obtain ⟨S1, r1, r2, r3, r4, r5⟩ := c_openDay (d := T 438 0) h.en.1.2.1 (by omega)
        rw [if_neg c1, c_giverP h.en.1.1 hk (by omega) (by omega), b2, ho, Option.bind_some]
        dsimp only
        rw [c_strN h (by omega) (by omega), Option.bind_some]
        dsimp only
        rw [s1, r1, Option.bind_some]
        have hlc : LKc S S1 := r2.fw_then.lk
        have hE1 : EM P S1 := ⟨h.en.1.1.fe r2, r3, h.en.1.2.2.fe r2⟩
        have e24 : S1 24 = S 24 := r2.1 24 (by decide) (by decide) (by decide) (by decide) (by decide) (by decide)
        have e27 : S1 27 = S 27 := r2.1 27 (by decide) (by decide) (by decide) (by decide) (by decide) (by decide)
        by_cases c2 : T 438 (25 + 4 * o + f) = 0
        · rw [if_pos c2, if_neg (show ¬ (T 438 (1 + 2 * k) = 1 ∧ T 438 (25 + 4 * o + f) ≠ 0) from fun g => g.2 c2)]
          exact ⟨_, S1, T', rfl, rfl, h.look hlc hlk hE1 (by omega) (by rw [e27]; omega) (by rw [e57]; omega)⟩
        · obtain ⟨S2, t1, t2, t3⟩ := c_passed (k := k) (b := T 438 (2 + 2 * k)) (s := T 438 (25 + 4 * o + f)) (d := T 438 0) hP hE1.1 hE1.2.1 hE1.2.2 hk i2 hsb r4 w1.1
          rw [if_neg c2, if_pos (show T 438 (1 + 2 * k) = 1 ∧ T 438 (25 + 4 * o + f) ≠ 0 from ⟨c1', c2⟩), e24, bt_of (by omega) (by omega) (by omega) (by omega), Int.toNat_natCast, b2, t1]
          exact ⟨_, S2, T', rfl, rfl, h.look (hlc.tr t2.fe.fw_then.lk) hlk ⟨hE1.1.fe t2.fe, t3, hE1.2.2.fe t2.fe⟩ (by rw [t2 30 (by decide) (by decide) (by decide) (by decide)]; omega) (by rw [t2 27 (by decide) (by decide) (by decide) (by decide), e27]; omega) (by rw [e57]; omega)⟩
    · rw [c_isF0 h d, m_isF0 hP h.rp d]
      exact ⟨_, S, T, rfl, rfl, h.same⟩
  · rw [c_isC0 h c, m_isC0 hP h.rp c]
    exact ⟨_, S, T, rfl, rfl, h.same⟩
end
