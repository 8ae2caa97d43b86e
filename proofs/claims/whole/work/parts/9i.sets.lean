/-! turning: sets of carbons, as numbers -/
def bn (x k : Nat) : Nat := x / 2 ^ k % 2
theorem bt_bn (x k : Nat) : bt (x : Int) k = ((bn x k : Nat) : Int) := by
  unfold bt bn
  rw [← Int.natCast_ediv]
  rfl
theorem bn_01 (x k : Nat) : bn x k = 0 ∨ bn x k = 1 := by unfold bn; omega
theorem bn_0 (k : Nat) : bn 0 k = 0 := by unfold bn; rw [Nat.zero_div]
theorem bn_big {x k : Nat} (h : x < 2 ^ k) : bn x k = 0 := by unfold bn; rw [Nat.div_eq_of_lt h]
theorem mod_succ (x j : Nat) : x % 2 ^ (j + 1) = x % 2 ^ j + bn x j * 2 ^ j := by
  unfold bn
  rw [Nat.pow_succ, Nat.mod_mul, Nat.mul_comm]
theorem bn_add {x b j : Nat} (hx : x < 2 ^ j) (hb : b ≤ 1) (k : Nat) : bn (x + b * 2 ^ j) k = if k = j then b else bn x k := by
  unfold bn
  by_cases c : k = j
  · subst c
    rw [if_pos rfl, Nat.add_mul_div_right _ _ (Nat.two_pow_pos k), Nat.div_eq_of_lt hx]
    omega
  · rw [if_neg c]
    by_cases c2 : k < j
    · obtain ⟨d, rfl⟩ : ∃ d, j = k + (d + 1) := ⟨j - k - 1, by omega⟩
      rw [Nat.pow_add, show b * (2 ^ k * 2 ^ (d + 1)) = (b * 2 ^ (d + 1)) * 2 ^ k by rw [Nat.mul_comm (2 ^ k), Nat.mul_assoc], Nat.add_mul_div_right _ _ (Nat.two_pow_pos k), show b * 2 ^ (d + 1) = 2 * (b * 2 ^ d) by rw [Nat.pow_succ, Nat.mul_comm (2 ^ d), ← Nat.mul_assoc, ← Nat.mul_assoc, Nat.mul_comm b]]
      omega
    · have hp : (2 : Nat) ^ (j + 1) ≤ 2 ^ k := Nat.pow_le_pow_right (by decide) (by omega)
      have hq : (2 : Nat) ^ (j + 1) = 2 * 2 ^ j := by rw [Nat.pow_succ, Nat.mul_comm]
      have hm : b * 2 ^ j ≤ 1 * 2 ^ j := Nat.mul_le_mul_right _ hb
      rw [Nat.div_eq_of_lt (show x < 2 ^ k by omega), Nat.div_eq_of_lt (show x + b * 2 ^ j < 2 ^ k by omega)]
theorem bn_ext {x y : Nat} : ∀ j : Nat, (∀ k, k < j → bn x k = bn y k) → x % 2 ^ j = y % 2 ^ j := by
  intro j
  induction j with
  | zero => intro _; rw [Nat.pow_zero, Nat.mod_one, Nat.mod_one]
  | succ j ih => intro h; rw [mod_succ, mod_succ, ih (fun k hk => h k (by omega)), h j (by omega)]
theorem bn_ext12 {x y : Nat} (hx : x < 4096) (hy : y < 4096) (h : ∀ k, k < 12 → bn x k = bn y k) : x = y := by
  have := bn_ext 12 h
  rw [show (2 : Nat) ^ 12 = 4096 from rfl, Nat.mod_eq_of_lt hx, Nat.mod_eq_of_lt hy] at this
  exact this
/-- how many of the first j -/
def sb (x : Nat) : Nat → Nat
  | 0 => 0
  | j + 1 => sb x j + bn x j
theorem sb_le (x : Nat) : ∀ j, sb x j ≤ j := by
  intro j
  induction j with
  | zero => exact Nat.le_refl _
  | succ j ih => rw [sb]; have := bn_01 x j; omega
theorem sb_mono {x i : Nat} : ∀ j, i ≤ j → sb x i ≤ sb x j := by
  intro j
  induction j with
  | zero => intro h; rw [show i = 0 by omega]; exact Nat.le_refl _
  | succ j ih =>
    intro h
    by_cases c : i = j + 1
    · rw [c]; exact Nat.le_refl _
    · rw [sb]; have := ih (by omega); omega
theorem sb_congr {x y : Nat} : ∀ j, (∀ k, k < j → bn x k = bn y k) → sb x j = sb y j := by
  intro j
  induction j with
  | zero => intro _; rfl
  | succ j ih => intro h; rw [sb, sb, ih (fun k hk => h k (by omega)), h j (by omega)]
theorem sb_sub {x y : Nat} : ∀ j, (∀ k, k < j → bn x k ≤ bn y k) → sb x j ≤ sb y j := by
  intro j
  induction j with
  | zero => intro _; exact Nat.le_refl _
  | succ j ih => intro h; rw [sb, sb]; have := ih (fun k hk => h k (by omega)); have := h j (by omega); omega
/-- part of it and as many: it -/
theorem sb_sub_eq {x y : Nat} : ∀ j, (∀ k, k < j → bn x k ≤ bn y k) → sb x j = sb y j → ∀ k, k < j → bn x k = bn y k := by
  intro j
  induction j with
  | zero => intro _ _ k hk; omega
  | succ j ih =>
    intro h e k hk
    rw [sb, sb] at e
    have h1 := sb_sub j (fun k hk => h k (by omega))
    have h2 := h j (by omega)
    by_cases c : k = j
    · subst c; omega
    · exact ih (fun k hk => h k (by omega)) (by omega) k (by omega)
theorem sb_top {x m : Nat} (h : x < 2 ^ m) : ∀ j, sb x (m + j) = sb x m := by
  intro j
  induction j with
  | zero => rfl
  | succ j ih =>
    have hp : (2 : Nat) ^ m ≤ 2 ^ (m + j) := Nat.pow_le_pow_right (by decide) (by omega)
    rw [Nat.add_succ, sb, ih, bn_big (by omega)]
    omega
theorem sum_sb (x : Nat) : ∀ j, sumN (bt (x : Int)) j = ((sb x j : Nat) : Int) := by
  intro j
  induction j with
  | zero => rfl
  | succ j ih => rw [sumN, sb, ih, bt_bn]; omega
/-- a choice c of the set N, as a set -/
def SPR (N c R : Nat) : Prop := R < 4096 ∧ ∀ k, k < 12 → bn R k = if bn N k = 1 then bn c (sb N k) else 0
theorem SPR.ord {N a R a' R' : Nat} (h : SPR N a R) (h' : SPR N a' R') : ∀ j, j ≤ 12 → (a % 2 ^ sb N j < a' % 2 ^ sb N j → R % 2 ^ j < R' % 2 ^ j) ∧ (a % 2 ^ sb N j = a' % 2 ^ sb N j → R % 2 ^ j = R' % 2 ^ j) := by
  intro j
  induction j with
  | zero => intro _; refine ⟨fun q => ?_, fun _ => by rw [Nat.pow_zero, Nat.mod_one, Nat.mod_one]⟩; rw [sb, Nat.pow_zero, Nat.mod_one, Nat.mod_one] at q; omega
  | succ j ih =>
    intro hj
    obtain ⟨i1, i2⟩ := ih (by omega)
    have e := h.2 j (by omega)
    have e' := h'.2 j (by omega)
    rw [mod_succ R, mod_succ R', e, e', sb]
    rcases bn_01 N j with c | c
    · rw [c, if_neg (by decide), if_neg (by decide), Nat.add_zero]
      exact ⟨fun q => by have := i1 q; omega, fun q => by have := i2 q; omega⟩
    · rw [c, if_pos rfl, if_pos rfl, mod_succ a, mod_succ a']
      have l1 : a % 2 ^ sb N j < 2 ^ sb N j := Nat.mod_lt _ (Nat.two_pow_pos _)
      have l2 : a' % 2 ^ sb N j < 2 ^ sb N j := Nat.mod_lt _ (Nat.two_pow_pos _)
      have l3 : R % 2 ^ j < 2 ^ j := Nat.mod_lt _ (Nat.two_pow_pos _)
      have l4 : R' % 2 ^ j < 2 ^ j := Nat.mod_lt _ (Nat.two_pow_pos _)
      generalize a % 2 ^ sb N j = x at *
      generalize a' % 2 ^ sb N j = x' at *
      generalize R % 2 ^ j = y at *
      generalize R' % 2 ^ j = y' at *
      generalize 2 ^ sb N j = p at *
      generalize 2 ^ j = p' at *
      rcases bn_01 a (sb N j) with c1 | c1 <;> rcases bn_01 a' (sb N j) with c2 | c2 <;> rw [c1, c2] <;> refine ⟨fun q => ?_, fun q => ?_⟩
      · have := i1 (by omega); omega
      · have := i2 (by omega); omega
      · omega
      · omega
      · omega
      · omega
      · have := i1 (by omega); omega
      · have := i2 (by omega); omega
theorem SPR.lt {N a R a' R' : Nat} (h : SPR N a R) (h' : SPR N a' R') (ha : a < 2 ^ sb N 12) (ha' : a' < 2 ^ sb N 12) (q : a < a') : R < R' := by
  have := (h.ord h' 12 (Nat.le_refl _)).1
  rw [Nat.mod_eq_of_lt ha, Nat.mod_eq_of_lt ha', show (2 : Nat) ^ 12 = 4096 from rfl, Nat.mod_eq_of_lt h.1, Nat.mod_eq_of_lt h'.1] at this
  exact this q
theorem SPR.cnt {N a R : Nat} (h : SPR N a R) : ∀ j, j ≤ 12 → sb R j = sb a (sb N j) := by
  intro j
  induction j with
  | zero => intro _; rfl
  | succ j ih =>
    intro hj
    rw [sb, ih (by omega), h.2 j (by omega)]
    show _ = sb a (sb N j + bn N j)
    rcases bn_01 N j with c | c
    · rw [c, if_neg (by decide)]; rfl
    · rw [c, if_pos rfl]; rfl
theorem SPR.cnt12 {N a R : Nat} (h : SPR N a R) (ha : a < 2 ^ sb N 12) : sb R 12 = sb a 12 := by
  have hl := sb_le N 12
  rw [h.cnt 12 (Nat.le_refl _), ← sb_top ha (12 - sb N 12), show sb N 12 + (12 - sb N 12) = 12 by omega]
theorem SPR.sub {N a R : Nat} (h : SPR N a R) {k : Nat} (hk : k < 12) (hR : bn R k = 1) : bn N k = 1 := by
  rw [h.2 k hk] at hR
  split at hR
  · assumption
  · omega
theorem SPR.ex {N A : Nat} (hA : A < 4096) (h : ∀ k, k < 12 → bn A k = 1 → bn N k = 1) : ∃ a, a < 2 ^ sb N 12 ∧ SPR N a A := by
  have key : ∀ j, j ≤ 12 → ∃ a, a < 2 ^ sb N j ∧ ∀ k, k < j → bn N k = 1 → bn a (sb N k) = bn A k := by
    intro j
    induction j with
    | zero => intro _; exact ⟨0, by rw [sb]; decide, fun k hk => by omega⟩
    | succ j ih =>
      intro hj
      obtain ⟨a, a1, a2⟩ := ih (by omega)
      rcases bn_01 N j with c | c
      · refine ⟨a, by rw [sb, c]; exact a1, fun k hk hN => a2 k (by
          by_cases e : k = j
          · rw [e, c] at hN; omega
          · omega) hN⟩
      · have hb := bn_01 A j
        refine ⟨a + bn A j * 2 ^ sb N j, ?_, fun k hk hN => ?_⟩
        · rw [sb, c, Nat.pow_succ]
          have : bn A j * 2 ^ sb N j ≤ 1 * 2 ^ sb N j := Nat.mul_le_mul_right _ (by omega)
          omega
        · rw [bn_add a1 (by omega)]
          by_cases e : k = j
          · rw [e, if_pos rfl]
          · have m1 : sb N (k + 1) ≤ sb N j := sb_mono j (by omega)
            rw [sb, hN] at m1
            rw [if_neg (by omega)]
            exact a2 k (by omega) hN
  obtain ⟨a, a1, a2⟩ := key 12 (Nat.le_refl _)
  refine ⟨a, a1, hA, fun k hk => ?_⟩
  rcases bn_01 N k with c | c
  · rw [c, if_neg (by decide)]
    rcases bn_01 A k with q | q
    · exact q
    · have := h k hk q; omega
  · rw [c, if_pos rfl]; exact (a2 k hk c).symm
/-- how many choices below v have m members -/
def ctn (m : Nat) : Nat → Nat
  | 0 => 0
  | v + 1 => ctn m v + if sb v 12 = m then 1 else 0
theorem ctn_mono {m u : Nat} : ∀ v, u ≤ v → ctn m u ≤ ctn m v := by
  intro v
  induction v with
  | zero => intro h; rw [show u = 0 by omega]; exact Nat.le_refl _
  | succ v ih =>
    intro h
    by_cases c : u = v + 1
    · rw [c]; exact Nat.le_refl _
    · rw [ctn]; have := ih (by omega); omega
def chs : Nat → Nat → Nat
  | 0, 0 => 1
  | 0, _ + 1 => 0
  | j + 1, 0 => chs j 0
  | j + 1, m + 1 => chs j (m + 1) + chs j m
theorem sb_add {x j : Nat} (hx : x < 2 ^ j) (hj : j < 12) : sb (x + 2 ^ j) 12 = sb x 12 + 1 := by
  have e : ∀ k, bn (x + 2 ^ j) k = if k = j then 1 else bn x k := fun k => by
    have := bn_add (b := 1) hx (Nat.le_refl _) k
    rw [Nat.one_mul] at this
    exact this
  have key : ∀ i, sb (x + 2 ^ j) i = sb x i + if j < i then 1 else 0 := by
    intro i
    induction i with
    | zero => rfl
    | succ i ih =>
      rw [sb, sb, ih, e i]
      by_cases c : i = j
      · rw [if_pos c, if_neg (by omega), if_pos (by omega), c, bn_big hx]
      · rw [if_neg c]
        by_cases c2 : j < i
        · rw [if_pos c2, if_pos (by omega)]; omega
        · rw [if_neg c2, if_neg (by omega)]; omega
  rw [key 12, if_pos hj]
theorem ctn_two {j : Nat} (hj : j < 12) (m : Nat) : ∀ x, x ≤ 2 ^ j → ctn (m + 1) (2 ^ j + x) = ctn (m + 1) (2 ^ j) + ctn m x ∧ ctn 0 (2 ^ j + x) = ctn 0 (2 ^ j) := by
  intro x
  induction x with
  | zero => intro _; exact ⟨rfl, rfl⟩
  | succ x ih =>
    intro h
    obtain ⟨i1, i2⟩ := ih (by omega)
    have e := sb_add (x := x) (by omega) hj
    rw [Nat.add_comm x] at e
    rw [← Nat.add_assoc]
    constructor
    · rw [ctn, i1, e, ctn]
      by_cases c : sb x 12 = m
      · rw [if_pos (by omega), if_pos c]; omega
      · rw [if_neg (by omega), if_neg c]; omega
    · rw [ctn, i2, e, if_neg (by omega)]; omega
theorem ctn_chs : ∀ j, j ≤ 12 → ∀ m, ctn m (2 ^ j) = chs j m := by
  intro j
  induction j with
  | zero =>
    intro _ m
    have z : sb 0 12 = 0 := by decide
    rw [Nat.pow_zero, ctn, ctn, z]
    cases m with
    | zero => rfl
    | succ m => rw [if_neg (by omega)]; rfl
  | succ j ih =>
    intro hj m
    have i := ih (by omega)
    rw [show (2 : Nat) ^ (j + 1) = 2 ^ j + 2 ^ j by rw [Nat.pow_succ]; omega]
    cases m with
    | zero => rw [(ctn_two (by omega) 0 _ (Nat.le_refl _)).2, i 0]; rfl
    | succ m => rw [(ctn_two (by omega) m _ (Nat.le_refl _)).1, i (m + 1), i m]; rfl
theorem chs_924 : ∀ m : Nat, m < 13 → chs 12 m ≤ 924 := by decide
theorem ctn_924 {m M : Nat} (hm : m ≤ 12) (hM : M ≤ 12) : ctn m (2 ^ M) ≤ 924 := by
  have h1 : (2 : Nat) ^ M ≤ 2 ^ 12 := Nat.pow_le_pow_right (by decide) hM
  have := ctn_mono (m := m) (2 ^ 12) h1
  have := ctn_chs 12 (Nat.le_refl _) m
  have := chs_924 m (by omega)
  omega
/-- the reference counts a set's members by taking the least away -/
theorem kern : ∀ a : Nat, a < 64 → ∀ b : Nat, b < 64 → (64 * a + b) ≠ 0 → sb ((64 * a + b) &&& (64 * a + b - 1)) 12 + 1 = sb (64 * a + b) 12 := by decide +kernel
theorem m_bits {T : MS} : ∀ (p A : Nat) (a : Nat), sb A 12 = p → A < 4096 → a + p ≤ 1000 → Mo_bits_4 a A T = some (((a + p : Nat) : Int), T) := by
  have kn : ∀ A, A < 4096 → A ≠ 0 → sb (A &&& (A - 1)) 12 + 1 = sb A 12 := fun A h h0 => by
    have := kern (A / 64) (by omega) (A % 64) (by omega)
    rw [show 64 * (A / 64) + A % 64 = A by omega] at this
    exact this h0
  intro p
  induction p with
  | zero =>
    intro A a h hA ha
    have : A = 0 := by
      by_cases c : A = 0
      · exact c
      · have := kn A hA c; omega
    subst this
    rw [e_Mo_bits_4, if_pos (show ((0 : Nat) : Int) = 0 from rfl)]
    rfl
  | succ p ih =>
    intro A a h hA ha
    have z0 : sb 0 12 = 0 := by decide
    have h0 : A ≠ 0 := fun e => by rw [e] at h; omega
    have hl : A &&& (A - 1) ≤ A := Nat.and_le_left
    have hb : band (A : Int) (wr ((A : Int) - 1)) = ((A &&& (A - 1) : Nat) : Int) := by
      rw [wrN (by omega) (by omega), band_nn (by omega) (by omega) (by omega) (by omega), Int.toNat_natCast, show ((A : Int) - 1).toNat = A - 1 by omega]
    rw [e_Mo_bits_4, if_neg (by omega), hb, wr_succ (show a < 1000 by omega) (by decide), ih (A &&& (A - 1)) (a + 1) (by have := kn A hA h0; omega) (by omega) (by omega), show a + 1 + p = a + (p + 1) by omega]
theorem m_bits0 {T : MS} {A : Nat} (hA : A < 4096) : m_Mo_bits A T = some (((sb A 12 : Nat) : Int), T) := by
  have := m_bits (T := T) (sb A 12) A 0 rfl hA (by have := sb_le A 12; omega)
  rw [e_Mo_bits]
  rw [Nat.zero_add] at this
  exact this
/-- none of a outside b -/
theorem band_out {A I : Nat} (hA : A < 4096) (hI : I < 4096) : band (A : Int) (bxor (I : Int) (-1)) = 0 ↔ ∀ k, k < 12 → bn A k = 1 → bn I k = 1 := by
  have e : band (A : Int) (bxor (I : Int) (-1)) = ((A &&& (4294967296 - (I + 1)) : Nat) : Int) := by
    rw [bxor_not (by omega) (by omega), band_eq]
    show (BitVec.ofInt 32 (A : Int) &&& BitVec.ofInt 32 (-1 - (I : Int))).toInt = _
    have e : (BitVec.ofInt 32 (A : Int) &&& BitVec.ofInt 32 (-1 - (I : Int))).toNat = A &&& (4294967296 - (I + 1)) := by
      rw [BitVec.toNat_and, bv32 (by omega) (by omega), Int.toNat_natCast, BitVec.toNat_ofInt, show ((2 ^ 32 : Nat) : Int) = 4294967296 from rfl]
      congr 1
      omega
    have hl : A &&& (4294967296 - (I + 1)) ≤ A := Nat.and_le_left
    rw [bvI32 _ (by rw [e]; omega), e]
  have tb : ∀ x k : Nat, x.testBit k = decide (bn x k = 1) := fun x k => by rw [Nat.testBit_eq_decide_div_mod_eq]; rfl
  have h32 : ∀ k, k < 12 → (4294967296 - (I + 1)).testBit k = !(I.testBit k) := fun k hk => by
    have := Nat.testBit_two_pow_sub_succ (n := 32) (x := I) (by omega) k
    rw [show (2 : Nat) ^ 32 = 4294967296 from rfl] at this
    rw [this, decide_eq_true (by omega), Bool.true_and]
  rw [e]
  constructor
  · intro h k hk hA1
    have h0 : A &&& (4294967296 - (I + 1)) = 0 := by omega
    have h1 : (A &&& (4294967296 - (I + 1))).testBit k = false := by rw [h0]; exact Nat.zero_testBit k
    rw [Nat.testBit_and, h32 k hk, tb, tb, hA1] at h1
    rcases bn_01 I k with q | q
    · rw [q] at h1; exact absurd h1 (by decide)
    · exact q
  · intro h
    have h0 : A &&& (4294967296 - (I + 1)) = 0 := by
      apply Nat.eq_of_testBit_eq
      intro k
      rw [Nat.zero_testBit, Nat.testBit_and]
      by_cases hk : k < 12
      · rw [h32 k hk, tb, tb]
        rcases bn_01 A k with q | q
        · rw [q]; rfl
        · rw [h k hk q, q]; rfl
      · have hp : (2 : Nat) ^ 12 ≤ 2 ^ k := Nat.pow_le_pow_right (by decide) (by omega)
        rw [Nat.testBit_lt_two_pow (show A < 2 ^ k by omega), Bool.false_and]
    rw [h0]; rfl
