/-! feed, has, officer, letter -/
section
variable {n : Nat} {P S T : MS}
def byt (a b : Int) : Int := a / ((2 ^ b.toNat : Nat) : Int) % 256
theorem byt_b (a b : Int) : 0 ≤ byt a b ∧ byt a b ≤ 255 := by
  unfold byt
  generalize a / ((2 ^ b.toNat : Nat) : Int) = x
  omega
def apS (v : Int) (S : MS) : MS := up (up S 3 (S 2 1).toNat v) 2 1 (S 2 1 + 1)
def apT (v : Int) (T : MS) : MS := up (up T 402 (T 401 1).toNat v) 401 1 (T 401 1 + 1)
theorem apS_1 (v : Int) (S : MS) : apS v S 2 1 = S 2 1 + 1 := up_s _ _ _ _
theorem apT_1 (v : Int) (T : MS) : apT v T 401 1 = T 401 1 + 1 := up_s _ _ _ _
def tpR (S T S' T' : MS) (k : Int) : Prop := ((∀ x, x ≠ 2 → x ≠ 3 → S' x = S x) ∧ ∀ k, k ≠ 1 → S' 2 k = S 2 k) ∧ ((∀ x, x ≠ 401 → x ≠ 402 → T' x = T x) ∧ ∀ k, k ≠ 1 → T' 401 k = T 401 k) ∧ TXr S' T' ∧ S' 2 1 = S 2 1 + k
theorem tp_step {S' T' : MS} {k v : Int} (h : tpR S T S' T' k) (c : S' 2 1 < 1600) (hv : 0 ≤ v ∧ v ≤ 255) : tpR S T (apS v S') (apT v T') (k + 1) := by
  obtain ⟨⟨h1, h2⟩, ⟨h3, h4⟩, ⟨x1, x2, x3⟩, h5⟩ := h
  refine ⟨⟨fun x a1 a2 => ?_, fun j hj => ?_⟩, ⟨fun x a1 a2 => ?_, fun j hj => ?_⟩, ⟨?_, ?_, fun j hj => ?_⟩, ?_⟩
  · unfold apS; rw [up_c a1, up_c a2]; exact h1 x a1 a2
  · unfold apS; rw [up_k hj, up_c (by decide)]; exact h2 j hj
  · unfold apT; rw [up_c a1, up_c a2]; exact h3 x a1 a2
  · unfold apT; rw [up_k hj, up_c (by decide)]; exact h4 j hj
  · rw [apS_1, apT_1, x1]
  · rw [apS_1]; omega
  · rw [apS_1] at hj
    unfold apS apT
    rw [up_c (show (3 : Nat) ≠ 2 by decide), up_c (show (402 : Nat) ≠ 401 by decide), ← x1]
    by_cases e : j = (S' 2 1).toNat
    · subst e; rw [up_s, up_s]; exact ⟨rfl, hv⟩
    · rw [up_k e, up_k e]; exact x3 j (by omega)
  · rw [apS_1, h5]; omega
theorem c_ap1 {a b : Int} (ha : -2147483648 ≤ a ∧ a < 2147483648) (hb : 0 ≤ b ∧ b < 32) (c : 0 ≤ S 2 1 ∧ S 2 1 < 1600) : Te_append_3 a b S = Te_append_3 a (b + -8) (apS (byt a b) S) := by
  rw [e_Te_append_3, if_neg (by omega), if_pos c.2, if_pos c, shr_div ha.1 ha.2 hb.1 hb.2, band_255, wrN (z := S 2 1 + 1) (by omega) (by omega), wrN (by omega) (by omega)]
  rfl
def ap4S (a : Int) (S : MS) : MS := apS (byt a 0) (apS (byt a 8) (apS (byt a 16) (apS (byt a 24) S)))
def ap4T (a : Int) (T : MS) : MS := apT (byt a 0) (apT (byt a 8) (apT (byt a 16) (apT (byt a 24) T)))
theorem c_ap4 {a : Int} (ha : -2147483648 ≤ a ∧ a < 2147483648) (c : 0 ≤ S 2 1 ∧ S 2 1 + 4 ≤ 1600) : m_Te_append a S = some (ap4S a S) := by
  rw [e_Te_append, c_ap1 ha (by decide) (by omega)]
  show Te_append_3 a 16 _ = _
  rw [c_ap1 ha (by decide) (by rw [apS_1]; omega)]
  show Te_append_3 a 8 _ = _
  rw [c_ap1 ha (by decide) (by rw [apS_1, apS_1]; omega)]
  show Te_append_3 a 0 _ = _
  rw [c_ap1 ha (by decide) (by rw [apS_1, apS_1, apS_1]; omega)]
  show Te_append_3 a (-8) _ = _
  rw [e_Te_append_3, if_pos (by decide)]
  rfl
theorem tp_4 {S' T' : MS} {k a : Int} (h : tpR S T S' T' k) (c : S' 2 1 + 4 ≤ 1600) : tpR S T (ap4S a S') (ap4T a T') (k + 1 + 1 + 1 + 1) :=
  tp_step (tp_step (tp_step (tp_step h (by omega) (byt_b _ _)) (by rw [apS_1]; omega) (byt_b _ _)) (by rw [apS_1, apS_1]; omega) (byt_b _ _)) (by rw [apS_1, apS_1, apS_1]; omega) (byt_b _ _)
theorem m_fd1 {v1 v2 v3 v4 v5 i a b : Int} (ha : -2147483648 ≤ a ∧ a < 2147483648) (hi : 0 ≤ i ∧ i < 20) (hb : b = 8 * (3 - i % 4)) (c : 0 ≤ T 401 1 ∧ T 401 1 < 1600) : Mo_feed_81 v1 v2 v3 v4 v5 i a T = Mo_feed_28 v1 v2 v3 v4 v5 (i + 1) (apT (byt a b) T) := by
  have hm : 0 ≤ i % 4 ∧ i % 4 < 4 := by omega
  rw [e_Mo_feed_81, if_pos c, Int.tmod_eq_emod_of_nonneg hi.1, wrN (z := 3 - i % 4) (by omega) (by omega), wrN (z := 8 * (3 - i % 4)) (by omega) (by omega), ← hb, shr_div ha.1 ha.2 (by omega) (by omega), band_255, wrN (z := T 401 1 + 1) (by omega) (by omega), wrN (by omega) (by omega)]
  rfl
theorem m_fd4 {v1 v2 v3 v4 v5 i j a : Int} (ha : -2147483648 ≤ a ∧ a < 2147483648) (hi : 0 ≤ i ∧ i ≤ 16) (hj : j = i + 1 + 1 + 1 + 1) (h4 : i % 4 = 0) (hsel : ∀ k T', i ≤ k → k < i + 4 → Mo_feed_28 v1 v2 v3 v4 v5 k T' = Mo_feed_81 v1 v2 v3 v4 v5 k a T') (c : 0 ≤ T 401 1 ∧ T 401 1 + 4 ≤ 1600) : Mo_feed_28 v1 v2 v3 v4 v5 i T = Mo_feed_28 v1 v2 v3 v4 v5 j (ap4T a T) := by
  subst hj
  rw [hsel i T (by omega) (by omega), m_fd1 (b := 24) ha (by omega) (by omega) (by omega), hsel (i + 1) _ (by omega) (by omega), m_fd1 (b := 16) ha (by omega) (by omega) (by rw [apT_1]; omega), hsel (i + 1 + 1) _ (by omega) (by omega), m_fd1 (b := 8) ha (by omega) (by omega) (by rw [apT_1, apT_1]; omega), hsel (i + 1 + 1 + 1) _ (by omega) (by omega), m_fd1 (b := 0) ha (by omega) (by omega) (by rw [apT_1, apT_1, apT_1]; omega)]
  rfl
theorem op_feed (h : Inv n P S T) (hn : n < 1000000) {a1 a2 a3 a4 a5 : Int} (r1 : -2147483648 ≤ a1 ∧ a1 < 2147483648) (r2 : -2147483648 ≤ a2 ∧ a2 < 2147483648) (r3 : -2147483648 ≤ a3 ∧ a3 < 2147483648) (r4 : -2147483648 ≤ a4 ∧ a4 < 2147483648) (r5 : -2147483648 ≤ a5 ∧ a5 < 2147483648) : OK2 n P (m_Ma_feed a1 a2 a3 a4 a5 S) (m_Mo_feed a1 a2 a3 a4 a5 T) := by
  obtain ⟨x1, x2, x3⟩ := h.tx
  have hr := h.rf 0 (by decide)
  rw [e_Ma_feed, e_Mo_feed, ← x1, wrN (z := S 2 1 + 20) (by omega) (by omega)]
  by_cases c : 1600 < S 2 1 + 20
  · have e1 : m_Ma_refuse 0 S = some (-1, up S 134 0 (S 134 0 + 1)) := c_refuse (k := 0) h hn (by decide)
    rw [if_pos c, if_pos c, e1, Option.bind_some, wrN (by omega) (by omega)]
    exact ⟨_, _, _, rfl, rfl, h.refuse hn (by decide)⟩
  · rw [if_neg c, if_neg c]
    have t0 : tpR S T S T 0 := ⟨⟨fun _ _ _ => rfl, fun _ _ => rfl⟩, ⟨fun _ _ _ => rfl, fun _ _ => rfl⟩, ⟨x1, x2, x3⟩, by omega⟩
    have t1 := tp_4 (a := a1) t0 (by omega)
    have u1 := t1.2.2.2
    have y1 := t1.2.2.1.1
    have t2 := tp_4 (a := a2) t1 (by omega)
    have u2 := t2.2.2.2
    have y2 := t2.2.2.1.1
    have t3 := tp_4 (a := a3) t2 (by omega)
    have u3 := t3.2.2.2
    have y3 := t3.2.2.1.1
    have t4 := tp_4 (a := a4) t3 (by omega)
    have u4 := t4.2.2.2
    have y4 := t4.2.2.1.1
    have t5 := tp_4 (a := a5) t4 (by omega)
    have u5 := t5.2.2.2
    have y5 := t5.2.2.1.1
    rw [c_ap4 r1 (by omega), Option.bind_some, c_ap4 r2 (by omega), Option.bind_some, c_ap4 r3 (by omega), Option.bind_some, c_ap4 r4 (by omega), Option.bind_some, c_ap4 r5 (by omega), Option.bind_some]
    rw [m_fd4 (j := 4) (a := a1) r1 (by decide) (by decide) (by decide) (fun k T' h1 h2 => by rw [e_Mo_feed_28, if_pos (by omega), if_pos (by omega)]) (by omega)]
    rw [m_fd4 (j := 8) (a := a2) r2 (by decide) (by decide) (by decide) (fun k T' h1 h2 => by rw [e_Mo_feed_28, if_pos (by omega), if_neg (by omega), if_pos (by omega)]) (by omega)]
    rw [m_fd4 (j := 12) (a := a3) r3 (by decide) (by decide) (by decide) (fun k T' h1 h2 => by rw [e_Mo_feed_28, if_pos (by omega), if_neg (by omega), if_neg (by omega), if_pos (by omega)]) (by omega)]
    rw [m_fd4 (j := 16) (a := a4) r4 (by decide) (by decide) (by decide) (fun k T' h1 h2 => by rw [e_Mo_feed_28, if_pos (by omega), if_neg (by omega), if_neg (by omega), if_neg (by omega), if_pos (by omega)]) (by omega)]
    rw [m_fd4 (j := 20) (a := a5) r5 (by decide) (by decide) (by decide) (fun k T' h1 h2 => by rw [e_Mo_feed_28, if_pos (by omega), if_neg (by omega), if_neg (by omega), if_neg (by omega), if_neg (by omega)]) (by omega)]
    rw [e_Mo_feed_28, if_neg (by decide), ← y5]
    exact ⟨_, _, _, rfl, rfl, h.tape t5.1.1 t5.1.2 t5.2.1.1 t5.2.1.2 t5.2.2.1⟩
theorem sumN_b {B : Int} {g : Nat → Int} : ∀ {n : Nat}, (∀ k, k < n → 0 ≤ g k ∧ g k ≤ B) → 0 ≤ sumN g n ∧ sumN g n ≤ B * (n : Int) := by
  intro n
  induction n with
  | zero => intro _; exact ⟨Int.le_refl _, by rw [sumN]; omega⟩
  | succ n ih =>
    intro e
    have i1 := ih (fun k hk => e k (by omega))
    have i2 := e n (by omega)
    have i3 : B * ((n + 1 : Nat) : Int) = B * (n : Int) + B := by
      rw [Int.natCast_add, Int.mul_add]
      show B * (n : Int) + B * 1 = _
      rw [Int.mul_one]
    rw [sumN, i3]
    omega
theorem m_cthat {b : Nat} (hb : b = 1 ∨ b = 2) (hP : PLN P) (hR : RP P T) (hg : ∀ k, k < 12 → 0 ≤ T 438 (b + 2 * k) ∧ T 438 (b + 2 * k) ≤ 1) : ∀ (j v : Nat), v + j = nCa P → Mo_carbonsThat_4 b (sumN (fun k => T 438 (b + 2 * k)) v) v T = some (sumN (fun k => T 438 (b + 2 * k)) (nCa P), T) := by
  have h3 := hP.2.2.1
  have h12 := nCa_le hP
  intro j
  induction j with
  | zero =>
    intro v e
    rw [e_Mo_carbonsThat_4, e_Mo_carbonMany, Option.bind_some]
    dsimp only
    rw [hR.n6, if_neg (by unfold nCa at e; omega), show v = nCa P by omega]
  | succ j ih =>
    intro v e
    have hs := sumN_b (B := 1) (g := fun k => T 438 (b + 2 * k)) (n := v) (fun k hk => hg k (by omega))
    have hv := hg v (by omega)
    rw [e_Mo_carbonsThat_4, e_Mo_carbonMany, Option.bind_some]
    dsimp only
    rw [hR.n6, if_pos (by unfold nCa at e; omega), wrN (z := 2 * (v : Int)) (by omega) (by omega), wrN (z := (b : Int) + 2 * (v : Int)) (by omega) (by omega), if_pos (by omega), show ((b : Int) + 2 * (v : Int)).toNat = b + 2 * v by omega, wrN (z := (v : Int) + 1) (by omega) (by omega), wrN (by omega) (by omega)]
    exact ih (v + 1) (by omega)
theorem m_sall (hg : ∀ i, 25 ≤ i → i < 57 → 0 ≤ T 438 i ∧ T 438 i ≤ 99) : ∀ (j v : Nat), v + j = 32 → Mo_strengthAll_5 (sumN (fun i => T 438 (25 + i)) v) ((25 + v : Nat) : Int) T = some (sumN (fun i => T 438 (25 + i)) 32, T) := by
  intro j
  induction j with
  | zero =>
    intro v e
    rw [e_Mo_strengthAll_5, if_neg (by omega), show v = 32 by omega]
  | succ j ih =>
    intro v e
    have hs := sumN_b (B := 99) (g := fun i => T 438 (25 + i)) (n := v) (fun k hk => hg (25 + k) (by omega) (by omega))
    have hv := hg (25 + v) (by omega) (by omega)
    rw [e_Mo_strengthAll_5, if_pos (by omega), if_pos (by omega), Int.toNat_natCast, wrN (z := ((25 + v : Nat) : Int) + 1) (by omega) (by omega), wrN (by omega) (by omega)]
    exact ih (v + 1) (by omega)
theorem c_sal1 {w : Nat → Int} (hw : ∀ i, 25 ≤ i → i < 57 → 0 ≤ w i ∧ w i ≤ 99) (hS : SWn S 24 w) {f : Nat} (hf : f < 4) {x : Int} (hx : 0 ≤ x ∧ x ≤ 10000) : ∀ (j v : Nat), v + j = 8 → Ma_allStrengths_11 (x + sumN (fun o => w (25 + 4 * o + f)) v) f v S = Ma_allStrengths_4 (x + sumN (fun o => w (25 + 4 * o + f)) 8) ((f + 1 : Nat) : Int) S := by
  intro j
  induction j with
  | zero =>
    intro v e
    rw [e_Ma_allStrengths_11, if_neg (by omega), show v = 8 by omega, wrN (by omega) (by omega)]
    rfl
  | succ j ih =>
    intro v e
    have hs := sumN_b (B := 99) (g := fun o => w (25 + 4 * o + f)) (n := v) (fun k hk => hw (25 + 4 * k + f) (by omega) (by omega))
    have hv := hw (25 + 4 * v + f) (by omega) (by omega)
    rw [e_Ma_allStrengths_11, if_pos (by omega), c_str_now hS (by omega) hf, Option.bind_some]
    dsimp only
    rw [wrN (z := (v : Int) + 1) (by omega) (by omega), wrN (by omega) (by omega), Int.add_assoc]
    exact ih (v + 1) (by omega)
theorem c_sall {w : Nat → Int} (hw : ∀ i, 25 ≤ i → i < 57 → 0 ≤ w i ∧ w i ≤ 99) (hS : SWn S 24 w) : m_Ma_allStrengths S = some (sumN (fun i => w (25 + i)) 32, S) := by
  have g : ∀ f, f < 4 → 0 ≤ sumN (fun o => w (25 + 4 * o + f)) 8 ∧ sumN (fun o => w (25 + 4 * o + f)) 8 ≤ 99 * ((8 : Nat) : Int) := fun f hf => sumN_b (fun k hk => hw (25 + 4 * k + f) (by omega) (by omega))
  have g0 := g 0 (by decide)
  have g1 := g 1 (by decide)
  have g2 := g 2 (by decide)
  have g3 := g 3 (by decide)
  have st : ∀ (f : Nat) (x : Int), f < 4 → 0 ≤ x → x ≤ 10000 → Ma_allStrengths_4 x (f : Int) S = Ma_allStrengths_4 (x + sumN (fun o => w (25 + 4 * o + f)) 8) ((f + 1 : Nat) : Int) S := fun f x hf h0 h1 => by
    rw [e_Ma_allStrengths_4, if_pos (by omega)]
    have := c_sal1 hw hS hf ⟨h0, h1⟩ 8 0 (by omega)
    rw [sumN, Int.add_zero] at this
    exact this
  rw [e_Ma_allStrengths]
  have s0 := st 0 0 (by decide) (by omega) (by omega)
  have s1 := st 1 (0 + sumN (fun o => w (25 + 4 * o + 0)) 8) (by decide) (by omega) (by omega)
  have s2 := st 2 (0 + sumN (fun o => w (25 + 4 * o + 0)) 8 + sumN (fun o => w (25 + 4 * o + 1)) 8) (by decide) (by omega) (by omega)
  have s3 := st 3 (0 + sumN (fun o => w (25 + 4 * o + 0)) 8 + sumN (fun o => w (25 + 4 * o + 1)) 8 + sumN (fun o => w (25 + 4 * o + 2)) 8) (by decide) (by omega) (by omega)
  have s4 : Ma_allStrengths_4 0 0 S = Ma_allStrengths_4 (0 + sumN (fun o => w (25 + 4 * o + 0)) 8 + sumN (fun o => w (25 + 4 * o + 1)) 8 + sumN (fun o => w (25 + 4 * o + 2)) 8 + sumN (fun o => w (25 + 4 * o + 3)) 8) ((3 + 1 : Nat) : Int) S := ((s0.trans s1).trans s2).trans s3
  rw [s4, e_Ma_allStrengths_4, if_neg (by decide)]
  have : 0 + sumN (fun o => w (25 + 4 * o + 0)) 8 + sumN (fun o => w (25 + 4 * o + 1)) 8 + sumN (fun o => w (25 + 4 * o + 2)) 8 + sumN (fun o => w (25 + 4 * o + 3)) 8 = sumN (fun i => w (25 + i)) 32 := by
    simp only [sumN, Nat.reduceMul, Nat.reduceAdd]
    clear s0 s1 s2 s3 s4 st g0 g1 g2 g3 g hw hS
    omega
  rw [this]
theorem op_has (h : Inv n P S T) (hn : n < 600) (a : Int) : OK2 n P (m_Ma_has a S) (m_Mo_has a T) := by
  have hP := h.pln
  have h12 := nCa_le hP
  obtain ⟨w1, w2, w3, w4, w5, w6⟩ := h.wd
  obtain ⟨s1, s2, s3, s4, s5⟩ := w3
  have cp := h.en.1.1
  rw [e_Ma_has, e_Mo_has]
  by_cases c0 : a = 0
  · subst c0
    rw [if_pos rfl, if_pos rfl, if_pos (by decide), cp.1]
    exact ⟨_, S, T, rfl, by show some (T 430 4, T) = _; rw [h.rp.n4], h.same⟩
  rw [if_neg c0, if_neg c0]
  by_cases c1 : a = 1
  · subst c1
    rw [if_pos rfl, if_pos rfl, if_pos (by decide), cp.2.1]
    exact ⟨_, S, T, rfl, by show some (T 430 5, T) = _; rw [h.rp.n5], h.same⟩
  rw [if_neg c1, if_neg c1]
  by_cases c2 : a = 2
  · subst c2
    rw [if_pos rfl, if_pos rfl, if_pos (by decide), cp.2.2.1]
    exact ⟨_, S, T, rfl, by show some (T 430 6, T) = _; rw [h.rp.n6], h.same⟩
  rw [if_neg c2, if_neg c2]
  by_cases c3 : a = 3
  · subst c3
    rw [if_pos rfl, if_pos rfl, s1]
    exact ⟨_, S, T, rfl, rfl, h.same⟩
  rw [if_neg c3, if_neg c3]
  have ext : ∀ b : Nat, (b = 1 ∨ b = 2) → sumN (fun k => T 438 (b + 2 * k)) 12 = sumN (fun k => T 438 (b + 2 * k)) (nCa P) := fun b hb => by
    have := sumN_ext (g := fun k => T 438 (b + 2 * k)) (n := nCa P) (12 - nCa P) (fun k k1 k2 => by
      have := w1.2.2.2.2 k k1 (by omega)
      rcases hb with rfl | rfl
      · exact this.1
      · exact this.2)
    rw [show nCa P + (12 - nCa P) = 12 by omega] at this
    exact this
  by_cases c4 : a = 4
  · subst c4
    have m1 := m_cthat (b := 1) (Or.inl rfl) hP h.rp (fun k hk => by have := (w1.2.1 k hk).1; omega) (nCa P) 0 (by omega)
    have m1 : m_Mo_carbonsThat 1 T = some (sumN (fun k => T 438 (1 + 2 * k)) (nCa P), T) := by rw [e_Mo_carbonsThat]; exact m1
    rw [if_pos rfl, if_pos rfl, c_bits s2.1 s2.2, m1, sumN_congr (h := fun k => T 438 (1 + 2 * k)) (fun k hk => (s4 k hk).1), ext 1 (Or.inl rfl)]
    exact ⟨_, S, T, rfl, rfl, h.same⟩
  rw [if_neg c4, if_neg c4]
  by_cases c5 : a = 5
  · subst c5
    have m1 := m_cthat (b := 2) (Or.inr rfl) hP h.rp (fun k hk => by have := (w1.2.1 k hk).2; omega) (nCa P) 0 (by omega)
    have m1 : m_Mo_carbonsThat 2 T = some (sumN (fun k => T 438 (2 + 2 * k)) (nCa P), T) := by rw [e_Mo_carbonsThat]; exact m1
    rw [if_pos rfl, if_pos rfl, c_bits s3.1 s3.2, m1, sumN_congr (h := fun k => T 438 (2 + 2 * k)) (fun k hk => (s4 k hk).2), ext 2 (Or.inr rfl)]
    exact ⟨_, S, T, rfl, rfl, h.same⟩
  rw [if_neg c5, if_neg c5]
  by_cases c6 : a = 6
  · subst c6
    have m1 := m_sall w1.2.2.1 32 0 (by omega)
    have m1 : m_Mo_strengthAll T = some (sumN (fun i => T 438 (25 + i)) 32, T) := by rw [e_Mo_strengthAll]; exact m1
    rw [if_pos rfl, if_pos rfl, c_sall w1.2.2.1 ⟨s1, s2, s3, s4, s5⟩, m1]
    exact ⟨_, S, T, rfl, rfl, h.same⟩
  rw [if_neg c6, if_neg c6]
  by_cases c7 : a = 7
  · subst c7
    have hm : imn (S 24 5) 40 = T 438 57 := by
      rw [w4.2.1]
      by_cases c : S 24 5 < 40
      · rw [if_pos c, imn_le (by omega)]
      · rw [if_neg c, imn_ge (by omega)]
    rw [if_pos rfl, if_pos rfl, e_St_told_now, hm]
    exact ⟨_, S, T, rfl, rfl, h.same⟩
  rw [if_neg c7, if_neg c7]
  by_cases c8 : a = 8
  · subst c8
    rw [if_pos rfl, if_pos rfl, h.fd.1.1]
    exact ⟨_, S, T, rfl, rfl, h.same⟩
  rw [if_neg c8, if_neg c8]
  by_cases c9 : a = 9
  · subst c9
    rw [if_pos rfl, if_pos rfl, h.hi.1]
    exact ⟨_, S, T, rfl, rfl, h.same⟩
  rw [if_neg c9, if_neg c9]
  exact ⟨_, S, T, rfl, rfl, h.same⟩
end
