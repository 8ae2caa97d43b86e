/-! on: the taking -/
section
variable {n : Nat} {P S T : MS}
theorem Inv.onto (h : Inv n P S T) {S' T' : MS} (s : ∀ x, x ≠ 2 → x ≠ 24 → x ≠ 25 → x ≠ 51 → x ≠ 118 → S' x = S x) (s2 : ∀ k, k ≠ 1 → S' 2 k = S 2 k) (s51 : S' 51 2 = 0 ∧ S' 51 1 = 0) (s118 : ∀ k, k ≠ 13 → k ≠ 14 → S' 118 k = S 118 k) (s13 : S' 118 13 = 0 ∧ S' 118 14 = 0) (t : ∀ x, x ≠ 401 → x ≠ 438 → T' x = T x) (t1 : ∀ k, k ≠ 1 → k ≠ 71 → T' 401 k = T 401 k) (t71 : T' 401 71 = 0) (hx : TXr S' T') (hw : WDr (n + 1) P S' T') : Inv (n + 1) P S' T' := by
  have h' := h.same
  obtain ⟨y1, y2, y3, y4, y5⟩ := h.hi
  refine Inv.mk1 h'.pln (h'.rp.fr (t 430 (by decide) (by decide)) (t 431 (by decide) (by decide)) (t 432 (by decide) (by decide)) (t 433 (by decide) (by decide)) (t 435 (by decide) (by decide)) (t 436 (by decide) (by decide)) (t 437 (by decide) (by decide))) (h'.nm.fr (s 32 (by decide) (by decide) (by decide) (by decide) (by decide)) (s 35 (by decide) (by decide) (by decide) (by decide) (by decide)))
    hx (h'.ft.fr (s2 8 (by decide)) (s2 9 (by decide)) (t1 7 (by decide) (by decide)) (t1 8 (by decide) (by decide))) (h.rf.fr (s 134 (by decide) (by decide) (by decide) (by decide) (by decide)) (t 403 (by decide) (by decide)))
    (h'.sd.fr (by rw [s 1 (by decide) (by decide) (by decide) (by decide) (by decide)]) (t1 73 (by decide) (by decide))) (h'.im.fr (by rw [s 1 (by decide) (by decide) (by decide) (by decide) (by decide)]) (s 133 (by decide) (by decide) (by decide) (by decide) (by decide)) (t1 107 (by decide) (by decide)) (t 476 (by decide) (by decide))) (h'.mk0.fr (s 22 (by decide) (by decide) (by decide) (by decide) (by decide)) (by rw [s 23 (by decide) (by decide) (by decide) (by decide) (by decide)]) (by rw [s 132 (by decide) (by decide) (by decide) (by decide) (by decide)]) (s 17 (by decide) (by decide) (by decide) (by decide) (by decide)) (s 18 (by decide) (by decide) (by decide) (by decide) (by decide)) (fun x hx => t x (by omega) (by omega)))
    hw ⟨by rw [s 27 (by decide) (by decide) (by decide) (by decide) (by decide)]; exact h'.th.1, by rw [t1 57 (by decide) (by decide)]; exact h'.th.2⟩ ⟨h'.en.1.fr (fun x h1 h2 => s x (by omega) (by omega) (by omega) (by omega) (by omega)), by rw [s 30 (by decide) (by decide) (by decide) (by decide) (by decide)]; exact h'.en.2⟩
    ⟨by rw [s51.1, t71], by rw [s51.1]; omega, by rw [s51.2]; omega, by rw [t1 72 (by decide) (by decide)]; exact y4, fun i hi => by rw [s51.1] at hi; omega⟩ ?_
  obtain ⟨r1, r2, r3, r4, r5⟩ := h.fd
  refine ⟨?_, Or.inl s13.1, Or.inl s13.2, fun hh => ?_, fun hh => ?_⟩
  · unfold ROr at r1 ⊢
    rw [s118 5 (by decide) (by decide), s 119 (by decide) (by decide) (by decide) (by decide) (by decide), s 120 (by decide) (by decide) (by decide) (by decide) (by decide), s 121 (by decide) (by decide) (by decide) (by decide) (by decide), t1 64 (by decide) (by decide), t 446 (by decide) (by decide)]
    exact r1
  · rw [s13.1] at hh; exact absurd hh (by decide)
  · rw [s13.2] at hh; exact absurd hh (by decide)
theorem c_clr (S : MS) : ∃ S', m_St_clear_now S = some S' ∧ S' 24 0 = 0 ∧ S' 24 1 = 0 ∧ S' 24 2 = 0 ∧ S' 24 5 = 0 ∧ (∀ f, f < 4 → S' 25 f = 0) ∧ ∀ c, c ≠ 24 → c ≠ 25 → S' c = S c := by
  have step : ∀ (k : Nat) (S : MS), k < 4 → St_clear_now_22 k S = St_clear_now_22 ((k + 1 : Nat) : Int) (up S 25 k 0) := fun k S hk => by
    rw [e_St_clear_now_22, if_pos (by omega), if_pos (by omega), Int.toNat_natCast, wrN (by omega) (by omega)]
    rfl
  generalize hS1 : up (up (up (up S 24 0 0) 24 1 0) 24 2 0) 24 5 0 = S1
  have e : m_St_clear_now S = some (up (up (up (up S1 25 0 0) 25 1 0) 25 2 0) 25 3 0) := by
    rw [e_St_clear_now, hS1]
    have a0 : St_clear_now_22 0 S1 = St_clear_now_22 ((0 + 1 : Nat) : Int) (up S1 25 0 0) := step 0 S1 (by decide)
    rw [a0, step 1 _ (by decide), step 2 _ (by decide), step 3 _ (by decide), e_St_clear_now_22, if_neg (by decide)]
  refine ⟨_, e, ?_, ?_, ?_, ?_, fun f hf => ?_, fun c c1 c2 => ?_⟩
  · rw [up_c (by decide), up_c (by decide), up_c (by decide), up_c (by decide), ← hS1, up_k (by decide), up_k (by decide), up_k (by decide), up_s]
  · rw [up_c (by decide), up_c (by decide), up_c (by decide), up_c (by decide), ← hS1, up_k (by decide), up_k (by decide), up_s]
  · rw [up_c (by decide), up_c (by decide), up_c (by decide), up_c (by decide), ← hS1, up_k (by decide), up_s]
  · rw [up_c (by decide), up_c (by decide), up_c (by decide), up_c (by decide), ← hS1, up_s]
  · rcases (show f = 0 ∨ f = 1 ∨ f = 2 ∨ f = 3 by omega) with rfl | rfl | rfl | rfl
    · rw [up_k (by decide), up_k (by decide), up_k (by decide), up_s]
    · rw [up_k (by decide), up_k (by decide), up_s]
    · rw [up_k (by decide), up_s]
    · rw [up_s]
  · rw [up_c c2, up_c c2, up_c c2, up_c c2, ← hS1, up_c c1, up_c c1, up_c c1, up_c c1]
/-- one more bit of a set -/
theorem bt_put {x b : Int} {v : Nat} (hx : 0 ≤ x ∧ x < 4096) (hb : b = 0 ∨ b = 1) (hv : v < 12) : (0 ≤ bor x (shl b v) ∧ bor x (shl b v) < 4096) ∧ ∀ k, bt (bor x (shl b v)) k = if bt x k = 1 ∨ (k = v ∧ b = 1) then 1 else 0 := by
  have h12' : ((2 ^ 12 : Nat) : Int) = 4096 := rfl
  have hp : ((2 ^ v : Nat) : Int) < ((2 ^ 12 : Nat) : Int) := pow_lt hv
  rw [h12'] at hp
  have hp0 : 0 ≤ ((2 ^ v : Nat) : Int) := Int.natCast_nonneg _
  have hs : shl b v = b * ((2 ^ v : Nat) : Int) := by
    rcases hb with rfl | rfl
    · rw [shl_mul (by omega) (by omega) (by omega) (by simp)]
      rw [Int.toNat_natCast]
    · rw [shl_1 (by omega) (by omega), Int.toNat_natCast, Int.one_mul]
  have hs0 : 0 ≤ shl b v ∧ shl b v < 4096 := by
    rw [hs]
    rcases hb with rfl | rfl
    · rw [Int.zero_mul]; omega
    · rw [Int.one_mul]; omega
  have hbt : ∀ k, bt (shl b v) k = 1 ↔ k = v ∧ b = 1 := fun k => by
    rw [hs]
    rcases hb with rfl | rfl
    · rw [Int.zero_mul]
      have : bt 0 k = 0 := by unfold bt; rw [Int.zero_ediv]; rfl
      rw [this]
      exact ⟨fun q => absurd q (by decide), fun q => absurd q.2 (by decide)⟩
    · rw [Int.one_mul, bt_pow]
      by_cases e : v = k
      · subst e; rw [if_pos rfl]; exact ⟨fun _ => ⟨rfl, rfl⟩, fun _ => rfl⟩
      · rw [if_neg e]; exact ⟨fun q => absurd q (by decide), fun q => absurd q.1.symm e⟩
  have h12 : ((2 ^ 12 : Nat) : Int) = 4096 := rfl
  have hl := bor_lt (a := x) (b := shl b v) 12 (by decide) hx.1 (by omega) hs0.1 (by omega)
  refine ⟨by omega, fun k => ?_⟩
  rw [bt_or hx.1 (by omega) hs0.1 (by omega)]
  by_cases c : bt x k = 1 ∨ bt (shl b v) k = 1
  · rw [if_pos c, if_pos (c.imp id (hbt k).mp)]
  · rw [if_neg c, if_neg (fun q => c (q.imp id (hbt k).mpr))]
def onB (g : Nat → Int) (v : Nat) (S : MS) : Prop := (0 ≤ S 24 1 ∧ S 24 1 < 4096) ∧ (0 ≤ S 24 2 ∧ S 24 2 < 4096) ∧ ∀ k, bt (S 24 1) k = (if k < v then g (2 + 2 * k) else 0) ∧ bt (S 24 2) k = (if k < v then g (3 + 2 * k) else 0)
theorem c_onbits {C L : Nat} (hC : C ≤ 12) (hL : 2 + 2 * C ≤ L ∧ L ≤ 1600) {g : Nat → Int} (hg : ∀ i, 2 ≤ i → i < 2 + 2 * C → g i = 0 ∨ g i = 1) : ∀ (j v : Nat) (S : MS), v + j = C → S 31 2 = (C : Int) → S 2 1 = (L : Int) → S 3 = g → onB g v S → ∃ S', Ma_takeImage_47 ((2 + 2 * v : Nat) : Int) v S = Ma_takeImage_112 ((2 + 2 * C : Nat) : Int) 0 S' ∧ onB g C S' ∧ (∀ c, c ≠ 24 → S' c = S c) ∧ ∀ k, k ≠ 1 → k ≠ 2 → S' 24 k = S 24 k := by
  intro j
  induction j with
  | zero =>
    intro v S e h31 h2 h3 hb
    refine ⟨S, ?_, by rw [show C = v by omega]; exact hb, fun c _ => rfl, fun k _ _ => rfl⟩
    rw [e_Ma_takeImage_47, h31, if_neg (by omega), show v = C by omega]
  | succ j ih =>
    intro v S e h31 h2 h3 hb
    obtain ⟨b1, b2, b3⟩ := hb
    have g1 := hg (2 + 2 * v) (by omega) (by omega)
    have g2 := hg (3 + 2 * v) (by omega) (by omega)
    obtain ⟨p1, p2⟩ := bt_put b1 g1 (v := v) (by omega)
    obtain ⟨q1, q2⟩ := bt_put b2 g2 (v := v) (by omega)
    have hz : ∀ (x : Int) (k : Nat), bt x k = 0 ∨ bt x k = 1 := bt_01
    obtain ⟨S', r1, r2, r3, r4⟩ := ih (v + 1) (up (up S 24 1 (bor (S 24 1) (shl (g (2 + 2 * v)) v))) 24 2 (bor (S 24 2) (shl (g (3 + 2 * v)) v))) (by omega) (by rw [up_c (by decide), up_c (by decide)]; exact h31) (by rw [up_c (by decide), up_c (by decide)]; exact h2) (by rw [up_c (by decide), up_c (by decide)]; exact h3) ⟨by rw [up_k (by decide), up_s]; exact p1, by rw [up_s]; exact q1, fun k => by
      rw [up_s, up_k (by decide), up_s, p2, q2, (b3 k).1, (b3 k).2]
      by_cases c1 : k < v
      · rw [if_pos c1, if_pos c1, if_pos (show k < v + 1 by omega), if_pos (show k < v + 1 by omega)]
        have u1 := hg (2 + 2 * k) (by omega) (by omega)
        have u2 := hg (3 + 2 * k) (by omega) (by omega)
        refine ⟨?_, ?_⟩
        · rcases u1 with u | u
          · rw [u, if_neg (by omega)]
          · rw [u, if_pos (Or.inl rfl)]
        · rcases u2 with u | u
          · rw [u, if_neg (by omega)]
          · rw [u, if_pos (Or.inl rfl)]
      · rw [if_neg c1, if_neg c1]
        by_cases c2 : k = v
        · subst c2
          rw [if_pos (show k < k + 1 by omega), if_pos (show k < k + 1 by omega)]
          refine ⟨?_, ?_⟩
          · rcases g1 with u | u
            · rw [u, if_neg (by omega)]
            · rw [u, if_pos (Or.inr ⟨rfl, rfl⟩)]
          · rcases g2 with u | u
            · rw [u, if_neg (by omega)]
            · rw [u, if_pos (Or.inr ⟨rfl, rfl⟩)]
        · rw [if_neg (show ¬ k < v + 1 by omega), if_neg (show ¬ k < v + 1 by omega), if_neg (by omega), if_neg (by omega)]
          exact ⟨rfl, rfl⟩⟩
    refine ⟨S', ?_, r2, fun c hc => by rw [r3 c hc, up_c hc, up_c hc], fun k k1 k2 => by rw [r4 k k1 k2, up_k k2, up_k k1]⟩
    rw [e_Ma_takeImage_47, h31, if_pos (by omega), c_octet (by omega), Option.bind_some]
    dsimp only
    rw [wrN (z := ((2 + 2 * v : Nat) : Int) + 1) (by omega) (by omega), show ((2 + 2 * v : Nat) : Int) + 1 = ((3 + 2 * v : Nat) : Int) by omega, c_octet (by rw [up_c (by decide)]; omega), Option.bind_some]
    dsimp only
    rw [wrN (z := ((2 + 2 * v : Nat) : Int) + 2) (by omega) (by omega), wrN (z := (v : Int) + 1) (by omega) (by omega), up_c (by decide : (3 : Nat) ≠ 24), h3, show ((2 + 2 * v : Nat) : Int) + 2 = ((2 + 2 * (v + 1) : Nat) : Int) by omega]
    exact r1
theorem m_onbits {C : Nat} (hC : C ≤ 12) : ∀ (j v : Nat) (T : MS), v + j = 2 * C → T 430 6 = (C : Int) → ∃ T', Mo_on_64 ((2 + 2 * C : Nat) : Int) v T = Mo_on_98 ((2 + 2 * C : Nat) : Int) 0 T' ∧ (∀ i, T' 438 i = if 1 + v ≤ i ∧ i < 1 + 2 * C then T 402 (i + 1) else T 438 i) ∧ ∀ c, c ≠ 438 → T' c = T c := by
  intro j
  induction j with
  | zero =>
    intro v T e h6
    refine ⟨T, ?_, fun i => by rw [if_neg (by omega)], fun c _ => rfl⟩
    rw [e_Mo_on_64, e_Mo_carbonMany, Option.bind_some]
    dsimp only
    rw [h6, wrN (by omega) (by omega), if_neg (by omega)]
  | succ j ih =>
    intro v T e h6
    obtain ⟨T', r1, r2, r3⟩ := ih (v + 1) (up T 438 (1 + v) (T 402 (2 + v))) (by omega) (by rw [up_c (by decide)]; exact h6)
    refine ⟨T', ?_, fun i => ?_, fun c hc => by rw [r3 c hc, up_c hc]⟩
    · rw [e_Mo_on_64, e_Mo_carbonMany, Option.bind_some]
      dsimp only
      rw [h6, wrN (z := 2 * (C : Int)) (by omega) (by omega), if_pos (by omega), wrN (z := 2 + (v : Int)) (by omega) (by omega), wrN (z := 1 + (v : Int)) (by omega) (by omega), if_pos (by omega), if_pos (by omega), wrN (z := (v : Int) + 1) (by omega) (by omega), show (1 + (v : Int)).toNat = 1 + v by omega, show (2 + (v : Int)).toNat = 2 + v by omega]
      exact r1
    · rw [r2 i, up_c (by decide : (402 : Nat) ≠ 438)]
      by_cases c : i = 1 + v
      · subst c
        rw [if_neg (by omega), up_s, if_pos (by omega), show 1 + v + 1 = 2 + v by omega]
      · rw [up_k c]
        by_cases d : 1 + (v + 1) ≤ i ∧ i < 1 + 2 * C
        · rw [if_pos d, if_pos (by omega)]
        · rw [if_neg d, if_neg (by omega)]
def onS (P S T : MS) (o f : Nat) : Prop := (∀ f', f' < 4 → 0 ≤ S 25 f' ∧ S 25 f' < ((2 ^ 56 : Nat) : Int)) ∧ (∀ o' f', o' < 8 → f' < 4 → (o' < o ∨ (o' = o ∧ f' < f) ∨ nOf P ≤ o' ∨ nFe P ≤ f') → dg (S 25 f') o' = T 438 (25 + 4 * o' + f') ∧ 0 ≤ T 438 (25 + 4 * o' + f') ∧ T 438 (25 + 4 * o' + f') ≤ 99) ∧ ∀ o' f', o' < 8 → f' < 4 → (nOf P ≤ o' ∨ nFe P ≤ f') → T 438 (25 + 4 * o' + f') = 0
def onF (S T S' T' : MS) : Prop := (∀ c, c ≠ 25 → S' c = S c) ∧ (∀ c, c ≠ 438 → T' c = T c) ∧ ∀ i, i < 25 ∨ 57 ≤ i → T' 438 i = T 438 i
theorem onF.tr {S' T' S'' T'' : MS} (h : onF S T S' T') (g : onF S' T' S'' T'') : onF S T S'' T'' := ⟨fun c hc => (g.1 c hc).trans (h.1 c hc), fun c hc => (g.2.1 c hc).trans (h.2.1 c hc), fun i hi => (g.2.2 i hi).trans (h.2.2 i hi)⟩
theorem both_onrow {D : Nat} {o : Nat} (hP : PLN P) (ho : o < nOf P) {g : Nat → Int} (hD : D ≤ 1599) : ∀ (j f p : Nat) (S1 T1 : MS), f + j = nFe P → p + j ≤ D → (∀ i, p ≤ i → i < D → 0 ≤ g i ∧ g i ≤ 99) → (S1 31 1 = P 430 5 ∧ T1 430 5 = P 430 5) → (S1 2 1 = ((D + 1 : Nat) : Int) ∧ S1 3 = g) → (∀ i, i < D → T1 402 i = g i) → onS P S1 T1 o f → ∃ S2 T2, Ma_takeImage_123 p o f S1 = Ma_takeImage_112 ((p + j : Nat) : Int) ((o + 1 : Nat) : Int) S2 ∧ Mo_on_109 p o f T1 = Mo_on_98 ((p + j : Nat) : Int) ((o + 1 : Nat) : Int) T2 ∧ onS P S2 T2 (o + 1) 0 ∧ onF S1 T1 S2 T2 := by
  have h1 := hP.1
  have h2 := hP.2.1
  have ho8 : o < 8 := by unfold nOf at ho; omega
  intro j
  induction j with
  | zero =>
    intro f p S1 T1 e hp hg h31 hs ht hr
    refine ⟨S1, T1, ?_, ?_, ⟨hr.1, fun o' f' a1 a2 a3 => hr.2.1 o' f' a1 a2 (by omega), hr.2.2⟩, fun _ _ => rfl, fun _ _ => rfl, fun _ _ => rfl⟩
    · rw [e_Ma_takeImage_123, h31.1, if_neg (by unfold nFe at e; omega), wrN (by omega) (by omega)]
      rfl
    · rw [e_Mo_on_109, e_Mo_feelingMany, Option.bind_some]
      dsimp only
      rw [h31.2, if_neg (by unfold nFe at e; omega), wrN (by omega) (by omega)]
      rfl
  | succ j ih =>
    intro f p S1 T1 e hp hg h31 hs ht hr
    have hf : f < 4 := by unfold nFe at e; omega
    have hgp := hg p (Nat.le_refl _) (by omega)
    obtain ⟨d1, d2⟩ := dg_set (F := S1 25 f) (v := g p) (o := (o : Int)) (hr.1 f hf).1 (hr.1 f hf).2 hgp.1 (by omega) (by omega) (by omega)
    generalize hF : borL (bandL (S1 25 f) (bxorL (shlL 127 (wr (7 * (o : Int)))) (-1))) (shlL (g p) (wr (7 * (o : Int)))) = F at d1 d2
    have hset : m_St_setStrength_now o f (g p) S1 = some (up S1 25 f F) := by rw [c_setS (F := S1 25 f) ho8 hf rfl, hF]
    obtain ⟨S2, T2, r1, r2, r3, r4⟩ := ih (f + 1) (p + 1) (up S1 25 f F) (up T1 438 (25 + 4 * o + f) (g p)) (by omega) (by omega) (fun i i1 i2 => hg i (by omega) i2) (by rw [up_c (by decide), up_c (by decide)]; exact h31) (by rw [up_c (by decide), up_c (by decide)]; exact hs) (fun i hi => by rw [up_c (by decide)]; exact ht i hi) ⟨fun f' hf' => by
      by_cases c : f' = f
      · subst c; rw [up_s]; exact d1
      · rw [up_k c]; exact hr.1 f' hf', fun o' f' a1 a2 a3 => by
      by_cases c : o' = o ∧ f' = f
      · obtain ⟨rfl, rfl⟩ := c
        rw [up_s, up_s, d2 o' a1, if_pos rfl]
        exact ⟨rfl, hgp⟩
      · rw [up_k (show 25 + 4 * o' + f' ≠ 25 + 4 * o + f by omega)]
        have hh := hr.2.1 o' f' a1 a2 (by omega)
        by_cases cf : f' = f
        · subst cf
          rw [up_s, d2 o' a1, if_neg (by omega)]
          exact hh
        · rw [up_k cf]; exact hh, fun o' f' a1 a2 a3 => by rw [up_k (by omega)]; exact hr.2.2 o' f' a1 a2 a3⟩
    refine ⟨S2, T2, ?_, ?_, r3, ?_⟩
    · rw [e_Ma_takeImage_123, h31.1, if_pos (by unfold nFe at e; omega), c_octet (by rw [hs.1]; omega), Option.bind_some]
      dsimp only
      rw [hs.2, hset, Option.bind_some, wrN (z := (p : Int) + 1) (by omega) (by omega), wrN (z := (f : Int) + 1) (by omega) (by omega), show p + (j + 1) = p + 1 + j by omega]
      exact r1
    · rw [e_Mo_on_109, e_Mo_feelingMany, Option.bind_some]
      dsimp only
      rw [h31.2, if_pos (by unfold nFe at e; omega), if_pos (by omega), wrN (z := 4 * (o : Int)) (by omega) (by omega), wrN (z := 25 + 4 * (o : Int)) (by omega) (by omega), wrN (z := 25 + 4 * (o : Int) + (f : Int)) (by omega) (by omega), if_pos (by omega), wrN (z := (p : Int) + 1) (by omega) (by omega), wrN (z := (f : Int) + 1) (by omega) (by omega), Int.toNat_natCast, show (25 + 4 * (o : Int) + (f : Int)).toNat = 25 + 4 * o + f by omega, ht p (by omega), show p + (j + 1) = p + 1 + j by omega]
      exact r2
    · refine onF.tr ⟨fun c hc => up_c hc, fun c hc => up_c hc, fun i hi => up_k (by omega)⟩ r4
theorem both_onrows {D : Nat} (hP : PLN P) {g : Nat → Int} (hD : D ≤ 1599) : ∀ (j o p : Nat) (S1 T1 : MS), o + j = nOf P → p + j * nFe P = D → (∀ i, p ≤ i → i < D → 0 ≤ g i ∧ g i ≤ 99) → ((S1 31 0 = P 430 4 ∧ S1 31 1 = P 430 5) ∧ T1 430 4 = P 430 4 ∧ T1 430 5 = P 430 5) → (S1 2 1 = ((D + 1 : Nat) : Int) ∧ S1 3 = g) → (∀ i, i < D → T1 402 i = g i) → onS P S1 T1 o 0 → ∃ S2 T2, Ma_takeImage_112 p o S1 = ((m_Hi_clear S2).bind fun p1 => (m_Fi_forget p1).bind fun p2 => some p2) ∧ Mo_on_98 p o T1 = some (1, up (up T2 438 57 0) 401 71 0) ∧ onS P S2 T2 (nOf P) 0 ∧ onF S1 T1 S2 T2 := by
  have h1 := hP.1
  have h2 := hP.2.1
  intro j
  induction j with
  | zero =>
    intro o p S1 T1 e hp hg h31 hs ht hr
    refine ⟨S1, T1, ?_, ?_, by rw [show nOf P = o by omega]; exact hr, fun _ _ => rfl, fun _ _ => rfl, fun _ _ => rfl⟩
    · rw [e_Ma_takeImage_112, h31.1.1, if_neg (by unfold nOf at e; omega)]
    · rw [e_Mo_on_98, e_Mo_officerMany, Option.bind_some]
      dsimp only
      rw [h31.2.1, if_neg (by unfold nOf at e; omega)]
  | succ j ih =>
    intro o p S1 T1 e hp hg h31 hs ht hr
    have hp' : p + nFe P + j * nFe P = D := by rw [Nat.succ_mul] at hp; omega
    obtain ⟨S2, T2, q1, q2, q3, q4⟩ := both_onrow hP (o := o) (by omega) hD (nFe P) 0 p S1 T1 (by omega) (by omega) hg ⟨h31.1.2, h31.2.2⟩ hs ht hr
    obtain ⟨S3, T3, r1, r2, r3, r4⟩ := ih (o + 1) (p + nFe P) S2 T2 (by omega) hp' (fun i i1 i2 => hg i (by omega) i2) (by rw [q4.1 31 (by decide), q4.2.1 430 (by decide)]; exact h31) (by rw [q4.1 2 (by decide), q4.1 3 (by decide)]; exact hs) (fun i hi => by rw [q4.2.1 402 (by decide)]; exact ht i hi) q3
    refine ⟨S3, T3, ?_, ?_, r3, q4.tr r4⟩
    · rw [e_Ma_takeImage_112, h31.1.1, if_pos (by unfold nOf at e; omega)]
      exact q1.trans r1
    · rw [e_Mo_on_98, e_Mo_officerMany, Option.bind_some]
      dsimp only
      rw [h31.2.1, if_pos (by unfold nOf at e; omega)]
      exact q2.trans r2
theorem Inv.tape2 (h : Inv n P S T) {S' T' : MS} (s : ∀ x, x ≠ 2 → x ≠ 3 → x ≠ 134 → S' x = S x) (s1 : ∀ k, k ≠ 1 → S' 2 k = S 2 k) (t : ∀ x, x ≠ 401 → x ≠ 402 → x ≠ 403 → T' x = T x) (t1 : ∀ k, k ≠ 1 → T' 401 k = T 401 k) (hx : TXr S' T') (hr : RFr (n + 1) S' T') : Inv (n + 1) P S' T' := by
  have h' := h.same
  obtain ⟨w1, w2, w3, w4, w5, w6⟩ := h'.wd
  exact Inv.mk1 h'.pln (h'.rp.fr (t 430 (by decide) (by decide) (by decide)) (t 431 (by decide) (by decide) (by decide)) (t 432 (by decide) (by decide) (by decide)) (t 433 (by decide) (by decide) (by decide)) (t 435 (by decide) (by decide) (by decide)) (t 436 (by decide) (by decide) (by decide)) (t 437 (by decide) (by decide) (by decide))) (h'.nm.fr (s 32 (by decide) (by decide) (by decide)) (s 35 (by decide) (by decide) (by decide)))
    hx (h'.ft.fr (s1 8 (by decide)) (s1 9 (by decide)) (t1 7 (by decide)) (t1 8 (by decide))) hr
    (h'.sd.fr (by rw [s 1 (by decide) (by decide) (by decide)]) (t1 73 (by decide))) (h'.im.fr (by rw [s 1 (by decide) (by decide) (by decide)]) (s 133 (by decide) (by decide) (by decide)) (t1 107 (by decide)) (t 476 (by decide) (by decide) (by decide))) (h'.mk0.fr (s 22 (by decide) (by decide) (by decide)) (by rw [s 23 (by decide) (by decide) (by decide)]) (by rw [s 132 (by decide) (by decide) (by decide)]) (s 17 (by decide) (by decide) (by decide)) (s 18 (by decide) (by decide) (by decide)) (fun x hx => t x (by omega) (by omega) (by omega)))
    ⟨by rw [t 438 (by decide) (by decide) (by decide)]; exact w1, by rw [t 438 (by decide) (by decide) (by decide)]; exact w2, by rw [t 438 (by decide) (by decide) (by decide)]; exact w3.fr (by rw [s 24 (by decide) (by decide) (by decide)]) (by rw [s 24 (by decide) (by decide) (by decide)]) (by rw [s 24 (by decide) (by decide) (by decide)]) (s 25 (by decide) (by decide) (by decide)), by rw [s 24 (by decide) (by decide) (by decide), s 26 (by decide) (by decide) (by decide), t 438 (by decide) (by decide) (by decide)]; exact w4, by rw [s 24 (by decide) (by decide) (by decide)]; exact w5, by rw [t1 56 (by decide)]; exact w6⟩
    ⟨by rw [s 27 (by decide) (by decide) (by decide)]; exact h'.th.1, by rw [t1 57 (by decide)]; exact h'.th.2⟩ ⟨h'.en.1.fr (fun x h1 h2 => s x (by omega) (by omega) (by omega)), by rw [s 30 (by decide) (by decide) (by decide)]; exact h'.en.2⟩
    (h.hi.fr (by rw [s 51 (by decide) (by decide) (by decide)]) (by rw [s 51 (by decide) (by decide) (by decide)]) (fun x h1 h2 => s x (by omega) (by omega) (by omega)) (t1 71 (by decide)) (t1 72 (by decide)) (t 450 (by decide) (by decide) (by decide)))
    (h'.fd.fr (s 118 (by decide) (by decide) (by decide)) (s 119 (by decide) (by decide) (by decide)) (s 120 (by decide) (by decide) (by decide)) (s 121 (by decide) (by decide) (by decide)) (s 122 (by decide) (by decide) (by decide)) (t1 64 (by decide)) (t 446 (by decide) (by decide) (by decide)) (t 438 (by decide) (by decide) (by decide)))
theorem op_on (h : Inv n P S T) (hn : n < 600) : OK2 n P (m_Ma_on S) (m_Mo_on T) := by
  have hP := h.pln
  have h1 := hP.1
  have h2 := hP.2.1
  have h3 := hP.2.2.1
  have h12 := nCa_le hP
  obtain ⟨z, z1, z2, z3, z4⟩ := both_isImg h
  obtain ⟨x1, x2, x3⟩ := h.tx
  have hr := h.rf 5 (by decide)
  rw [e_Ma_on, e_Mo_on, z1, Option.bind_some, z2, Option.bind_some]
  dsimp only
  rcases z3 with rfl | rfl
  · have ht : Inv (n + 1) P (up S 2 1 0) (up T 401 1 0) := h.tape (fun x a1 _ => up_c a1) (fun k hk => up_k hk) (fun x a1 _ => up_c a1) (fun k hk => up_k hk) ⟨by rw [up_s, up_s], by rw [up_s]; omega, fun k hk => by rw [up_s] at hk; omega⟩
    have e1 : m_Ma_refused 5 (up S 2 1 0) = some (0, up (up S 2 1 0) 134 5 (up S 2 1 0 134 5 + 1)) := c_refused (k := 5) ht (by omega) (by decide)
    rw [if_pos rfl, if_pos rfl, e_Ma_on_13, if_pos rfl, e1, Option.bind_some, if_pos rfl, up_c (by decide : (134 : Nat) ≠ 2), up_c (by decide : (403 : Nat) ≠ 401), wrN (by omega) (by omega)]
    refine ⟨0, up (up S 2 1 0) 134 5 (S 134 5 + 1), up (up T 401 1 0) 403 5 (T 403 5 + 1), rfl, rfl, ?_⟩
    have u2 : up (up S 2 1 0) 134 5 (S 134 5 + 1) 2 1 = 0 := by rw [up_c (show (2 : Nat) ≠ 134 by decide), up_s]
    have u401 : up (up T 401 1 0) 403 5 (T 403 5 + 1) 401 1 = 0 := by rw [up_c (show (401 : Nat) ≠ 403 by decide), up_s]
    refine h.tape2 (fun x a1 a2 a3 => by rw [up_c a3, up_c a1]) (fun k hk => by rw [up_c (show (2 : Nat) ≠ 134 by decide), up_k hk]) (fun x a1 a2 a3 => by rw [up_c a3, up_c a1]) (fun k hk => by rw [up_c (show (401 : Nat) ≠ 403 by decide), up_k hk]) ⟨by rw [u2, u401], by rw [u2]; omega, fun k hk => by rw [u2] at hk; omega⟩ (fun k hk => ?_)
    by_cases c : k = 5
    · subst c; rw [up_s, up_s]; omega
    · rw [up_k c, up_k c, up_c (by decide), up_c (by decide)]
      have := h.rf k hk
      omega
  · obtain ⟨N, hN, hL, hday, hok⟩ := z4 rfl
    obtain ⟨w1, w2, w3, w4, w5, w6⟩ := h.wd
    have cp := h.en.1.1
    have hca : P 430 6 = (nCa P : Int) := by unfold nCa; omega
    have hD : 2 + 2 * nCa P + nOf P * nFe P = 2 + 2 * nCa P + N := by
      have e : P 430 4 * P 430 5 = ((nOf P * nFe P : Nat) : Int) := by
        rw [Int.natCast_mul]
        unfold nOf nFe
        rw [Int.toNat_of_nonneg h1.1, Int.toNat_of_nonneg h2.1]
      omega
    have hx : ∀ i : Nat, i ≤ 2 + 2 * nCa P + N → S 3 i = T 402 i ∧ 0 ≤ S 3 i ∧ S 3 i ≤ 255 := fun i hi => x3 i (by omega)
    obtain ⟨S0, c1, c2, c3, c4, c5, c6, c7⟩ := c_clr S
    have e2 : S0 2 = S 2 := c7 2 (by decide) (by decide)
    have e3 : S0 3 = S 3 := c7 3 (by decide) (by decide)
    have q0 : m_Te_octetAt 0 S0 = some (S 3 0, S0) := by
      have := c_octet (S := S0) (i := 0) (by rw [e2]; omega)
      rw [e3] at this; exact this
    have q1 : m_Te_octetAt 1 S0 = some (S 3 1, S0) := by
      have := c_octet (S := S0) (i := 1) (by rw [e2]; omega)
      rw [e3] at this; exact this
    have b0 := hx 0 (by omega)
    have b1 := hx 1 (by omega)
    have hbits : ∀ i, 2 ≤ i → i < 2 + 2 * nCa P → S 3 i = 0 ∨ S 3 i = 1 := fun i i1 i2 => by
      have u := (hok i (by omega)).1 i1 i2
      have v := hx i (by omega)
      omega
    have hday0 : wr (wr (256 * S 3 0) + S 3 1) = 256 * S 3 0 + S 3 1 := by rw [wrN (z := 256 * S 3 0) (by omega) (by omega), wrN (by omega) (by omega)]
    generalize hdd : 256 * S 3 0 + S 3 1 = day at hday0 hday
    have hd0 : 0 ≤ day := by omega
    obtain ⟨S2, r1, r2, r3, r4⟩ := c_onbits (C := nCa P) (L := 2 + 2 * nCa P + N + 1) h12 (by omega) hbits (nCa P) 0 (up S0 24 0 day) (by omega) (by rw [up_c (by decide), c7 31 (by decide) (by decide), cp.2.2.1, hca]) (by rw [up_c (by decide), e2]; exact hL) (by rw [up_c (by decide), e3]) ⟨by rw [up_k (by decide), c3]; omega, by rw [up_k (by decide), c4]; omega, fun k => by
      have b00 : bt 0 k = 0 := by unfold bt; rw [Int.zero_ediv]; rfl
      rw [up_k (by decide), up_k (by decide), c3, c4, if_neg (by omega), if_neg (by omega), b00]
      exact ⟨rfl, rfl⟩⟩
    obtain ⟨T2, t1, t2, t3⟩ := m_onbits (C := nCa P) h12 (2 * nCa P) 0 (up (up T 401 1 0) 438 0 day) (by omega) (by rw [up_c (by decide), up_c (by decide), h.rp.n6, hca])
    have tw : ∀ i, i ≠ 0 → (¬ (1 ≤ i ∧ i < 1 + 2 * nCa P)) → T2 438 i = T 438 i := fun i i0 i1 => by
      rw [t2 i, if_neg (by omega), up_k i0, up_c (by decide)]
    have tb : ∀ i, 1 ≤ i → i < 1 + 2 * nCa P → T2 438 i = S 3 (i + 1) := fun i i1 i2 => by
      rw [t2 i, if_pos (by omega), up_c (by decide), up_c (by decide), (hx (i + 1) (by omega)).1]
    obtain ⟨S3, T3, y1, y2, y3, y4⟩ := both_onrows (D := 2 + 2 * nCa P + N) hP (g := S 3) (by omega) (nOf P) 0 (2 + 2 * nCa P) S2 T2 (by omega) hD (fun i i1 i2 => ⟨(hx i (by omega)).2.1, (hok i i2).2 i1⟩) ⟨⟨by rw [r3 31 (by decide), up_c (by decide), c7 31 (by decide) (by decide), cp.1], by rw [r3 31 (by decide), up_c (by decide), c7 31 (by decide) (by decide), cp.2.1]⟩, by rw [t3 430 (by decide), up_c (by decide), up_c (by decide), h.rp.n4], by rw [t3 430 (by decide), up_c (by decide), up_c (by decide), h.rp.n5]⟩
      ⟨by rw [r3 2 (by decide), up_c (by decide), e2]; exact hL, by rw [r3 3 (by decide), up_c (by decide), e3]⟩ (fun i hi => by rw [t3 402 (by decide), up_c (by decide), up_c (by decide)]; exact (hx i (by omega)).1.symm)
      ⟨fun f' hf' => by rw [r3 25 (by decide), up_c (by decide), c6 f' hf']; exact ⟨by decide, by decide⟩, fun o' f' a1 a2 a3 => by
        have hz := w1.2.2.2.1 o' f' a1 a2 (by omega)
        rw [r3 25 (by decide), up_c (by decide), c6 f' a2, dg_zero, tw _ (by omega) (by omega), hz]
        decide, fun o' f' a1 a2 a3 => by rw [tw _ (by omega) (by omega)]; exact w1.2.2.2.1 o' f' a1 a2 a3⟩
    have r1 : Ma_takeImage_47 2 0 (up S0 24 0 day) = Ma_takeImage_112 ((2 + 2 * nCa P : Nat) : Int) 0 S2 := r1
    have y1 : Ma_takeImage_112 ((2 + 2 * nCa P : Nat) : Int) 0 S2 = _ := y1
    have t1 : Mo_on_64 ((2 + 2 * nCa P : Nat) : Int) 0 (up (up T 401 1 0) 438 0 day) = Mo_on_98 ((2 + 2 * nCa P : Nat) : Int) 0 T2 := t1
    have y2 : Mo_on_98 ((2 + 2 * nCa P : Nat) : Int) 0 T2 = _ := y2
    have hc : (m_Ma_takeImage S).bind (fun p2 => Ma_on_13 1 p2) = some (1, up (up (up (up (up S3 51 2 0) 51 1 0) 118 13 0) 118 14 0) 2 1 0) := by
      rw [e_Ma_takeImage, c1, Option.bind_some, q0, Option.bind_some]
      dsimp only
      rw [q1, Option.bind_some]
      dsimp only
      rw [hday0, r1, y1, e_Hi_clear, Option.bind_some, e_Fi_forget, Option.bind_some, Option.bind_some, e_Ma_on_13, if_neg n10]
    have hm : (m_Mo_carbonMany (up T 401 1 0)).bind (fun p2 => Mo_on_64 (wr (2 + (wr (2 * p2.1)))) 0 (up p2.2 438 0 (wr ((wr (256 * (p2.2 402 0))) + (p2.2 402 1))))) = some (1, up (up T3 438 57 0) 401 71 0) := by
      rw [e_Mo_carbonMany, Option.bind_some]
      dsimp only
      rw [up_c (by decide : (430 : Nat) ≠ 401), up_c (by decide : (402 : Nat) ≠ 401), h.rp.n6, hca, ← b0.1, ← b1.1, hday0, wrN (z := 2 * (nCa P : Int)) (by omega) (by omega), wrN (z := 2 + 2 * (nCa P : Int)) (by omega) (by omega), show 2 + 2 * (nCa P : Int) = ((2 + 2 * nCa P : Nat) : Int) by omega, t1, y2]
    rw [if_neg n10, if_neg n10, hc, hm]
    have f24 : ∀ k, k ≠ 1 → k ≠ 2 → k ≠ 0 → S3 24 k = S0 24 k := fun k k1 k2 k0 => by rw [y4.1 24 (by decide), r4 k k1 k2, up_k k0]
    have f240 : S3 24 0 = day := by rw [y4.1 24 (by decide), r4 0 (by decide) (by decide), up_s]
    have fS : ∀ c, c ≠ 24 → c ≠ 25 → S3 c = S c := fun c a1 a2 => by rw [y4.1 c a2, r3 c a1, up_c a1, c7 c a1 a2]
    have fT : ∀ c, c ≠ 401 → c ≠ 438 → T3 c = T c := fun c a1 a2 => by rw [y4.2.1 c a2, t3 c a2, up_c a2, up_c a1]
    have fT1 : T3 401 = up T 401 1 0 401 := by rw [y4.2.1 401 (by decide), t3 401 (by decide), up_c (by decide)]
    have g0 : T3 438 0 = day := by rw [y4.2.2 0 (by omega), t2 0, if_neg (by omega), up_s]
    have gi : ∀ i, 1 ≤ i → i < 25 → T3 438 i = if i < 1 + 2 * nCa P then S 3 (i + 1) else T 438 i := fun i i1 i2 => by
      rw [y4.2.2 i (by omega)]
      by_cases c : i < 1 + 2 * nCa P
      · rw [if_pos c, tb i i1 c]
      · rw [if_neg c, tw i (by omega) (by omega)]
    have gs : ∀ o' f', o' < 8 → f' < 4 → dg (S3 25 f') o' = T3 438 (25 + 4 * o' + f') ∧ 0 ≤ T3 438 (25 + 4 * o' + f') ∧ T3 438 (25 + 4 * o' + f') ≤ 99 := fun o' f' a1 a2 => y3.2.1 o' f' a1 a2 (by omega)
    have gk : ∀ k, k < 12 → T3 438 (1 + 2 * k) = (if k < nCa P then S 3 (2 + 2 * k) else 0) ∧ T3 438 (2 + 2 * k) = (if k < nCa P then S 3 (3 + 2 * k) else 0) := fun k hk => by
      rw [gi (1 + 2 * k) (by omega) (by omega), gi (2 + 2 * k) (by omega) (by omega)]
      by_cases c : k < nCa P
      · rw [if_pos (show 1 + 2 * k < 1 + 2 * nCa P by omega), if_pos (show 2 + 2 * k < 1 + 2 * nCa P by omega), if_pos c, if_pos c, show 1 + 2 * k + 1 = 2 + 2 * k by omega, show 2 + 2 * k + 1 = 3 + 2 * k by omega]
        exact ⟨rfl, rfl⟩
      · rw [if_neg (show ¬ 1 + 2 * k < 1 + 2 * nCa P by omega), if_neg (show ¬ 2 + 2 * k < 1 + 2 * nCa P by omega), if_neg c, if_neg c]
        exact w1.2.2.2.2 k (by omega) hk
    refine ⟨1, up (up (up (up (up S3 51 2 0) 51 1 0) 118 13 0) 118 14 0) 2 1 0, up (up T3 438 57 0) 401 71 0, rfl, rfl, ?_⟩
    refine h.onto (fun x a1 a2 a3 a4 a5 => by rw [up_c a1, up_c a5, up_c a5, up_c a4, up_c a4, fS x a2 a3]) (fun k hk => by rw [up_k hk, up_c (by decide), up_c (by decide), up_c (by decide), up_c (by decide), fS 2 (by decide) (by decide)]) ⟨by rw [up_c (by decide), up_c (by decide), up_c (by decide), up_k (by decide), up_s], by rw [up_c (by decide), up_c (by decide), up_c (by decide), up_s]⟩ (fun k k1 k2 => by rw [up_c (by decide), up_k k2, up_k k1, up_c (by decide), up_c (by decide), fS 118 (by decide) (by decide)]) ⟨by rw [up_c (by decide), up_k (by decide), up_s], by rw [up_c (by decide), up_s]⟩ (fun x a1 a2 => by rw [up_c a1, up_c a2, fT x a1 a2]) (fun k k1 k2 => by rw [up_k k2, up_c (by decide), fT1, up_k k1]) (by rw [up_s]) ⟨by rw [up_s, up_k (by decide), up_c (by decide), fT1, up_s], by rw [up_s]; omega, fun k hk => by rw [up_s] at hk; omega⟩ ?_
    generalize hS' : up (up (up (up (up S3 51 2 0) 51 1 0) 118 13 0) 118 14 0) 2 1 0 = S'
    generalize hT' : up (up T3 438 57 0) 401 71 0 = T'
    have s24 : S' 24 = S3 24 := by rw [← hS', up_c (by decide), up_c (by decide), up_c (by decide), up_c (by decide), up_c (by decide)]
    have s25 : S' 25 = S3 25 := by rw [← hS', up_c (by decide), up_c (by decide), up_c (by decide), up_c (by decide), up_c (by decide)]
    have tw' : ∀ i, i ≠ 57 → T' 438 i = T3 438 i := fun i hi => by rw [← hT', up_c (by decide), up_k hi]
    have t57 : T' 438 57 = 0 := by rw [← hT', up_c (by decide), up_s]
    have hbt : ∀ k, k < 12 → (T3 438 (1 + 2 * k) = 0 ∨ T3 438 (1 + 2 * k) = 1) ∧ (T3 438 (2 + 2 * k) = 0 ∨ T3 438 (2 + 2 * k) = 1) := fun k hk => by
      rw [(gk k hk).1, (gk k hk).2]
      by_cases c : k < nCa P
      · rw [if_pos c, if_pos c]
        exact ⟨hbits _ (by omega) (by omega), hbits _ (by omega) (by omega)⟩
      · rw [if_neg c, if_neg c]
        exact ⟨Or.inl rfl, Or.inl rfl⟩
    refine ⟨⟨by rw [tw' 0 (by decide), g0]; omega, fun k hk => by rw [tw' _ (by omega), tw' _ (by omega)]; exact hbt k hk, fun i i1 i2 => ?_, fun o f a1 a2 a3 => by rw [tw' _ (by omega)]; exact y3.2.2 o f a1 a2 a3, fun k k1 k2 => ?_⟩, by rw [tw' 0 (by decide), g0]; exact hday, ⟨by rw [s24, tw' 0 (by decide), f240, g0], ?_, ?_, fun k hk => ?_, fun f hf => ⟨by rw [s25]; exact y3.1 f hf, fun o ho => by rw [s25, tw' _ (by omega)]; exact (gs o f ho hf).1⟩⟩, ?_, ?_, ?_⟩
    · rw [tw' _ (by omega)]
      have := gs ((i - 25) / 4) ((i - 25) % 4) (by omega) (by omega)
      rw [show 25 + 4 * ((i - 25) / 4) + (i - 25) % 4 = i by omega] at this
      exact this.2
    · rw [tw' _ (by omega), tw' _ (by omega), (gk k k2).1, (gk k k2).2, if_neg (by omega), if_neg (by omega)]
      exact ⟨rfl, rfl⟩
    · rw [s24, y4.1 24 (by decide)]; exact r2.1
    · rw [s24, y4.1 24 (by decide)]; exact r2.2.1
    · rw [s24, y4.1 24 (by decide), tw' _ (by omega), tw' _ (by omega), (r2.2.2 k).1, (r2.2.2 k).2, (gk k hk).1, (gk k hk).2]
      exact ⟨rfl, rfl⟩
    · rw [s24, f24 5 (by decide) (by decide) (by decide), c5]
      exact ⟨Int.le_refl _, by rw [t57]; rfl, fun i hi => by rw [t57] at hi; omega⟩
    · rw [s24, f24 5 (by decide) (by decide) (by decide), c5]; omega
    · rw [← hT', up_k (by decide), up_c (by decide), fT1, up_k (by decide)]; exact w6
end
