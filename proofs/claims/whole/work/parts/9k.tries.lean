/-! turning: the class's tries -/
section
variable {n : Nat} {P S T : MS}
theorem wr_suc2 {v N : Nat} (h : v < N) (hN : N ≤ 100000) : wr ((v : Int) + 1) = ((v + 1 : Nat) : Int) := by rw [wrN (by omega) (by omega)]; rfl
theorem c_spr {a N : Nat} (ha : a < 4096) (hN : N < 4096) : ∀ (j v : Nat) (R : Int), v + j = 12 → (0 ≤ R ∧ R < 4096) → (∀ k, bt R k = if k < v ∧ bn N k = 1 then ((bn a (sb N k) : Nat) : Int) else 0) → ∃ R' : Nat, Ro_spread_7 a N R (sb N v : Nat) v S = some ((R' : Int), S) ∧ SPR N a R' := by
  intro j
  induction j with
  | zero =>
    intro v R e hR hb
    rw [e_Ro_spread_7, if_neg (by omega)]
    refine ⟨R.toNat, by rw [Int.toNat_of_nonneg hR.1], by omega, fun k hk => ?_⟩
    have h1 := hb k
    rw [show R = ((R.toNat : Nat) : Int) by omega, bt_bn] at h1
    by_cases c : bn N k = 1
    · rw [if_pos ⟨by omega, c⟩] at h1; rw [if_pos c]; omega
    · rw [if_neg (fun q => c q.2)] at h1; rw [if_neg c]; omega
  | succ j ih =>
    intro v R e hR hb
    have hs := sb_le N v
    rw [e_Ro_spread_7, if_pos (by omega), bt_of (by omega) (by omega) (by omega) (by omega), Int.toNat_natCast, bt_bn, wr_suc2 (show v < 12 by omega) (by decide)]
    rcases bn_01 N v with c | c
    · rw [c, if_neg (by decide)]
      have := ih (v + 1) R (by omega) hR (fun k => by
        rw [hb k]
        by_cases q : k < v ∧ bn N k = 1
        · rw [if_pos q, if_pos ⟨by omega, q.2⟩]
        · rw [if_neg q, if_neg (fun g => q ⟨by
            by_cases e : k = v
            · rw [e, c] at g; omega
            · omega, g.2⟩)])
      rw [show sb N (v + 1) = sb N v by rw [sb, c]; rfl] at this
      exact this
    · rw [c, if_pos (show ((1 : Nat) : Int) = 1 from rfl), bt_of (by omega) (by omega) (by omega) (by omega), Int.toNat_natCast, bt_bn, wr_suc2 (show sb N v < 13 by omega) (by decide)]
      obtain ⟨b1, b2⟩ := bt_put (b := ((bn a (sb N v) : Nat) : Int)) (v := v) hR (by have := bn_01 a (sb N v); omega) (by omega)
      have := ih (v + 1) _ (by omega) b1 (fun k => by
        rw [b2 k, hb k]
        by_cases e : k = v
        · subst e
          rw [if_neg (show ¬ (k < k ∧ bn N k = 1) by omega), if_pos (show k < k + 1 ∧ bn N k = 1 from ⟨by omega, c⟩)]
          rcases bn_01 a (sb N k) with q | q
          · rw [q, if_neg (fun g => g.elim (fun g => absurd g (by decide)) (fun g => absurd g.2 (by decide)))]; rfl
          · rw [q, if_pos (Or.inr ⟨rfl, rfl⟩)]; rfl
        · by_cases q : k < v ∧ bn N k = 1
          · rw [if_pos q, if_pos (show k < v + 1 ∧ bn N k = 1 from ⟨by omega, q.2⟩)]
            rcases bn_01 a (sb N k) with q | q
            · rw [q, if_neg (fun g => g.elim (fun g => absurd g (by decide)) (fun g => e g.1))]; rfl
            · rw [q, if_pos (Or.inl (show ((1 : Nat) : Int) = 1 from rfl))]; rfl
          · rw [if_neg q, if_neg (show ¬ (k < v + 1 ∧ bn N k = 1) from fun g => q ⟨by omega, g.2⟩), if_neg (fun g => g.elim (fun g => absurd g (by decide)) (fun g => e g.1))])
      rw [show sb N (v + 1) = sb N v + 1 by rw [sb, c]] at this
      exact this
theorem c_spread {a N : Nat} (ha : a < 4096) (hN : N < 4096) : ∃ R' : Nat, m_Ro_spread a N S = some ((R' : Int), S) ∧ SPR N a R' := by
  rw [e_Ro_spread]
  exact c_spr ha hN 12 0 0 (by omega) (by decide) (fun k => by unfold bt; rw [Int.zero_ediv, if_neg (by omega)]; rfl)
def GT (N m : Nat) (st : Int) (S : MS) (v : Nat) (g : Nat → Nat) : Prop := S 113 7 = ((ctn m v : Nat) : Int) ∧ (∀ i, i < ctn m v → (g i < v ∧ sb (g i) 12 = m) ∧ (0 ≤ S 116 i ∧ SPR N (g i) (S 116 i).toNat) ∧ S 117 i = st) ∧ (∀ i j, i < j → j < ctn m v → g i < g j) ∧ ∀ a, a < v → sb a 12 = m → ∃ i, i < ctn m v ∧ g i = a
theorem c_gather {N m M : Nat} {st : Int} (hN : N < 4096) (hm : m ≤ 12) (hM : M ≤ 12) : ∀ (j v : Nat) (S : MS) (g : Nat → Nat), v + j = 2 ^ M → GT N m st S v g → ∃ S' g', Ro_gather_16 N m st ((2 ^ M : Nat) : Int) v S = some S' ∧ GT N m st S' (2 ^ M) g' ∧ (∀ c, c ≠ 113 → c ≠ 116 → c ≠ 117 → S' c = S c) := by
  have h4096 : (2 : Nat) ^ M ≤ 2 ^ 12 := Nat.pow_le_pow_right (by decide) hM
  have t924 := ctn_924 hm hM
  intro j
  induction j with
  | zero =>
    intro v S g e hG
    rw [e_Ro_gather_16, if_neg (by omega)]
    exact ⟨S, g, rfl, by rw [← show v = 2 ^ M by omega]; exact hG, fun _ _ _ _ => rfl⟩
  | succ j ih =>
    intro v S g e hG
    have hv : v < 4096 := by omega
    have cm := ctn_mono (m := m) (u := v + 1) (2 ^ M) (by omega)
    rw [e_Ro_gather_16, if_pos (by omega), c_bits (by omega) (by omega), Option.bind_some]
    dsimp only
    rw [sum_sb, wr_suc2 hv (by decide)]
    by_cases c : sb v 12 = m
    · have ce : ctn m (v + 1) = ctn m v + 1 := by rw [ctn, if_pos c]
      obtain ⟨R, r1, r2⟩ := c_spread (S := S) (a := v) hv hN
      obtain ⟨g1, g2, g3, g4⟩ := hG
      rw [if_pos (by omega), if_pos (by omega), r1, Option.bind_some]
      dsimp only
      rw [if_pos (by omega), if_pos (by omega), g1, wr_suc2 (show ctn m v < 924 by omega) (by decide), Int.toNat_natCast]
      have f116 : ∀ i, up (up (up S 116 (ctn m v) R) 117 (ctn m v) st) 113 7 ((ctn m v + 1 : Nat) : Int) 116 i = if i = ctn m v then (R : Int) else S 116 i := fun i => by
        rw [up_c (by decide), up_c (by decide)]
        by_cases q : i = ctn m v
        · rw [q, up_s, if_pos rfl]
        · rw [up_k q, if_neg q]
      have f117 : ∀ i, up (up (up S 116 (ctn m v) R) 117 (ctn m v) st) 113 7 ((ctn m v + 1 : Nat) : Int) 117 i = if i = ctn m v then st else S 117 i := fun i => by
        rw [up_c (by decide)]
        by_cases q : i = ctn m v
        · rw [q, up_s, if_pos rfl]
        · rw [up_k q, if_neg q, up_c (by decide)]
      have hG' : GT N m st (up (up (up S 116 (ctn m v) R) 117 (ctn m v) st) 113 7 ((ctn m v + 1 : Nat) : Int)) (v + 1) (fun i => if i = ctn m v then v else g i) := by
        refine ⟨by rw [up_s, ce], fun i hi => ?_, fun i j hij hj => ?_, fun a h1 h2 => ?_⟩
        · rw [f116, f117]
          (try dsimp only)
          by_cases q : i = ctn m v
          · rw [if_pos q, if_pos q, if_pos q]
            exact ⟨⟨by omega, c⟩, ⟨by omega, by rw [Int.toNat_natCast]; exact r2⟩, rfl⟩
          · rw [if_neg q, if_neg q, if_neg q]
            obtain ⟨⟨k1, k2⟩, k3⟩ := g2 i (by omega)
            exact ⟨⟨by omega, k2⟩, k3⟩
        · (try dsimp only)
          rw [if_neg (show ¬ i = ctn m v by omega)]
          by_cases q : j = ctn m v
          · rw [if_pos q]; exact (g2 i (by omega)).1.1
          · rw [if_neg q]; exact g3 i j hij (by omega)
        · (try dsimp only)
          by_cases q : a = v
          · exact ⟨ctn m v, by omega, by rw [if_pos rfl, q]⟩
          · obtain ⟨i, i1, i2⟩ := g4 a (by omega) h2
            exact ⟨i, by omega, by rw [if_neg (by omega)]; exact i2⟩
      obtain ⟨S', g', q1, q2, q3⟩ := ih (v + 1) _ _ (by omega) hG'
      exact ⟨S', g', q1, q2, fun x a1 a2 a3 => by rw [q3 x a1 a2 a3, up_c a1, up_c a3, up_c a2]⟩
    · have ce : ctn m (v + 1) = ctn m v := by rw [ctn, if_neg c]; rfl
      obtain ⟨g1, g2, g3, g4⟩ := hG
      rw [if_neg (by omega)]
      refine ih (v + 1) S g (by omega) ⟨by rw [g1, ce], fun i hi => ?_, fun i j hij hj => g3 i j hij (by omega), fun a h1 h2 => ?_⟩
      · obtain ⟨⟨k1, k2⟩, k3⟩ := g2 i (by omega)
        exact ⟨⟨by omega, k2⟩, k3⟩
      · obtain ⟨i, i1, i2⟩ := g4 a (by
          by_cases q : a = v
          · rw [q] at h2; exact absurd h2 c
          · omega) h2
        exact ⟨i, by omega, i2⟩
/-- the tries on day d -/
def TRS (P : MS) (w c : Nat → Int) (S : MS) (t K d : Nat) : Prop := S 113 7 = (t : Int) ∧ ∀ i, i < t → (0 ≤ S 116 i ∧ S 116 i < 4096) ∧ FC (S 117 i) (cg P w (S 116 i).toNat (if i < K then d + 1 else d) c)
theorem c_pass25 {w c : Nat → Int} (hP : PLN P) (hW : WV P w) (hC : COL P c) {N d : Nat} (hd : w 0 + d ≤ 2000) (hd1 : d < 1000) {t : Nat} (ht : t ≤ 924) : ∀ (j K : Nat) (S : MS), K + j = t → EN P (w 0 + d) S → SWn S 24 w → TRS P w c S t K d → ∃ S', Ro_pass_25 N d K S = Ro_pass_2 N ((d + 1 : Nat) : Int) S' ∧ EN P (w 0 + d) S' ∧ TRS P w c S' t 0 (d + 1) ∧ ∀ x, x ≠ 42 → x ≠ 45 → x ≠ 48 → x ≠ 49 → x ≠ 50 → x ≠ 117 → S' x = S x := by
  have w00 := hW.1
  intro j
  induction j with
  | zero =>
    intro K S e hE hS hT
    rw [e_Ro_pass_25, hT.1, if_neg (by omega), wr_suc2 hd1 (by decide)]
    refine ⟨S, rfl, hE, ⟨hT.1, fun i hi => ?_⟩, fun _ _ _ _ _ _ _ => rfl⟩
    have := hT.2 i hi
    rw [if_pos (by omega)] at this
    rw [if_neg (by omega)]
    exact this
  | succ j ih =>
    intro K S e hE hS hT
    obtain ⟨s1, s2, s3, s4, s5⟩ := id hS
    obtain ⟨hA, hF⟩ := hT.2 K (by omega)
    rw [if_neg (Nat.lt_irrefl K)] at hF
    obtain ⟨A, hA2⟩ : ∃ A : Nat, S 116 K = (A : Int) := ⟨(S 116 K).toNat, by omega⟩
    have hA3 : (S 116 K).toNat = A := by omega
    rw [hA3] at hF
    have bx := bxor_lt (a := S 24 2) (b := (A : Int)) 12 (by decide) (by omega) (by omega) (by omega) (by omega)
    obtain ⟨F', S1, r1, r2, r3, r4⟩ := c_nextC (tub := xtu w A) (inb := inW w) (inn := S 24 1) (tur := bxor (S 24 2) (A : Int)) hP (by omega) (COL_cg hP hC d) hF ⟨s2, fun k hk => (s4 k hk).1⟩ ⟨⟨bx.1, by omega⟩, fun k hk => by rw [bt_xor (by omega) (by omega) (by omega) (by omega), (s4 k hk).2, bt_bn]; rfl⟩ hE
    rw [e_Ro_pass_25, hT.1, if_pos (by omega), if_pos (by omega), if_pos (by omega), Int.toNat_natCast, hA2, r1, Option.bind_some, if_pos (by omega), wr_suc2 (show K < 924 by omega) (by decide)]
    dsimp only
    have fr : ∀ x, x ≠ 42 → x ≠ 45 → x ≠ 48 → x ≠ 49 → x ≠ 50 → x ≠ 117 → up S1 117 K F' x = S x := fun x a1 a2 a3 a4 a5 a6 => by rw [up_c a6, r3 x a1 a2 a3 a4 a5]
    have f117 : ∀ i, up S1 117 K F' 117 i = if i = K then F' else S 117 i := fun i => by
      by_cases q : i = K
      · rw [q, up_s, if_pos rfl]
      · rw [up_k q, if_neg q, r3 117 (by decide) (by decide) (by decide) (by decide) (by decide)]
    have f116 : up S1 117 K F' 116 = S 116 := fr 116 (by decide) (by decide) (by decide) (by decide) (by decide) (by decide)
    obtain ⟨S', q1, q2, q3, q4⟩ := ih (K + 1) (up S1 117 K F') (by omega) (r2.fr (fun x x1 x2 => up_c (by omega))) (hS.fr (by rw [fr 24 (by decide) (by decide) (by decide) (by decide) (by decide) (by decide)]) (by rw [fr 24 (by decide) (by decide) (by decide) (by decide) (by decide) (by decide)]) (by rw [fr 24 (by decide) (by decide) (by decide) (by decide) (by decide) (by decide)]) (fr 25 (by decide) (by decide) (by decide) (by decide) (by decide) (by decide))) ⟨by rw [fr 113 (by decide) (by decide) (by decide) (by decide) (by decide) (by decide)]; exact hT.1, fun i hi => by
      rw [f116, f117]
      by_cases q : i = K
      · rw [if_pos q, if_pos (show i < K + 1 by omega), q, hA3]
        exact ⟨hA, r4⟩
      · have := hT.2 i hi
        rw [if_neg q]
        by_cases q2 : i < K
        · rw [if_pos q2] at this; rw [if_pos (show i < K + 1 by omega)]; exact this
        · rw [if_neg q2] at this; rw [if_neg (show ¬ i < K + 1 by omega)]; exact this⟩
    exact ⟨S', q1, q2, q3, fun x a1 a2 a3 a4 a5 a6 => by rw [q4 x a1 a2 a3 a4 a5 a6, fr x a1 a2 a3 a4 a5 a6]⟩
theorem c_pass2 {w c : Nat → Int} (hP : PLN P) (hW : WV P w) (hC : COL P c) {N : Nat} (hN : w 0 + N ≤ 2000) (hN1 : N ≤ 1000) {t : Nat} (ht : t ≤ 924) : ∀ (j d : Nat) (S : MS), d + j = N → EM P S → SWn S 24 w → TRS P w c S t 0 d → S 30 3 + j < 15999999 → ∃ S', Ro_pass_2 N d S = some S' ∧ EM P S' ∧ TRS P w c S' t 0 N ∧ (∀ x, x ≠ 30 → x ≠ 42 → x ≠ 45 → x ≠ 48 → x ≠ 49 → x ≠ 50 → x ≠ 117 → S' x = S x) ∧ (∀ k, k ≠ 3 → k ≠ 4 → S' 30 k = S 30 k) ∧ S' 30 3 ≤ S 30 3 + j := by
  have w00 := hW.1
  intro j
  induction j with
  | zero =>
    intro d S e hE hS hT hB
    rw [e_Ro_pass_2, if_neg (by omega)]
    exact ⟨S, rfl, hE, by rw [← show d = N by omega]; exact hT, fun _ _ _ _ _ _ _ _ => rfl, fun _ _ _ => rfl, by omega⟩
  | succ j ih =>
    intro d S e hE hS hT hB
    obtain ⟨S1, r1, r2, r3, r4, r5⟩ := c_openDay (d := w 0 + d) hE.2.1 (by omega)
    have fr : ∀ x, x ≠ 30 → x ≠ 42 → x ≠ 45 → x ≠ 48 → x ≠ 49 → x ≠ 50 → S1 x = S x := r2.1
    have t1 : TRS P w c S1 t 0 d := by
      unfold TRS
      rw [fr 113 (by decide) (by decide) (by decide) (by decide) (by decide) (by decide), fr 116 (by decide) (by decide) (by decide) (by decide) (by decide) (by decide), fr 117 (by decide) (by decide) (by decide) (by decide) (by decide) (by decide)]
      exact hT
    have sw : ∀ {S' : MS}, (∀ x, x = 24 ∨ x = 25 → S' x = S x) → SWn S' 24 w := fun q => hS.fr (by rw [q 24 (Or.inl rfl)]) (by rw [q 24 (Or.inl rfl)]) (by rw [q 24 (Or.inl rfl)]) (q 25 (Or.inr rfl))
    obtain ⟨S2, q1, q2, q3, q4⟩ := c_pass25 (N := N) hP hW hC (d := d) (by omega) (by omega) ht t 0 S1 (by omega) ⟨hE.1.fe r2, r3, hE.2.2.fe r2, r4⟩ (sw (fun x hx => fr x (by omega) (by omega) (by omega) (by omega) (by omega) (by omega))) t1
    have q1 : Ro_pass_25 N d 0 S1 = _ := q1
    have f2 : S2 30 = S1 30 := q4 30 (by decide) (by decide) (by decide) (by decide) (by decide) (by decide)
    rw [e_Ro_pass_2, if_pos (by omega), hS.1, wrN (by omega) (by omega), r1, Option.bind_some, q1]
    obtain ⟨S3, p1, p2, p3, p4, p5, p6⟩ := ih (d + 1) S2 (by omega) q2.em (sw (fun x hx => by rw [q4 x (by omega) (by omega) (by omega) (by omega) (by omega) (by omega), fr x (by omega) (by omega) (by omega) (by omega) (by omega) (by omega)])) q3 (by rw [f2]; omega)
    exact ⟨S3, p1, p2, p3, fun x a0 a1 a2 a3 a4 a5 a6 => by rw [p4 x a0 a1 a2 a3 a4 a5 a6, q4 x a1 a2 a3 a4 a5 a6, fr x a0 a1 a2 a3 a4 a5], fun k k1 k2 => by rw [p5 k k1 k2, f2, r2.2 k k1 k2], by rw [f2] at p6; omega⟩
/-- a set of carbons that, turned, does it; the best of them -/
def VAL (P : MS) (w c : Nat → Int) (N o : Nat) (s : Int) (A : Nat) : Prop := A < 4096 ∧ (∀ k, k < 12 → bn A k = 1 → k < nCa P ∧ w (1 + 2 * k) = 1) ∧ s ≤ cg P w A N c o
def BST (V : Nat → Prop) (z : Int) : Prop := (z = -1 ∧ ∀ A, ¬ V A) ∨ ∃ A : Nat, z = (A : Int) ∧ V A ∧ ∀ B, V B → sb A 12 < sb B 12 ∨ (sb A 12 = sb B 12 ∧ A ≤ B)
theorem BST.eq {V : Nat → Prop} {z z' : Int} (h : BST V z) (h' : BST V z') : z = z' := by
  rcases h with ⟨h1, h2⟩ | ⟨A, h1, h2, h3⟩ <;> rcases h' with ⟨g1, g2⟩ | ⟨B, g1, g2, g3⟩
  · omega
  · exact absurd g2 (h2 B)
  · exact absurd h2 (g2 A)
  · have a := h3 B g2
    have b := g3 A h2
    omega
theorem c_check {w c : Nat → Int} {o t N : Nat} {s v2 v4 v5 v6 m : Int} (ho : o < 8) (ht : t ≤ 924) (hT : TRS P w c S t 0 N) : ∀ (j i0 : Nat), i0 + j = t → (∀ i', i' < i0 → cg P w (S 116 i').toNat N c o < s) → (∃ i, i < t ∧ (∀ i', i' < i → cg P w (S 116 i').toNat N c o < s) ∧ s ≤ cg P w (S 116 i).toNat N c o ∧ Ro_fewestTurns_77 o v2 s v4 v5 v6 m (i0 : Nat) S = some (S 116 i, S)) ∨ ((∀ i', i' < t → cg P w (S 116 i').toNat N c o < s) ∧ Ro_fewestTurns_77 o v2 s v4 v5 v6 m (i0 : Nat) S = Ro_fewestTurns_44 o v2 s v4 v5 v6 (wr (m + 1)) S) := by
  intro j
  induction j with
  | zero =>
    intro i0 e h
    right
    rw [e_Ro_fewestTurns_77, hT.1, if_neg (by omega)]
    exact ⟨fun i' hi => h i' (by omega), rfl⟩
  | succ j ih =>
    intro i0 e h
    obtain ⟨-, hF⟩ := hT.2 i0 (by omega)
    rw [if_neg (Nat.not_lt_zero _)] at hF
    rw [e_Ro_fewestTurns_77, hT.1, if_pos (by omega), if_pos (by omega), Int.toNat_natCast, c_strengthIn hF.1.1 hF.1.2 (by omega), Option.bind_some, Int.toNat_natCast, hF.2 o ho, wr_suc2 (show i0 < 924 by omega) (by decide)]
    dsimp only
    by_cases q : cg P w (S 116 i0).toNat N c o < s
    · rw [if_pos q]
      refine ih (i0 + 1) (by omega) (fun i' hi => ?_)
      by_cases e' : i' = i0
      · rw [e']; exact q
      · exact h i' (by omega)
    · left
      rw [if_neg q, if_pos (by omega)]
      exact ⟨i0, by omega, h, by omega, rfl⟩
theorem bn_and (B M k : Nat) : bn (B &&& M) k = if bn B k = 1 ∧ bn M k = 1 then 1 else 0 := by
  have tb : ∀ x k : Nat, x.testBit k = decide (bn x k = 1) := fun x k => by rw [Nat.testBit_eq_decide_div_mod_eq]; rfl
  have h := Nat.testBit_and B M k
  rw [tb, tb, tb] at h
  rcases bn_01 (B &&& M) k with q | q <;> rcases bn_01 B k with q1 | q1 <;> rcases bn_01 M k with q2 | q2 <;> rw [q, q1, q2] at h <;> rw [q, q1, q2] <;> revert h <;> decide
def FTn (S S' : MS) : Prop := (∀ x, x ≠ 30 → x ≠ 42 → x ≠ 45 → x ≠ 48 → x ≠ 49 → x ≠ 50 → x ≠ 113 → x ≠ 116 → x ≠ 117 → S' x = S x) ∧ ∀ k, k ≠ 3 → k ≠ 4 → S' 30 k = S 30 k
theorem FTn.tr {S S' S'' : MS} (h : FTn S S') (g : FTn S' S'') : FTn S S'' := ⟨fun x a1 a2 a3 a4 a5 a6 a7 a8 a9 => (g.1 x a1 a2 a3 a4 a5 a6 a7 a8 a9).trans (h.1 x a1 a2 a3 a4 a5 a6 a7 a8 a9), fun k k1 k2 => (g.2 k k1 k2).trans (h.2 k k1 k2)⟩
theorem FTn.lk {S S' : MS} (h : FTn S S') : LKc S S' := ⟨fun c hc => by
  simp only [List.mem_cons, List.not_mem_nil, or_false, not_or] at hc
  exact h.1 c (by omega) (by omega) (by omega) (by omega) (by omega) (by omega) (by omega) (by omega) (by omega), h.2⟩
theorem c_44 {w c : Nat → Int} {o D f M : Nat} {s : Int} (hP : PLN P) (hW : WV P w) (hC : COL P c) (ho : o < 8) (hf : f < 4) (hD : D ≤ 20) (hD2 : w 0 + D ≤ 2000) (hM : M < 4096) (hM1 : ∀ k, bn M k = 1 → k < nCa P ∧ w (1 + 2 * k) = 1) (hM2 : ∀ (A A' : Nat), (∀ k, bn M k = 1 → bn A k = bn A' k) → cg P w A D c o = cg P w A' D c o) : ∀ (j m : Nat) (S : MS), m + j = sb M 12 + 1 → EM P S → SWn S 24 w → FC (S 25 f) c → S 30 3 + 20 * j < 15999999 → (∀ B, VAL P w c D o s B → (∀ k, k < 12 → bn B k = 1 → bn M k = 1) → m ≤ sb B 12) → ∃ z S', Ro_fewestTurns_44 o f s D M (sb M 12 : Nat) (m : Nat) S = some (z, S') ∧ BST (VAL P w c D o s) z ∧ EM P S' ∧ FTn S S' ∧ S' 30 3 ≤ S 30 3 + 20 * j := by
  have m12 := sb_le M 12
  have cut : ∀ B, VAL P w c D o s B → VAL P w c D o s (B &&& M) ∧ (∀ k, k < 12 → bn (B &&& M) k = 1 → bn M k = 1) ∧ (∀ k, k < 12 → bn (B &&& M) k ≤ bn B k) := fun B hB => by
    have hl : B &&& M ≤ B := Nat.and_le_left
    have h1 : ∀ k, bn (B &&& M) k = 1 → bn B k = 1 ∧ bn M k = 1 := fun k hk => by
      rw [bn_and] at hk
      split at hk
      · assumption
      · omega
    refine ⟨⟨by have := hB.1; omega, fun k hk q => hB.2.1 k hk (h1 k q).1, ?_⟩, fun k _ q => (h1 k q).2, fun k _ => ?_⟩
    · rw [hM2 (B &&& M) B (fun k hk => by
        rw [bn_and]
        rcases bn_01 B k with q | q
        · rw [if_neg (fun g => by omega), q]
        · rw [if_pos ⟨q, hk⟩, q])]
      exact hB.2.2
    · rw [bn_and]
      have := bn_01 B k
      split <;> omega
  intro j
  induction j with
  | zero =>
    intro m S e hE hS hF hB hV
    rw [e_Ro_fewestTurns_44, if_pos (by omega)]
    refine ⟨-1, S, rfl, Or.inl ⟨rfl, fun B hB => ?_⟩, hE, ⟨fun _ _ _ _ _ _ _ _ _ _ => rfl, fun _ _ _ => rfl⟩, by omega⟩
    obtain ⟨g1, g2, -⟩ := cut B hB
    have a1 := hV _ g1 g2
    have a2 := sb_sub (x := B &&& M) (y := M) 12 (fun k hk => by
      rcases bn_01 (B &&& M) k with q | q
      · omega
      · have := g2 k hk q; omega)
    omega
  | succ j ih =>
    intro m S e hE hS hF hB hV
    have hp : shl 1 ((sb M 12 : Nat) : Int) = ((2 ^ sb M 12 : Nat) : Int) := by rw [shl_1 (by omega) (by omega), Int.toNat_natCast]
    obtain ⟨S1, g, r1, r2, r3⟩ := c_gather (N := M) (m := m) (M := sb M 12) (st := S 25 f) hM (by omega) m12 (2 ^ sb M 12) 0 (up S 113 7 0) (fun _ => 0) (by omega) ⟨by rw [up_s]; rfl, fun i hi => absurd hi (Nat.not_lt_zero _), fun i j _ hj => absurd hj (Nat.not_lt_zero _), fun a ha => absurd ha (Nat.not_lt_zero _)⟩
    have r1 : Ro_gather_16 M m (S 25 f) ((2 ^ sb M 12 : Nat) : Int) 0 (up S 113 7 0) = _ := r1
    have t924 := ctn_924 (m := m) (M := sb M 12) (by omega) m12
    have f1 : ∀ x, x ≠ 113 → x ≠ 116 → x ≠ 117 → S1 x = S x := fun x a1 a2 a3 => by rw [r3 x a1 a2 a3, up_c a1]
    have sw : ∀ {S' : MS}, (∀ x, x = 24 ∨ x = 25 → S' x = S x) → SWn S' 24 w := fun q => hS.fr (by rw [q 24 (Or.inl rfl)]) (by rw [q 24 (Or.inl rfl)]) (by rw [q 24 (Or.inl rfl)]) (q 25 (Or.inr rfl))
    obtain ⟨p1, p2, p3, p4⟩ := r2
    have bit12 : ∀ i, i < ctn m (2 ^ sb M 12) → 0 ≤ S1 116 i ∧ S1 116 i < 4096 := fun i hi => by
      obtain ⟨-, ⟨b1, b2⟩, -⟩ := p2 i hi
      have := b2.1
      omega
    obtain ⟨S2, q1, q2, q3, q4, q5, q6⟩ := c_pass2 (N := D) hP hW hC hD2 (by omega) t924 D 0 S1 (by omega) (hE.fr (fun x x1 x2 => f1 x (by omega) (by omega) (by omega))) (sw (fun x hx => f1 x (by omega) (by omega) (by omega))) ⟨p1, fun i hi => ⟨bit12 i hi, by
      rw [if_neg (Nat.not_lt_zero _), (p2 i hi).2.2]
      exact hF⟩⟩ (by rw [f1 30 (by decide) (by decide) (by decide)]; omega)
    have q1 : Ro_pass_2 D 0 S1 = _ := q1
    have e116 : S2 116 = S1 116 := q4 116 (by decide) (by decide) (by decide) (by decide) (by decide) (by decide) (by decide)
    have fr : FTn S S2 := ⟨fun x a1 a2 a3 a4 a5 a6 a7 a8 a9 => by rw [q4 x a1 a2 a3 a4 a5 a6 a9, f1 x a7 a8 a9], fun k k1 k2 => by rw [q5 k k1 k2, f1 30 (by decide) (by decide) (by decide)]⟩
    have e30 : S2 30 3 ≤ S 30 3 + 20 := by rw [f1 30 (by decide) (by decide) (by decide)] at q6; omega
    have idx : ∀ B, VAL P w c D o s B → (∀ k, k < 12 → bn B k = 1 → bn M k = 1) → sb B 12 = m → ∃ i, i < ctn m (2 ^ sb M 12) ∧ (S2 116 i).toNat = B := fun B hB hBM hm => by
      obtain ⟨a, a1, a2⟩ := SPR.ex hB.1 hBM
      obtain ⟨i, i1, i2⟩ := p4 a a1 (by rw [← a2.cnt12 a1, hm])
      refine ⟨i, i1, ?_⟩
      have b := (p2 i i1).2.1.2
      rw [i2] at b
      rw [e116]
      exact bn_ext12 b.1 a2.1 (fun k hk => by rw [b.2 k hk, a2.2 k hk])
    have goal : ∀ z S', Ro_fewestTurns_77 o f s D M (sb M 12 : Nat) (m : Nat) ((0 : Nat) : Int) S2 = some (z, S') → Ro_fewestTurns_44 o f s D M (sb M 12 : Nat) (m : Nat) S = some (z, S') := fun z S' hz => by
      rw [e_Ro_fewestTurns_44, if_neg (by omega), if_pos (by omega), Int.toNat_natCast, e_Ro_gather, c_bits (by omega) (by omega), Option.bind_some]
      dsimp only
      rw [sum_sb, hp, r1, Option.bind_some, e_Ro_pass, q1, Option.bind_some]
      exact hz
    rcases c_check (s := s) (v2 := f) (v4 := D) (v5 := M) (v6 := (sb M 12 : Nat)) (m := (m : Nat)) ho t924 q3 (ctn m (2 ^ sb M 12)) 0 (by omega) (fun i' h => absurd h (Nat.not_lt_zero _)) with ⟨i, i1, i2, i3, i4⟩ | ⟨i2, i4⟩
    · refine ⟨S2 116 i, S2, goal _ _ i4, Or.inr ⟨(S2 116 i).toNat, ?_, ?_, ?_⟩, q2, fr, by omega⟩
      · rw [e116]; have := bit12 i i1; omega
      · obtain ⟨-, ⟨b1, b2⟩, -⟩ := p2 i i1
        rw [e116] at i3 ⊢
        exact ⟨b2.1, fun k hk q => hM1 k (b2.sub hk q), i3⟩
      · intro B hB
        obtain ⟨g1, g2, g3⟩ := cut B hB
        have a1 := hV _ g1 g2
        have a2 := sb_sub (x := B &&& M) (y := B) 12 g3
        obtain ⟨⟨b0, b0'⟩, ⟨b1, b2⟩, -⟩ := p2 i i1
        have a3 := b2.cnt12 b0
        rw [e116]
        by_cases c1 : sb B 12 = m
        · right
          refine ⟨by omega, ?_⟩
          have hBe : B &&& M = B := bn_ext12 g1.1 hB.1 (sb_sub_eq 12 g3 (by omega))
          rw [hBe] at g1 g2
          obtain ⟨i', j1, j2⟩ := idx B g1 g2 c1
          have j3 : ¬ i' < i := fun q => by
            have := i2 i' q
            rw [j2] at this
            have := hB.2.2
            omega
          by_cases c2 : i = i'
          · rw [c2, ← e116, j2]; exact Nat.le_refl _
          · have l := p3 i i' (by omega) j1
            obtain ⟨⟨d0, -⟩, ⟨-, d2⟩, -⟩ := p2 i' j1
            have := b2.lt d2 b0 d0 l
            rw [e116] at j2
            omega
        · left; omega
    · rw [wr_suc2 (show m < 13 by omega) (by decide)] at i4
      obtain ⟨z, S3, y1, y2, y3, y4, y5⟩ := ih (m + 1) S2 (by omega) q2 (sw (fun x hx => fr.1 x (by omega) (by omega) (by omega) (by omega) (by omega) (by omega) (by omega) (by omega) (by omega))) (by rw [fr.1 25 (by decide) (by decide) (by decide) (by decide) (by decide) (by decide) (by decide) (by decide) (by decide)]; exact hF) (by omega) (fun B hB hBM => by
        have a1 := hV B hB hBM
        by_cases c1 : sb B 12 = m
        · obtain ⟨i', j1, j2⟩ := idx B hB hBM c1
          have := i2 i' j1
          rw [j2] at this
          have := hB.2.2
          omega
        · omega)
      exact ⟨z, S3, goal z S3 (i4.trans y1), y2, y3, fr.tr y4, by omega⟩
theorem c_turns {w : Nat → Int} {o f D : Nat} {s : Int} (hP : PLN P) (hW : WV P w) (hE : EM P S) (hS : SWn S 24 w) (ho : o < 8) (hf : f < 4) (hs : 1 ≤ s) (hD : D ≤ 20) (hD2 : w 0 + D ≤ 2000) (hB : S 30 3 < 10000000) : ∃ z S', m_Ro_fewestTurns o f s D S = some (z, S') ∧ BST (VAL P w (colW w f) D o s) z ∧ EM P S' ∧ FTn S S' ∧ S' 30 3 ≤ S 30 3 + 260 := by
  have hF : FC (S 25 f) (colW w f) := hS.2.2.2.2 f hf
  have hC : COL P (colW w f) := ⟨fun x hx => hW.2.2.1 _ (by omega) (by omega), fun x hx hn => hW.2.2.2.1 x f hx hf (Or.inl hn)⟩
  rw [e_Ro_fewestTurns, if_neg (by omega), if_pos (by omega), if_pos (by omega), Int.toNat_natCast]
  by_cases c : S 25 f = 0
  · rw [if_pos (lcp_0.mpr c)]
    refine ⟨-1, S, rfl, Or.inl ⟨rfl, fun B hB => ?_⟩, hE, ⟨fun _ _ _ _ _ _ _ _ _ _ => rfl, fun _ _ _ => rfl⟩, by omega⟩
    have := cg_z (w := w) (A := B) hP (c := colW w f) (fun x hx => by rw [← hF.2 x hx, c, dg_zero]) D o ho
    have := hB.2.2
    omega
  · obtain ⟨M, r1, r2, r3, r4⟩ := c_near hP hE.1 hS (N := D) (o := o) (by omega) ho
    have m12 := sb_le M 12
    obtain ⟨z, S', q1, q2, q3, q4, q5⟩ := c_44 (s := s) hP hW hC ho hf hD hD2 r2 r3 (fun A A' h => r4 A A' _ h) (sb M 12 + 1) 0 S (by omega) hE hS hF (by omega) (fun _ _ _ => Nat.zero_le _)
    have q1 : Ro_fewestTurns_44 o f s D M (sb M 12 : Nat) 0 S = _ := q1
    rw [if_neg (fun q => c (lcp_0.mp q)), r1, Option.bind_some]
    dsimp only
    rw [c_bits (by omega) (by omega), Option.bind_some]
    dsimp only
    rw [sum_sb, q1]
    exact ⟨z, S', rfl, q2, q3, q4, by omega⟩
end
