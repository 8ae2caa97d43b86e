/-! sources, tells: the class's search -/
section
variable {n : Nat} {P S T : MS}
theorem c_pk {o s : Nat} (ho : o < 8) (hs : s < 128) : ∃ F, m_Ma_packed o s S = some (F, S) ∧ FC F (fun j => if j = o then (s : Int) else 0) := by
  have hp : (2 : Nat) ^ (7 * o) ≤ 2 ^ 49 := Nat.pow_le_pow_right (by decide) (by omega)
  have hp0 : 0 < (2 : Nat) ^ (7 * o) := Nat.two_pow_pos _
  have hm : s * 2 ^ (7 * o) ≤ 127 * 2 ^ (7 * o) := Nat.mul_le_mul_right _ (by omega)
  have h49 : (2 : Nat) ^ 49 = 562949953421312 := rfl
  have h56 : (2 : Nat) ^ 56 = 72057594037927936 := rfl
  rw [e_Ma_packed, wrN (z := 7 * (o : Int)) (by omega) (by omega), shlL_mul (by omega) (by omega) (by omega) (by rw [Int.toNat_natCast, show (7 * (o : Int)).toNat = 7 * o by omega]; omega), show (7 * (o : Int)).toNat = 7 * o by omega, show (s : Int) * ((2 ^ (7 * o) : Nat) : Int) = ((s * 2 ^ (7 * o) : Nat) : Int) by rw [Int.natCast_mul]]
  refine ⟨_, rfl, ⟨Int.natCast_nonneg _, Int.ofNat_lt.mpr (by omega)⟩, fun j hj => ?_⟩
  (try dsimp only)
  by_cases c : j ≤ o
  · have := dg_pack (acc := 0) (v := (s : Int)) (o := o) (j := j) (by decide) (Int.ofNat_lt.mpr hp0) (by omega) (by omega) c
    rw [Int.zero_add, dg_zero, ← Int.natCast_mul] at this
    exact this
  · rw [if_neg (by omega)]
    obtain ⟨e, rfl⟩ : ∃ e, j = o + 1 + e := ⟨j - o - 1, by omega⟩
    rw [dg_nat, Nat.div_eq_of_lt]
    · rfl
    · have h1 : (2 : Nat) ^ (7 * (o + 1)) ≤ 2 ^ (7 * (o + 1 + e)) := Nat.pow_le_pow_right (by decide) (by omega)
      have h2 : (2 : Nat) ^ (7 * (o + 1)) = 128 * 2 ^ (7 * o) := by rw [show 7 * (o + 1) = 7 * o + 7 by omega, Nat.pow_add, Nat.mul_comm]
      omega
theorem srC_COL {s : Nat} (h : s < 99 * nOf P) : COL P (srC s) := ⟨fun o _ => srC_b s o, fun o _ ho => srC_out h ho⟩
theorem colT_COL {w : Nat → Int} {s : Nat} (hP : PLN P) (h : s < 99 * nOf P) : ∀ d, COL P (colT P w d (srC s)) := by
  intro d
  induction d with
  | zero => exact srC_COL h
  | succ d ih => exact COL_nxt hP ih
theorem enc_b {s : Nat} (hs : s < 792) : wr ((encS s).tdiv 100) = ((s / 99 : Nat) : Int) ∧ (encS s).tmod 100 = ((1 + s % 99 : Nat) : Int) := by
  unfold encS
  obtain ⟨q, r, hr9, hq, hsq⟩ : ∃ q r : Nat, r < 99 ∧ q < 8 ∧ s = 99 * q + r := ⟨s / 99, s % 99, by omega, by omega, by omega⟩
  rw [show s / 99 = q by omega, show s % 99 = r by omega, Int.tdiv_eq_ediv_of_nonneg (by omega), Int.tmod_eq_emod_of_nonneg (by omega), show (100 * (q : Int) + 1 + (r : Int)) / 100 = (q : Int) by omega]
  exact ⟨wrN (by omega) (by omega), by omega⟩
/-- the sources that are left, on day d -/
def SRC (P : MS) (w : Nat → Int) (S : MS) (L : List Nat) (d : Nat) : Prop := S 118 8 = (L.length : Nat) ∧ (∀ s ∈ L, s < 99 * nOf P) ∧ L.length ≤ 792 ∧ ∀ i, i < L.length → S 122 i = encS (L.getD i 0) ∧ FC (S 123 i) (colT P w d (srC (L.getD i 0)))
theorem getD_mem {L : List Nat} {i : Nat} (h : i < L.length) : L.getD i 0 ∈ L := by
  rw [List.getD_eq_getElem?_getD, List.getElem?_eq_getElem h, Option.getD_some]
  exact List.getElem_mem h
theorem c_fbeg {w : Nat → Int} {L : List Nat} (hP : PLN P) (hL : ∀ s ∈ L, s < 99 * nOf P) (h792 : L.length ≤ 792) : ∀ (j v : Nat) (S : MS), v + j = L.length → S 118 8 = (L.length : Nat) → (∀ i, i < L.length → S 122 i = encS (L.getD i 0)) → (∀ i, i < v → FC (S 123 i) (srC (L.getD i 0))) → ∃ S', Fi_begin_2 v S = some S' ∧ SRC P w S' L 0 ∧ ∀ x, x ≠ 123 → S' x = S x := by
  have hO := nOf_le hP
  intro j
  induction j with
  | zero =>
    intro v S e h8 h2 h3
    rw [e_Fi_begin_2, h8, if_neg (by omega)]
    exact ⟨S, rfl, ⟨h8, hL, h792, fun i hi => ⟨h2 i hi, h3 i (by omega)⟩⟩, fun _ _ => rfl⟩
  | succ j ih =>
    intro v S e h8 h2 h3
    have hm := hL _ (getD_mem (L := L) (i := v) (by omega))
    obtain ⟨q1, q2⟩ := enc_b (s := L.getD v 0) (by omega)
    have hq8 : L.getD v 0 / 99 < 8 := by omega
    have hr8 : 1 + L.getD v 0 % 99 < 128 := by omega
    obtain ⟨F, f1, f2⟩ := c_pk (S := S) hq8 hr8
    rw [e_Fi_begin_2, h8, if_pos (by omega), if_pos (by omega), if_pos (by omega), Int.toNat_natCast, h2 v (by omega), q1, q2, f1, Option.bind_some, if_pos (by omega), wr_suc2 (show v < 792 by omega) (by decide)]
    dsimp only
    obtain ⟨S', r1, r2, r3⟩ := ih (v + 1) (up S 123 v F) (by omega) (by rw [up_c (by decide)]; exact h8) (fun i hi => by rw [up_c (by decide)]; exact h2 i hi) (fun i hi => by
      by_cases c : i = v
      · rw [c, up_s]
        refine ⟨f2.1, fun o ho => ?_⟩
        rw [f2.2 o ho]
        (try dsimp only)
        unfold srC unC
        by_cases g : o = L.getD v 0 / 99
        · rw [if_pos g, if_pos g]; omega
        · rw [if_neg g, if_neg g]
      · rw [up_k c]; exact h3 i (by omega))
    exact ⟨S', r1, r2, fun x hx => by rw [r3 x hx, up_c hx]⟩
theorem c_fp10 {w : Nat → Int} {L : List Nat} (hP : PLN P) (hW : WV P w) {d : Nat} (hd : w 0 + d ≤ 2000) (hL : ∀ s ∈ L, s < 99 * nOf P) (h792 : L.length ≤ 792) : ∀ (j v : Nat) (S : MS), v + j = L.length → EN P (w 0 + d) S → SWn S 24 w → S 118 8 = (L.length : Nat) → (∀ i, i < L.length → FC (S 123 i) (colT P w (if i < v then d + 1 else d) (srC (L.getD i 0)))) → ∃ S', Fi_pass_10 v S = some S' ∧ EN P (w 0 + d) S' ∧ (∀ i, i < L.length → FC (S' 123 i) (colT P w (d + 1) (srC (L.getD i 0)))) ∧ ∀ x, x ≠ 42 → x ≠ 45 → x ≠ 48 → x ≠ 49 → x ≠ 50 → x ≠ 123 → S' x = S x := by
  have w00 := hW.1
  intro j
  induction j with
  | zero =>
    intro v S e hE hS h8 h3
    rw [e_Fi_pass_10, h8, if_neg (by omega)]
    refine ⟨S, rfl, hE, fun i hi => ?_, fun _ _ _ _ _ _ _ => rfl⟩
    have := h3 i hi
    rw [if_pos (by omega)] at this
    exact this
  | succ j ih =>
    intro v S e hE hS h8 h3
    obtain ⟨s1, s2, s3, s4, s5⟩ := id hS
    have hm := hL _ (getD_mem (L := L) (i := v) (by omega))
    have hF := h3 v (by omega)
    rw [if_neg (Nat.lt_irrefl v)] at hF
    obtain ⟨F', S1, r1, r2, r3, r4⟩ := c_nextC (tub := tuW w) (inb := inW w) (inn := S 24 1) (tur := S 24 2) hP (by omega) (colT_COL hP hm d) hF ⟨s2, fun k hk => (s4 k hk).1⟩ ⟨s3, fun k hk => (s4 k hk).2⟩ hE
    rw [e_Fi_pass_10, h8, if_pos (by omega), if_pos (by omega), Int.toNat_natCast, r1, Option.bind_some, if_pos (by omega), wr_suc2 (show v < 792 by omega) (by decide)]
    dsimp only
    have fr : ∀ x, x ≠ 42 → x ≠ 45 → x ≠ 48 → x ≠ 49 → x ≠ 50 → x ≠ 123 → up S1 123 v F' x = S x := fun x a1 a2 a3 a4 a5 a6 => by rw [up_c a6, r3 x a1 a2 a3 a4 a5]
    obtain ⟨S', q1, q2, q3, q4⟩ := ih (v + 1) (up S1 123 v F') (by omega) (r2.fr (fun x x1 x2 => up_c (by omega))) (hS.fr (by rw [fr 24 (by decide) (by decide) (by decide) (by decide) (by decide) (by decide)]) (by rw [fr 24 (by decide) (by decide) (by decide) (by decide) (by decide) (by decide)]) (by rw [fr 24 (by decide) (by decide) (by decide) (by decide) (by decide) (by decide)]) (fr 25 (by decide) (by decide) (by decide) (by decide) (by decide) (by decide))) (by rw [fr 118 (by decide) (by decide) (by decide) (by decide) (by decide) (by decide)]; exact h8) (fun i hi => by
      by_cases c : i = v
      · rw [c, up_s, if_pos (show v < v + 1 by omega)]; exact r4
      · rw [up_k c, r3 123 (by decide) (by decide) (by decide) (by decide) (by decide)]
        have := h3 i hi
        by_cases c2 : i < v
        · rw [if_pos c2] at this; rw [if_pos (show i < v + 1 by omega)]; exact this
        · rw [if_neg c2] at this; rw [if_neg (show ¬ i < v + 1 by omega)]; exact this)
    exact ⟨S', q1, q2, q3, fun x a1 a2 a3 a4 a5 a6 => by rw [q4 x a1 a2 a3 a4 a5 a6, fr x a1 a2 a3 a4 a5 a6]⟩
/-- what the search may change -/
def FF (S S' : MS) : Prop := (∀ x, x ≠ 30 → x ≠ 42 → x ≠ 45 → x ≠ 48 → x ≠ 49 → x ≠ 50 → x ≠ 118 → x ≠ 122 → x ≠ 123 → x ≠ 124 → S' x = S x) ∧ (∀ k, k ≠ 8 → k ≠ 10 → k ≠ 11 → k ≠ 12 → k ≠ 13 → k ≠ 14 → S' 118 k = S 118 k) ∧ ∀ k, k ≠ 3 → k ≠ 4 → S' 30 k = S 30 k
theorem FF.rf (S : MS) : FF S S := ⟨fun _ _ _ _ _ _ _ _ _ _ _ => rfl, fun _ _ _ _ _ _ _ => rfl, fun _ _ _ => rfl⟩
theorem FF.tr {S S' S'' : MS} (h : FF S S') (g : FF S' S'') : FF S S'' := ⟨fun x a1 a2 a3 a4 a5 a6 a7 a8 a9 a10 => (g.1 x a1 a2 a3 a4 a5 a6 a7 a8 a9 a10).trans (h.1 x a1 a2 a3 a4 a5 a6 a7 a8 a9 a10), fun k a1 a2 a3 a4 a5 a6 => (g.2.1 k a1 a2 a3 a4 a5 a6).trans (h.2.1 k a1 a2 a3 a4 a5 a6), fun k a1 a2 => (g.2.2 k a1 a2).trans (h.2.2 k a1 a2)⟩
theorem FF.sw {S S' : MS} {w : Nat → Int} (h : FF S S') (hS : SWn S 24 w) : SWn S' 24 w := hS.fr (by rw [h.1 24 (by decide) (by decide) (by decide) (by decide) (by decide) (by decide) (by decide) (by decide) (by decide) (by decide)]) (by rw [h.1 24 (by decide) (by decide) (by decide) (by decide) (by decide) (by decide) (by decide) (by decide) (by decide) (by decide)]) (by rw [h.1 24 (by decide) (by decide) (by decide) (by decide) (by decide) (by decide) (by decide) (by decide) (by decide) (by decide)]) (h.1 25 (by decide) (by decide) (by decide) (by decide) (by decide) (by decide) (by decide) (by decide) (by decide) (by decide))
theorem FF.u {S S' : MS} (h : ∀ x, x ≠ 122 → x ≠ 123 → x ≠ 124 → S' x = S x) : FF S S' := ⟨fun x _ _ _ _ _ _ _ a8 a9 a10 => h x a8 a9 a10, fun k _ _ _ _ _ _ => by rw [h 118 (by decide) (by decide) (by decide)], fun k _ _ => by rw [h 30 (by decide) (by decide) (by decide)]⟩
theorem FF.u118 {S : MS} {k : Nat} {z : Int} (h : k = 8 ∨ k = 10 ∨ k = 11 ∨ k = 12 ∨ k = 13 ∨ k = 14) : FF S (up S 118 k z) := ⟨fun x _ _ _ _ _ _ a7 _ _ _ => up_c a7, fun j _ _ _ _ _ _ => up_k (by omega), fun k _ _ => by rw [up_c (by decide)]⟩
theorem c_fpass {w : Nat → Int} {L : List Nat} (hP : PLN P) (hW : WV P w) {d : Nat} (hd : w 0 + d ≤ 2000) (hE : EM P S) (hS : SWn S 24 w) (hL : SRC P w S L d) (hB : S 30 3 < 15999999) : ∃ S', m_Fi_pass (w 0 + d) S = some S' ∧ EM P S' ∧ SRC P w S' L (d + 1) ∧ FF S S' ∧ S' 118 = S 118 ∧ S' 30 3 ≤ S 30 3 + 1 := by
  obtain ⟨S1, r1, r2, r3, r4, r5⟩ := c_openDay (d := w 0 + d) hE.2.1 hB
  have fr : ∀ x, x ≠ 30 → x ≠ 42 → x ≠ 45 → x ≠ 48 → x ≠ 49 → x ≠ 50 → S1 x = S x := r2.1
  obtain ⟨l1, l2, l3, l4⟩ := hL
  obtain ⟨S2, q1, q2, q3, q4⟩ := c_fp10 (L := L) hP hW hd l2 l3 L.length 0 S1 (by omega) ⟨hE.1.fe r2, r3, hE.2.2.fe r2, r4⟩ (hS.fr (by rw [fr 24 (by decide) (by decide) (by decide) (by decide) (by decide) (by decide)]) (by rw [fr 24 (by decide) (by decide) (by decide) (by decide) (by decide) (by decide)]) (by rw [fr 24 (by decide) (by decide) (by decide) (by decide) (by decide) (by decide)]) (fr 25 (by decide) (by decide) (by decide) (by decide) (by decide) (by decide))) (by rw [fr 118 (by decide) (by decide) (by decide) (by decide) (by decide) (by decide)]; exact l1) (fun i hi => by rw [fr 123 (by decide) (by decide) (by decide) (by decide) (by decide) (by decide), if_neg (Nat.not_lt_zero _)]; exact (l4 i hi).2)
  have q1 : Fi_pass_10 0 S1 = _ := q1
  have f2 : ∀ x, x ≠ 30 → x ≠ 42 → x ≠ 45 → x ≠ 48 → x ≠ 49 → x ≠ 50 → x ≠ 123 → S2 x = S x := fun x a0 a1 a2 a3 a4 a5 a6 => by rw [q4 x a1 a2 a3 a4 a5 a6, fr x a0 a1 a2 a3 a4 a5]
  have e30 : S2 30 = S1 30 := q4 30 (by decide) (by decide) (by decide) (by decide) (by decide) (by decide)
  have e118 : S2 118 = S 118 := f2 118 (by decide) (by decide) (by decide) (by decide) (by decide) (by decide) (by decide)
  rw [e_Fi_pass, r1, Option.bind_some, q1]
  exact ⟨S2, rfl, q2.em, ⟨by rw [e118]; exact l1, l2, l3, fun i hi => ⟨by rw [f2 122 (by decide) (by decide) (by decide) (by decide) (by decide) (by decide) (by decide)]; exact (l4 i hi).1, q3 i hi⟩⟩, ⟨fun x a0 a1 a2 a3 a4 a5 _ _ a8 _ => f2 x a0 a1 a2 a3 a4 a5 a8, fun k _ _ _ _ _ _ => by rw [e118], fun k k1 k2 => by rw [e30, r2.2 k k1 k2]⟩, e118, by rw [e30]; exact r5⟩
/-- the rows of day v speak for source k -/
def pS (P : MS) (w : Nat → Int) (S : MS) (v k : Nat) : Prop := ∀ i : Nat, (i : Int) < S 118 5 → S 119 i = v → colT P w v (srC k) (S 120 i).toNat = S 121 i
def RWS (P S : MS) : Prop := (0 ≤ S 118 5 ∧ S 118 5 ≤ 16) ∧ ∀ i : Nat, (i : Int) < S 118 5 → (0 ≤ S 119 i ∧ S 119 i ≤ 30) ∧ (0 ≤ S 120 i ∧ S 120 i < P 430 4) ∧ 0 ≤ S 121 i ∧ S 121 i ≤ 99
theorem c_fits {w : Nat → Int} {v k : Nat} {F : Int} (hP : PLN P) (hF : FC F (colT P w v (srC k))) (hr : RWS P S) : ∀ (j u : Nat), ((u + j : Nat) : Int) = S 118 5 → ∃ z, Fi_fits_3 v F u S = some (z, S) ∧ (z = 0 ∨ z = 1) ∧ (z = 1 ↔ ∀ i : Nat, u ≤ i → (i : Int) < S 118 5 → S 119 i = v → colT P w v (srC k) (S 120 i).toNat = S 121 i) := by
  have hO1 := hP.1
  intro j
  induction j with
  | zero =>
    intro u e
    rw [e_Fi_fits_3, if_neg (by omega)]
    exact ⟨1, rfl, Or.inr rfl, fun _ i i1 i2 => by omega, fun _ => rfl⟩
  | succ j ih =>
    intro u e
    have hr1 := hr.1
    obtain ⟨r1, r2, r3⟩ := hr.2 u (by omega)
    obtain ⟨z, z1, z2, z3⟩ := ih (u + 1) (by omega)
    have iff1 : (S 119 u = v → colT P w v (srC k) (S 120 u).toNat = S 121 u) → ((∀ i : Nat, u + 1 ≤ i → (i : Int) < S 118 5 → S 119 i = v → colT P w v (srC k) (S 120 i).toNat = S 121 i) ↔ ∀ i : Nat, u ≤ i → (i : Int) < S 118 5 → S 119 i = v → colT P w v (srC k) (S 120 i).toNat = S 121 i) := fun h => ⟨fun q i a b g => by
      by_cases c : i = u
      · rw [c]; rw [c] at g; exact h g
      · exact q i (by omega) b g, fun q i a b g => q i (by omega) b g⟩
    rw [e_Fi_fits_3, if_pos (by omega), if_pos (by omega), Int.toNat_natCast, wr_suc2 (show u < 16 by omega) (by decide)]
    by_cases c1 : S 119 u = v
    · rw [if_pos c1, if_pos (by omega), c_strengthIn hF.1.1 hF.1.2 (by omega), Option.bind_some, hF.2 _ (by omega), if_pos (by omega)]
      dsimp only
      by_cases c3 : colT P w v (srC k) (S 120 u).toNat = S 121 u
      · rw [if_pos c3]
        exact ⟨z, z1, z2, z3.trans (iff1 (fun _ => c3))⟩
      · rw [if_neg c3]
        exact ⟨0, rfl, Or.inl rfl, fun q => absurd q (by decide), fun q => absurd (q u (Nat.le_refl _) (by omega) c1) c3⟩
    · rw [if_neg c1]
      exact ⟨z, z1, z2, z3.trans (iff1 (fun g => absurd g c1))⟩
noncomputable def pD (P : MS) (w : Nat → Int) (S : MS) (v k : Nat) : Bool := @decide (pS P w S v k) (Classical.propDecidable _)
theorem pD_t {w : Nat → Int} {v k : Nat} : pD P w S v k = true ↔ pS P w S v k := @decide_eq_true_iff (pS P w S v k) (Classical.propDecidable _)
theorem pS_fr {S S' : MS} (h : FF S S') (w : Nat → Int) (v : Nat) : pS P w S' v = pS P w S v := by
  funext k
  unfold pS
  rw [h.2.1 5 (by decide) (by decide) (by decide) (by decide) (by decide) (by decide), h.1 119 (by decide) (by decide) (by decide) (by decide) (by decide) (by decide) (by decide) (by decide) (by decide) (by decide), h.1 120 (by decide) (by decide) (by decide) (by decide) (by decide) (by decide) (by decide) (by decide) (by decide) (by decide), h.1 121 (by decide) (by decide) (by decide) (by decide) (by decide) (by decide) (by decide) (by decide) (by decide) (by decide)]
theorem pD_fr {S S' : MS} (h : FF S S') (w : Nat → Int) (v : Nat) : pD P w S' v = pD P w S v := by
  funext k
  unfold pD
  rw [pS_fr h w v]
theorem RWS.fr {S S' : MS} (hr : RWS P S) (h : FF S S') : RWS P S' := by
  unfold RWS
  rw [h.2.1 5 (by decide) (by decide) (by decide) (by decide) (by decide) (by decide), h.1 119 (by decide) (by decide) (by decide) (by decide) (by decide) (by decide) (by decide) (by decide) (by decide) (by decide), h.1 120 (by decide) (by decide) (by decide) (by decide) (by decide) (by decide) (by decide) (by decide) (by decide) (by decide), h.1 121 (by decide) (by decide) (by decide) (by decide) (by decide) (by decide) (by decide) (by decide) (by decide) (by decide)]
  exact hr
theorem c_sift {w : Nat → Int} {d : Nat} (hP : PLN P) : ∀ (R W : List Nat) (i : Nat) (S : MS), RWS P S → S 118 8 = ((i + R.length : Nat) : Int) → i + R.length ≤ 792 → W.length ≤ i → (∀ s ∈ W, s < 99 * nOf P) → (∀ s ∈ R, s < 99 * nOf P) → (∀ a, a < W.length → S 122 a = encS (W.getD a 0) ∧ FC (S 123 a) (colT P w d (srC (W.getD a 0)))) → (∀ a, a < R.length → S 122 (i + a) = encS (R.getD a 0) ∧ FC (S 123 (i + a)) (colT P w d (srC (R.getD a 0)))) → ∃ S', Fi_sift_4 d (W.length : Nat) i S = some S' ∧ SRC P w S' (W ++ R.filter (pD P w S d)) d ∧ FF S S' ∧ (∀ k, k ≠ 8 → S' 118 k = S 118 k) ∧ S' 30 = S 30 ∧ ∀ x, x ≠ 118 → x ≠ 122 → x ≠ 123 → S' x = S x := by
  intro R
  induction R with
  | nil =>
    intro W i S hr h8 h792 hW hWm hRm h1 h2
    rw [List.length_nil] at h8 h792
    rw [e_Fi_sift_4, h8, if_neg (by omega)]
    refine ⟨_, rfl, ⟨by rw [up_s, List.filter_nil, List.append_nil], by rw [List.filter_nil, List.append_nil]; exact hWm, by rw [List.filter_nil, List.append_nil]; omega, fun a ha => ?_⟩, FF.u118 (Or.inl rfl), fun k hk => up_k hk, up_c (by decide), fun x a1 _ _ => up_c a1⟩
    rw [List.filter_nil, List.append_nil] at ha ⊢
    rw [up_c (by decide), up_c (by decide)]
    exact h1 a ha
  | cons k R ih =>
    intro W i S hr h8 h792 hW hWm hRm h1 h2
    rw [List.length_cons] at h8 h792
    obtain ⟨g1, g2⟩ := h2 0 (by rw [List.length_cons]; omega)
    have gk : (k :: R).getD 0 0 = k := rfl
    rw [gk, Nat.add_zero] at g1 g2
    obtain ⟨z, z1, z2, z3⟩ := c_fits hP g2 hr (S 118 5).toNat 0 (by have := hr.1; omega)
    have z1 : Fi_fits_3 d (S 123 i) 0 S = _ := z1
    have z3 : z = 1 ↔ pS P w S d k := by
      rw [z3]
      exact ⟨fun q i a b => q i (Nat.zero_le _) a b, fun q i _ a b => q i a b⟩
    have tail : ∀ a, a < R.length → S 122 (i + 1 + a) = encS (R.getD a 0) ∧ FC (S 123 (i + 1 + a)) (colT P w d (srC (R.getD a 0))) := fun a ha => by
      have := h2 (a + 1) (by rw [List.length_cons]; omega)
      rw [List.getD_cons_succ, show i + (a + 1) = i + 1 + a by omega] at this
      exact this
    rw [e_Fi_sift_4, h8, if_pos (by omega), if_pos (by omega), Int.toNat_natCast, e_Fi_fits, z1, Option.bind_some, wr_suc2 (show i < 792 by omega) (by decide)]
    dsimp only
    rcases z2 with rfl | rfl
    · rw [if_pos rfl]
      obtain ⟨S', r1, r2, r3⟩ := ih W (i + 1) S hr (by rw [h8]; omega) (by omega) (by omega) hWm (fun s hs => hRm s (List.mem_cons_of_mem _ hs)) h1 tail
      refine ⟨S', r1, ?_, r3⟩
      rw [List.filter_cons, if_neg (fun q => absurd (z3.mpr (pD_t.mp q)) (by decide))]
      exact r2
    · rw [if_neg n10, if_pos (by omega), if_pos (by omega), if_pos (by omega), if_pos (by omega), wr_suc2 (show W.length < 792 by omega) (by decide), Int.toNat_natCast]
      have fr : ∀ x, x ≠ 122 → x ≠ 123 → up (up S 122 W.length (S 122 i)) 123 W.length (S 123 i) x = S x := fun x a1 a2 => by rw [up_c a2, up_c a1]
      have hf : FF S (up (up S 122 W.length (S 122 i)) 123 W.length (S 123 i)) := FF.u (fun x a1 a2 _ => fr x a1 a2)
      have e122 : ∀ a, up (up S 122 W.length (S 122 i)) 123 W.length (S 123 i) 122 a = if a = W.length then S 122 i else S 122 a := fun a => by
        rw [up_c (by decide)]
        by_cases q : a = W.length
        · rw [q, up_s, if_pos rfl]
        · rw [up_k q, if_neg q]
      have e123 : ∀ a, up (up S 122 W.length (S 122 i)) 123 W.length (S 123 i) 123 a = if a = W.length then S 123 i else S 123 a := fun a => by
        by_cases q : a = W.length
        · rw [q, up_s, if_pos rfl]
        · rw [up_k q, if_neg q, up_c (by decide)]
      have gW : ∀ a, (W ++ [k]).getD a 0 = if a = W.length then k else W.getD a 0 := fun a => by
        rw [List.getD_eq_getElem?_getD, List.getD_eq_getElem?_getD]
        by_cases q : a = W.length
        · rw [if_pos q, q, List.getElem?_append_right (Nat.le_refl _), Nat.sub_self]; rfl
        · rw [if_neg q]
          by_cases q2 : a < W.length
          · rw [List.getElem?_append_left q2]
          · rw [List.getElem?_append_right (by omega), List.getElem?_eq_none (by rw [List.length_singleton]; omega), List.getElem?_eq_none (by omega)]
      obtain ⟨S', r1, r2, r3, r4, r5, r6⟩ := ih (W ++ [k]) (i + 1) (up (up S 122 W.length (S 122 i)) 123 W.length (S 123 i)) (hr.fr hf) (by rw [fr 118 (by decide) (by decide), h8]; omega) (by omega) (by rw [List.length_append, List.length_singleton]; omega) (fun s hs => by
        rcases List.mem_append.mp hs with q | q
        · exact hWm s q
        · rw [List.mem_singleton.mp q]; exact hRm k (List.mem_cons_self ..)) (fun s hs => hRm s (List.mem_cons_of_mem _ hs)) (fun a ha => by
        rw [List.length_append, List.length_singleton] at ha
        rw [e122, e123, gW]
        by_cases q : a = W.length
        · rw [if_pos q, if_pos q, if_pos q]; exact ⟨g1, g2⟩
        · rw [if_neg q, if_neg q, if_neg q]; exact h1 a (by omega)) (fun a ha => by
        rw [e122, e123, if_neg (by omega), if_neg (by omega)]
        exact tail a ha)
      rw [List.length_append, List.length_singleton] at r1
      refine ⟨S', r1, ?_, hf.tr r3, fun k hk => by rw [r4 k hk, fr 118 (by decide) (by decide)], by rw [r5, fr 30 (by decide) (by decide)], fun x a1 a2 a3 => by rw [r6 x a1 a2 a3, fr x a2 a3]⟩
      rw [pD_fr hf, List.append_assoc] at r2
      rw [List.filter_cons, if_pos (pD_t.mpr (z3.mp rfl))]
      exact r2
theorem SRC.len {w : Nat → Int} {L : List Nat} {d : Nat} (h : SRC P w S L d) : L.length ≤ 792 := h.2.2.1
theorem c_siftL {w : Nat → Int} {d : Nat} {L : List Nat} (hP : PLN P) (hr : RWS P S) (hL : SRC P w S L d) : ∃ S', m_Fi_sift d S = some S' ∧ SRC P w S' (L.filter (pD P w S d)) d ∧ FF S S' ∧ (∀ k, k ≠ 8 → S' 118 k = S 118 k) ∧ S' 30 = S 30 ∧ ∀ x, x ≠ 118 → x ≠ 122 → x ≠ 123 → S' x = S x := by
  obtain ⟨l1, l2, l3, l4⟩ := hL
  have := c_sift (w := w) (d := d) hP L [] 0 S hr (by rw [l1, Nat.zero_add]) (by omega) (Nat.le_refl _) (fun s hs => absurd hs (List.not_mem_nil)) l2 (fun a ha => absurd ha (Nat.not_lt_zero _)) (fun a ha => by rw [Nat.zero_add]; exact l4 a ha)
  rw [e_Fi_sift]
  exact this
end
