/-! sources, tells -/
section
variable {n : Nat} {P S T : MS}
theorem filter2 {p q r : Nat → Bool} (h : ∀ a, r a = (p a && q a)) : ∀ L : List Nat, (L.filter p).filter q = L.filter r := by
  intro L
  induction L with
  | nil => rfl
  | cons a L ih =>
    rw [List.filter_cons, List.filter_cons, h a]
    cases p a
    · rw [if_neg (by decide), Bool.false_and, if_neg (by decide)]; exact ih
    · rw [if_pos rfl, List.filter_cons, Bool.true_and]
      cases q a
      · rw [if_neg (by decide), if_neg (by decide)]; exact ih
      · rw [if_pos rfl, if_pos rfl, ih]
noncomputable def pvD (P : MS) (w : Nat → Int) (S : MS) (v k : Nat) : Bool := @decide (∀ d, d < v → pS P w S d k) (Classical.propDecidable _)
theorem pvD_t {w : Nat → Int} {v k : Nat} : pvD P w S v k = true ↔ ∀ d, d < v → pS P w S d k := @decide_eq_true_iff _ (Classical.propDecidable _)
theorem pvD_s (w : Nat → Int) (v a : Nat) : pvD P w S (v + 1) a = (pvD P w S v a && pD P w S v a) := by
  rw [Bool.eq_iff_iff, Bool.and_eq_true, pvD_t, pvD_t, pD_t]
  constructor
  · intro h; exact ⟨fun d hd => h d (by omega), h v (by omega)⟩
  · rintro ⟨h1, h2⟩ d hd
    by_cases c : d = v
    · rw [c]; exact h2
    · exact h1 d (by omega)
theorem pvD_fr {S S' : MS} (h : FF S S') (w : Nat → Int) (v : Nat) : pvD P w S' v = pvD P w S v := by
  funext k
  unfold pvD
  have e : (∀ d, d < v → pS P w S' d k) = (∀ d, d < v → pS P w S d k) := propext ⟨fun g d hd => by rw [← pS_fr h w d]; exact g d hd, fun g d hd => by rw [pS_fr h w d]; exact g d hd⟩
  rw [e]
theorem c_last (hr : RWS P S) : ∀ (j v : Nat) (m : Int), ((v + j : Nat) : Int) = S 118 5 → (0 ≤ m ∧ m ≤ 30) → ∃ M : Int, Fi_lastRowDay_4 m v S = some (M, S) ∧ (m ≤ M ∧ M ≤ 30) ∧ (∀ i : Nat, v ≤ i → (i : Int) < S 118 5 → S 119 i ≤ M) ∧ (M = m ∨ ∃ i : Nat, v ≤ i ∧ (i : Int) < S 118 5 ∧ S 119 i = M) := by
  intro j
  induction j with
  | zero =>
    intro v m e hm
    rw [e_Fi_lastRowDay_4, if_neg (by omega)]
    exact ⟨m, rfl, by omega, fun i a b => by omega, Or.inl rfl⟩
  | succ j ih =>
    intro v m e hm
    have hr1 := hr.1
    obtain ⟨r1, -, -⟩ := hr.2 v (by omega)
    rw [e_Fi_lastRowDay_4, if_pos (by omega), if_pos (by omega), Int.toNat_natCast, wr_suc2 (show v < 16 by omega) (by decide)]
    have go : ∀ m' : Int, m' = (if m ≤ S 119 v then S 119 v else m) → ∃ M : Int, Fi_lastRowDay_4 m' ((v + 1 : Nat) : Int) S = some (M, S) ∧ (m ≤ M ∧ M ≤ 30) ∧ (∀ i : Nat, v ≤ i → (i : Int) < S 118 5 → S 119 i ≤ M) ∧ (M = m ∨ ∃ i : Nat, v ≤ i ∧ (i : Int) < S 118 5 ∧ S 119 i = M) := fun m' hm' => by
      have hle : m ≤ m' ∧ S 119 v ≤ m' ∧ m' ≤ 30 := by split at hm' <;> omega
      obtain ⟨M, q1, q2, q3, q4⟩ := ih (v + 1) m' (by omega) (by omega)
      refine ⟨M, q1, by omega, fun i a b => ?_, ?_⟩
      · by_cases c : i = v
        · rw [c]; omega
        · exact q3 i (by omega) b
      · rcases q4 with q4 | ⟨i, i1, i2, i3⟩
        · split at hm'
          · exact Or.inr ⟨v, Nat.le_refl _, by omega, by omega⟩
          · exact Or.inl (by omega)
        · exact Or.inr ⟨i, by omega, i2, i3⟩
    by_cases c : m ≤ S 119 v
    · rw [imx_le c]; exact go _ (by rw [if_pos c])
    · rw [imx_ge (by omega)]; exact go _ (by rw [if_neg c])
theorem c_s57 {M : Int} {o : Nat} (ho : o < 8) : ∀ (j s : Nat) (S : MS), s + j = 100 → 1 ≤ s → S 118 8 = ((99 * o + (s - 1) : Nat) : Int) → ∃ S', Fi_search_57 M o s S = Fi_search_41 M ((o + 1 : Nat) : Int) S' ∧ S' 118 8 = ((99 * (o + 1) : Nat) : Int) ∧ (∀ i, S' 122 i = if 99 * o + (s - 1) ≤ i ∧ i < 99 * (o + 1) then encS i else S 122 i) ∧ (∀ x, x ≠ 118 → x ≠ 122 → S' x = S x) ∧ ∀ k, k ≠ 8 → S' 118 k = S 118 k := by
  intro j
  induction j with
  | zero =>
    intro s S e hs h8
    rw [e_Fi_search_57, if_pos (by omega), wr_suc2 (show o < 8 by omega) (by decide)]
    exact ⟨S, rfl, by rw [h8]; omega, fun i => by rw [if_neg (by omega)], fun _ _ _ => rfl, fun _ _ => rfl⟩
  | succ j ih =>
    intro s S e hs h8
    rw [e_Fi_search_57, if_neg (by omega), h8, if_pos (by omega), if_pos (by omega), Int.toNat_natCast, wr_suc2 (show s < 100 by omega) (by decide), wrN (z := 100 * (o : Int)) (by omega) (by omega), wrN (z := 100 * (o : Int) + (s : Int)) (by omega) (by omega), wr_suc2 (show 99 * o + (s - 1) < 792 by omega) (by decide)]
    obtain ⟨S', r1, r2, r3, r4, r5⟩ := ih (s + 1) (up (up S 122 (99 * o + (s - 1)) (100 * (o : Int) + (s : Int))) 118 8 ((99 * o + (s - 1) + 1 : Nat) : Int)) (by omega) (by omega) (by rw [up_s]; congr 1; omega)
    refine ⟨S', r1, r2, fun i => ?_, fun x a1 a2 => by rw [r4 x a1 a2, up_c a1, up_c a2], fun k hk => by rw [r5 k hk, up_k hk, up_c (by decide)]⟩
    rw [r3 i, up_c (by decide)]
    by_cases c : i = 99 * o + (s - 1)
    · rw [if_neg (by omega), if_pos (by omega), c, up_s]
      unfold encS
      rw [show (99 * o + (s - 1)) / 99 = o by omega, show (99 * o + (s - 1)) % 99 = s - 1 by omega]
      omega
    · rw [up_k c]
      by_cases c2 : 99 * o + (s - 1) ≤ i ∧ i < 99 * (o + 1)
      · rw [if_pos (by omega), if_pos c2]
      · rw [if_neg (by omega), if_neg c2]
theorem c_s41 {M : Int} (hP : PLN P) : ∀ (j o : Nat) (S : MS), o + j = nOf P → S 31 0 = P 430 4 → S 118 8 = ((99 * o : Nat) : Int) → ∃ S', Fi_search_41 M o S = ((m_Fi_begin S').bind fun p1 => Fi_search_116 M 0 p1) ∧ S' 118 8 = ((99 * nOf P : Nat) : Int) ∧ (∀ i, 99 * o ≤ i → i < 99 * nOf P → S' 122 i = encS i) ∧ (∀ i, i < 99 * o → S' 122 i = S 122 i) ∧ (∀ x, x ≠ 118 → x ≠ 122 → S' x = S x) ∧ ∀ k, k ≠ 8 → S' 118 k = S 118 k := by
  have hO := nOf_le hP
  have hO1 := hP.1
  have hO4 : P 430 4 = (nOf P : Int) := by unfold nOf; omega
  intro j
  induction j with
  | zero =>
    intro o S e h31 h8
    rw [e_Fi_search_41, h31, hO4, if_neg (by omega)]
    exact ⟨S, rfl, by rw [h8]; omega, fun i a b => by omega, fun _ _ => rfl, fun _ _ _ => rfl, fun _ _ => rfl⟩
  | succ j ih =>
    intro o S e h31 h8
    obtain ⟨S1, r1, r2, r3, r4, r5⟩ := c_s57 (M := M) (o := o) (by omega) 99 1 S (by omega) (Nat.le_refl _) (by rw [h8]; omega)
    have r1 : Fi_search_57 M o 1 S = _ := r1
    obtain ⟨S2, q1, q2, q3, q4, q5, q6⟩ := ih (o + 1) S1 (by omega) (by rw [r4 31 (by decide) (by decide)]; exact h31) r2
    rw [e_Fi_search_41, h31, hO4, if_pos (by omega), r1, q1]
    refine ⟨S2, rfl, q2, fun i a b => ?_, fun i hi => by rw [q4 i (by omega), r3 i, if_neg (by omega)], fun x a1 a2 => by rw [q5 x a1 a2, r4 x a1 a2], fun k hk => by rw [q6 k hk, r5 k hk]⟩
    by_cases c : 99 * (o + 1) ≤ i
    · exact q3 i c b
    · rw [q4 i (by omega), r3 i, if_pos (by omega)]
theorem FF.em {S S' : MS} (h : FF S S') : S' 24 = S 24 := h.1 24 (by decide) (by decide) (by decide) (by decide) (by decide) (by decide) (by decide) (by decide) (by decide) (by decide)
theorem c_116 {w : Nat → Int} (hP : PLN P) (hW : WV P w) {M : Nat} (hM : M ≤ 30) (hM2 : w 0 + M ≤ 2000) {L : List Nat} : ∀ (j v : Nat) (S : MS), v + j = M + 1 → EM P S → SWn S 24 w → RWS P S → SRC P w S (L.filter (pvD P w S v)) (v - 1) → S 30 3 + j < 15999999 → ∃ S', Fi_search_116 M v S = some S' ∧ EM P S' ∧ SRC P w S' (L.filter (pvD P w S (M + 1))) M ∧ FF S S' ∧ (∀ k, k ≠ 8 → S' 118 k = S 118 k) ∧ S' 30 3 ≤ S 30 3 + j := by
  have w00 := hW.1
  intro j
  induction j with
  | zero =>
    intro v S e hE hS hr hL hB
    rw [e_Fi_search_116, if_pos (by omega)]
    have : v = M + 1 := by omega
    subst this
    exact ⟨S, rfl, hE, hL, FF.rf S, fun _ _ => rfl, by omega⟩
  | succ j ih =>
    intro v S e hE hS hr hL hB
    have main : ∀ S1 : MS, EM P S1 → FF S S1 → (∀ k, k ≠ 8 → S1 118 k = S 118 k) → SRC P w S1 (L.filter (pvD P w S v)) v → S1 30 3 ≤ S 30 3 + 1 → ∃ S', ((m_Fi_sift v S1).bind fun p2 => Fi_search_116 M (wr ((v : Int) + 1)) p2) = some S' ∧ EM P S' ∧ SRC P w S' (L.filter (pvD P w S (M + 1))) M ∧ FF S S' ∧ (∀ k, k ≠ 8 → S' 118 k = S 118 k) ∧ S' 30 3 ≤ S 30 3 + (j + 1 : Nat) := fun S1 hE1 hF1 h118 hL1 hB1 => by
      obtain ⟨S2, r1, r2, r3, r4, r5, r6⟩ := c_siftL hP (hr.fr hF1) hL1
      have hF2 := hF1.tr r3
      rw [pD_fr hF1, filter2 (pvD_s w v), ← pvD_fr hF2] at r2
      obtain ⟨S3, q1, q2, q3, q4, q5, q6⟩ := ih (v + 1) S2 (by omega) (hE1.fr (fun x x1 x2 => r6 x (by omega) (by omega) (by omega))) (hF2.sw hS) (hr.fr hF2) r2 (by rw [r5]; omega)
      rw [r1, Option.bind_some, wr_suc2 (show v < 31 by omega) (by decide), q1]
      rw [pvD_fr hF2] at q3
      exact ⟨S3, rfl, q2, q3, hF2.tr q4, fun k hk => by rw [q5 k hk, r4 k hk, h118 k hk], by rw [r5] at q6; omega⟩
    rw [e_Fi_search_116, if_neg (by omega)]
    by_cases c : v = 0
    · subst c
      rw [if_neg (by omega)]
      exact main S hE (FF.rf S) (fun _ _ => rfl) hL (by omega)
    · obtain ⟨u, rfl⟩ : ∃ u, v = u + 1 := ⟨v - 1, by omega⟩
      rw [if_pos (by omega), hS.1, wrN (z := w 0 + ((u + 1 : Nat) : Int)) (by omega) (by omega), wrN (by omega) (by omega), show w 0 + ((u + 1 : Nat) : Int) - 1 = w 0 + (u : Int) by omega]
      obtain ⟨S1, p1, p2, p3, p4, p5, p6⟩ := c_fpass hP hW (d := u) (by omega) hE hS hL (by omega)
      rw [p1, Option.bind_some]
      exact main S1 p2 p4 (fun k _ => by rw [p5]) p3 p6
theorem ROr.rws (h : ROr P S T) : RWS P S := by
  obtain ⟨h1, h2, h3⟩ := h
  refine ⟨h2, fun i hi => ?_⟩
  obtain ⟨a, b, c⟩ := h3 i hi
  exact ⟨a.2, b.2, c.2⟩
/-- what the search has found -/
def SCH (P S T : MS) (w : Nat → Int) : Prop := S 118 13 = 1 ∧ S 118 8 = ((srcL P T w).length : Nat) ∧ ∀ i, i < (srcL P T w).length → S 122 i = encS ((srcL P T w).getD i 0)
theorem srcL_len (hP : PLN P) (w : Nat → Int) : (srcL P T w).length ≤ 792 := by
  have hO := nOf_le hP
  have := flt_len (P := P) (T := T) w (99 * nOf P) 0
  rw [flt_0] at this
  omega
theorem srcL_mem {w : Nat → Int} {s : Nat} (h : s ∈ srcL P T w) : s < 99 * nOf P := by
  rw [srcL_fit] at h
  exact List.mem_range.mp (List.mem_filter.mp h).1
theorem c_search (h : Inv n P S T) (hn : n < 1000) : ∃ S', m_Fi_search S = some S' ∧ SCH P S' T (T 438) ∧ FF S S' ∧ EM P S' ∧ S' 30 3 ≤ S 30 3 + 31 ∧ (∀ k, k ≠ 8 → k ≠ 13 → S' 118 k = S 118 k) ∧ (S 118 13 = 1 → S' = S) := by
  have hP := h.pln
  have hw0 := h.w0
  have hen := h.en.2
  obtain ⟨f1, f2, f3, f4, f5⟩ := h.fd
  rw [e_Fi_search]
  rcases f2 with f2 | f2
  · rw [if_pos f2]
    have hr := f1.rws
    have hF0 : FF S (up S 118 13 1) := FF.u118 (by omega)
    obtain ⟨M, m1, m2, m3, m4⟩ := c_last (hr.fr hF0) (S 118 5).toNat 0 0 (by rw [up_k (by decide)]; have := hr.1; omega) (by decide)
    have m1 : Fi_lastRowDay_4 0 0 (up S 118 13 1) = _ := m1
    have e5 : up S 118 13 1 118 5 = S 118 5 := up_k (by decide)
    have e119 : up S 118 13 1 119 = S 119 := up_c (by decide)
    rw [e5, e119] at m3 m4
    have e24 : up S 118 13 1 24 0 = T 438 0 := by rw [up_c (by decide)]; exact h.wd.2.2.1.1
    rw [e_Fi_lastRowDay, m1, Option.bind_some]
    dsimp only
    simp only [e24, wrN (show -2147483648 ≤ T 438 0 + M by omega) (show T 438 0 + M < 2147483648 by omega)]
    obtain ⟨a1, a2, a3⟩ := f1
    by_cases c : 999 < T 438 0 + M
    · rw [if_pos c]
      have hF1 : FF S (up (up S 118 13 1) 118 8 0) := hF0.tr (FF.u118 (Or.inl rfl))
      have hnil : srcL P T (T 438) = [] := by
        rw [srcL_fit, List.filter_eq_nil_iff]
        intro k _ hk
        have hk := fitD_t.mp hk
        rcases m4 with m4 | ⟨i, -, i2, i3⟩
        · omega
        · have := (hk i (by omega)).1
          have := (a3 i i2).1.1
          omega
      refine ⟨_, rfl, ⟨by rw [up_k (by decide), up_s], by rw [hnil, up_s]; rfl, fun i hi => by rw [hnil] at hi; exact absurd hi (Nat.not_lt_zero _)⟩, hF1, h.en.1.fr (fun x x1 x2 => by rw [up_c (by omega), up_c (by omega)]), by rw [up_c (by decide), up_c (by decide)]; omega, fun k k1 k2 => by rw [up_k k1, up_k k2], fun q => by omega⟩
    · rw [if_neg c]
      obtain ⟨S1, q1, q2, q3, -, q5, q6⟩ := c_s41 (M := M) hP (nOf P) 0 (up (up S 118 13 1) 118 8 0) (by omega) (by rw [up_c (by decide), up_c (by decide)]; exact h.en.1.1.1) (by rw [up_s]; rfl)
      have q1 : Fi_search_41 M 0 (up (up S 118 13 1) 118 8 0) = _ := q1
      have hF1 : FF S S1 := (hF0.tr (FF.u118 (Or.inl rfl))).tr ⟨fun x _ _ _ _ _ _ a7 a8 _ _ => q5 x a7 a8, fun k k1 _ _ _ _ _ => q6 k k1, fun k _ _ => by rw [q5 30 (by decide) (by decide)]⟩
      have gR : ∀ i, i < 99 * nOf P → (List.range (99 * nOf P)).getD i 0 = i := fun i hi => by
        rw [List.getD_eq_getElem?_getD, List.getElem?_range hi, Option.getD_some]
      have hO := nOf_le hP
      obtain ⟨S2, b1, b2, b3⟩ := c_fbeg (w := T 438) (L := List.range (99 * nOf P)) hP (fun s hs => List.mem_range.mp hs) (by rw [List.length_range]; omega) (99 * nOf P) 0 S1 (by rw [List.length_range]; omega) (by rw [List.length_range]; exact q2) (fun i hi => by rw [List.length_range] at hi; rw [q3 i (by omega) hi, gR i hi]) (fun i hi => absurd hi (Nat.not_lt_zero _))
      have b1 : Fi_begin_2 0 S1 = _ := b1
      have hF2 : FF S S2 := hF1.tr (FF.u (fun x _ a2 _ => b3 x a2))
      have hall : (List.range (99 * nOf P)).filter (pvD P (T 438) S2 0) = List.range (99 * nOf P) := List.filter_eq_self.mpr (fun a _ => pvD_t.mpr (fun d hd => absurd hd (Nat.not_lt_zero _)))
      have fE : ∀ x, 30 ≤ x → x < 50 → S2 x = S x := fun x x1 x2 => by rw [b3 x (by omega), q5 x (by omega) (by omega), up_c (by omega), up_c (by omega)]
      have f30 : S2 30 = S 30 := by rw [b3 30 (by decide), q5 30 (by decide) (by decide), up_c (by decide), up_c (by decide)]
      obtain ⟨M', hM'⟩ : ∃ M' : Nat, M = (M' : Int) := ⟨M.toNat, by omega⟩
      obtain ⟨S3, d1, d2, d3, d4, d5, d6⟩ := c_116 (w := T 438) (M := M') (L := List.range (99 * nOf P)) hP h.wd.1 (by omega) (by omega) (M' + 1) 0 S2 (by omega) (h.en.1.fr fE) (hF2.sw h.wd.2.2.1) (hr.fr hF2) (by rw [hall]; exact b2) (by rw [f30]; omega)
      have d1 : Fi_search_116 M' 0 S2 = _ := d1
      have hfin : (List.range (99 * nOf P)).filter (pvD P (T 438) S2 (M' + 1)) = srcL P T (T 438) := by
        rw [srcL_fit]
        refine List.filter_congr (fun k _ => ?_)
        rw [Bool.eq_iff_iff, pvD_fr hF2, pvD_t, fitD_t]
        constructor
        · intro g i hi
          obtain ⟨⟨x1, x2⟩, ⟨y1, y2⟩, z1, z2⟩ := a3 i (by omega)
          have hm := m3 i (Nat.zero_le _) (by omega)
          have gg := g (S 119 i).toNat (by omega) i (by omega) (by omega)
          rw [x1, y1, z1] at gg
          exact ⟨by omega, gg⟩
        · intro g d hd i hi hrow
          obtain ⟨⟨x1, x2⟩, ⟨y1, y2⟩, z1, z2⟩ := a3 i hi
          have gg := (g i (by omega)).2
          rw [← x1, ← y1, ← z1, hrow, Int.toNat_natCast] at gg
          exact gg
      rw [hfin] at d3
      rw [q1, e_Fi_begin, b1, Option.bind_some, hM', d1]
      have h118 : ∀ k, k ≠ 8 → S3 118 k = up S 118 13 1 118 k := fun k hk => by rw [d5 k hk, b3 118 (by decide), q6 k hk, up_k hk]
      exact ⟨S3, rfl, ⟨by rw [h118 13 (by decide), up_s], d3.1, fun i hi => (d3.2.2.2 i hi).1⟩, hF2.tr d4, d2, by rw [f30] at d6; omega, fun k k1 k2 => by rw [h118 k k1, up_k k2], fun q => by omega⟩
  · rw [if_neg (by omega)]
    obtain ⟨g1, g2⟩ := f4 f2
    exact ⟨S, rfl, ⟨f2, g1, g2⟩, FF.rf S, h.en.1, by omega, fun _ _ _ => rfl, fun _ => rfl⟩
end
