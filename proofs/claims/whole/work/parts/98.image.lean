/-! image -/
section
variable {n : Nat} {P S T : MS}
theorem Inv.img (h : Inv n P S T) {S' T' : MS} (s : ∀ x, x ≠ 1 → x ≠ 133 → S' x = S x) (s1 : ∀ k, k ≠ 11 → S' 1 k = S 1 k) (t : ∀ x, x ≠ 401 → x ≠ 476 → T' x = T x) (t1 : ∀ k, k ≠ 107 → T' 401 k = T 401 k) (hx : IMr S' T') : Inv (n + 1) P S' T' := by
  have h' := h.same
  obtain ⟨w1, w2, w3, w4, w5, w6⟩ := h'.wd
  exact Inv.mk1 h'.pln (h'.rp.fr (t 430 (by decide) (by decide)) (t 431 (by decide) (by decide)) (t 432 (by decide) (by decide)) (t 433 (by decide) (by decide)) (t 435 (by decide) (by decide)) (t 436 (by decide) (by decide)) (t 437 (by decide) (by decide))) (h'.nm.fr (s 32 (by decide) (by decide)) (s 35 (by decide) (by decide)))
    (h'.tx.fr (by rw [s 2 (by decide) (by decide)]) (s 3 (by decide) (by decide)) (t1 1 (by decide)) (t 402 (by decide) (by decide))) (h'.ft.fr (by rw [s 2 (by decide) (by decide)]) (by rw [s 2 (by decide) (by decide)]) (t1 7 (by decide)) (t1 8 (by decide))) (h.rf.fr (s 134 (by decide) (by decide)) (t 403 (by decide) (by decide)))
    (h'.sd.fr (s1 13 (by decide)) (t1 73 (by decide))) hx (h'.mk0.fr (s 22 (by decide) (by decide)) (by rw [s 23 (by decide) (by decide)]) (by rw [s 132 (by decide) (by decide)]) (s 17 (by decide) (by decide)) (s 18 (by decide) (by decide)) (fun x hx => t x (by omega) (by omega)))
    ⟨by rw [t 438 (by decide) (by decide)]; exact w1, by rw [t 438 (by decide) (by decide)]; exact w2, by rw [t 438 (by decide) (by decide)]; exact w3.fr (by rw [s 24 (by decide) (by decide)]) (by rw [s 24 (by decide) (by decide)]) (by rw [s 24 (by decide) (by decide)]) (s 25 (by decide) (by decide)), by rw [s 24 (by decide) (by decide), s 26 (by decide) (by decide), t 438 (by decide) (by decide)]; exact w4, by rw [s 24 (by decide) (by decide)]; exact w5, by rw [t1 56 (by decide)]; exact w6⟩
    ⟨by rw [s 27 (by decide) (by decide)]; exact h'.th.1, by rw [t1 57 (by decide)]; exact h'.th.2⟩ ⟨h'.en.1.fr (fun x h1 h2 => s x (by omega) (by omega)), by rw [s 30 (by decide) (by decide)]; exact h'.en.2⟩
    (h.hi.fr (by rw [s 51 (by decide) (by decide)]) (by rw [s 51 (by decide) (by decide)]) (fun x h1 h2 => s x (by omega) (by omega)) (t1 71 (by decide)) (t1 72 (by decide)) (t 450 (by decide) (by decide)))
    (h'.fd.fr (s 118 (by decide) (by decide)) (s 119 (by decide) (by decide)) (s 120 (by decide) (by decide)) (s 121 (by decide) (by decide)) (s 122 (by decide) (by decide)) (t1 64 (by decide)) (t 446 (by decide) (by decide)) (t 438 (by decide) (by decide)))
def imR (S T S' T' : MS) (k : Nat) : Prop := ((∀ x, x ≠ 1 → x ≠ 133 → S' x = S x) ∧ ∀ k, k ≠ 11 → S' 1 k = S 1 k) ∧ ((∀ x, x ≠ 401 → x ≠ 476 → T' x = T x) ∧ ∀ k, k ≠ 107 → T' 401 k = T 401 k) ∧ (S' 1 11 = (k : Int) ∧ T' 401 107 = (k : Int)) ∧ ∀ j : Nat, j < k → S' 133 j = T' 476 j
theorem im_add {S' T' : MS} {k : Nat} (h : imR S T S' T' k) (c : k < 59) (v : Int) : ∃ S'' T'', m_Ma_addToImage v S' = some S'' ∧ m_Mo_writes v T' = some T'' ∧ imR S T S'' T'' (k + 1) := by
  obtain ⟨⟨h1, h2⟩, ⟨h3, h4⟩, ⟨x1, x2⟩, h5⟩ := h
  rw [e_Ma_addToImage, e_Mo_writes, x1, x2, if_pos (by omega), if_pos (by omega), if_pos (by omega), wrN (by omega) (by omega), Int.toNat_natCast]
  refine ⟨_, _, rfl, rfl, ⟨fun x a1 a2 => ?_, fun j hj => ?_⟩, ⟨fun x a1 a2 => ?_, fun j hj => ?_⟩, ⟨?_, ?_⟩, fun j hj => ?_⟩
  · rw [up_c a1, up_c a2]; exact h1 x a1 a2
  · rw [up_k hj, up_c (by decide)]; exact h2 j hj
  · rw [up_c a1, up_c a2]; exact h3 x a1 a2
  · rw [up_k hj, up_c (by decide)]; exact h4 j hj
  · rw [up_s]; rfl
  · rw [up_s]; rfl
  · rw [up_c (show (133 : Nat) ≠ 1 by decide), up_c (show (476 : Nat) ≠ 401 by decide)]
    by_cases e : j = k
    · subst e; rw [up_s, up_s]
    · rw [up_k e, up_k e]; exact h5 j (by omega)
theorem im_bits (h : Inv n P S T) : ∀ (j v : Nat) (S' T' : MS), v + j = nCa P → imR S T S' T' (2 + 2 * v) → ∃ S'' T'', Ma_image_44 v S' = Ma_image_90 0 S'' ∧ Mo_image_35 ((2 * v : Nat) : Int) T' = Mo_image_65 0 T'' ∧ imR S T S'' T'' (2 + 2 * nCa P) := by
  have hP := h.pln
  have h3 := hP.2.2.1
  have h12 := nCa_le hP
  obtain ⟨s1, s2, s3, s4, s5⟩ := h.wd.2.2.1
  intro j
  induction j with
  | zero =>
    intro v S' T' e hr
    refine ⟨S', T', ?_, ?_, by rw [show nCa P = v by omega]; exact hr⟩
    · rw [e_Ma_image_44, hr.1.1 31 (by decide) (by decide), h.en.1.1.2.2.1, if_neg (by unfold nCa at e; omega)]
    · rw [e_Mo_image_35, e_Mo_carbonMany, Option.bind_some]
      dsimp only
      rw [hr.2.1.1 430 (by decide) (by decide), h.rp.n6, wrN (by omega) (by omega), if_neg (by unfold nCa at e; omega)]
  | succ j ih =>
    intro v S' T' e hr
    obtain ⟨b1, b2⟩ := s4 v (by omega)
    obtain ⟨S1, T1, p1, p2, p3⟩ := im_add hr (by omega) (T 438 (1 + 2 * v))
    obtain ⟨S2, T2, q1, q2, q3⟩ := im_add p3 (by omega) (T 438 (2 + 2 * v))
    obtain ⟨S3, T3, r1, r2, r3⟩ := ih (v + 1) S2 T2 (by omega) (by rw [show 2 + 2 * (v + 1) = 2 + 2 * v + 1 + 1 by omega]; exact q3)
    refine ⟨S3, T3, ?_, ?_, r3⟩
    · rw [e_Ma_image_44, hr.1.1 31 (by decide) (by decide), h.en.1.1.2.2.1, if_pos (by unfold nCa at e; omega), hr.1.1 24 (by decide) (by decide), bt_of (by omega) (by omega) (by omega) (by omega), Int.toNat_natCast, b1, p1, Option.bind_some, p3.1.1 24 (by decide) (by decide), bt_of (by omega) (by omega) (by omega) (by omega), Int.toNat_natCast, b2, q1, Option.bind_some, wrN (by omega) (by omega)]
      exact r1
    · have a1 : Mo_image_35 ((2 * v : Nat) : Int) T' = Mo_image_35 ((2 * v + 1 : Nat) : Int) T1 := by
        rw [e_Mo_image_35, e_Mo_carbonMany, Option.bind_some]
        dsimp only
        rw [hr.2.1.1 430 (by decide) (by decide), h.rp.n6, wrN (z := 2 * P 430 6) (by omega) (by omega), if_pos (by unfold nCa at e; omega), wrN (z := 1 + ((2 * v : Nat) : Int)) (by omega) (by omega), if_pos (by omega), show (1 + ((2 * v : Nat) : Int)).toNat = 1 + 2 * v by omega, hr.2.1.1 438 (by decide) (by decide), p2, Option.bind_some, wrN (by omega) (by omega)]
        rfl
      have a2 : Mo_image_35 ((2 * v + 1 : Nat) : Int) T1 = Mo_image_35 ((2 * (v + 1) : Nat) : Int) T2 := by
        rw [e_Mo_image_35, e_Mo_carbonMany, Option.bind_some]
        dsimp only
        rw [p3.2.1.1 430 (by decide) (by decide), h.rp.n6, wrN (z := 2 * P 430 6) (by omega) (by omega), if_pos (by unfold nCa at e; omega), wrN (z := 1 + ((2 * v + 1 : Nat) : Int)) (by omega) (by omega), if_pos (by omega), show (1 + ((2 * v + 1 : Nat) : Int)).toNat = 2 + 2 * v by omega, p3.2.1.1 438 (by decide) (by decide), q2, Option.bind_some, wrN (by omega) (by omega)]
        rfl
      rw [a1, a2]
      exact r2
theorem im_row (h : Inv n P S T) {o : Nat} (ho : o < 8) : ∀ (j v k : Nat) (S' T' : MS), v + j = nFe P → k + j ≤ 58 → imR S T S' T' k → ∃ S'' T'', Ma_image_100 o v S' = Ma_image_90 ((o + 1 : Nat) : Int) S'' ∧ Mo_image_75 o v T' = Mo_image_65 ((o + 1 : Nat) : Int) T'' ∧ imR S T S'' T'' (k + j) := by
  have hP := h.pln
  have h2 := hP.2.1
  have w3 := h.wd.2.2.1
  intro j
  induction j with
  | zero =>
    intro v k S' T' e hk hr
    refine ⟨S', T', ?_, ?_, hr⟩
    · rw [e_Ma_image_100, hr.1.1 31 (by decide) (by decide), h.en.1.1.2.1, if_neg (by unfold nFe at e; omega), wrN (by omega) (by omega)]
      rfl
    · rw [e_Mo_image_75, e_Mo_feelingMany, Option.bind_some]
      dsimp only
      rw [hr.2.1.1 430 (by decide) (by decide), h.rp.n5, if_neg (by unfold nFe at e; omega), wrN (by omega) (by omega)]
      rfl
  | succ j ih =>
    intro v k S' T' e hk hr
    have hv : v < 4 := by unfold nFe at e; omega
    obtain ⟨S1, T1, p1, p2, p3⟩ := im_add hr (by omega) (T 438 (25 + 4 * o + v))
    obtain ⟨S2, T2, r1, r2, r3⟩ := ih (v + 1) (k + 1) S1 T1 (by omega) (by omega) p3
    refine ⟨S2, T2, ?_, ?_, by rw [show k + (j + 1) = k + 1 + j by omega]; exact r3⟩
    · rw [e_Ma_image_100, hr.1.1 31 (by decide) (by decide), h.en.1.1.2.1, if_pos (by unfold nFe at e; omega), c_str_now (w := T 438) (w3.fr (by rw [hr.1.1 24 (by decide) (by decide)]) (by rw [hr.1.1 24 (by decide) (by decide)]) (by rw [hr.1.1 24 (by decide) (by decide)]) (hr.1.1 25 (by decide) (by decide))) ho hv, Option.bind_some]
      dsimp only
      rw [p1, Option.bind_some, wrN (by omega) (by omega)]
      exact r1
    · rw [e_Mo_image_75, e_Mo_feelingMany, Option.bind_some]
      dsimp only
      rw [hr.2.1.1 430 (by decide) (by decide), h.rp.n5, if_pos (by unfold nFe at e; omega), m_str ho hv, Option.bind_some]
      dsimp only
      rw [hr.2.1.1 438 (by decide) (by decide), p2, Option.bind_some, wrN (by omega) (by omega)]
      exact r2
theorem im_rows (h : Inv n P S T) : ∀ (j v k : Nat) (S' T' : MS), v + j = nOf P → k + 4 * j ≤ 58 → imR S T S' T' k → ∃ S'' T'' k', Ma_image_90 v S' = Ma_image_139 241 0 S'' ∧ Mo_image_65 v T' = ((m_Mo_checked 476 (T'' 401 107) T'').bind fun p2 => (m_Mo_writes p2.1 p2.2).bind fun p3 => some (p3 401 107, p3)) ∧ k' ≤ 58 ∧ imR S T S'' T'' k' := by
  have hP := h.pln
  have h1 := hP.1
  have h2 := hP.2.1
  intro j
  induction j with
  | zero =>
    intro v k S' T' e hk hr
    refine ⟨S', T', k, ?_, ?_, by omega, hr⟩
    · rw [e_Ma_image_90, hr.1.1 31 (by decide) (by decide), h.en.1.1.1, if_neg (by unfold nOf at e; omega)]
    · rw [e_Mo_image_65, e_Mo_officerMany, Option.bind_some]
      dsimp only
      rw [hr.2.1.1 430 (by decide) (by decide), h.rp.n4, if_neg (by unfold nOf at e; omega)]
  | succ j ih =>
    intro v k S' T' e hk hr
    have hv : v < 8 := by unfold nOf at e; omega
    have hf : nFe P ≤ 4 := by unfold nFe; omega
    obtain ⟨S1, T1, p1, p2, p3⟩ := im_row h hv (nFe P) 0 k S' T' (by omega) (by omega) hr
    obtain ⟨S2, T2, k', r1, r2, r3, r4⟩ := ih (v + 1) (k + nFe P) S1 T1 (by omega) (by omega) p3
    refine ⟨S2, T2, k', ?_, ?_, r3, r4⟩
    · rw [e_Ma_image_90, hr.1.1 31 (by decide) (by decide), h.en.1.1.1, if_pos (by unfold nOf at e; omega)]
      exact p1.trans r1
    · rw [e_Mo_image_65, e_Mo_officerMany, Option.bind_some]
      dsimp only
      rw [hr.2.1.1 430 (by decide) (by decide), h.rp.n4, if_pos (by unfold nOf at e; omega)]
      exact p2.trans r2
theorem im_sum {S' T' : MS} {k : Nat} (hr : imR S T S' T' k) (hk : k ≤ 58) : ∀ (j v : Nat) (x : Int), v + j = k → ∃ r, Ma_image_139 x v S' = ((m_Ma_addToImage r S').bind fun p1 => some (p1 1 11, p1)) ∧ Mo_checked_6 476 k x v T' = some (r, T') := by
  intro j
  induction j with
  | zero =>
    intro v x e
    refine ⟨x, ?_, ?_⟩
    · rw [e_Ma_image_139, hr.2.2.1.1, if_neg (by omega)]
    · rw [e_Mo_checked_6, if_neg (by omega)]
  | succ j ih =>
    intro v x e
    obtain ⟨r, r1, r2⟩ := ih (v + 1) ((wr ((wr (3 * x)) + (S' 133 v))).tmod 251) (by omega)
    refine ⟨r, ?_, ?_⟩
    · rw [e_Ma_image_139, hr.2.2.1.1, if_pos (by omega), if_pos (by omega), Int.toNat_natCast, wrN (z := (v : Int) + 1) (by omega) (by omega)]
      exact r1
    · have hkl : kl 476 = 59 := by decide +kernel
      rw [e_Mo_checked_6, if_pos (by omega), if_pos (by decide +kernel), hkl, if_pos (by omega), Int.toNat_natCast, wrN (z := (v : Int) + 1) (by omega) (by omega), ← hr.2.2.2 v (by omega)]
      exact r2
theorem op_image (h : Inv n P S T) : OK2 n P (m_Ma_image S) (m_Mo_image T) := by
  have hP := h.pln
  have h12 := nCa_le hP
  have h1 := hP.1
  have hw0 := h.w0
  obtain ⟨s1, s2, s3, s4, s5⟩ := h.wd.2.2.1
  have hr0 : imR S T (up S 1 11 0) (up T 401 107 0) 0 := ⟨⟨fun x a1 a2 => up_c a1, fun j hj => up_k hj⟩, ⟨fun x a1 a2 => up_c a1, fun j hj => up_k hj⟩, ⟨up_s _ _ _ _, up_s _ _ _ _⟩, fun j hj => absurd hj (by omega)⟩
  obtain ⟨S1, T1, p1, p2, p3⟩ := im_add hr0 (by decide) (T 438 0 / 256)
  obtain ⟨S2, T2, q1, q2, q3⟩ := im_add p3 (by decide) (T 438 0 % 256)
  obtain ⟨S3, T3, r1, r2, r3⟩ := im_bits h (nCa P) 0 S2 T2 (by omega) q3
  obtain ⟨S4, T4, k, u1, u2, u3, u4⟩ := im_rows h (nOf P) 0 _ S3 T3 (by omega) (by unfold nOf; omega) r3
  obtain ⟨c, v1, v2⟩ := im_sum u4 u3 k 0 241 (by omega)
  obtain ⟨S5, T5, y1, y2, y3⟩ := im_add u4 (by omega) c
  have r1 : Ma_image_44 0 S2 = Ma_image_90 0 S3 := r1
  have r2 : Mo_image_35 0 T2 = Mo_image_65 0 T3 := r2
  have u1 : Ma_image_90 0 S3 = Ma_image_139 241 0 S4 := u1
  have v1 : Ma_image_139 241 0 S4 = _ := v1
  have v2 : Mo_checked_6 476 k 241 0 T4 = some (c, T4) := v2
  have hc : m_Ma_image S = some (S5 1 11, S5) := by
    rw [e_Ma_image, s1, shr_div (by omega) (by omega) (by omega) (by omega), show ((2 ^ (8 : Int).toNat : Nat) : Int) = 256 from rfl, p1, Option.bind_some, p3.1.1 24 (by decide) (by decide), s1, band_255, q1, Option.bind_some, r1, u1, v1, y1]
    rfl
  have hm : m_Mo_image T = some (T5 401 107, T5) := by
    rw [e_Mo_image, Int.tdiv_eq_ediv_of_nonneg hw0.1, wrN (by omega) (by omega), p2, Option.bind_some, p3.2.1.1 438 (by decide) (by decide), Int.tmod_eq_emod_of_nonneg hw0.1, q2, Option.bind_some, r2]
    have u2 : Mo_image_65 0 T3 = _ := u2
    rw [u2, u4.2.2.1.2, e_Mo_checked, v2, Option.bind_some, y2]
    rfl
  rw [hc, hm, y3.2.2.1.1, y3.2.2.1.2]
  exact ⟨_, _, _, rfl, rfl, h.img y3.1.1 y3.1.2 y3.2.1.1 y3.2.1.2 ⟨by rw [y3.2.2.1.1, y3.2.2.1.2], by rw [y3.2.2.1.1]; omega, fun j hj => y3.2.2.2 j (by rw [y3.2.2.1.1] at hj; omega)⟩⟩
end
