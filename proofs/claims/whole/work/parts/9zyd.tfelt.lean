/-! MINISTRY: what is felt told, both -/
section
variable {n : Nat} {P S T S' T' : MS} {g : Nat → Int} {E : Nat} {q : Int}
theorem dg_or {F G : Int} (hF : 0 ≤ F ∧ F < ((2 ^ 56 : Nat) : Int)) (hG : 0 ≤ G ∧ G < ((2 ^ 56 : Nat) : Int)) : (0 ≤ borL F G ∧ borL F G < ((2 ^ 56 : Nat) : Int)) ∧ ∀ j, dg (borL F G) j = (((dg F j).toNat ||| (dg G j).toNat : Nat) : Int) := by
  have h56 : ((2 ^ 56 : Nat) : Int) = 72057594037927936 := rfl
  obtain ⟨A, rfl⟩ : ∃ A : Nat, F = (A : Int) := ⟨F.toNat, by omega⟩
  obtain ⟨B, rfl⟩ : ∃ B : Nat, G = (B : Int) := ⟨G.toNat, by omega⟩
  have hA : A < 2 ^ 56 := Int.ofNat_lt.mp hF.2
  have hB : B < 2 ^ 56 := Int.ofNat_lt.mp hG.2
  rw [borL_nn (by omega) (by omega) (by omega) (by omega), Int.toNat_natCast, Int.toNat_natCast]
  refine ⟨⟨Int.natCast_nonneg _, Int.ofNat_lt.mpr (Nat.or_lt_two_pow hA hB)⟩, fun j => ?_⟩
  rw [dg_nat, dg_nat, dg_nat, Int.toNat_natCast, Int.toNat_natCast]
  congr 1
  apply Nat.eq_of_testBit_eq
  intro i
  rw [Nat.testBit_or, dg_test, dg_test, dg_test, Nat.testBit_or]
  cases decide (i < 7) <;> rfl
def fltEnd (f o v : Int) (T : MS) : Option MS := if T 401 5 = 0 then (if 0 ≤ wr ((wr (4 * o)) + f) ∧ wr ((wr (4 * o)) + f) < 32 then some (up T 434 ((wr ((wr (4 * o)) + f)).toNat) v) else none) else some T
theorem fltEnd_bad {f o v : Int} (h : T 401 5 ≠ 0) : fltEnd f o v T = some T := by unfold fltEnd; rw [if_neg h]
theorem rw4 {o f : Nat} (ho : o < 8) (hf : f < 4) : wr ((wr (4 * (o : Int))) + (f : Int)) = ((4 * o + f : Nat) : Int) := by
  rw [wrN (z := 4 * (o : Int)) (by omega) (by omega), wrN (by omega) (by omega)]; omega
theorem fltEnd_ok {f o : Nat} {v : Int} (h : T 401 5 = 0) (ho : o < 8) (hf : f < 4) : fltEnd f o v T = some (up T 434 (4 * o + f) v) := by
  unfold fltEnd
  rw [if_pos h, rw4 ho hf, if_pos (by omega), Int.toNat_natCast]
theorem flt51 {f o : Int} : Mo_feltTold_51 f o T = (m_Mo_asks 413 T).bind fun p1 => (m_Mo_number 1 99 p1).bind fun p2 => fltEnd f o p2.1 p2.2 := e_Mo_feltTold_51 _ _ _
theorem flt51_bad {f o : Int} (h : T 401 5 ≠ 0) : Mo_feltTold_51 f o T = some T := by rw [flt51, bad_asks h, Option.bind_some, bad_number h, Option.bind_some, fltEnd_bad h]
theorem two_felt {t : Tok} {L1 : List Tok} {T1 : MS} (h : LK2 g E S T (t :: L1)) (ht : t.1 ≠ 35) (hT : RTK g E T1 L1) (f1 : FRt T T1) (hp : PT S T) : RST g E S T (T 401 46 + (((t :: L1).length : Nat) : Int)) (m_Cl_readFelt S) (m_Mo_feltTold T1) := by
  obtain ⟨o1, o2, o3, o4, -⟩ := hp.1
  obtain ⟨g1, g2, g3⟩ := hp.2.1
  have e22 := hp.2.2.2.2.2.2.2.1
  obtain ⟨m1, hm1⟩ : ∃ m : Nat, S 5 1 = (m : Int) := ⟨(S 5 1).toNat, by omega⟩
  obtain ⟨m0, hm0⟩ : ∃ m : Nat, S 5 0 = (m : Int) := ⟨(S 5 0).toNat, by omega⟩
  have h0 : ∀ {T'}, FRn T T' → T' 430 0 = (m0 : Int) := fun {T'} f => by rw [f.1 430 (by decide), ← o1, hm0]
  have h1 : ∀ {T'}, FRn T T' → T' 430 1 = (m1 : Int) := fun {T'} f => by rw [f.1 430 (by decide), ← g1, hm1]
  obtain ⟨S1, s1, s2', s3⟩ := c_adv h.1 (h.ne1 ht)
  have s2 := h.go ht s2' s3 hT f1.1
  have e22a : S1 22 2 = 1 := by rw [s3.1 22 (by decide)]; exact e22
  have e51 : S1 5 1 = (m1 : Int) := by rw [s3.1 5 (by decide), hm1]
  rw [e_Cl_readFelt, e_Mo_feltTold, s1, Option.bind_some, if_pos e22a, if_pos e22a, e51]
  have kt1 : ∀ (z : MS), m_Cl_nameAmong_feelingName (m1 : Int) z = nmA 1 m1 z := fun z => rfl
  have kt0 : ∀ (z : MS), m_Cl_nameAmong_officerName (m0 : Int) z = nmA 0 m0 z := fun z => rfl
  obtain ⟨t1, L2, rfl⟩ := s2.cons
  rw [kt1]
  rcases two_named (kd := 1) (m := m1) (but := -1) (by decide) (by rw [if_neg (by decide)]; omega) s2 (h1 f1.nq) (fun k hk => by rw [f1.1 431 (by decide), show nmI 1 S1 = S1 9 from rfl, s3.1 9 (by decide)]; exact g3 k (by omega)) with ⟨ht1, c1, f, T2, a1, a2, a3, a4, a5, a6, a7, a8⟩ | ⟨v, S2, T2, a3, a4, a5, a6, a7⟩
  · rw [a4.2, if_neg (show ¬ ((f : Int) = -1) by omega)] at a5
    have a5 : m_Mo_named 1 (-1) T1 = _ := a5
    rw [a3, a5, Option.bind_some, Option.bind_some]
    dsimp only
    rw [if_neg (show ¬ ((f : Int) = -1) by omega)]
    obtain ⟨S3, b1, b2, b3⟩ := c_adv s2.1 (s2.ne1 ht1)
    have l3 := s2.go ht1 b2 b3 a6 a8.1
    rw [b1, Option.bind_some]
    have c3 := s3.mc.tr b3.mc
    have r2 := f1.nq.tr a8
    obtain ⟨t2, L3, rfl⟩ := l3.cons
    rcases two_word hr_412 l3 with ⟨-, S4, T4, d1, d2, d3, d4, d5⟩ | ⟨-, S4, T4, d1, d2, d3, d4, d5⟩
    · have d1 : m_Te_takeWord 8 S3 = _ := d1
      rw [d1, d2, Option.bind_some, Option.bind_some]
      dsimp only
      have fS4 : ∀ x, x ≠ 2 → S4 x = S x := fun x hx => by rw [d4.1 x hx, b3.1 x hx, s3.1 x hx]
      have c4 := c3.tr d4.mc
      have r4 := r2.tr d5.nq
      have e22b : S4 22 2 = 1 := by rw [fS4 22 (by decide)]; exact e22
      have e50b : S4 5 0 = (m0 : Int) := by rw [fS4 5 (by decide), hm0]
      rw [if_neg n10, if_pos e22b, if_pos e22b, e50b, kt0]
      obtain ⟨t3, L4, rfl⟩ := d3.cons
      rcases two_named (kd := 0) (m := m0) (but := -1) (by decide) (by rw [if_pos rfl]; omega) d3 (h0 r4) (fun k hk => by rw [r4.1 431 (by decide), show 8 * 0 + k = k by omega, show nmI 0 S4 = S4 6 from rfl, fS4 6 (by decide)]; exact (o3 k (by omega)).1) with ⟨ht3, c2, o, T5, i1, i2, i3, i4, i5, i6, i7, i8⟩ | ⟨v, S5, T5, i3, i4, i5, i6, i7⟩
      · rw [i4.2, if_neg (show ¬ ((o : Int) = -1) by omega)] at i5
        have i5 : m_Mo_named 0 (-1) T4 = _ := i5
        have r5 := r4.tr i8
        have ho8 : o < 8 := by omega
        have hf4 : f < 4 := by omega
        obtain ⟨y1, y2, y3⟩ := hp.2.2.2.2.1
        obtain ⟨z1, z2⟩ := y1 f hf4
        have e13 : S4 13 f = S 13 f := by rw [fS4 13 (by decide)]
        have e434 : T5 434 (4 * o + f) = dg (S 13 f) o := by rw [r5.1 434 (by decide), z2 o ho8]
        rw [i3, i5, Option.bind_some, Option.bind_some]
        dsimp only
        rw [if_pos i6.2.2.2.1, rw4 ho8 hf4, if_pos (show (0 : Int) ≤ ((4 * o + f : Nat) : Int) ∧ ((4 * o + f : Nat) : Int) < 32 by omega), Int.toNat_natCast, e_Cl_readFelt_74, if_neg (show ¬ ((o : Int) = -1) by omega), if_pos e22b, if_pos (show (0 : Int) ≤ (f : Int) ∧ (f : Int) < 4 by omega), Int.toNat_natCast, e13, c_strengthIn z1.1 z1.2 (by omega), Option.bind_some, Int.toNat_natCast]
        dsimp only
        have hdg := dg_lt (S 13 f) o
        by_cases hz : dg (S 13 f) o = 0
        · rw [if_neg (show ¬ (0 < dg (S 13 f) o) by omega), if_pos (show T5 434 (4 * o + f) = 0 by rw [e434]; exact hz), flt51]
          obtain ⟨S6, j1, j2, j3⟩ := c_adv d3.1 (d3.ne1 ht3)
          have l6 := d3.go ht3 j2 j3 i6 i8.1
          rw [j1, Option.bind_some]
          have c6 := c4.tr j3.mc
          obtain ⟨t4, L5, rfl⟩ := l6.cons
          rcases two_word hr_413 l6 with ⟨-, S7, T7, w1, w2, w3, w4, w5⟩ | ⟨-, S7, T7, w1, w2, w3, w4, w5⟩
          · have w1 : m_Te_takeWord 9 S6 = _ := w1
            rw [w1, w2, Option.bind_some, Option.bind_some]
            dsimp only
            rw [if_neg n10]
            have c7 := c6.tr w4.mc
            have r7 := r5.tr w5.nq
            obtain ⟨t5, L6, rfl⟩ := w3.cons
            rcases two_num (lo := 1) (hi := 99) w3 with ⟨v, S8, T8, x0, -, x1, x2, x3, x4, x5⟩ | ⟨v, S8, T8, x1, x2, -, x3, x4, x5⟩
            · rw [x1, x2, Option.bind_some, Option.bind_some]
              dsimp only
              have c8 := c7.tr x4.mc
              have r8 := r7.tr x5.nq
              have fS : ∀ x, x ≠ 2 → S8 x = S x := fun x hx => by rw [x4.1 x hx, w4.1 x hx, j3.1 x hx, fS4 x hx]
              have e22c : S8 22 2 = 1 := by rw [fS 22 (by decide)]; exact e22
              obtain ⟨sv, rfl⟩ : ∃ sv : Nat, v = (sv : Int) := ⟨v.toNat, by omega⟩
              obtain ⟨G, p1, p2, p3⟩ := c_pk (S := S8) (o := o) (s := sv) ho8 (by omega)
              have hfm : (0 : Int) ≤ (f : Int) ∧ (f : Int) < 4 := by omega
              rw [e_Cl_readFelt_147, if_neg (show ¬ (sv : Int) = -1 by omega), if_pos e22c, if_pos hfm, p1, Option.bind_some, if_pos hfm, Int.toNat_natCast, fltEnd_ok x3.2.1.2.2.2.1 ho8 hf4, fS 13 (by decide)]
              obtain ⟨k1, k2⟩ := dg_or z1 p2
              have hdgs : ∀ j, j < 8 → dg (borL (S 13 f) G) j = if j = o then (sv : Int) else dg (S 13 f) j := fun j hj => by
                rw [k2 j, p3 j hj]
                dsimp only
                by_cases e : j = o
                · rw [if_pos e, if_pos e, e, hz, Int.toNat_natCast, show ((0 : Int).toNat) = 0 from rfl, Nat.zero_or]
                · rw [if_neg e, if_neg e, show ((0 : Int).toNat) = 0 from rfl, Nat.or_zero]
                  have := dg_lt (S 13 f) j
                  omega
              obtain ⟨b1, b2, b3, b4, b5, b6, b7, b8, b9⟩ := hp.rd (S' := S8) (T' := T8) fS r8.1 r8.u46.1 r8.u46.2
              have uS : ∀ x, x ≠ 13 → up S8 13 f (borL (S 13 f) G) x = S8 x := fun x h1 => up_c h1
              have uT : ∀ x, x ≠ 434 → up T8 434 (4 * o + f) (sv : Int) x = T8 x := fun x h1 => up_c h1
              refine Or.inl ⟨_, _, L6, rfl, rfl, x3.stay (fun k _ _ => by rw [uS 2 (by decide)]) (uS 3 (by decide)) (uS 4 (by decide)) (fun k _ _ => by rw [uT 401 (by decide)]) (fun x hx => uT x (by omega)), ?_, ?_, ?_, c8.tr ?_, r8.mm.tr ?_⟩
              · rw [uT 401 (by decide), r8.u46.1]; simp only [List.length_cons]; omega
              · refine ⟨b1.fr (by rw [uS 5 (by decide)]) (uS 6 (by decide)) (uS 7 (by decide)) (uS 8 (by decide)) (by rw [uT 430 (by decide)]) (fun k _ => by rw [uT 431 (by decide)]) (uT 432 (by decide)), b2.fr (by rw [uS 5 (by decide)]) (uS 9 (by decide)) (by rw [uT 430 (by decide)]) (fun k _ _ => by rw [uT 431 (by decide)]), b3.fr (by rw [uS 5 (by decide)]) (by rw [uS 5 (by decide)]; exact Int.le_refl _) (uS 10 (by decide)) (uS 11 (by decide)) (uS 12 (by decide)) (by rw [uT 430 (by decide)]) (uT 433 (by decide)), b4.fr (by rw [uS 5 (by decide)]) (by rw [uT 430 (by decide)]), ⟨fun f' hf' => ?_, fun i hi => ?_, fun o' f' ho' hf' hq => ?_⟩, b6.fr (by rw [uS 14 (by decide)]) (by rw [uS 22 (by decide)]) (uS 20 (by decide)) (uS 21 (by decide)) (uS 15 (by decide)) (by rw [uS 5 (by decide)]) (by rw [uT 401 (by decide)]) (uT 435 (by decide)) (uT 436 (by decide)) (uT 437 (by decide)), by rw [uS 5 (by decide), uT 401 (by decide)]; exact b7, by rw [uS 22 (by decide)]; exact b8, by rw [uS 23 (by decide)]; exact b9⟩
                · by_cases e : f' = f
                  · rw [e, up_s]
                    refine ⟨k1, fun o' ho' => ?_⟩
                    rw [hdgs o' ho']
                    by_cases eo : o' = o
                    · rw [if_pos eo, eo, up_s]
                    · rw [if_neg eo, up_k (by omega), r8.1 434 (by decide)]
                      exact z2 o' ho'
                  · rw [up_k e]
                    refine ⟨(b5.1 f' hf').1, fun o' ho' => ?_⟩
                    rw [up_k (by omega)]
                    exact (b5.1 f' hf').2 o' ho'
                · by_cases e : i = 4 * o + f
                  · rw [e, up_s]; omega
                  · rw [up_k e]; exact b5.2.1 i hi
                · rw [uS 5 (by decide), fS 5 (by decide), hm0, hm1] at hq
                  rw [up_k (by omega)]
                  exact b5.2.2 o' f' ho' hf' (by rw [fS 5 (by decide), hm0, hm1]; exact hq)
              · rw [uT 401 (by decide), r8.u46.2]
              · exact ⟨fun x hx => uS x (by omega), fun k _ => by rw [uS 2 (by decide)], by rw [uS 22 (by decide)], by rw [uS 23 (by decide)]⟩
              · exact ⟨fun x hx => uT x (by omega), fun k _ => by rw [uT 430 (by decide)], fun k _ => by rw [uT 431 (by decide), uT 432 (by decide)]; exact ⟨rfl, rfl⟩, fun k _ => by rw [uT 433 (by decide)], fun k _ => by rw [uT 435 (by decide), uT 436 (by decide)]; exact ⟨rfl, rfl⟩, fun k _ => by rw [uT 437 (by decide)], fun k _ _ _ _ _ _ _ _ _ _ _ _ _ => by rw [uT 401 (by decide)], fun w k hk => by rw [uT 432 (by decide)]; exact w k hk⟩
            · rw [x1, x2, Option.bind_some, Option.bind_some]
              dsimp only
              rw [e_Cl_readFelt_147, if_pos rfl, fltEnd_bad x3.ne]
              exact Or.inr ⟨_, _, rfl, rfl, x3, c7.tr x4.mc, (r7.tr x5.nq).mm⟩
          · have w1 : m_Te_takeWord 9 S6 = _ := w1
            rw [w1, w2, Option.bind_some, Option.bind_some]
            dsimp only
            rw [if_pos rfl, e_Cl_readFelt_147, if_pos rfl, bad_number w3.ne, Option.bind_some, fltEnd_bad w3.ne]
            exact Or.inr ⟨_, _, rfl, rfl, w3, c6.tr w4.mc, (r5.tr w5.nq).mm⟩
        · rw [if_pos (show 0 < dg (S 13 f) o by omega), if_neg (show ¬ T5 434 (4 * o + f) = 0 by rw [e434]; exact hz), i7, m_fail i6.2.2.2.1, Option.bind_some, d3.1.hd.2.1, c_refuseAt, Option.bind_some]
          dsimp only
          have b5 : up (up T5 401 5 3) 401 6 ((t3.2.1 : Nat) : Int) 401 5 ≠ 0 := by rw [up_k (by decide), up_s]; decide
          rw [if_pos (Or.inl rfl), flt51_bad b5]
          exact Or.inr ⟨_, _, rfl, rfl, BAD.mk2 3 t3.2.1 (by decide) (bdt_fail 3 _), c4.tr (FTx.ref _ _).mc, (r5.tr (FRt.fail _ _).nq).mm⟩
      · have i4 : m_Mo_named 0 (-1) T4 = _ := i4
        rw [i3, i4, Option.bind_some, Option.bind_some]
        dsimp only
        rw [e_Cl_readFelt_74, if_pos rfl, if_neg i5.ne, flt51_bad i5.ne]
        exact Or.inr ⟨_, _, rfl, rfl, i5, c4.tr i6.mc, (r4.tr i7).mm⟩
    · have d1 : m_Te_takeWord 8 S3 = _ := d1
      rw [d1, d2, Option.bind_some, Option.bind_some]
      dsimp only
      obtain ⟨y, hy⟩ := bad_named (T := T4) (kd := 0) (m := m0) (but := -1) (by decide) (by omega) (h0 (r2.tr d5.nq)) d3.ne
      have hy : m_Mo_named 0 (-1) T4 = _ := hy
      rw [if_pos rfl, e_Cl_readFelt_74, if_pos rfl, hy, Option.bind_some]
      dsimp only
      rw [if_neg d3.ne, flt51_bad d3.ne]
      exact Or.inr ⟨_, _, rfl, rfl, d3, c3.tr d4.mc, (r2.tr d5.nq).mm⟩
  · have a4 : m_Mo_named 1 (-1) T1 = _ := a4
    rw [a3, a4, Option.bind_some, Option.bind_some]
    dsimp only
    obtain ⟨y, hy⟩ := bad_named (T := T2) (kd := 0) (m := m0) (but := -1) (by decide) (by omega) (h0 (f1.nq.tr a7)) a5.ne
    have hy : m_Mo_named 0 (-1) T2 = _ := hy
    rw [if_pos rfl, bad_asks a5.ne, Option.bind_some, hy, Option.bind_some]
    dsimp only
    rw [if_neg a5.ne, flt51_bad a5.ne]
    exact Or.inr ⟨_, _, rfl, rfl, a5, s3.mc.tr a6.mc, (f1.nq.tr a7).mm⟩
end
