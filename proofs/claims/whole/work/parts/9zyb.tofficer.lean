/-! MINISTRY: an officer told, both -/
section
variable {n : Nat} {P S T S' T' : MS} {g : Nat → Int} {E : Nat} {q : Int}
theorem LK2.cons {L : List Tok} (h : LK2 g E S T L) : ∃ t1 L2, L = t1 :: L2 := by
  cases L with
  | nil => exact absurd rfl h.ne
  | cons a b => exact ⟨a, b, rfl⟩
theorem FRt.u46 {T T' : MS} (f : FRt T T') : T' 401 46 = T 401 46 ∧ T' 401 47 = T 401 47 := ⟨f.2 46 (by decide) (by decide) (by decide) (by decide) (by decide), f.2 47 (by decide) (by decide) (by decide) (by decide) (by decide)⟩
theorem FRn.u46 {T T' : MS} (f : FRn T T') : T' 401 46 = T 401 46 ∧ T' 401 47 = T 401 47 := ⟨f.2 46 (by decide) (by decide) (by decide) (by decide) (by decide) (by decide), f.2 47 (by decide) (by decide) (by decide) (by decide) (by decide) (by decide)⟩
/-- the officer's end, when a fault is known -/
def offEnd (v a b : Int) (T : MS) : Option MS := if T 401 5 = 0 then (if 0 ≤ T 430 0 ∧ T 430 0 < 32 then (if 0 ≤ wr (2 * (T 430 0)) ∧ wr (2 * (T 430 0)) < 32 then (if 0 ≤ wr ((wr (2 * (T 430 0))) + 1) ∧ wr ((wr (2 * (T 430 0))) + 1) < 32 then some (up (up (up (up T 431 ((T 430 0).toNat) v) 432 ((wr (2 * (T 430 0))).toNat) a) 432 ((wr ((wr (2 * (T 430 0))) + 1)).toNat) b) 430 0 (wr ((T 430 0) + 1))) else none) else none) else none) else some T
theorem offEnd_bad {v a b : Int} (h : T 401 5 ≠ 0) : offEnd v a b T = some T := by unfold offEnd; rw [if_neg h]
theorem offEnd_ok {v a b : Int} {m : Nat} (h : T 401 5 = 0) (hm : T 430 0 = (m : Int)) (h8 : m < 8) : offEnd v a b T = some (up (up (up (up T 431 m v) 432 (2 * m) a) 432 (2 * m + 1) b) 430 0 ((m + 1 : Nat) : Int)) := by
  unfold offEnd
  simp only [hm]
  have e1 : wr (2 * (m : Int)) = ((2 * m : Nat) : Int) := by rw [wrN (by omega) (by omega)]; omega
  have e2 : wr (((2 * m : Nat) : Int) + 1) = ((2 * m + 1 : Nat) : Int) := wr_suc2 (show 2 * m < 16 by omega) (by decide)
  simp only [e1, e2, wr_suc2 (show m < 8 from h8) (by decide : (8 : Nat) ≤ 100000), Int.toNat_natCast]
  rw [if_pos h, if_pos (by omega), if_pos (by omega), if_pos (by omega)]
theorem two_officer {t : Tok} {L1 : List Tok} {T1 : MS} (h : LK2 g E S T (t :: L1)) (ht : t.1 ≠ 35) (hT : RTK g E T1 L1) (f1 : FRt T T1) (hp : PT S T) : RST g E S T (T 401 46 + (((t :: L1).length : Nat) : Int)) (m_Cl_readOfficer S) (m_Mo_officerTold ((t.2.1 : Nat) : Int) T1) := by
  obtain ⟨g1, g2, g3, -⟩ := hp.1
  have e22 := hp.2.2.2.2.2.2.2.1
  obtain ⟨m, hm⟩ : ∃ m : Nat, S 5 0 = (m : Int) := ⟨(S 5 0).toNat, by omega⟩
  have hm1 : T1 430 0 = (m : Int) := by rw [f1.1 430 (by decide), ← g1, hm]
  obtain ⟨q1, q2⟩ := two_kind (a := (m : Int)) (b := 8) h ht hT f1
  have hF := fun b => m_full (kd := 0) (room := 8) (b := b) (T := T1) (by decide) hm1 hT.2.2.2.1
  rw [e_Cl_readOfficer, if_pos e22, hm]
  have hM : m_Mo_officerTold ((t.2.1 : Nat) : Int) T1 = (m_Mo_isFull 0 8 ((t.2.1 : Nat) : Int) T1).bind fun p1 => if p1.1 = 0 then ((m_Mo_newName p1.2).bind fun p2 => (m_Mo_asks 405 p2.2).bind fun p3 => (m_Mo_number 0 9 p3).bind fun p4 => (m_Mo_asks 406 p4.2).bind fun p5 => (m_Mo_number 0 9 p5).bind fun p6 => offEnd p2.1 p4.1 p6.1 p6.2) else some p1.2 := e_Mo_officerTold _ _
  rw [hM]
  by_cases c : m < 8
  · obtain ⟨S1, s1, s2, s3⟩ := q1 (by omega)
    have hF0 := (hF ((t.2.1 : Nat) : Int)).1 (by omega)
    have hF0 : m_Mo_isFull 0 8 ((t.2.1 : Nat) : Int) T1 = _ := hF0
    rw [s1, hF0, Option.bind_some, Option.bind_some]
    dsimp only
    rw [if_neg n10, if_pos rfl]
    have hp1 := hp.rn s3 f1.nq
    obtain ⟨t1, L2, rfl⟩ := s2.cons
    rcases two_new s2 hp1 with ⟨ht1, cn, v, S2, T2, a1, a2, a3, a4, a5, a6, a7, a8⟩ | ⟨v, S2, T2, a1, a2, a3, a4, a5⟩
    · rw [a1, a3, Option.bind_some, Option.bind_some]
      dsimp only
      rw [if_neg a2]
      have c2 := s3.mc.tr a6.mc
      have r2 := f1.nq.tr a7
      obtain ⟨t2, L3, rfl⟩ := a5.cons
      rcases two_word hr_405 a5 with ⟨-, S3, T3, b1, b2, b3, b4, b5⟩ | ⟨-, S3, T3, b1, b2, b3, b4, b5⟩
      · have b1 : m_Te_takeWord 1 S2 = _ := b1
        rw [b1, b2, Option.bind_some, Option.bind_some]
        dsimp only
        rw [if_neg n10]
        have c3 := c2.tr b4.mc
        have r3 := r2.tr b5.nq
        obtain ⟨t3, L4, rfl⟩ := b3.cons
        rcases two_num (lo := 0) (hi := 9) b3 with ⟨w1, S4, T4, d0, -, d1, d2, d3, d4, d5⟩ | ⟨w1, S4, T4, d1, d2, -, d3, d4, d5⟩
        · rw [d1, d2, Option.bind_some, Option.bind_some]
          dsimp only
          rw [if_neg (show ¬ w1 = -1 by omega)]
          have c4 := c3.tr d4.mc
          have r4 := r3.tr d5.nq
          obtain ⟨t4, L5, rfl⟩ := d3.cons
          rcases two_word hr_406 d3 with ⟨-, S5, T5, i1, i2, i3, i4, i5⟩ | ⟨-, S5, T5, i1, i2, i3, i4, i5⟩
          · have i1 : m_Te_takeWord 2 S4 = _ := i1
            rw [i1, i2, Option.bind_some, Option.bind_some]
            dsimp only
            rw [if_neg n10]
            have c5 := c4.tr i4.mc
            have r5 := r4.tr i5.nq
            obtain ⟨t5, L6, rfl⟩ := i3.cons
            rcases two_num (lo := 0) (hi := 9) i3 with ⟨w2, S6, T6, j0, -, j1, j2, j3, j4, j5⟩ | ⟨w2, S6, T6, j1, j2, -, j3, j4, j5⟩
            · rw [j1, j2, Option.bind_some, Option.bind_some]
              dsimp only
              have c6 := c5.tr j4.mc
              have r6 := r5.tr j5.nq
              have fS : ∀ x, x ≠ 2 → S6 x = S x := fun x hx => by rw [j4.1 x hx, i4.1 x hx, d4.1 x hx, b4.1 x hx, a6.1 x hx, s3.1 x hx]
              have e22' : S6 22 2 = 1 := by rw [fS 22 (by decide)]; exact e22
              have hm2 : T6 430 0 = (m : Int) := by rw [r6.1 430 (by decide), ← g1, hm]
              have hm3 : S6 5 0 = (m : Int) := by rw [fS 5 (by decide), hm]
              have hm0 : (0 : Int) ≤ (m : Int) ∧ (m : Int) < 8 := by omega
              rw [if_neg (show ¬ w2 = -1 by omega), if_pos e22', if_pos hm0, if_pos e22', if_pos hm0, if_pos e22', if_pos hm0, if_pos e22', offEnd_ok j3.2.1.2.2.2.1 hm2 c, wr_suc2 (show m < 8 from c) (by decide), Int.toNat_natCast]
              obtain ⟨b1, b2, b3, b4, b5, b6, b7, b8, b9⟩ := hp.rd (S' := S6) (T' := T6) fS r6.1 r6.u46.1 r6.u46.2
              have uS : ∀ x, x ≠ 5 → x ≠ 6 → x ≠ 7 → x ≠ 8 → up (up (up (up S6 6 m cn) 7 m w1) 8 m w2) 5 0 ((m + 1 : Nat) : Int) x = S6 x := fun x h1 h2 h3 h4 => by rw [up_c h1, up_c h4, up_c h3, up_c h2]
              have uS5 : ∀ k, k ≠ 0 → up (up (up (up S6 6 m cn) 7 m w1) 8 m w2) 5 0 ((m + 1 : Nat) : Int) 5 k = S6 5 k := fun k hk => by rw [up_k hk, up_c (by decide), up_c (by decide), up_c (by decide)]
              have uS6 : ∀ k, up (up (up (up S6 6 m cn) 7 m w1) 8 m w2) 5 0 ((m + 1 : Nat) : Int) 6 k = if k = m then cn else S6 6 k := fun k => by
                rw [up_c (by decide), up_c (by decide), up_c (by decide)]
                by_cases e : k = m
                · rw [e, up_s, if_pos rfl]
                · rw [up_k e, if_neg e]
              have uS7 : ∀ k, up (up (up (up S6 6 m cn) 7 m w1) 8 m w2) 5 0 ((m + 1 : Nat) : Int) 7 k = if k = m then w1 else S6 7 k := fun k => by
                rw [up_c (by decide), up_c (by decide)]
                by_cases e : k = m
                · rw [e, up_s, if_pos rfl]
                · rw [up_k e, if_neg e, up_c (by decide)]
              have uS8 : ∀ k, up (up (up (up S6 6 m cn) 7 m w1) 8 m w2) 5 0 ((m + 1 : Nat) : Int) 8 k = if k = m then w2 else S6 8 k := fun k => by
                rw [up_c (by decide)]
                by_cases e : k = m
                · rw [e, up_s, if_pos rfl]
                · rw [up_k e, if_neg e, up_c (by decide), up_c (by decide)]
              have uT : ∀ x, x ≠ 430 → x ≠ 431 → x ≠ 432 → up (up (up (up T6 431 m v) 432 (2 * m) w1) 432 (2 * m + 1) w2) 430 0 ((m + 1 : Nat) : Int) x = T6 x := fun x h1 h2 h3 => by rw [up_c h1, up_c h3, up_c h3, up_c h2]
              have uT0 : ∀ k, k ≠ 0 → up (up (up (up T6 431 m v) 432 (2 * m) w1) 432 (2 * m + 1) w2) 430 0 ((m + 1 : Nat) : Int) 430 k = T6 430 k := fun k hk => by rw [up_k hk, up_c (by decide), up_c (by decide), up_c (by decide)]
              have uT1 : ∀ k, up (up (up (up T6 431 m v) 432 (2 * m) w1) 432 (2 * m + 1) w2) 430 0 ((m + 1 : Nat) : Int) 431 k = if k = m then v else T6 431 k := fun k => by
                rw [up_c (by decide), up_c (by decide), up_c (by decide)]
                by_cases e : k = m
                · rw [e, up_s, if_pos rfl]
                · rw [up_k e, if_neg e]
              have uT2 : ∀ k, up (up (up (up T6 431 m v) 432 (2 * m) w1) 432 (2 * m + 1) w2) 430 0 ((m + 1 : Nat) : Int) 432 k = if k = 2 * m + 1 then w2 else if k = 2 * m then w1 else T6 432 k := fun k => by
                rw [up_c (by decide)]
                by_cases e : k = 2 * m + 1
                · rw [e, up_s, if_pos rfl]
                · rw [up_k e, if_neg e]
                  by_cases e2 : k = 2 * m
                  · rw [e2, up_s, if_pos rfl]
                  · rw [up_k e2, if_neg e2, up_c (by decide)]
              have u50 : up (up (up (up S6 6 m cn) 7 m w1) 8 m w2) 5 0 ((m + 1 : Nat) : Int) 5 0 = ((m + 1 : Nat) : Int) := up_s _ _ _ _
              have u430 : up (up (up (up T6 431 m v) 432 (2 * m) w1) 432 (2 * m + 1) w2) 430 0 ((m + 1 : Nat) : Int) 430 0 = ((m + 1 : Nat) : Int) := up_s _ _ _ _
              generalize up (up (up (up S6 6 m cn) 7 m w1) 8 m w2) 5 0 ((m + 1 : Nat) : Int) = S7 at *
              generalize up (up (up (up T6 431 m v) 432 (2 * m) w1) 432 (2 * m + 1) w2) 430 0 ((m + 1 : Nat) : Int) = T7 at *
              refine Or.inl ⟨S7, T7, L6, rfl, rfl, j3.stay (fun k _ _ => by rw [uS 2 (by decide) (by decide) (by decide) (by decide)]) (uS 3 (by decide) (by decide) (by decide) (by decide)) (uS 4 (by decide) (by decide) (by decide) (by decide)) (fun k _ _ => by rw [uT 401 (by decide) (by decide) (by decide)]) (fun x hx => uT x (by omega) (by omega) (by omega)), ?_, ?_, ?_, c6.tr ?_, r6.mm.tr ?_⟩
              · rw [uT 401 (by decide) (by decide) (by decide), r6.u46.1]; simp only [List.length_cons]; omega
              · refine ⟨⟨by rw [u50, u430], by rw [u50]; omega, fun k hk => ?_, fun i k hi hk e => ?_, fun k hk => ?_⟩, b2.fr (uS5 1 (by decide)) (uS 9 (by decide) (by decide) (by decide) (by decide)) (uT0 1 (by decide)) (fun k h1 h2 => by rw [uT1 k, if_neg (by omega)]), b3.fr (uS5 2 (by decide)) (by rw [u50, hm3]; omega) (uS 10 (by decide) (by decide) (by decide) (by decide)) (uS 11 (by decide) (by decide) (by decide) (by decide)) (uS 12 (by decide) (by decide) (by decide) (by decide)) (uT0 2 (by decide)) (uT 433 (by decide) (by decide) (by decide)), b4.fr (uS5 4 (by decide)) (uT0 3 (by decide)), b5.fr (by rw [u50, hm3]; omega) (by rw [uS5 1 (by decide)]; exact Int.le_refl _) (uS 13 (by decide) (by decide) (by decide) (by decide)) (uT 434 (by decide) (by decide) (by decide)), b6.fr (by rw [uS 14 (by decide) (by decide) (by decide) (by decide)]) (by rw [uS 22 (by decide) (by decide) (by decide) (by decide)]) (uS 20 (by decide) (by decide) (by decide) (by decide)) (uS 21 (by decide) (by decide) (by decide) (by decide)) (uS 15 (by decide) (by decide) (by decide) (by decide)) (uS5 5 (by decide)) (by rw [uT 401 (by decide) (by decide) (by decide)]) (uT 435 (by decide) (by decide) (by decide)) (uT 436 (by decide) (by decide) (by decide)) (uT 437 (by decide) (by decide) (by decide)), by rw [uS5 3 (by decide), uT 401 (by decide) (by decide) (by decide)]; exact b7, by rw [uS 22 (by decide) (by decide) (by decide) (by decide)]; exact b8, by rw [uS 23 (by decide) (by decide) (by decide) (by decide)]; exact b9⟩
                · rw [u50] at hk
                  rw [uS6 k, uT1 k, uS7 k, uS8 k, uT2 (2 * k), uT2 (2 * k + 1)]
                  by_cases e : k = m
                  · rw [if_pos e, if_pos e, if_pos e, if_pos e, if_neg (by omega), if_pos (by omega), if_pos (by omega)]; exact ⟨a4, rfl, rfl⟩
                  · rw [if_neg e, if_neg e, if_neg e, if_neg e, if_neg (by omega), if_neg (by omega), if_neg (by omega), if_neg (by omega)]
                    exact b1.2.2.1 k (by rw [hm3]; omega)
                · rw [u50] at hi hk
                  rw [uS6 i, uS6 k] at e
                  have hne : ∀ x : Nat, x < m → S6 6 x ≠ cn := fun x hx => by rw [fS 6 (by decide), ← s3.1 6 (by decide)]; exact a8 x (by rw [s3.1 5 (by decide), hm]; omega)
                  by_cases ei : i = m
                  · by_cases ek : k = m
                    · omega
                    · rw [if_pos ei, if_neg ek] at e
                      exact absurd e.symm (hne k (by omega))
                  · by_cases ek : k = m
                    · rw [if_neg ei, if_pos ek] at e
                      exact absurd e (hne i (by omega))
                    · rw [if_neg ei, if_neg ek] at e
                      exact b1.2.2.2.1 i k (by rw [hm3]; omega) (by rw [hm3]; omega) e
                · rw [uT2 k]
                  have := b1.2.2.2.2 k hk
                  split
                  · omega
                  · split <;> omega
              · rw [uT 401 (by decide) (by decide) (by decide), r6.u46.2]
              · exact ⟨fun x hx => uS x (by omega) (by omega) (by omega) (by omega), fun k _ => by rw [uS 2 (by decide) (by decide) (by decide) (by decide)], by rw [uS 22 (by decide) (by decide) (by decide) (by decide)], by rw [uS 23 (by decide) (by decide) (by decide) (by decide)]⟩
              · refine ⟨fun x hx => uT x (by omega) (by omega) (by omega), fun k hk => uT0 k (by omega), fun k hk => ⟨by rw [uT1 k, if_neg (by omega)], by rw [uT2 k, if_neg (by omega), if_neg (by omega)]⟩, fun k _ => by rw [uT 433 (by decide) (by decide) (by decide)], fun k _ => by rw [uT 435 (by decide) (by decide) (by decide), uT 436 (by decide) (by decide) (by decide)]; exact ⟨rfl, rfl⟩, fun k _ => by rw [uT 437 (by decide) (by decide) (by decide)], fun k _ _ _ _ _ _ _ _ _ _ _ _ _ => by rw [uT 401 (by decide) (by decide) (by decide)], fun w k hk => ?_⟩
                rw [uT2 k]
                have := w k hk
                split
                · omega
                · split <;> omega
            · rw [j1, j2, Option.bind_some, Option.bind_some]
              dsimp only
              rw [if_pos rfl, offEnd_bad j3.ne]
              exact Or.inr ⟨_, _, rfl, rfl, j3, c5.tr j4.mc, (r5.tr j5.nq).mm⟩
          · have i1 : m_Te_takeWord 2 S4 = _ := i1
            rw [i1, i2, Option.bind_some, Option.bind_some]
            dsimp only
            rw [if_pos rfl, bad_number i3.ne, Option.bind_some, offEnd_bad i3.ne]
            exact Or.inr ⟨_, _, rfl, rfl, i3, c4.tr i4.mc, (r4.tr i5.nq).mm⟩
        · rw [d1, d2, Option.bind_some, Option.bind_some]
          dsimp only
          rw [if_pos rfl, bad_asks d3.ne, Option.bind_some, bad_number d3.ne, Option.bind_some, offEnd_bad d3.ne]
          exact Or.inr ⟨_, _, rfl, rfl, d3, c3.tr d4.mc, (r3.tr d5.nq).mm⟩
      · have b1 : m_Te_takeWord 1 S2 = _ := b1
        rw [b1, b2, Option.bind_some, Option.bind_some]
        dsimp only
        rw [if_pos rfl, bad_number b3.ne, Option.bind_some, bad_asks b3.ne, Option.bind_some, bad_number b3.ne, Option.bind_some, offEnd_bad b3.ne]
        exact Or.inr ⟨_, _, rfl, rfl, b3, c2.tr b4.mc, (r2.tr b5.nq).mm⟩
    · rw [a1, a2, Option.bind_some, Option.bind_some]
      dsimp only
      rw [if_pos rfl, bad_asks a3.ne, Option.bind_some, bad_number a3.ne, Option.bind_some, bad_asks a3.ne, Option.bind_some, bad_number a3.ne, Option.bind_some, offEnd_bad a3.ne]
      exact Or.inr ⟨_, _, rfl, rfl, a3, s3.mc.tr a4.mc, (f1.nq.tr a5).mm⟩
  · have hF0 := (hF ((t.2.1 : Nat) : Int)).2 (by omega)
    have hF0 : m_Mo_isFull 0 8 ((t.2.1 : Nat) : Int) T1 = _ := hF0
    rw [q2 (by omega), hF0, Option.bind_some, Option.bind_some]
    dsimp only
    rw [if_pos rfl, if_neg n10]
    obtain ⟨z1, z2, z3⟩ := told_full (S := S) (t := t) (L1 := L1) f1
    exact Or.inr ⟨_, _, rfl, rfl, z1, z2, z3⟩
end
