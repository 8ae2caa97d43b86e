/-! MINISTRY: a law told, both together -/
section
variable {n : Nat} {P S T S' T' : MS} {g : Nat → Int} {E : Nat} {q : Int}
theorem lawT_same {T T' : MS} {u : Nat} {a : Int} (h5 : T' 435 u = T 435 u) (h6 : T' 436 u = T 436 u) (hb : T 435 u = -1 ∨ (0 ≤ T 435 u ∧ T 435 u ≤ T 436 u ∧ T 436 u ≤ a)) (h7 : ∀ k : Nat, (k : Int) < a → T' 437 k = T 437 k) : lawT T' u = lawT T u := by
  unfold lawT
  rw [h5, h6]
  by_cases c : T 435 u = -1
  · rw [if_pos c, if_pos c]
  · rw [if_neg c, if_neg c]
    exact seg_congr (fun k h1 h2 => h7 k (by omega))
theorem two_law {w : Nat} {t : Tok} {L1 : List Tok} {T1 : MS} (hw : w < 3) (h : LK2 g E S T (t :: L1)) (ht : t.1 ≠ 35) (hT : RTK g E T1 L1) (f1 : FRt T T1) (hp : PT S T) (hL : T 401 46 + (((t :: L1).length : Nat) : Int) ≤ 1601) : RST g E S T (T 401 46 + (((t :: L1).length : Nat) : Int)) (m_Cl_readLaw w S) (m_Mo_codesTold w ((t.2.1 : Nat) : Int) T1) := by
  obtain ⟨v1, v2, v3, v4, v5, v6, C0, v7, v8⟩ := hp.2.2.2.2.2.1
  have e22 := hp.2.2.2.2.2.2.2.1
  obtain ⟨a, ha⟩ : ∃ a : Nat, T 401 46 = (a : Int) := ⟨(T 401 46).toNat, by omega⟩
  obtain ⟨w1, w2, w3, -⟩ := v4 w hw
  have hbt : band (shr (S 22 3) w) 1 = bt (S 22 3) w := by rw [bt_of (by omega) (by omega) (by omega) (by omega), Int.toNat_natCast]
  have e435 : T1 435 w = T 435 w := by rw [f1.1 435 (by decide)]
  obtain ⟨q1, q2⟩ := two_kind (a := bt (S 22 3) w) (b := 1) h ht hT f1
  rw [e_Cl_readLaw, hbt, e_Mo_codesTold, if_pos hT.2.2.2.1, if_pos (by omega), Int.toNat_natCast]
  rw [List.length_cons] at hL
  by_cases c : T 435 w = -1
  · rw [if_pos c] at w1
    obtain ⟨S1, s1, s2, s3⟩ := q1 (by omega)
    have hM := m_law (w := w) (a := a) hw hT s2.2.2.2.2 s2.2.2.1 (by rw [f1.u46.1]; exact ha) (by omega)
    have e22a : S1 22 2 = 1 := by rw [s3.1 22 (by decide)]; exact e22
    have e22b : S1 22 3 = S 22 3 := by rw [s3.1 22 (by decide)]
    rw [s1, if_pos (show T1 435 w = -1 by rw [e435]; exact c), Option.bind_some]
    dsimp only
    rw [if_neg n10, if_pos e22a, e22b, e_Gr_begin_c_s, Option.bind_some]
    obtain ⟨z1, z2⟩ := bt_put (x := S 22 3) (b := 1) (v := w) (by omega) (Or.inr rfl) (by omega)
    generalize hX : bor (S 22 3) (shl 1 w) = X at *
    have u0 : ∀ x, x ≠ 22 → x ≠ 23 → up (up (up (up S1 22 3 X) 23 1 1) 23 2 (w : Int)) 23 3 0 x = S1 x := fun x h1 h2 => by rw [up_c h2, up_c h2, up_c h2, up_c h1]
    have u22 : up (up (up (up S1 22 3 X) 23 1 1) 23 2 (w : Int)) 23 3 0 22 2 = 1 := by rw [up_c (by decide), up_c (by decide), up_c (by decide), up_k (by decide)]; exact e22a
    have u223 : up (up (up (up S1 22 3 X) 23 1 1) 23 2 (w : Int)) 23 3 0 22 3 = X := by rw [up_c (by decide), up_c (by decide), up_c (by decide), up_s]
    have u23 : up (up (up (up S1 22 3 X) 23 1 1) 23 2 (w : Int)) 23 3 0 23 1 = 1 ∧ up (up (up (up S1 22 3 X) 23 1 1) 23 2 (w : Int)) 23 3 0 23 2 = w ∧ up (up (up (up S1 22 3 X) 23 1 1) 23 2 (w : Int)) 23 3 0 23 3 = 0 := ⟨rfl, rfl, rfl⟩
    generalize up (up (up (up S1 22 3 X) 23 1 1) 23 2 (w : Int)) 23 3 0 = S2 at *
    rw [if_pos u22, e_Pl_beginLaw_s, if_neg (by omega), if_pos (by omega), if_pos (by omega), Option.bind_some, Int.toNat_natCast]
    have e14 : S2 14 1 = ((C0.length : Nat) : Int) := by rw [u0 14 (by decide) (by decide), s3.1 14 (by decide), v7]
    have hG : GSc g E w (up S2 20 w (S2 14 1)) L1 C0 [] := by
      obtain ⟨l1, -, -, ⟨l4, l5⟩, -⟩ := s2
      refine ⟨l1.fr (by rw [up_c (by decide), u0 4 (by decide) (by decide)]) (fun k _ _ => by rw [up_c (by decide), u0 2 (by decide) (by decide)]), ⟨by rw [up_c (by decide), u0 2 (by decide) (by decide)]; exact l4, by rw [up_c (by decide), u0 3 (by decide) (by decide)]; exact l5⟩, ?_, ⟨by rw [up_c (by decide)]; exact u23.1, by rw [up_c (by decide)]; exact u23.2.1⟩, Or.inl (by rw [up_c (by decide)]; exact u23.2.2), fun _ => List.not_mem_nil⟩
      rw [List.append_nil, up_c (by decide), up_c (by decide), u0 15 (by decide) (by decide), s3.1 15 (by decide)]
      exact ⟨e14, v8⟩
    generalize hS3 : up S2 20 w (S2 14 1) = S3 at hG
    have u3 : ∀ x, x ≠ 20 → S3 x = S2 x := fun x hx => by rw [← hS3, up_c hx]
    have hC : RESc g E w S3 C0 [] (rdLaw g w L1) (if w = 2 then m_Gr_readTest_c 7 0 S3 else m_Gr_readSum_c 7 0 S3) := by
      obtain ⟨hE, hg⟩ := h.hE
      obtain ⟨p, hp1⟩ := s2.2.2.1
      have hl : (C0 ++ ([] : List Int)).length + L1.length ≤ 1612 := by rw [List.append_nil]; omega
      unfold rdLaw
      by_cases d : w = 2
      · rw [if_pos d, if_pos d]; exact test_allc hE hg (by omega) _ _ _ _ _ hp1 hG hl
      · rw [if_neg d, if_neg d]; exact sum_allc hE hg (by omega) _ _ _ _ _ hp1 hG hl
    have hx : ∀ F : Int × MS → Option (Int × MS), (if (w : Int) = 2 then ((m_Gr_readTest_c 7 0 S3).bind F) else (m_Gr_readSum_c 7 0 S3).bind F) = ((if w = 2 then m_Gr_readTest_c 7 0 S3 else m_Gr_readSum_c 7 0 S3).bind F) := fun F => by
      by_cases d : w = 2
      · rw [if_pos (show (w : Int) = 2 by omega), if_pos d]
      · rw [if_neg (show ¬ (w : Int) = 2 by omega), if_neg d]
    rw [hx]
    -- what reading leaves in the class
    have fin : ∀ S4, FGc S3 S4 → S4 22 2 = 1 ∧ S4 5 5 = S 5 5 ∧ FMc S (up (up S4 21 w (S4 14 1)) 5 5 (if w < 2 ∧ S4 23 3 ≠ 0 then 1 else S4 5 5)) := fun S4 f => by
      have k22 : S4 22 2 = 1 := by rw [f.1 22 (by decide) (by decide) (by decide) (by decide), u3 22 (by decide)]; exact u22
      have k5 : S4 5 5 = S 5 5 := by rw [f.1 5 (by decide) (by decide) (by decide) (by decide), u3 5 (by decide), u0 5 (by decide) (by decide), s3.1 5 (by decide)]
      refine ⟨k22, k5, fun x hx => ?_, fun k hk => ?_, ?_, ?_⟩
      · rw [up_c (by omega), up_c (by omega)]
        by_cases e : x = 2
        · omega
        · rw [f.1 x (by omega) (by omega) (by omega) (by omega), u3 x (by omega), u0 x (by omega) (by omega), s3.1 x (by omega)]
      · rw [up_c (by decide), up_c (by decide), f.2.1 k hk, u3 2 (by decide), u0 2 (by decide) (by decide), s3.2 k (by omega)]
      · rw [up_c (by decide), up_c (by decide), k22, e22]
      · rfl
    rcases hC with ⟨L', cs, S4, a1, a2, a3, a4⟩ | ⟨k, p, S4, a1, a2, a3, a4, a5⟩
    · rcases hM with ⟨L'', cs', T4, b1, b2, b3, b4, b5, b6, b7, b8, b9, b10, b11, b12⟩ | ⟨k, p, T4, b1, -⟩
      · rw [a1] at b1
        injection b1 with b1
        injection b1 with e1 e2
        subst e1
        subst e2
        obtain ⟨f1', f2', f3'⟩ := fin S4 a4
        obtain ⟨d1, ⟨d2, d3⟩, ⟨d4, d5⟩, ⟨d6, d7⟩, d8, d9⟩ := a3
        rw [List.nil_append] at d4 d5 d9
        rw [a2, b2, Option.bind_some, c_77 hw (Or.inr rfl) f1' (by rw [f2']; exact v5)]
        obtain ⟨p, hTk⟩ := s2.2.2.1
        obtain ⟨p2, x1, x2, x3, x4⟩ := rdLaw_k E p L1 L' cs hTk a1
        have k4 : ∀ x, x ≠ 2 → x ≠ 5 → x ≠ 14 → x ≠ 15 → x ≠ 20 → x ≠ 21 → x ≠ 22 → x ≠ 23 → up (up S4 21 w (S4 14 1)) 5 5 (if w < 2 ∧ S4 23 3 ≠ 0 then 1 else S4 5 5) x = S x := fun x y1 y2 y3 y4 y5 y6 y7 y8 => by rw [up_c y2, up_c y6, a4.1 x y1 y3 y4 y8, u3 x y5, u0 x y7 y8, s3.1 x y1]
        have k5 : ∀ k, k ≠ 5 → up (up S4 21 w (S4 14 1)) 5 5 (if w < 2 ∧ S4 23 3 ≠ 0 then 1 else S4 5 5) 5 k = S 5 k := fun k hk => by rw [up_k hk, up_c (by decide), a4.1 5 (by decide) (by decide) (by decide) (by decide), u3 5 (by decide), u0 5 (by decide) (by decide), s3.1 5 (by decide)]
        have k55 : up (up S4 21 w (S4 14 1)) 5 5 (if w < 2 ∧ S4 23 3 ≠ 0 then 1 else S4 5 5) 5 5 = (if w < 2 ∧ S4 23 3 ≠ 0 then 1 else S 5 5) := by rw [up_s, f2']
        have k14 : up (up S4 21 w (S4 14 1)) 5 5 (if w < 2 ∧ S4 23 3 ≠ 0 then 1 else S4 5 5) 14 1 = (((C0 ++ cs).length : Nat) : Int) := by rw [up_c (by decide), up_c (by decide)]; exact d4
        have k15 : up (up S4 21 w (S4 14 1)) 5 5 (if w < 2 ∧ S4 23 3 ≠ 0 then 1 else S4 5 5) 15 = S4 15 := by rw [up_c (by decide), up_c (by decide)]
        have k20 : ∀ k, up (up S4 21 w (S4 14 1)) 5 5 (if w < 2 ∧ S4 23 3 ≠ 0 then 1 else S4 5 5) 20 k = if k = w then ((C0.length : Nat) : Int) else S 20 k := fun k => by
          rw [up_c (by decide), up_c (by decide), a4.1 20 (by decide) (by decide) (by decide) (by decide), ← hS3]
          by_cases e : k = w
          · rw [e, up_s, if_pos rfl, e14]
          · rw [up_k e, if_neg e, u0 20 (by decide) (by decide), s3.1 20 (by decide)]
        have k21 : ∀ k, up (up S4 21 w (S4 14 1)) 5 5 (if w < 2 ∧ S4 23 3 ≠ 0 then 1 else S4 5 5) 21 k = if k = w then (((C0 ++ cs).length : Nat) : Int) else S 21 k := fun k => by
          rw [up_c (by decide)]
          by_cases e : k = w
          · rw [e, up_s, if_pos rfl, d4]
          · rw [up_k e, if_neg e, a4.1 21 (by decide) (by decide) (by decide) (by decide), u3 21 (by decide), u0 21 (by decide) (by decide), s3.1 21 (by decide)]
        have k223 : up (up S4 21 w (S4 14 1)) 5 5 (if w < 2 ∧ S4 23 3 ≠ 0 then 1 else S4 5 5) 22 3 = X := by rw [up_c (by decide), up_c (by decide), a4.1 22 (by decide) (by decide) (by decide) (by decide), u3 22 (by decide), u223]
        have k2 : up (up S4 21 w (S4 14 1)) 5 5 (if w < 2 ∧ S4 23 3 ≠ 0 then 1 else S4 5 5) 2 = S4 2 := by rw [up_c (by decide), up_c (by decide)]
        have k3 : up (up S4 21 w (S4 14 1)) 5 5 (if w < 2 ∧ S4 23 3 ≠ 0 then 1 else S4 5 5) 3 = S4 3 := by rw [up_c (by decide), up_c (by decide)]
        have k4' : up (up S4 21 w (S4 14 1)) 5 5 (if w < 2 ∧ S4 23 3 ≠ 0 then 1 else S4 5 5) 4 = S4 4 := by rw [up_c (by decide), up_c (by decide)]
        generalize up (up S4 21 w (S4 14 1)) 5 5 (if w < 2 ∧ S4 23 3 ≠ 0 then 1 else S4 5 5) = S6 at *
        have t12 : ∀ x, x ≠ 401 → x ≠ 435 → x ≠ 436 → x ≠ 437 → x ≠ 473 → x ≠ 474 → T4 x = T x := fun x y1 y2 y3 y4 y5 y6 => by rw [b10 x y1 y2 y3 y4 y5 y6, f1.1 x y1]
        have hlw : lawT T4 w = cs := by
          unfold lawT
          rw [b5, b6, if_neg (show ¬ (a : Int) = -1 by omega), Int.toNat_natCast, Int.toNat_natCast, show a + cs.length - a = cs.length by omega]
          exact seg_list cs a (fun i hi => by rw [b8 (a + i) (by omega) (by omega), show a + i - a = i by omega])
        have hlu : ∀ u, u < 3 → u ≠ w → lawT T4 u = lawT T u := fun u hu3 hu => lawT_same (a := (a : Int)) (by rw [(b7 u hu).1, f1.1 435 (by decide)]) (by rw [(b7 u hu).2, f1.1 436 (by decide)]) (by rw [← ha]; exact (v4 u hu3).2.1) (fun k hk => by rw [b9 k (by omega), f1.1 437 (by decide)])
        obtain ⟨m1, m2, m3, m4, m5, m6, m7, m8, m9⟩ := hp
        refine Or.inl ⟨S6, T4, L', rfl, rfl, ⟨d1.fr k4' (fun k _ _ => by rw [k2]), b3, ⟨p2, x2⟩, ⟨by rw [k2]; exact d2, by rw [k3]; exact d3⟩, ?_⟩, ?_, ?_, by rw [b11, f1.u46.2], f3', f1.nq.mm.tr b12⟩
        · intro q hq k hk
          have hr : ∀ q ∈ wdM, (404 ≤ q.1 ∧ q.1 ≤ 429) ∨ (451 ≤ q.1 ∧ q.1 ≤ 472) := by decide
          have := hr q hq
          rw [t12 q.1 (by omega) (by omega) (by omega) (by omega) (by omega) (by omega)]
          exact h.2.2.2.2 q hq k hk
        · rw [b4, ha]; simp only [List.length_cons]; omega
        · refine ⟨m1.fr (k5 0 (by decide)) (k4 6 (by decide) (by decide) (by decide) (by decide) (by decide) (by decide) (by decide) (by decide)) (k4 7 (by decide) (by decide) (by decide) (by decide) (by decide) (by decide) (by decide) (by decide)) (k4 8 (by decide) (by decide) (by decide) (by decide) (by decide) (by decide) (by decide) (by decide)) (by rw [t12 430 (by decide) (by decide) (by decide) (by decide) (by decide) (by decide)]) (fun k _ => by rw [t12 431 (by decide) (by decide) (by decide) (by decide) (by decide) (by decide)]) (t12 432 (by decide) (by decide) (by decide) (by decide) (by decide) (by decide)), m2.fr (k5 1 (by decide)) (k4 9 (by decide) (by decide) (by decide) (by decide) (by decide) (by decide) (by decide) (by decide)) (by rw [t12 430 (by decide) (by decide) (by decide) (by decide) (by decide) (by decide)]) (fun k _ _ => by rw [t12 431 (by decide) (by decide) (by decide) (by decide) (by decide) (by decide)]), m3.fr (k5 2 (by decide)) (by rw [k5 0 (by decide)]; exact Int.le_refl _) (k4 10 (by decide) (by decide) (by decide) (by decide) (by decide) (by decide) (by decide) (by decide)) (k4 11 (by decide) (by decide) (by decide) (by decide) (by decide) (by decide) (by decide) (by decide)) (k4 12 (by decide) (by decide) (by decide) (by decide) (by decide) (by decide) (by decide) (by decide)) (by rw [t12 430 (by decide) (by decide) (by decide) (by decide) (by decide) (by decide)]) (t12 433 (by decide) (by decide) (by decide) (by decide) (by decide) (by decide)), m4.fr (k5 4 (by decide)) (by rw [t12 430 (by decide) (by decide) (by decide) (by decide) (by decide) (by decide)]), m5.fr (by rw [k5 0 (by decide)]; exact Int.le_refl _) (by rw [k5 1 (by decide)]; exact Int.le_refl _) (k4 13 (by decide) (by decide) (by decide) (by decide) (by decide) (by decide) (by decide) (by decide)) (t12 434 (by decide) (by decide) (by decide) (by decide) (by decide) (by decide)), ⟨by rw [b4]; omega, by rw [k14, b4, List.length_append]; omega, ?_, fun u hu => ?_, ?_, fun z u hu c hc => ?_, C0 ++ cs, k14, by rw [k15]; exact d5⟩, by rw [k5 3 (by decide), b11, f1.u46.2]; exact m7, f3'.2.2.1.trans m8, f3'.2.2.2.trans m9⟩
          · rw [k223]
            refine ⟨z1.1, ?_⟩
            have := bor_lt (a := S 22 3) (b := shl 1 w) 3 (by decide) v3.1 v3.2 (by rw [shl_1 (by omega) (by omega)]; exact Int.natCast_nonneg _) (by rw [shl_1 (by omega) (by omega), Int.toNat_natCast]; exact pow_lt hw)
            rw [hX] at this
            exact this.2
          · rw [k223, z2 u, k14, k20 u, k21 u, k15]
            by_cases e : u = w
            · subst e
              rw [hlw, b5, b6, b4, if_pos (Or.inr ⟨rfl, rfl⟩), if_neg (show ¬ (a : Int) = -1 by omega), if_pos rfl, if_pos rfl]
              refine ⟨rfl, Or.inr (by omega), rdLaw_ty a1, C0.length, rfl, by rw [List.length_append], by rw [List.length_append]; exact Int.le_refl _, fun i hi => ?_⟩
              rw [d5 (C0.length + i) (by rw [List.length_append]; omega), List.getD_eq_getElem?_getD, List.getElem?_append_right (by omega), show C0.length + i - C0.length = i by omega, ← List.getD_eq_getElem?_getD]
            · obtain ⟨y1, y2, y3, A, y4, y5, y6, y7⟩ := v4 u hu
              rw [hlu u hu e, (b7 u e).1, (b7 u e).2, f1.1 435 (by decide), f1.1 436 (by decide), b4, if_neg e, if_neg e]
              refine ⟨?_, by omega, y3, A, y4, y5, by rw [List.length_append]; omega, fun i hi => ?_⟩
              · rw [← y1]
                by_cases y : bt (S 22 3) u = 1
                · rw [if_pos (Or.inl y), y]
                · rw [if_neg (by omega)]
                  have : bt (S 22 3) u = 0 ∨ bt (S 22 3) u = 1 := by rw [y1]; split <;> omega
                  omega
              · have hlt : A + i < C0.length := by omega
                rw [d5 (A + i) (by rw [List.length_append]; omega), List.getD_eq_getElem?_getD, List.getElem?_append_left hlt, ← List.getD_eq_getElem?_getD, ← v8 (A + i) hlt]
                exact y7 i hi
          · rw [k55]; split
            · exact Or.inr rfl
            · exact v5
          · rw [k55] at z
            by_cases y : w < 2 ∧ S4 23 3 ≠ 0
            · rw [if_pos y] at z; omega
            · rw [if_neg y] at z
              by_cases e : u = w
              · subst e
                rw [hlw] at hc
                intro q
                rw [q] at hc
                exact d9 (by omega) hc
              · rw [hlu u (by omega) e] at hc
                exact v6 z u hu c hc
      · rw [a1] at b1; cases b1
    · rcases hM with ⟨L'', cs', T4, b1, -⟩ | ⟨k', p', T4, b1, b0, b2, b3, b4⟩
      · rw [a1] at b1; cases b1
      · rw [a1] at b1
        injection b1 with b1
        injection b1 with e1 e2
        subst e1
        subst e2
        obtain ⟨f1', f2', f3'⟩ := fin S4 a5
        rw [a2, b2, Option.bind_some, c_77 hw (Or.inl rfl) f1' (by rw [f2']; exact v5)]
        exact Or.inr ⟨_, T4, rfl, rfl, ⟨k, p, b0, ⟨by rw [up_c (by decide), up_c (by decide)]; exact a3, by rw [up_c (by decide), up_c (by decide)]; exact a4⟩, b3⟩, f3', f1.nq.mm.tr b4⟩
  · rw [if_neg c] at w1
    rw [q2 (by omega), if_neg (show ¬ T1 435 w = -1 by rw [e435]; exact c), Option.bind_some, m_fail hT.2.2.2.1, Option.bind_some]
    dsimp only
    obtain ⟨z1, z2, z3⟩ := told_full (S := S) (t := t) (L1 := L1) f1
    rw [if_pos rfl, e_Mo_codesTold_23, if_neg z1.ne]
    exact Or.inr ⟨_, _, rfl, rfl, z1, z2, z3⟩
end
