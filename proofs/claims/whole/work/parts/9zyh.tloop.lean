/-! MINISTRY: all statements, both -/
section
variable {n : Nat} {P S T S' T' : MS} {g : Nat → Int} {E : Nat} {q : Int}
theorem PT.cnt (h : PT S T) {z : Int} (hz : 0 ≤ z ∧ z ≤ 60) : PT (up S 5 3 z) (up T 401 47 z) := by
  obtain ⟨b1, b2, b3, b4, b5, b6, b7, b8, b9⟩ := h
  have uS : ∀ x, x ≠ 5 → up S 5 3 z x = S x := fun x hx => up_c hx
  have uT : ∀ x, x ≠ 401 → up T 401 47 z x = T x := fun x hx => up_c hx
  exact ⟨b1.fr (up_k (by decide)) (uS 6 (by decide)) (uS 7 (by decide)) (uS 8 (by decide)) (by rw [uT 430 (by decide)]) (fun k _ => by rw [uT 431 (by decide)]) (uT 432 (by decide)), b2.fr (up_k (by decide)) (uS 9 (by decide)) (by rw [uT 430 (by decide)]) (fun k _ _ => by rw [uT 431 (by decide)]), b3.fr (up_k (by decide)) (by rw [up_k (by decide)]; exact Int.le_refl _) (uS 10 (by decide)) (uS 11 (by decide)) (uS 12 (by decide)) (by rw [uT 430 (by decide)]) (uT 433 (by decide)), b4.fr (up_k (by decide)) (by rw [uT 430 (by decide)]), b5.fr (by rw [up_k (by decide)]; exact Int.le_refl _) (by rw [up_k (by decide)]; exact Int.le_refl _) (uS 13 (by decide)) (uT 434 (by decide)), b6.fr (by rw [uS 14 (by decide)]) (by rw [uS 22 (by decide)]) (uS 20 (by decide)) (uS 21 (by decide)) (uS 15 (by decide)) (up_k (by decide)) (up_k (by decide)) (uT 435 (by decide)) (uT 436 (by decide)) (uT 437 (by decide)), ⟨by rw [up_s, up_s], by rw [up_s]; exact hz.1, by rw [up_s]; exact hz.2⟩, by rw [uS 22 (by decide)]; exact b8, by rw [uS 23 (by decide)]; exact b9⟩
theorem FMm.u47 {T : MS} {z : Int} : FMm T (up T 401 47 z) := ⟨fun c hc => up_c (by omega), fun k _ => by rw [up_c (by decide)], fun k _ => by rw [up_c (by decide), up_c (by decide)]; exact ⟨rfl, rfl⟩, fun k _ => by rw [up_c (by decide)], fun k _ => by rw [up_c (by decide), up_c (by decide)]; exact ⟨rfl, rfl⟩, fun k _ => by rw [up_c (by decide)], fun k _ _ _ _ _ _ _ a8 _ _ _ _ _ => up_k a8, fun w k hk => by rw [up_c (by decide)]; exact w k hk⟩
theorem FMc.u53 {S : MS} {z : Int} : FMc S (up S 5 3 z) := ⟨fun c hc => up_c (by omega), fun k _ => by rw [up_c (by decide)], by rw [up_c (by decide)], by rw [up_c (by decide)]⟩
theorem bad_104 (h : T 401 5 ≠ 0) : Mo_ministry_104 T = Mo_ministry_126 T := by rw [e_Mo_ministry_104, if_neg h]
theorem BAD.u47 {z : Int} (h : BAD S T) : BAD S (up T 401 47 z) := by
  obtain ⟨k, p, k0, k1, k2⟩ := h
  exact ⟨k, p, k0, k1, by unfold BDT at k2 ⊢; rw [up_k (by decide), up_k (by decide)]; exact k2⟩
def RLP (S T : MS) (x : Option (Int × MS)) (y : Option (Int × MS)) : Prop := (∃ S' T', x = some (1, S') ∧ y = Mo_ministry_126 T' ∧ (T' 401 5 = 0 ∧ T' 401 6 = -1) ∧ (S' 2 8 = 0 ∧ S' 2 9 = -1) ∧ PT S' T' ∧ FMc S S' ∧ FMm T T') ∨ ∃ S' T', x = some (0, S') ∧ y = Mo_ministry_126 T' ∧ BAD S' T' ∧ FMc S S' ∧ FMm T T'
theorem RLP.pre {S0 T0 : MS} {x y : Option (Int × MS)} (h : RLP S T x y) (a : FMc S0 S) (b : FMm T0 T) : RLP S0 T0 x y := by
  rcases h with ⟨S1, T1, h1, h2, h3, h4, h5, h6, h7⟩ | ⟨S1, T1, h1, h2, h3, h6, h7⟩
  · exact Or.inl ⟨S1, T1, h1, h2, h3, h4, h5, a.tr h6, b.tr h7⟩
  · exact Or.inr ⟨S1, T1, h1, h2, h3, a.tr h6, b.tr h7⟩
theorem two_all : ∀ (j k : Nat) (S T : MS) (L : List Tok), k + j = 60 → LK2 g E S T L → PT S T → S 5 3 = (k : Int) → T 401 46 + ((L.length : Nat) : Int) ≤ 1601 → RLP S T (Cl_readAll_s_23 k S) (Mo_ministry_104 T) := by
  have start : ∀ (S T : MS) (t : Tok) (L1 : List Tok), LK2 g E S T (t :: L1) → ∃ T1, m_Mo_look T = some (lkc g t, T1) ∧ LK2 g E S T1 (t :: L1) ∧ T1 401 2 = ((t.2.1 : Nat) : Int) ∧ FRp T T1 ∧ (lkc g t = -1 ↔ t.1 = 35) := fun S T t L1 h => by
    obtain ⟨T1, r1, r2, r3, r4, -⟩ := m_lookq h.2.1
    obtain ⟨p, hp⟩ := h.2.2.1
    exact ⟨T1, r1, ⟨h.1, r2, h.2.2.1, h.2.2.2.1, h.2.2.2.2.fr r4.1⟩, r3, r4, lkc_end hp h.hE.2⟩
  have ended : ∀ (S T T1 : MS) (t : Tok) (L1 : List Tok), LK2 g E S T (t :: L1) → PT S T → t.1 = 35 → m_Mo_look T = some (lkc g t, T1) → LK2 g E S T1 (t :: L1) → FRp T T1 → (lkc g t = -1 ↔ t.1 = 35) → RLP S T (some (1, S)) (Mo_ministry_104 T) := fun S T T1 t L1 h hp ht r1 r2 r4 r5 => by
    rw [e_Mo_ministry_104, if_pos h.2.1.2.2.2.1, r1, Option.bind_some]
    dsimp only
    rw [if_pos (r5.mpr ht)]
    obtain ⟨-, -, -, q5, pp, -, -, q6, -⟩ := id r2.2.1
    have h89 : S 2 8 = 0 ∧ S 2 9 = -1 := by
      obtain ⟨A, i, g1, g2, g3, g4, g5, g6, g7, g8, g9, g10⟩ := h.1
      exact g10
    exact Or.inl ⟨S, T1, rfl, rfl, ⟨q5, q6.2⟩, h89, hp.rd (fun _ _ => rfl) r4.1 (r4.2 46 (by decide)) (r4.2 47 (by decide)), (FTx.mc ⟨fun _ _ => rfl, fun _ _ => rfl⟩), r4.t.nq.mm⟩
  intro j
  induction j with
  | zero =>
    intro k S T L e h hp h53 hL
    obtain ⟨t, L1, rfl⟩ := h.cons
    obtain ⟨T1, r1, r2, r3, r4, r5⟩ := start S T t L1 h
    have hd := h.1.hd
    rw [e_Cl_readAll_s_23, if_neg (by omega), e_Cl_readAll_s_78]
    simp only [hd.1]
    by_cases ht : t.1 = 35
    · rw [if_pos (by omega)]
      exact ended S T T1 t L1 h hp ht r1 r2 r4 r5
    · rw [if_neg (by omega), hd.2.1, c_refuseAt, Option.bind_some]
      dsimp only
      rw [if_pos rfl, e_Mo_ministry_104, if_pos h.2.1.2.2.2.1, r1, Option.bind_some]
      dsimp only
      have e47 : T1 401 47 = 60 := by rw [r4.2 47 (by decide), ← hp.2.2.2.2.2.2.1.1, h53]; omega
      rw [if_neg (fun q => ht (r5.mp q)), e_Mo_statementTold, if_pos e47, m_fail r2.2.1.2.2.2.1, Option.bind_some, Option.bind_some, r3]
      have b5 : up (up T1 401 5 5) 401 6 ((t.2.1 : Nat) : Int) 401 5 ≠ 0 := by rw [up_k (by decide), up_s]; decide
      rw [bad_104 b5]
      exact Or.inr ⟨_, _, rfl, rfl, BAD.mk2 5 t.2.1 (by decide) (bdt_fail 5 _), (FTx.ref _ _).mc, (r4.t.nq.tr (FRt.fail _ _).nq).mm⟩
  | succ j ih =>
    intro k S T L e h hp h53 hL
    obtain ⟨t, L1, rfl⟩ := h.cons
    obtain ⟨T1, r1, r2, r3, r4, r5⟩ := start S T t L1 h
    have hd := h.1.hd
    rw [e_Cl_readAll_s_23, if_pos (by omega), e_Cl_readAll_s_78]
    simp only [hd.1]
    by_cases ht : t.1 = 35
    · rw [if_pos (by omega), if_pos (by omega)]
      exact ended S T T1 t L1 h hp ht r1 r2 r4 r5
    · rw [if_neg (by omega), e_Mo_ministry_104, if_pos h.2.1.2.2.2.1, r1, Option.bind_some]
      dsimp only
      rw [if_neg (fun q => ht (r5.mp q))]
      have hp1 : PT S T1 := hp.rd (fun _ _ => rfl) r4.1 (r4.2 46 (by decide)) (r4.2 47 (by decide))
      have e46 : T1 401 46 = T 401 46 := r4.2 46 (by decide)
      have e47 : T1 401 47 = (k : Int) := by rw [r4.2 47 (by decide), ← hp.2.2.2.2.2.2.1.1, h53]
      obtain ⟨Y, y1, y2⟩ := two_stmt r2 ht r3 hp1 (by rw [e46]; exact hL) (by rw [e47]; omega)
      rw [y1]
      refine RLP.pre (S := S) (T := T1) ?_ (FTx.mc ⟨fun _ _ => rfl, fun _ _ => rfl⟩) r4.t.nq.mm
      rcases y2 with ⟨S2, T2, L', z1, rfl, z3, z4, z5, z6, z7, z8⟩ | ⟨S2, T2, z1, rfl, z3, z4, z5⟩
      · rw [z1, Option.bind_some, Option.bind_some]
        dsimp only
        rw [if_neg n10, e_Mo_statementTold_177]
        obtain ⟨t', L2, rfl⟩ := z3.cons
        rcases two_sign (a := 59) (by unfold sgB; decide) z3 with ⟨-, S3, T3, s1, s2, s3, s4, s5⟩ | ⟨-, S3, T3, s1, s2, s3, s4, s5⟩
        · have s1 : m_Te_takeSign 59 S2 = _ := s1
          have s2 : m_Mo_asksSign 59 T2 = _ := s2
          rw [s1, s2, Option.bind_some, Option.bind_some, Option.bind_some]
          dsimp only
          have hp3 := z5.rn s4 s5.nq
          have a47 : T3 401 47 = (k : Int) := by rw [s5.u46.2, z6, e47]
          have a53 : S3 5 3 = (k : Int) := by rw [hp3.2.2.2.2.2.2.1.1, a47]
          rw [if_neg n10, a47, a53, wr_suc2 (show k < 60 by omega) (by decide)]
          have hi := ih (k + 1) (up S3 5 3 ((k + 1 : Nat) : Int)) (up T3 401 47 ((k + 1 : Nat) : Int)) L2 (by omega) (s3.stay (fun k _ _ => by rw [up_c (by decide)]) (up_c (by decide)) (up_c (by decide)) (fun k h1 h2 => up_k (by omega)) (fun x hx => up_c (by omega))) (hp3.cnt (by omega)) (up_s _ _ _ _) (by
            rw [up_k (by decide), s5.u46.1]
            rw [e46] at z4
            simp only [List.length_cons] at z4 hL
            omega)
          exact hi.pre ((z7.tr s4.mc).tr FMc.u53) ((z8.tr s5.nq.mm).tr FMm.u47)
        · have s1 : m_Te_takeSign 59 S2 = _ := s1
          have s2 : m_Mo_asksSign 59 T2 = _ := s2
          rw [s1, s2, Option.bind_some, Option.bind_some, Option.bind_some]
          dsimp only
          rw [if_pos rfl, bad_104 (by rw [up_k (by decide)]; exact s3.ne)]
          exact Or.inr ⟨_, _, rfl, rfl, s3.u47, z7.tr s4.mc, (z8.tr s5.nq.mm).tr FMm.u47⟩
      · rw [z1, Option.bind_some, Option.bind_some]
        dsimp only
        rw [if_pos rfl, e_Mo_statementTold_177, bad_askSg z3.ne, Option.bind_some, Option.bind_some, bad_104 (by rw [up_k (by decide)]; exact z3.ne)]
        exact Or.inr ⟨_, _, rfl, rfl, z3.u47, z4, z5.tr FMm.u47⟩
end
