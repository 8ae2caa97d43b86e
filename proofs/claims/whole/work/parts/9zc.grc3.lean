/-! the class reads tests: the clerk -/
section
variable {n : Nat} {P S T : MS} {g : Nat → Int} {E : Nat} {q : Int}
theorem both_simc {m : Nat} (hm : m < 7) {a : Int} (hE : E ≤ 1600) (h : SIMc g E q (rdFact g q m) (fun S => m_Gr_readFact_c (m + 1) a S)) : SIMc g E q (rdLoop opB (rdFact g q m)) (fun S => m_Gr_readBoth_c (m + 1) a S) :=
  loop0c hE (rdFact_k g q m) rfl (fun w => by unfold opB; split <;> decide) h (lphBc hm) (fun S => e_Gr_readBoth_c m hm a S)
theorem test_simc {m : Nat} (hm : m < 7) {a : Int} (hE : E ≤ 1600) (h : SIMc g E q (rdFact g q m) (fun S => m_Gr_readFact_c (m + 1) a S)) : SIMc g E q (rdTestP (rdFact g q m)) (fun S => m_Gr_readTest_c (m + 1) a S) :=
  loop0c hE (rdLoop_k (rdFact_k g q m) rfl) rfl (fun w => by unfold opT; split <;> decide) (both_simc hm hE h) (lphTc hm) (fun S => e_Gr_readTest_c m hm a S)
def INFc (g : Nat → Int) (E : Nat) (q : Int) (m : Nat) (inn : Option RDR) : Prop := (m = 0 ∧ inn = none) ∨ ∃ m', m = m' + 1 ∧ inn = some (rdFact g q m') ∧ SIMc g E q (rdFact g q m') (fun S => m_Gr_readFact_c (m' + 1) ((6 - m' : Nat) : Int) S)
theorem not_bodyc {m p : Nat} {inn : Option RDR} {t : Tok} {L : List Tok} {C0 D : List Int} (hm : m < 7) (hi : INFc g E q m inn) (ht : t.1 ≠ 35) (hT : TOK E p (t :: L)) (hG : GSc g E q S (t :: L) C0 D) (h1612 : (C0 ++ D).length + (t :: L).length ≤ 1612) : RESc g E q S C0 D (opn inn t.2.1 (fun r => (r L).bnd (fun L' cs => PR.ok L' (cs ++ [12])))) ((m_Te_takeOpening ((6 - m : Nat) : Int) S).bind fun p1 => if p1.1 = 0 then some (0, p1.2) else (m_Gr_readFact_c m (wr (((6 - m : Nat) : Int) + 1)) p1.2).bind fun p2 => if p2.1 = 0 then some (0, p2.2) else if p2.2 23 1 = 1 then ((m_Co_add_s (-11) p2.2).bind fun p3 => if p3.1 = 0 then some (0, p3.2) else some (1, p3.2)) else none) := by
  obtain ⟨k1, -⟩ := hT.tl ht
  rw [List.length_cons] at h1612
  rcases hi with ⟨rfl, rfl⟩ | ⟨m', rfl, rfl, hs⟩
  · have o : m_Te_takeOpening ((6 - 0 : Nat) : Int) S = _ := c_open0c hG.1
    rw [o, Option.bind_some]
    exact RESc.no rfl rfl (FGc.rf S)
  · obtain ⟨S1, r1, r2, r3⟩ := c_openSc (a := ((6 - (m' + 1) : Nat) : Int)) (by omega) hG.1 k1.ne
    have hG1 := hG.tk r3 r2
    rw [r1, Option.bind_some]
    dsimp only
    rw [if_neg n10, wr6 (by omega)]
    show RESc g E q S C0 D ((rdFact g q m' L).bnd _) _
    rcases hs _ L C0 D S1 k1 hG1 (by omega) with ⟨L2, c2', S2, e1, e2, e3, e4⟩ | ⟨k', p', S2, e1, e2, e3, e4, e5⟩
    · obtain ⟨p2, q1, q2, q3, q4⟩ := rdFact_k g q m' E _ _ _ _ k1 e1
      obtain ⟨S3, u1, u2, u3⟩ := c_addc (c := 12) e3 (by simp only [List.length_append] at *; omega) (fun q => absurd q (by decide))
      have u1 : m_Co_add_s (-11) S2 = _ := u1
      have e2 : m_Gr_readFact_c (m' + 1) ((6 - m' : Nat) : Int) S1 = _ := e2
      rw [e1, e2, Option.bind_some]
      dsimp only
      rw [if_neg n10, if_pos e3.2.2.2.1.1, u1, Option.bind_some]
      dsimp only
      rw [if_neg n10]
      rw [List.append_assoc] at u2
      exact Or.inl ⟨L2, c2' ++ [12], S3, rfl, rfl, u2, (r3.x.fgc).tr (e4.tr u3)⟩
    · have e2 : m_Gr_readFact_c (m' + 1) ((6 - m' : Nat) : Int) S1 = _ := e2
      rw [e1, e2, Option.bind_some]
      exact Or.inr ⟨k', p', S2, rfl, rfl, e3, e4, (r3.x.fgc).tr e5⟩
theorem sqr_bodyc {m p : Nat} {inn : Option RDR} {t : Tok} {L : List Tok} {C0 D : List Int} (hE : E ≤ 1600) (hm : m < 7) (hi : INFc g E q m inn) (ht : t.1 ≠ 35) (hT : TOK E p (t :: L)) (hG : GSc g E q S (t :: L) C0 D) (h1612 : (C0 ++ D).length + (t :: L).length ≤ 1612) : RESc g E q S C0 D (opn inn t.2.1 (fun r => (rdTestP r L).bnd (fun L' cs => sgn L' 93 (fun L2 => PR.ok L2 cs)))) ((m_Te_takeOpening ((6 - m : Nat) : Int) S).bind fun p2 => if p2.1 = 0 then some (0, p2.2) else (m_Gr_readTest_c m (wr (((6 - m : Nat) : Int) + 1)) p2.2).bind fun p3 => if p3.1 = 0 then some (0, p3.2) else (m_Te_takeSign 93 p3.2).bind fun p4 => if p4.1 = 0 then some (0, p4.2) else some (1, p4.2)) := by
  obtain ⟨k1, -⟩ := hT.tl ht
  rw [List.length_cons] at h1612
  rcases hi with ⟨rfl, rfl⟩ | ⟨m', rfl, rfl, hs⟩
  · have o : m_Te_takeOpening ((6 - 0 : Nat) : Int) S = _ := c_open0c hG.1
    rw [o, Option.bind_some]
    exact RESc.no rfl rfl (FGc.rf S)
  · obtain ⟨S1, r1, r2, r3⟩ := c_openSc (a := ((6 - (m' + 1) : Nat) : Int)) (by omega) hG.1 k1.ne
    have hG1 := hG.tk r3 r2
    rw [r1, Option.bind_some]
    dsimp only
    rw [if_neg n10, wr6 (by omega)]
    show RESc g E q S C0 D ((rdTestP (rdFact g q m') L).bnd _) _
    rcases test_simc (by omega) hE hs _ L C0 D S1 k1 hG1 (by omega) with ⟨L2, c2', S2, e1, e2, e3, e4⟩ | ⟨k', p', S2, e1, e2, e3, e4, e5⟩
    · obtain ⟨p2, q1, q2, q3, q4⟩ := rdTestP_k (rdFact_k g q m') E _ _ _ _ k1 e1
      have e2 : m_Gr_readTest_c (m' + 1) ((6 - m' : Nat) : Int) S1 = _ := e2
      rw [e1, e2, Option.bind_some]
      dsimp only
      rw [if_neg n10]
      show RESc g E q S C0 D (sgn L2 93 _) _
      cases L2 with
      | nil => exact q2.elim
      | cons t2 L2 =>
        rcases c_tkSignc (a := 93) (by decide) q2 e3.1 with ⟨g1, S3, g2, g3, g4⟩ | ⟨g1, g2⟩
        · have g2 : m_Te_takeSign 93 S2 = _ := g2
          rw [g2, Option.bind_some]
          dsimp only
          rw [if_neg n10]
          unfold sgn
          dsimp only
          rw [if_pos g1]
          exact Or.inl ⟨L2, c2', S3, rfl, rfl, e3.tk g4 g3, (r3.x.fgc).tr (e4.tr g4.x.fgc)⟩
        · have g2 : m_Te_takeSign 93 S2 = _ := g2
          rw [g2, Option.bind_some]
          unfold sgn
          dsimp only
          rw [if_neg g1]
          exact RESc.no rfl rfl ((r3.x.fgc).tr e4)
    · have e2 : m_Gr_readTest_c (m' + 1) ((6 - m' : Nat) : Int) S1 = _ := e2
      rw [e1, e2, Option.bind_some]
      exact Or.inr ⟨k', p', S2, rfl, rfl, e3, e4, (r3.x.fgc).tr e5⟩
theorem cmp_203c {m p : Nat} {t : Tok} {L : List Tok} {C0 D cs : List Int} {c : Int} {sum : RDR} (hm : m < 7) (hs : SIMc g E q sum (fun S => m_Gr_readSum_c (m + 1) ((6 - m : Nat) : Int) S)) (hk : SUBK sum) (hc : c ≠ 42) (ht : t.1 ≠ 35) (hT : TOK E p (t :: L)) (hG : GSc g E q S (t :: L) C0 (D ++ cs)) (h1612 : (C0 ++ (D ++ cs)).length + (t :: L).length ≤ 1612) : RESc g E q S C0 D ((sum L).bnd (fun L3 cs2 => PR.ok L3 (cs ++ (cs2 ++ [c])))) (Gr_readFact_c_203 (m + 1) ((6 - m : Nat) : Int) (mc c) S) := by
  obtain ⟨k1, -⟩ := hT.tl ht
  rw [List.length_cons] at h1612
  obtain ⟨S1, r1, r2, r3⟩ := c_adv hG.1 k1.ne
  have hG1 := hG.tk r3 r2
  rw [e_Gr_readFact_c_203 m hm, r1, Option.bind_some]
  rcases hs _ L C0 (D ++ cs) S1 k1 hG1 (by omega) with ⟨L2, c2', S2, e1, e2, e3, e4⟩ | ⟨k', p', S2, e1, e2, e3, e4, e5⟩
  · obtain ⟨p2, q1, q2, q3, q4⟩ := hk E _ _ _ _ k1 e1
    obtain ⟨S3, u1, u2, u3⟩ := c_addc (c := c) e3 (by simp only [List.length_append] at *; omega) (fun q => absurd q hc)
    have e2 : m_Gr_readSum_c (m + 1) ((6 - m : Nat) : Int) S1 = _ := e2
    rw [e1, e2, Option.bind_some]
    dsimp only
    rw [if_neg n10, if_pos e3.2.2.2.1.1, u1, Option.bind_some]
    dsimp only
    rw [if_neg n10]
    have ea : D ++ cs ++ c2' ++ [c] = D ++ (cs ++ (c2' ++ [c])) := by simp only [List.append_assoc]
    rw [ea] at u2
    exact Or.inl ⟨L2, _, S3, rfl, rfl, u2, (r3.x.fgc).tr (e4.tr u3)⟩
  · have e2 : m_Gr_readSum_c (m + 1) ((6 - m : Nat) : Int) S1 = _ := e2
    rw [e1, e2, Option.bind_some]
    exact Or.inr ⟨k', p', S2, rfl, rfl, e3, e4, (r3.x.fgc).tr e5⟩
theorem factB_simc {m : Nat} {inn : Option RDR} {sum : RDR} (hE : E ≤ 1600) (hm : m < 7) (hk : SUBK sum) (hs : SIMc g E q sum (fun S => m_Gr_readSum_c (m + 1) ((6 - m : Nat) : Int) S)) (hi : INFc g E q m inn) : SIMc g E q (rdFactB sum inn) (fun S => m_Gr_readFact_c (m + 1) ((6 - m : Nat) : Int) S) := by
  intro p L C0 D S hT hG h1612
  cases L with
  | nil => exact hT.elim
  | cons t L =>
    have hd := hG.1.hd
    unfold rdFactB
    dsimp only
    rw [e_Gr_readFact_c m hm]
    simp only [hd.1]
    by_cases c1 : t.1 = 22
    · rw [if_pos c1, if_pos (show ((t.1 : Nat) : Int) = 22 by omega)]
      exact not_bodyc hm hi (by omega) hT hG h1612
    · have i91 : m_Te_isSign 91 S = _ := c_isSign (a := 91) hG.1 (by decide)
      rw [if_neg c1, if_neg (show ¬ ((t.1 : Nat) : Int) = 22 by omega), i91, Option.bind_some]
      dsimp only
      by_cases c2 : t.1 = 347
      · rw [if_pos c2, if_pos c2, if_neg n10]
        exact sqr_bodyc hE hm hi (by omega) hT hG h1612
      · rw [if_neg c2, if_neg c2, if_pos rfl]
        simp only [hd.1]
        by_cases c3 : t.1 = 23
        · obtain ⟨k1, -⟩ := hT.tl (by omega)
          rw [List.length_cons] at h1612
          obtain ⟨S1, r1, r2, r3⟩ := c_adv hG.1 k1.ne
          have hG1 := hG.tk r3 r2
          obtain ⟨S3, u1, u2, u3⟩ := c_addc (c := 13) hG1 (by omega) (fun q => absurd q (by decide))
          have u1 : m_Co_add_s 1 S1 = _ := u1
          rw [if_pos c3, if_pos (show ((t.1 : Nat) : Int) = 23 by omega), r1, Option.bind_some, if_pos hG1.2.2.2.1.1, u1, Option.bind_some]
          dsimp only
          rw [if_pos (Or.inr rfl)]
          exact Or.inl ⟨L, [13], S3, rfl, rfl, u2, (r3.x.fgc).tr u3⟩
        · rw [if_neg c3, if_neg (show ¬ ((t.1 : Nat) : Int) = 23 by omega)]
          rcases hs _ (t :: L) C0 D S hT hG h1612 with ⟨L2, cs, S2, e1, e2, e3, e4⟩ | ⟨k', p', S2, e1, e2, e3, e4, e5⟩
          · obtain ⟨p2, q1, q2, q3, q4⟩ := hk E _ _ _ _ hT e1
            have e2 : m_Gr_readSum_c (m + 1) ((6 - m : Nat) : Int) S = _ := e2
            rw [e1, e2, Option.bind_some]
            dsimp only
            rw [if_neg n10]
            cases L2 with
            | nil => exact q2.elim
            | cons t' L2 =>
              have h1612' : (C0 ++ (D ++ cs)).length + (t' :: L2).length ≤ 1612 := by simp only [List.length_append, List.length_cons] at *; omega
              have i60 : m_Te_isSign 60 S2 = _ := c_isSign (a := 60) e3.1 (by decide)
              have i62 : m_Te_isSign 62 S2 = _ := c_isSign (a := 62) e3.1 (by decide)
              have i61 : m_Te_isSign 61 S2 = _ := c_isSign (a := 61) e3.1 (by decide)
              rw [i60, Option.bind_some]
              dsimp only
              show RESc g E q S C0 D (match opC t'.1 with | none => PR.no 1 t'.2.1 | some c => (sum L2).bnd (fun L3 cs2 => PR.ok L3 (cs ++ (cs2 ++ [c])))) _
              unfold opC
              by_cases d1 : t'.1 = 316
              · rw [if_pos d1, if_pos d1, if_neg n10, e_Gr_readFact_c_176 m hm, if_neg (by decide)]
                exact (cmp_203c (c := 7) hm hs hk (by decide) (by omega) q2 e3 h1612').pre e4
              · rw [if_neg d1, if_neg d1, if_pos rfl, i62, Option.bind_some]
                dsimp only
                by_cases d2 : t'.1 = 318
                · rw [if_pos d2, if_pos d2, if_neg n10, e_Gr_readFact_c_176 m hm, if_neg (by decide)]
                  exact (cmp_203c (c := 8) hm hs hk (by decide) (by omega) q2 e3 h1612').pre e4
                · rw [if_neg d2, if_neg d2, if_pos rfl, e_Gr_readFact_c_176 m hm, if_pos rfl, i61, Option.bind_some]
                  dsimp only
                  by_cases d3 : t'.1 = 317
                  · rw [if_pos d3, if_pos d3, if_neg n10]
                    exact (cmp_203c (c := 9) hm hs hk (by decide) (by omega) q2 e3 h1612').pre e4
                  · rw [if_neg d3, if_neg d3, if_pos rfl, c_unfit e3.1, Option.bind_some, if_pos (Or.inl rfl)]
                    exact RESc.no rfl rfl e4
          · have e2 : m_Gr_readSum_c (m + 1) ((6 - m : Nat) : Int) S = _ := e2
            rw [e1, e2, Option.bind_some]
            exact Or.inr ⟨k', p', S2, rfl, rfl, e3, e4, e5⟩
theorem fact_simc (hE : E ≤ 1600) (hg : ∀ i, i < E → 0 ≤ g i ∧ g i ≤ 255) (hq3 : q = 0 ∨ q = 1 ∨ q = 2 ∨ q = 3) : ∀ m, m < 7 → SIMc g E q (rdFact g q m) (fun S => m_Gr_readFact_c (m + 1) ((6 - m : Nat) : Int) S) := by
  intro m
  induction m with
  | zero => intro hm; exact factB_simc hE hm (rdSumP_k (rdPart_k g q 0)) (sum_simc hm hE (part_simc hE hg hq3 0 hm)) (Or.inl ⟨rfl, rfl⟩)
  | succ m ih => intro hm; exact factB_simc hE hm (rdSumP_k (rdPart_k g q (m + 1))) (sum_simc hm hE (part_simc hE hg hq3 (m + 1) hm)) (Or.inr ⟨m, rfl, rfl, ih (by omega)⟩)
/-- a whole sum, a whole test -/
theorem sum_allc (hE : E ≤ 1600) (hg : ∀ i, i < E → 0 ≤ g i ∧ g i ≤ 255) (hq3 : q = 0 ∨ q = 1 ∨ q = 2 ∨ q = 3) : SIMc g E q (rdSumP (rdPart g q 6)) (fun S => m_Gr_readSum_c 7 0 S) := sum_simc (by decide) hE (part_simc hE hg hq3 6 (by decide))
theorem test_allc (hE : E ≤ 1600) (hg : ∀ i, i < E → 0 ≤ g i ∧ g i ≤ 255) (hq3 : q = 0 ∨ q = 1 ∨ q = 2 ∨ q = 3) : SIMc g E q (rdTestP (rdFact g q 6)) (fun S => m_Gr_readTest_c 7 0 S) := test_simc (by decide) hE (fact_simc hE hg hq3 6 (by decide))
end
