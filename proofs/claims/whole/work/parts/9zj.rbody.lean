/-! the reference: one part -/
section
variable {n : Nat} {P S T : MS} {g : Nat → Int} {E : Nat} {q : Int}
theorem bnd_k (L : List Tok) (cs : List Int) (f : List Tok → List Int → PR) : (PR.ok L cs).bnd f = f L cs := rfl
theorem sgn_k (t : Tok) (L : List Tok) (c : Nat) (f : List Tok → PR) : sgn (t :: L) c f = if t.1 = 256 + c then f L else PR.no 1 t.2.1 := rfl
def PRB (g : Nat → Int) (E : Nat) (q : Int) (op base : Nat) (was : Int) (T : MS) (C W : List Int) (r : PR) (x : Option MS) : Prop := (∃ L' cs T', r = PR.ok L' cs ∧ x = EPs was T' ∧ QS g E q T' L' (C ++ cs) W op base ∧ FQs T T') ∨ ∃ k p T', r = PR.no k p ∧ k ≠ 0 ∧ x = some (up T' 401 101 was) ∧ BDQ T' k p ∧ FQs T T'
theorem PRB.bad {op base : Nat} {was : Int} {C W : List Int} {r : PR} {x : Option MS} {T T' : MS} {k : Int} {p : Nat} (hr : r = PR.no k p) (hk : k ≠ 0) (hx : x = some (up T' 401 101 was)) (hb : BDQ T' k p) (hf : FQs T T') : PRB g E q op base was T C W r x := Or.inr ⟨k, p, T', hr, hk, hx, hb, hf⟩
theorem PRB.pre {op base : Nat} {was : Int} {C W : List Int} {r : PR} {x : Option MS} {T T1 : MS} (h : PRB g E q op base was T1 C W r x) (f : FQs T T1) : PRB g E q op base was T C W r x := by
  rcases h with ⟨L', cs, T', h1, h2, h3, h4⟩ | ⟨k, p, T', h1, h2, h3, h4, h5⟩
  · exact Or.inl ⟨L', cs, T', h1, h2, h3, f.tr h4⟩
  · exact Or.inr ⟨k, p, T', h1, h2, h3, h4, f.tr h5⟩
theorem m_opn6 {L : List Tok} {C W : List Int} {base p : Nat} {a : Int} (h : QS g E q T L C W 6 base) (hc : C.length < 1690) : ∃ T', m_Mo_qOpens a ((p : Nat) : Int) T = some T' ∧ BDQ T' 4 p ∧ FQs T T' := by
  rw [e_Mo_qOpens, h.1.2.2.2.1, if_pos rfl, h.2.2.2.2.2.1, if_pos (show ((6 : Nat) : Int) = 6 from rfl), m_fail h.1.2.2.2.1, Option.bind_some]
  exact ⟨_, rfl, ⟨bdt_fail 4 p, by rw [up_k (by decide), up_k (by decide), h.2.2.2.1.1]; omega⟩, (FRt.fail _ _).toQ⟩
theorem m_opnS {L : List Tok} {C W : List Int} {op base : Nat} {a p : Int} (h : QS g E q T L C W op base) (ho : op < 6) (hw : W.length < 1690) : ∃ T', m_Mo_qOpens a p T = some T' ∧ QS g E q T' L C (W ++ [a]) (op + 1) base ∧ FQs T T' ∧ T' 401 2 = T 401 2 := by
  obtain ⟨u1, u2⟩ := q_setop (op' := op + 1) h
  obtain ⟨v1, v2⟩ := q_push (c := a) u1
  have w1 := h.2.2.2.2.1.1
  rw [e_Mo_qOpens, h.1.2.2.2.1, if_pos rfl, h.2.2.2.2.2.1, if_neg (by omega), w1, if_pos (by omega), Int.toNat_natCast, wr_suc2 (show op < 6 by omega) (by decide), wr_suc2 (show W.length < 1700 by omega) (by decide)]
  exact ⟨_, rfl, v1, u2.tr v2, by rw [up_k (by decide), up_c (by decide), up_k (by decide)]⟩
/-- opening while something is wrong: nothing -/
theorem m_opnB {a p : Int} (h : T 401 5 ≠ 0) : m_Mo_qOpens a p T = some T := by rw [e_Mo_qOpens, if_neg h]
theorem m_askSgB {a : Int} (h : T 401 5 ≠ 0) : m_Mo_asksSign a T = some T := by rw [e_Mo_asksSign, if_neg h]
theorem m_asksB {a : Nat} (h : T 401 5 ≠ 0) : m_Mo_asks a T = some T := by rw [e_Mo_asks, if_neg h]
theorem m_qawB {a : Int} (h : T 401 5 ≠ 0) : m_Mo_qAsksWord a T = some T := by
  rw [e_Mo_qAsksWord]
  simp only [m_asksB h, Option.bind_some]
  repeat' split
  all_goals rfl
theorem m_qaw {t : Tok} {L1 : List Tok} (hw : WDT T) (h : RTK g E T (t :: L1)) (hj : qwN t.1 ≠ -1) : ∃ T', m_Mo_qAsksWord (qwN t.1) T = some T' ∧ RTK g E T' L1 ∧ FRt T T' := by
  have key : ∀ c k : Nat, HR c k → t.1 = k → ∃ T', ((m_Mo_asks c T).bind fun p1 => some p1) = some T' ∧ RTK g E T' L1 ∧ FRt T T' := fun c k hc ht => by
    rcases m_asks hc hw h with ⟨-, T', r1, r2, r3⟩ | ⟨q1, -⟩
    · exact ⟨T', by rw [r1, Option.bind_some], r2, r3⟩
    · exact absurd ht q1
  rw [e_Mo_qAsksWord]
  rcases qwN_cases t.1 with ⟨e', e⟩ | ⟨e', e⟩ | ⟨e', e⟩ | ⟨e', e⟩ | ⟨e', e⟩ | ⟨e', e⟩ | ⟨e', e⟩ | ⟨e', e⟩ | ⟨e', e⟩ | ⟨e', e⟩ | ⟨e', e⟩
  · rw [e, if_pos rfl]; exact key 463 2 hr_463 e'
  · rw [e, if_neg (by decide), if_pos rfl]; exact key 464 1 hr_464 e'
  · rw [e, if_neg (by decide), if_neg (by decide), if_pos rfl]; exact key 465 15 hr_465 e'
  · rw [e, if_neg (by decide), if_neg (by decide), if_neg (by decide), if_pos rfl]; exact key 466 14 hr_466 e'
  · rw [e, if_neg (by decide), if_neg (by decide), if_neg (by decide), if_neg (by decide), if_pos rfl]; exact key 467 6 hr_467 e'
  · rw [e, if_neg (by decide), if_neg (by decide), if_neg (by decide), if_neg (by decide), if_neg (by decide), if_pos rfl]; exact key 468 16 hr_468 e'
  · rw [e, if_neg (by decide), if_neg (by decide), if_neg (by decide), if_neg (by decide), if_neg (by decide), if_neg (by decide), if_pos rfl]; exact key 469 3 hr_469 e'
  · rw [e, if_neg (by decide), if_neg (by decide), if_neg (by decide), if_neg (by decide), if_neg (by decide), if_neg (by decide), if_neg (by decide), if_pos rfl]; exact key 470 17 hr_470 e'
  · rw [e, if_neg (by decide), if_neg (by decide), if_neg (by decide), if_neg (by decide), if_neg (by decide), if_neg (by decide), if_neg (by decide), if_neg (by decide), if_pos rfl]; exact key 471 18 hr_471 e'
  · rw [e, if_neg (by decide), if_neg (by decide), if_neg (by decide), if_neg (by decide), if_neg (by decide), if_neg (by decide), if_neg (by decide), if_neg (by decide), if_neg (by decide)]; exact key 472 19 hr_472 e'
  · exact absurd e hj
def INR (g : Nat → Int) (E : Nat) (q : Int) (m : Nat) (inn : Option RDR) : Prop := (m = 0 ∧ inn = none) ∨ ∃ m', m = m' + 1 ∧ inn = some (rdPart g q m') ∧ PSM g E q (6 - m') (rdPart g q m')
/-- a round -/
theorem r_round {m base p : Nat} {was : Int} {inn : Option RDR} {t : Tok} {L1 : List Tok} {C W : List Int} (hm : m < 7) (hi : INR g E q m inn) (ht : t.1 = 296) (hT : TOK E p (t :: L1)) (h : QS g E q T (t :: L1) C W (6 - m) base) (h2 : T 401 2 = ((t.2.1 : Nat) : Int)) (hb : base ≤ W.length) (hl : C.length + W.length + (t :: L1).length ≤ 1650) : PRB g E q (6 - m) base was T C W (opn inn t.2.1 (fun r => (rdSumP r L1).bnd (fun L2 cs => sgn L2 41 (fun L3 => PR.ok L3 cs)))) (((m_Mo_qOpens 20 (T 401 2) T).bind fun p3 => Mo_qPartTold_2 1 (up p3 401 2 (wr ((p3 401 2) + 1)))).bind (KQs was)) := by
  obtain ⟨k1, -⟩ := hT.tl (by omega)
  rw [List.length_cons] at hl
  rcases hi with ⟨rfl, rfl⟩ | ⟨m', rfl, rfl, hs⟩
  · have h : QS g E q T (t :: L1) C W 6 base := h
    obtain ⟨T1, r1, r2, r3⟩ := m_opn6 (a := 20) (p := t.2.1) h (by omega)
    have hb5 : up T1 401 2 (wr ((T1 401 2) + 1)) 401 5 ≠ 0 := by rw [up_k (by decide), r2.1.1]; decide
    rw [h2, r1, Option.bind_some]
    exact PRB.bad rfl (by decide) (pt_bad hb5 1) ⟨⟨by rw [up_k (by decide)]; exact r2.1.1, by rw [up_k (by decide)]; exact r2.1.2⟩, by rw [up_k (by decide)]; exact r2.2⟩ (r3.tr (FRt.u (Or.inl rfl)).toQ)
  · obtain ⟨T1, r1, r2, r3, r4⟩ := m_opnS (a := 20) (p := T 401 2) h (by omega) (by omega)
    rw [h2] at r4
    obtain ⟨v1, -, v3⟩ := r2.1.adv r4 sg40 ht
    have hE := r2.1.1
    have fu : FRt T1 (up T1 401 2 ((t.2.1 + 1 : Nat) : Int)) := FRt.u (Or.inl rfl)
    have h3 := r2.frt fu v1
    rw [r1, Option.bind_some, r4, wr_suc2 (show t.2.1 < 1600 by omega) (by decide)]
    rw [show 6 - (m' + 1) + 1 = 6 - m' by omega] at h3
    show PRB g E q _ base was T C W ((rdSumP (rdPart g q m') L1).bnd _) (PTs was _)
    rcases sum_allr (was := was) hs (rdPart_k g q m') (V := W ++ [20]) (fun V' x e => by have := List.append_inj_right' e rfl; rw [List.cons.injEq] at this; omega) (Or.inl ⟨W, 20, rfl, by decide⟩) (by rw [List.length_append]; omega) k1 h3 (by rw [List.length_append, List.length_singleton]; omega) with ⟨L2, accR, R, T2, c1, c2, c3, c4, c5, c6⟩ | ⟨k, p', T2, c1, c2, c3, c4, c5⟩
    · obtain ⟨p2, d1, d2, d3, d4⟩ := rdSumP_k (rdPart_k g q m') E _ _ _ _ k1 c1
      rw [c1]
      cases L2 with
      | nil => exact d2.elim
      | cons t2 L2 =>
        rw [List.length_cons] at d3
        rw [List.length_append] at d3
        have hops : OPS R.reverse := fun y hy => c2.1 y (List.mem_reverse.mp hy)
        have hlen : (C ++ accR).length + (W ++ [20] ++ R.reverse).length < 1660 := by simp only [List.length_append, List.length_singleton, List.length_reverse]; omega
        rw [bnd_k, sgn_k]
        by_cases e : t2.1 = 297
        · rw [if_pos e]
          rw [show 6 - m' = (6 - (m' + 1)) + 1 by omega] at c4
          obtain ⟨T3, s1, s2, s3⟩ := go_close (was := was) (p := 0) c4 (Or.inl rfl) hops hb (by omega) hlen e
          rw [List.reverse_reverse, if_pos rfl, List.append_nil, List.append_assoc] at s2
          exact Or.inl ⟨L2, accR ++ R, T3, rfl, c3.trans s1, s2, r3.tr (fu.toQ.tr (c6.tr s3))⟩
        · rw [if_neg e]
          obtain ⟨T3, s1, s2, s3⟩ := go_fail (was := was) c4 (by decide) (by decide) hops hb (by omega) (c5 t2 L2 rfl) e
          exact PRB.bad rfl (by decide) (c3.trans s1) s2 (r3.tr (fu.toQ.tr (c6.tr s3)))
    · rw [c1]
      exact PRB.bad rfl c2 c3 c4 (r3.tr (fu.toQ.tr c5))
/-- a part of a part -/
theorem r_of {m base p : Nat} {was : Int} {inn : Option RDR} {t : Tok} {L1 : List Tok} {C W : List Int} {j : Int} (hm : m < 7) (hi : INR g E q m inn) (ht : t.1 = 18 ∧ j = 8 ∨ t.1 = 19 ∧ j = 9) (hT : TOK E p (t :: L1)) (h : QS g E q T (t :: L1) C W (6 - m) base) (h2 : T 401 2 = ((t.2.1 : Nat) : Int)) (hb : base ≤ W.length) (hl : C.length + W.length + (t :: L1).length ≤ 1650) : PRB g E q (6 - m) base was T C W (opn inn t.2.1 (fun r => (r L1).bnd (fun L' cs => PR.ok L' (cs ++ [if t.1 = 18 then 60 else 61])))) (((m_Mo_qOpens (wr ((wr (60 + j)) - 8)) (T 401 2) T).bind fun p5 => (m_Mo_qAsksWord j p5).bind fun p6 => Mo_qPartTold_2 1 p6).bind (KQs was)) := by
  obtain ⟨k1, -⟩ := hT.tl (by omega)
  rw [List.length_cons] at hl
  have hj : wr ((wr (60 + j)) - 8) = if t.1 = 18 then 60 else 61 := by
    rcases ht with ⟨e, rfl⟩ | ⟨e, rfl⟩
    · rw [if_pos e, wrN (z := 60 + 8) (by decide) (by decide), wrN (by decide) (by decide)]; rfl
    · rw [if_neg (by omega), wrN (z := 60 + 9) (by decide) (by decide), wrN (by decide) (by decide)]; rfl
  have hjq : j = qwN t.1 := by
    rcases ht with ⟨e, rfl⟩ | ⟨e, rfl⟩ <;> rw [e] <;> rfl
  have hz : 60 ≤ (if t.1 = 18 then (60 : Int) else 61) := by split <;> decide
  rw [hj]
  generalize (if t.1 = 18 then (60 : Int) else 61) = z at *
  rcases hi with ⟨rfl, rfl⟩ | ⟨m', rfl, rfl, hs⟩
  · have h : QS g E q T (t :: L1) C W 6 base := h
    obtain ⟨T1, r1, r2, r3⟩ := m_opn6 (a := z) (p := t.2.1) h (by omega)
    have hb5 : T1 401 5 ≠ 0 := by rw [r2.1.1]; decide
    rw [h2, r1, Option.bind_some, m_qawB hb5, Option.bind_some]
    exact PRB.bad rfl (by decide) (pt_bad hb5 1) r2 r3
  · obtain ⟨T1, r1, r2, r3, r4⟩ := m_opnS (a := z) (p := T 401 2) h (by omega) (by omega)
    obtain ⟨T2, a1, a2, a3⟩ := m_qaw r2.2.1 r2.1 (by rw [← hjq]; rcases ht with ⟨-, rfl⟩ | ⟨-, rfl⟩ <;> decide)
    have h3 := r2.frt a3 a2
    rw [← hjq] at a1
    rw [r1, Option.bind_some, a1, Option.bind_some]
    rw [show 6 - (m' + 1) + 1 = 6 - m' by omega] at h3
    show PRB g E q _ base was T C W ((rdPart g q m' L1).bnd _) (PTs was _)
    rcases hs _ L1 C (W ++ [z]) base was T2 k1 h3 (by rw [List.length_append]; omega) (by rw [List.length_append, List.length_singleton]; omega) with ⟨L2, cs, T3, c1, c2, c3, c4⟩ | ⟨k, p', T3, c1, c2, c3, c4, c5⟩
    · obtain ⟨p2, d1, d2, d3, d4⟩ := rdPart_k g q m' E _ _ _ _ k1 c1
      rw [c1]
      rw [show 6 - m' = (6 - (m' + 1)) + 1 by omega] at c3
      obtain ⟨T4, e1, e2, e3⟩ := ep_of (was := was) c3 hz hb (by omega) (by rw [List.length_append]; omega)
      rw [List.append_assoc] at e2
      exact Or.inl ⟨L2, cs ++ [z], T4, rfl, c2.trans e1, e2, r3.tr (a3.toQ.tr (c4.tr e3))⟩
    · rw [c1]
      exact PRB.bad rfl c2 c3 c4 (r3.tr (a3.toQ.tr c5))
/-- a pair, behind its word -/
theorem r_pair {m base p : Nat} {was : Int} {inn : Option RDR} {L1 : List Tok} {C W : List Int} {c : Int} {v4 : Int} (hm : m < 7) (hi : INR g E q m inn) (hc : v4 = 0 ∧ c = 6 ∨ v4 ≠ 0 ∧ c = 5) (hT : TOK E p L1) (h : QS g E q T L1 C W (6 - m) base) (hb : base ≤ W.length) (hl : C.length + W.length + L1.length ≤ 1650) : PRB g E q (6 - m) base was T C W (rdPair inn c L1) (((m_Mo_look T).bind fun p3 => if p3.1 = 40 then Mo_qPartTold_118 1 v4 (p3.2 401 2) p3.2 else Mo_qPartTold_118 1 v4 (-1) p3.2).bind (KQs was)) := by
  cases L1 with
  | nil => exact hT.elim
  | cons t L1 =>
    rw [List.length_cons] at hl
    obtain ⟨T1, r1, r2, r3, r4, r5⟩ := m_lookq h.1
    have h1 := h.frt r4.t r2
    have hE := r2.1
    unfold rdPair
    dsimp only
    rw [r1, Option.bind_some]
    dsimp only
    by_cases ht : t.1 = 296
    · obtain ⟨k1, -⟩ := hT.tl (by omega)
      have hx : (if v4 = 0 then Mo_qPartTold_139 1 ((t.2.1 : Nat) : Int) 22 T1 else Mo_qPartTold_139 1 ((t.2.1 : Nat) : Int) 21 T1) = Mo_qPartTold_139 1 ((t.2.1 : Nat) : Int) (c + 16) T1 := by
        rcases hc with ⟨e, rfl⟩ | ⟨e, rfl⟩
        · rw [if_pos e]; rfl
        · rw [if_neg e]; rfl
      rw [if_pos ht, if_pos (show lkc g t = 40 from (r5 40 sg40).mpr ht), e_Mo_qPartTold_118, r3, if_neg (by omega), hx, e_Mo_qPartTold_139]
      have hcc : c = 5 ∨ c = 6 := by omega
      rcases hi with ⟨rfl, rfl⟩ | ⟨m', rfl, rfl, hs⟩
      · have h1 : QS g E q T1 (t :: L1) C W 6 base := h1
        obtain ⟨T2, s1, s2, s3⟩ := m_opn6 (a := c + 16) (p := t.2.1) h1 (by omega)
        have hb5 : T2 401 5 ≠ 0 := by rw [s2.1.1]; decide
        rw [s1, Option.bind_some, m_askSgB hb5, Option.bind_some]
        exact PRB.bad rfl (by decide) (pt_bad hb5 1) s2 (r4.q2.tr s3)
      · obtain ⟨T2, s1, s2, s3, s4⟩ := m_opnS (a := c + 16) (p := ((t.2.1 : Nat) : Int)) h1 (by omega) (by omega)
        rcases m_askSg s2.1 sg40 with ⟨-, T3, a1, a2, a3⟩ | ⟨q1, -⟩
        · have a1 : m_Mo_asksSign 40 T2 = _ := a1
          have h3 := s2.frt a3 a2
          have f3 : FQs T T3 := r4.q2.tr (s3.tr a3.toQ)
          rw [s1, Option.bind_some, a1, Option.bind_some]
          rw [show 6 - (m' + 1) + 1 = 6 - m' by omega] at h3
          show PRB g E q _ base was T C W ((rdSumP (rdPart g q m') L1).bnd _) (PTs was _)
          rcases sum_allr (was := was) hs (rdPart_k g q m') (V := W ++ [c + 16]) (fun V' x e => by have := List.append_inj_right' e rfl; rw [List.cons.injEq] at this; omega) (Or.inl ⟨W, c + 16, rfl, by omega⟩) (by rw [List.length_append]; omega) k1 h3 (by rw [List.length_append, List.length_singleton]; omega) with ⟨L2, accR, R, T4, c1, c2, c3, c4, c5, c6⟩ | ⟨k, p', T4, c1, c2, c3, c4, c5⟩
          · obtain ⟨p2, d1, d2, d3, d4⟩ := rdSumP_k (rdPart_k g q m') E _ _ _ _ k1 c1
            rw [c1]
            cases L2 with
            | nil => exact d2.elim
            | cons t2 L2 =>
              rw [List.length_cons] at d3
              rw [List.length_append] at d3
              have hops : OPS R.reverse := fun y hy => c2.1 y (List.mem_reverse.mp hy)
              have hlen : (C ++ accR).length + (W ++ [c + 16] ++ R.reverse).length < 1660 := by simp only [List.length_append, List.length_singleton, List.length_reverse]; omega
              rw [bnd_k, sgn_k]
              rcases go_comma (was := was) c4 (by omega) hops hb hlen (c5 t2 L2 rfl) with ⟨e, T5, u1, u2, u3⟩ | ⟨e, T5, u1, u2, u3⟩
              · rw [if_pos e]
                obtain ⟨k5, -⟩ := d2.tl (by omega)
                rw [List.reverse_reverse, List.append_assoc] at u2
                have f5 : FQs T T5 := f3.tr (c6.tr u3)
                rcases sum_allr (was := was) hs (rdPart_k g q m') (V := W ++ [c + 16 + 2]) (fun V' x e => by have := List.append_inj_right' e rfl; rw [List.cons.injEq] at this; omega) (Or.inl ⟨W, c + 16 + 2, rfl, by omega⟩) (by rw [List.length_append]; omega) k5 u2 (by simp only [List.length_append, List.length_singleton]; omega) with ⟨L5, accR', R', T6, x1, x2, x3, x4, x5, x6⟩ | ⟨k, p', T6, x1, x2, x3, x4, x5⟩
                · obtain ⟨p5, y1, y2, y3, y4⟩ := rdSumP_k (rdPart_k g q m') E _ _ _ _ k5 x1
                  rw [x1]
                  cases L5 with
                  | nil => exact y2.elim
                  | cons t6 L6 =>
                    rw [List.length_cons] at y3
                    rw [List.length_append] at y3
                    have hops' : OPS R'.reverse := fun y hy => x2.1 y (List.mem_reverse.mp hy)
                    have hlen' : (C ++ (accR ++ R) ++ accR').length + (W ++ [c + 16 + 2] ++ R'.reverse).length < 1660 := by simp only [List.length_append, List.length_singleton, List.length_reverse]; omega
                    show PRB g E q _ base was T C W (if t6.1 = 256 + 41 then PR.ok L6 ((accR ++ R) ++ ((accR' ++ R') ++ [c])) else PR.no 1 t6.2.1) _
                    have hKK : PTs was T3 = KQs was T6 := c3.trans (u1.trans x3)
                    by_cases e6 : t6.1 = 256 + 41
                    · rw [if_pos e6]
                      rw [show 6 - m' = (6 - (m' + 1)) + 1 by omega] at x4
                      obtain ⟨T7, z1, z2, z3⟩ := go_close (was := was) (p := 0) x4 (by omega) hops' hb (by omega) hlen' e6
                      have ec : (if c + 16 + 2 = 20 then ([] : List Int) else if c + 16 + 2 = 23 then [5] else [6]) = [c] := by
                        rcases hcc with rfl | rfl
                        · rfl
                        · rfl
                      rw [List.reverse_reverse, ec] at z2
                      refine Or.inl ⟨L6, _, T7, rfl, hKK.trans z1, ?_, f5.tr (x6.tr z3)⟩
                      have ea : C ++ (accR ++ R ++ (accR' ++ R' ++ [c])) = C ++ (accR ++ R) ++ accR' ++ (R' ++ [c]) := by simp only [List.append_assoc]
                      rw [ea]
                      exact z2
                    · rw [if_neg e6]
                      obtain ⟨T7, z1, z2, z3⟩ := go_fail (was := was) x4 (by omega) (by omega) hops' hb (by omega) (x5 t6 L6 rfl) e6
                      exact PRB.bad rfl (by decide) (hKK.trans z1) z2 (f5.tr (x6.tr z3))
                · rw [x1]
                  exact PRB.bad rfl x2 (c3.trans (u1.trans x3)) x4 (f5.tr x5)
              · rw [if_neg e]
                exact PRB.bad rfl (by decide) (c3.trans u1) u2 (f3.tr (c6.tr u3))
          · rw [c1]
            exact PRB.bad rfl c2 c3 c4 (f3.tr c5)
        · exact absurd ht q1
    · rw [if_neg ht, if_neg (show ¬ lkc g t = 40 from fun x => ht ((r5 40 sg40).mp x)), e_Mo_qPartTold_118, if_pos rfl]
      rcases m_askSg r2 sg40 with ⟨q1, -⟩ | ⟨-, T3, a1, a2, a3⟩
      · exact absurd q1 ht
      · have a1 : m_Mo_asksSign 40 T1 = _ := a1
        have hb5 : T3 401 5 ≠ 0 := by rw [a2.1]; decide
        rw [a1, Option.bind_some]
        exact PRB.bad rfl (by decide) (pt_bad hb5 1) ⟨a2, by rw [a3.2 97 (by decide) (by decide) (by decide) (by decide) (by decide), h1.2.2.2.1.1]; omega⟩ (r4.q2.tr a3.toQ)
end
