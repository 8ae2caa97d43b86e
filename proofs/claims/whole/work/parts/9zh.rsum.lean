/-! the reference: a sum, joined as it goes -/
section
variable {n : Nat} {P S T : MS} {g : Nat → Int} {E : Nat} {q : Int}
noncomputable def RQs (was : Int) (p2 : Int × MS) : Option MS := if p2.1 = 0 then Mo_qSums_15 was 0 p2.2 else Mo_qSums_15 was 1 p2.2
noncomputable def KQs (was : Int) (p1 : MS) : Option MS := if p1 401 5 = 0 then (m_Mo_qGoesOn p1).bind (RQs was) else Mo_qSums_15 was 0 p1
noncomputable def PTs (was : Int) (T : MS) : Option MS := (Mo_qPartTold_2 1 T).bind (KQs was)
noncomputable def EPs (was : Int) (T : MS) : Option MS := (Mo_qEndsPart_0 T).bind (KQs was)
theorem pt_eq {was : Int} (h : T 401 5 = 0) : Mo_qSums_15 was 1 T = PTs was T := by
  rw [e_Mo_qSums_15, if_neg n10, if_pos h, e_Mo_qPartTold]
  rfl
theorem end_bad {was : Int} (h : T 401 5 ≠ 0) : Mo_qSums_15 was 0 T = some (up T 401 101 was) := by
  rw [e_Mo_qSums_15, if_pos rfl, e_Mo_qSums_53, if_neg h]
theorem kq_bad {was : Int} (h : T 401 5 ≠ 0) : KQs was T = some (up T 401 101 was) := by
  unfold KQs
  rw [if_neg h, end_bad h]
theorem pt_bad {was : Int} (h : T 401 5 ≠ 0) (v : Int) : (Mo_qPartTold_2 v T).bind (KQs was) = some (up T 401 101 was) := by
  have h186 : Mo_qPartTold_186 T = some T := by rw [e_Mo_qPartTold_186, if_neg h]
  have h2 : Mo_qPartTold_2 v T = some T := by
    rw [e_Mo_qPartTold_2, if_neg h, h186]
    split <;> rfl
  rw [h2, Option.bind_some, kq_bad h]
theorem ep_bad {was : Int} (h : T 401 5 ≠ 0) : (Mo_qEndsPart_0 T).bind (KQs was) = some (up T 401 101 was) := by
  rw [e_Mo_qEndsPart_0, if_neg h, Option.bind_some, kq_bad h]
theorem kq_go {was : Int} (h : T 401 5 = 0) : KQs was T = (Mo_qGoesOn_0 T).bind (RQs was) := by
  unfold KQs
  rw [if_pos h, e_Mo_qGoesOn]
theorem RTK.adv {t : Tok} {L1 : List Tok} {a : Nat} (h : RTK g E T (t :: L1)) (h2 : T 401 2 = ((t.2.1 : Nat) : Int)) (ha : sgB a) (ht : t.1 = 256 + a) : RTK g E (up T 401 2 ((t.2.1 + 1 : Nat) : Int)) L1 ∧ g t.2.1 = a ∧ t.2.1 < E := by
  obtain ⟨t', L', T1, e, r1, r2, r3, r4, r5, r6⟩ := m_look h
  cases e
  obtain ⟨hE, hg, h3, h5, p, hp, h2', h4, hL⟩ := id h
  obtain ⟨k1, k2⟩ := h.tks h2 r6
  obtain ⟨s1, s2⟩ := k1.sg (fun q => (hg _ q).2) ha
  obtain ⟨s3, s4⟩ := s2 ht
  have hl := s1.mpr ht
  unfold lkc at hl
  rw [if_neg (by omega)] at hl
  refine ⟨⟨hE, fun i hi => by rw [up_c (by decide)]; exact hg i hi, by rw [up_k (by decide)]; exact h3, by rw [up_k (by decide)]; exact h5, t.2.1 + 1, s3, up_s _ _ _ _, ⟨by rw [up_k (by decide)]; omega, by rw [up_k (by decide)]; exact h4.2⟩, ?_⟩, hl, s3⟩
  rw [up_k (by decide), s4]
  congr 1
  exact (decide_eq_false (by omega)).symm
/-- what look() tells, as tokens -/
theorem m_lookq {t : Tok} {L1 : List Tok} (h : RTK g E T (t :: L1)) : ∃ T', m_Mo_look T = some (lkc g t, T') ∧ RTK g E T' (t :: L1) ∧ T' 401 2 = ((t.2.1 : Nat) : Int) ∧ FRp T T' ∧ ∀ a, sgB a → (lkc g t = a ↔ t.1 = 256 + a) := by
  obtain ⟨t', L', T1, e, r1, r2, r3, r4, r5, r6⟩ := m_look h
  cases e
  obtain ⟨hE, hg, -⟩ := id r2
  obtain ⟨k1, k2⟩ := r2.tks r3 r6
  exact ⟨T1, r1, r2, r3, ⟨r4, r5⟩, fun a ha => (k1.sg (fun q => (hg _ q).2) ha).1⟩
theorem sg40 : sgB 40 := by unfold sgB; decide
theorem sg41 : sgB 41 := by unfold sgB; decide
theorem sg42 : sgB 42 := by unfold sgB; decide
theorem sg43 : sgB 43 := by unfold sgB; decide
theorem sg44 : sgB 44 := by unfold sgB; decide
theorem sg45 : sgB 45 := by unfold sgB; decide
theorem sg47 : sgB 47 := by unfold sgB; decide
theorem FRp.q2 {T T' : MS} (h : FRp T T') : FQs T T' := h.t.toQ
/-- where no sum goes on -/
def NOP (L : List Tok) : Prop := ∀ t L1, L = t :: L1 → t.1 ≠ 298 ∧ t.1 ≠ 303 ∧ t.1 ≠ 299 ∧ t.1 ≠ 301
theorem g122_no {t : Tok} {L1 : List Tok} {C W : List Int} {op base : Nat} (h : QS g E q T (t :: L1) C W op base) (hn : t.1 ≠ 298 ∧ t.1 ≠ 303 ∧ t.1 ≠ 299 ∧ t.1 ≠ 301) : ∃ T1, Mo_qGoesOn_122 T = ((m_Mo_qBracket T1).bind fun p5 => if p5.1 = 21 then Mo_qGoesOn_326 p5.2 else (m_Mo_qBracket p5.2).bind fun p6 => if p6.1 = 22 then Mo_qGoesOn_326 p6.2 else (m_Mo_qBracket p6.2).bind fun p7 => if p7.1 = (-1) then some (0, p7.2) else if p7.2 401 5 = 0 then ((m_Mo_fail 1 (p7.2 401 2) p7.2).bind fun p8 => some (0, p8)) else some (0, p7.2)) ∧ QS g E q T1 (t :: L1) C W op base ∧ T1 401 2 = ((t.2.1 : Nat) : Int) ∧ FQs T T1 := by
  rcases m_tkSign h.1 sg42 with ⟨q1, -⟩ | ⟨-, T1, a1, a2, a3, -⟩
  · omega
  rcases m_tkSign a2 sg47 with ⟨q1, -⟩ | ⟨-, T2, b1, b2, b3, -⟩
  · omega
  rcases m_tkSign b2 sg43 with ⟨q1, -⟩ | ⟨-, T3, c1, c2, c3, -⟩
  · omega
  rcases m_tkSign c2 sg45 with ⟨q1, -⟩ | ⟨-, T4, d1, d2, d3, d4⟩
  · omega
  have a1 : m_Mo_takesSign 42 T = _ := a1
  have b1 : m_Mo_takesSign 47 T1 = _ := b1
  have c1 : m_Mo_takesSign 43 T2 = _ := c1
  have d1 : m_Mo_takesSign 45 T3 = _ := d1
  have f := a3.tr (b3.tr (c3.tr d3))
  rw [e_Mo_qGoesOn_122, a1, Option.bind_some]
  dsimp only
  rw [if_pos rfl, b1, Option.bind_some]
  dsimp only
  rw [if_pos rfl, c1, Option.bind_some]
  dsimp only
  rw [if_pos rfl, d1, Option.bind_some]
  dsimp only
  rw [if_pos rfl]
  exact ⟨T4, rfl, h.frt f d2, d4, f.toQ⟩
theorem go_122 {t : Tok} {L1 : List Tok} {C W : List Int} {op base : Nat} (h : QS g E q T (t :: L1) C W op base) (ht : t.1 ≠ 297) : ∃ T1, Mo_qGoesOn_0 T = Mo_qGoesOn_122 T1 ∧ QS g E q T1 (t :: L1) C W op base ∧ FQs T T1 := by
  obtain ⟨T1, r1, r2, r3, r4, r5⟩ := m_lookq h.1
  rw [e_Mo_qGoesOn_0, h.1.2.2.2.1, if_pos rfl, r1, Option.bind_some]
  dsimp only
  rw [if_neg (show ¬ lkc g t = 41 from fun x => ht ((r5 41 sg41).mp x))]
  exact ⟨T1, rfl, h.frt r4.t r2, r4.q2⟩
/-- nothing more, something open: it fails there -/
theorem go_fail {t : Tok} {L1 : List Tok} {C W ops : List Int} {x : Int} {op base : Nat} {was : Int} (h : QS g E q T (t :: L1) C (W ++ [x] ++ ops) op base) (hx : 20 ≤ x ∧ x ≤ 24) (hx2 : x ≠ 21 ∧ x ≠ 22) (ho : OPS ops) (hb : base ≤ W.length) (hl : C.length + (W ++ [x] ++ ops).length < 1690) (hn : t.1 ≠ 298 ∧ t.1 ≠ 303 ∧ t.1 ≠ 299 ∧ t.1 ≠ 301) (ht : t.1 ≠ 297) : ∃ T', KQs was T = some (up T' 401 101 was) ∧ BDQ T' 1 t.2.1 ∧ FQs T T' := by
  obtain ⟨T1, a1, a2, a3⟩ := go_122 h ht
  obtain ⟨T2, b1, b2, b3, b4⟩ := g122_no a2 hn
  have e1 := q_bracket hx ho b2 hb (by omega)
  have e0 := b2.1.2.2.2.1
  rw [kq_go h.1.2.2.2.1, a1, b1, e1, Option.bind_some]
  dsimp only
  rw [if_neg hx2.1, e1, Option.bind_some]
  dsimp only
  rw [if_neg hx2.2, e1, Option.bind_some]
  dsimp only
  rw [if_neg (by omega), if_pos e0, m_fail e0, Option.bind_some, Option.bind_some]
  unfold RQs
  dsimp only
  rw [if_pos rfl, b3, end_bad (by rw [up_k (by decide), up_s]; decide)]
  exact ⟨_, rfl, ⟨bdt_fail 1 _, by rw [up_k (by decide), up_k (by decide), b2.2.2.2.1.1]; omega⟩, a3.tr (b4.tr (FRt.fail _ _).toQ)⟩
theorem ends_tot : ∀ (w c : Nat) (T : MS), T 401 99 = ((w : Nat) : Int) → T 401 97 = ((c : Nat) : Int) → c + w < 1690 → T 401 5 = 0 → 0 ≤ T 401 101 → ∃ p, Mo_qEndsPart_0 T = some p ∧ p 401 5 = 0 := by
  intro w
  induction w with
  | zero =>
    intro c T h1 h2 h3 h4 h5
    rw [e_Mo_qEndsPart_0, if_pos h4, h1, if_neg (by omega)]
    exact ⟨T, rfl, h4⟩
  | succ w ih =>
    intro c T h1 h2 h3 h4 h5
    have e : wr (((w + 1 : Nat) : Int) - 1) = ((w : Nat) : Int) := by rw [wrN (by omega) (by omega)]; omega
    rw [e_Mo_qEndsPart_0, if_pos h4, h1]
    by_cases c1 : T 401 101 < ((w + 1 : Nat) : Int)
    · rw [if_pos c1, e, if_pos (by omega), Int.toNat_natCast]
      by_cases c2 : T 474 w < 60
      · rw [if_pos c2]; exact ⟨T, rfl, h4⟩
      · rw [if_neg c2]
        have f1 : ∀ z : Int, up T 401 100 z 401 99 = ((w + 1 : Nat) : Int) := fun z => by rw [up_k (by decide)]; exact h1
        have f2 : ∀ z : Int, up T 401 100 z 401 97 = ((c : Nat) : Int) := fun z => by rw [up_k (by decide)]; exact h2
        rw [e_Mo_qDrops, f1, e, if_pos (by omega), Int.toNat_natCast, e_Mo_qCode, up_k (show (97 : Nat) ≠ 99 by decide), f2, if_pos (by omega), Option.bind_some, Option.bind_some, wr_suc2 (show c < 1700 by omega) (by decide), Int.toNat_natCast]
        exact ih (c + 1) _ (by rw [up_k (by decide), up_c (by decide), up_s]) (up_s _ _ _ _) (by omega) (by rw [up_k (by decide), up_c (by decide), up_k (by decide), up_k (by decide)]; exact h4) (by rw [up_k (by decide), up_c (by decide), up_k (by decide), up_k (by decide)]; exact h5)
    · rw [if_neg c1]; exact ⟨T, rfl, h4⟩
theorem ep_go {L : List Tok} {C W : List Int} {op base : Nat} {was : Int} (h : QS g E q T L C W op base) (hl : C.length + W.length < 1690) : ((m_Mo_qEndsPart T).bind fun p2 => Mo_qGoesOn_0 p2).bind (RQs was) = EPs was T := by
  obtain ⟨p, p1, p2⟩ := ends_tot W.length C.length T h.2.2.2.2.1.1 h.2.2.2.1.1 hl h.1.2.2.2.1 (by rw [h.2.2.2.2.2.2]; omega)
  unfold EPs
  rw [e_Mo_qEndsPart, p1, Option.bind_some, Option.bind_some, kq_go p2]
theorem ep_kq {L : List Tok} {C W : List Int} {x : Int} {op base : Nat} {was : Int} (h : QS g E q T L C (W ++ [x]) op base) (hx : x < 60) (hl : W.length < 1690) : EPs was T = KQs was T := by
  obtain ⟨w1, w2, -⟩ := snoc_top h
  have e : wr (((W.length + 1 : Nat) : Int) - 1) = ((W.length : Nat) : Int) := by rw [wrN (by omega) (by omega)]; omega
  unfold EPs
  rw [e_Mo_qEndsPart_0, h.1.2.2.2.1, if_pos rfl, w1]
  by_cases c : T 401 101 < ((W.length + 1 : Nat) : Int)
  · rw [if_pos c, e, if_pos (by omega), Int.toNat_natCast, w2, if_pos hx, Option.bind_some]
  · rw [if_neg c, Option.bind_some]
theorem ep_kq0 {L : List Tok} {C W : List Int} {op : Nat} {was : Int} (h : QS g E q T L C W op W.length) : EPs was T = KQs was T := by
  unfold EPs
  rw [e_Mo_qEndsPart_0, h.1.2.2.2.1, if_pos rfl, h.2.2.2.2.1.1, h.2.2.2.2.2.2, if_neg (by omega), Option.bind_some]
theorem ep_of {L : List Tok} {C W : List Int} {x : Int} {op base : Nat} {was : Int} (h : QS g E q T L C (W ++ [x]) (op + 1) base) (hx : 60 ≤ x) (hb : base ≤ W.length) (hop : op < 1000) (hl : C.length + W.length < 1680) : ∃ T', EPs was T = EPs was T' ∧ QS g E q T' L (C ++ [x]) W op base ∧ FQs T T' := by
  obtain ⟨w1, w2, -⟩ := snoc_top h
  have e : wr (((W.length + 1 : Nat) : Int) - 1) = ((W.length : Nat) : Int) := by rw [wrN (by omega) (by omega)]; omega
  have e2 : wr (T 401 100 - 1) = ((op : Nat) : Int) := by rw [h.2.2.2.2.2.1, wrN (by omega) (by omega)]; omega
  obtain ⟨u1, u2⟩ := q_setop (op' := op) h
  obtain ⟨T', r1, r2, r3⟩ := q_drop u1 (by omega) (by omega)
  refine ⟨T', ?_, r2, u2.tr r3⟩
  unfold EPs
  rw [e_Mo_qEndsPart_0, h.1.2.2.2.1, if_pos rfl, w1, h.2.2.2.2.2.2, if_pos (by omega), e, if_pos (by omega), Int.toNat_natCast, w2, if_neg (by omega), e2, r1, Option.bind_some]
/-- a round or a pair is closed -/
theorem go_close {t : Tok} {L1 : List Tok} {C W ops : List Int} {x : Int} {op base p : Nat} {was : Int} (h : QS g E q T (t :: L1) C (W ++ [x] ++ ops) (op + 1) base) (hx : x = 20 ∨ x = 23 ∨ x = 24) (ho : OPS ops) (hb : base ≤ W.length) (hop : op < 1000) (hl : C.length + (W ++ [x] ++ ops).length < 1660) (ht : t.1 = 297) : ∃ T', KQs was T = EPs was T' ∧ QS g E q T' L1 (C ++ (ops.reverse ++ (if x = 20 then [] else if x = 23 then [5] else [6]))) W op base ∧ FQs T T' := by
  have hl' := hl
  simp only [List.length_append, List.length_singleton] at hl'
  obtain ⟨T1, r1, r2, r3, r4, r5⟩ := m_lookq h.1
  have h1 := h.frt r4.t r2
  have eb := q_bracket (show 20 ≤ x ∧ x ≤ 24 by omega) ho h1 hb (by omega)
  obtain ⟨v1, v2, v3⟩ := r2.adv r3 sg41 ht
  have fu : FRt T1 (up T1 401 2 ((t.2.1 + 1 : Nat) : Int)) := FRt.u (Or.inl rfl)
  have h2 := h1.frt fu v1
  obtain ⟨T2, s1, s2, s3⟩ := q_dropsTo (show 20 ≤ x ∧ x ≤ 24 by omega) hb ho h2 (by omega)
  obtain ⟨w1, w2, -⟩ := snoc_top s2
  have e : wr (((W.length + 1 : Nat) : Int) - 1) = ((W.length : Nat) : Int) := by rw [wrN (by omega) (by omega)]; omega
  have e2 : wr (T2 401 100 - 1) = ((op : Nat) : Int) := by rw [s2.2.2.2.2.2.1, wrN (by omega) (by omega)]; omega
  have hE := v1.1
  obtain ⟨k1, k2⟩ := q_pop (op' := op) s2
  have hf : FQs T (up (up T2 401 99 ((W.length : Nat) : Int)) 401 100 ((op : Nat) : Int)) := r4.q2.tr (fu.toQ.tr (s3.tr k2))
  have h43 : Mo_qGoesOn_0 T = Mo_qGoesOn_43 T1 := by
    rw [e_Mo_qGoesOn_0, h.1.2.2.2.1, if_pos rfl, r1, Option.bind_some]
    dsimp only
    rw [if_pos (show lkc g t = 41 from (r5 41 sg41).mpr ht), eb, Option.bind_some]
    dsimp only
    rcases hx with rfl | rfl | rfl
    · rw [if_pos rfl]
    · rw [if_neg (by decide), eb, Option.bind_some]
      dsimp only
      rw [if_pos rfl]
    · rw [if_neg (by decide), eb, Option.bind_some]
      dsimp only
      rw [if_neg (by decide), eb, Option.bind_some]
      dsimp only
      rw [if_pos rfl]
  rw [kq_go h.1.2.2.2.1, h43, e_Mo_qGoesOn_43, r3, wr_suc2 (show t.2.1 < 1600 by omega) (by decide), s1, Option.bind_some, w1, e, if_pos (by omega), Int.toNat_natCast, w2, e2]
  by_cases c1 : x = 20
  · rw [if_pos c1, if_pos c1]
    refine ⟨_, ep_go k1 (by simp only [List.length_append, List.length_reverse]; omega), ?_, hf⟩
    rw [List.append_nil]
    exact k1
  · rw [if_neg c1, if_neg c1, if_pos (by omega)]
    have hlc : (C ++ ops.reverse).length < 1690 := by simp only [List.length_append, List.length_reverse]; omega
    by_cases c2 : x = 23
    · obtain ⟨T3, y1, y2, y3⟩ := q_code (c := 5) k1 (by omega)
      rw [if_pos c2, if_pos c2, y1, Option.bind_some]
      refine ⟨T3, ep_go y2 (by simp only [List.length_append, List.length_reverse, List.length_singleton]; omega), ?_, hf.tr y3⟩
      rw [← List.append_assoc]
      exact y2
    · obtain ⟨T3, y1, y2, y3⟩ := q_code (c := 6) k1 (by omega)
      rw [if_neg c2, if_neg c2, y1, Option.bind_some]
      refine ⟨T3, ep_go y2 (by simp only [List.length_append, List.length_reverse, List.length_singleton]; omega), ?_, hf.tr y3⟩
      rw [← List.append_assoc]
      exact y2
/-- the comma of a pair -/
theorem go_comma {t : Tok} {L1 : List Tok} {C W ops : List Int} {x : Int} {op base : Nat} {was : Int} (h : QS g E q T (t :: L1) C (W ++ [x] ++ ops) op base) (hx : x = 21 ∨ x = 22) (ho : OPS ops) (hb : base ≤ W.length) (hl : C.length + (W ++ [x] ++ ops).length < 1660) (hn : t.1 ≠ 298 ∧ t.1 ≠ 303 ∧ t.1 ≠ 299 ∧ t.1 ≠ 301) : (t.1 = 300 ∧ ∃ T', KQs was T = PTs was T' ∧ QS g E q T' L1 (C ++ ops.reverse) (W ++ [x + 2]) op base ∧ FQs T T') ∨ (t.1 ≠ 300 ∧ ∃ T', KQs was T = some (up T' 401 101 was) ∧ BDQ T' 1 t.2.1 ∧ FQs T T') := by
  have hl' := hl
  simp only [List.length_append, List.length_singleton] at hl'
  obtain ⟨T1, r1, r2, r3, r4, r5⟩ := m_lookq h.1
  have h1 := h.frt r4.t r2
  have hxx : 20 ≤ x ∧ x ≤ 24 := by omega
  have eb := q_bracket hxx ho h1 hb (by omega)
  have g122 : Mo_qGoesOn_0 T = Mo_qGoesOn_122 T1 := by
    rw [e_Mo_qGoesOn_0, h.1.2.2.2.1, if_pos rfl, r1, Option.bind_some]
    dsimp only
    by_cases c : lkc g t = 41
    · rw [if_pos c, eb, Option.bind_some]
      dsimp only
      rw [if_neg (by omega), eb, Option.bind_some]
      dsimp only
      rw [if_neg (by omega), eb, Option.bind_some]
      dsimp only
      rw [if_neg (by omega)]
    · rw [if_neg c]
  obtain ⟨T2, b1, b2, b3, b4⟩ := g122_no h1 hn
  have eb2 := q_bracket hxx ho b2 hb (by omega)
  have h326 : Mo_qGoesOn_0 T = Mo_qGoesOn_326 T2 := by
    rw [g122, b1, eb2, Option.bind_some]
    dsimp only
    rcases hx with rfl | rfl
    · rw [if_pos rfl]
    · rw [if_neg (by decide), eb2, Option.bind_some]
      dsimp only
      rw [if_pos rfl]
  have hf : FQs T T2 := r4.q2.tr b4
  rw [kq_go h.1.2.2.2.1, h326, e_Mo_qGoesOn_326]
  rcases m_askSg b2.1 sg44 with ⟨q1, T3, c1, c2, c3⟩ | ⟨q1, T3, c1, c2, c3⟩
  · left
    have c1 : m_Mo_asksSign 44 T2 = _ := c1
    have h3 := b2.frt c3 c2
    obtain ⟨T4, s1, s2, s3⟩ := q_dropsTo hxx hb ho h3 (by omega)
    obtain ⟨w1, w2, w3⟩ := snoc_top s2
    have e : wr (((W.length + 1 : Nat) : Int) - 1) = ((W.length : Nat) : Int) := by rw [wrN (by omega) (by omega)]; omega
    rw [c1, Option.bind_some, if_pos c2.2.2.2.1, s1, Option.bind_some, w1, e, if_pos (by omega), if_pos (by omega), Int.toNat_natCast, w2, wrN (by omega) (by omega), Option.bind_some]
    unfold RQs
    dsimp only
    rw [if_neg n10]
    have u : QS g E q (up T4 474 W.length (x + 2)) L1 (C ++ ops.reverse) (W ++ [x + 2]) op base := by
      obtain ⟨c1', c2'⟩ := s2.2.2.2.1
      refine s2.mk2 (fun c _ _ a3 => up_c a3) (fun k _ _ _ _ => by rw [up_c (by decide)]) ⟨by rw [up_c (by decide)]; exact c1', fun i hi => by rw [up_c (by decide)]; exact c2' i hi⟩ ⟨by rw [up_c (by decide), w1, List.length_append, List.length_singleton], fun i hi => ?_⟩ (by rw [up_c (by decide)]; exact s2.2.2.2.2.2.1) (by rw [up_c (by decide)]; exact s2.2.2.2.2.2.2)
      rw [snoc_get hi]
      rw [List.length_append, List.length_singleton] at hi
      by_cases z : i = W.length
      · rw [if_pos z, z, up_s]
      · rw [if_neg z, up_k z]; exact w3 i (by omega)
    refine ⟨q1, _, pt_eq u.1.2.2.2.1, u, hf.tr (c3.toQ.tr (s3.tr ⟨fun c _ _ a3 => up_c a3, fun k _ _ _ _ _ _ _ _ => by rw [up_c (by decide)]⟩))⟩
  · right
    have c1 : m_Mo_asksSign 44 T2 = _ := c1
    have hb5 : T3 401 5 ≠ 0 := by rw [c2.1]; decide
    rw [c1, Option.bind_some, if_neg hb5, Option.bind_some]
    unfold RQs
    dsimp only
    rw [if_pos rfl, end_bad hb5]
    exact ⟨q1, T3, rfl, ⟨c2, by rw [c3.2 97 (by decide) (by decide) (by decide) (by decide) (by decide), b2.2.2.2.1.1]; omega⟩, hf.tr c3.toQ⟩
/-- an operator is joined: of a product -/
theorem go_mul {V M : List Int} {C : List Int} {L : List Tok} {m : Int} {op base : Nat} (h : QS g E q T L C (V ++ M) op base) (hM : M = [] ∨ ∃ y, M = [y] ∧ (y = 3 ∨ y = 4)) (hV : ∀ V' x, V = V' ++ [x] → x ≠ 3 ∧ x ≠ 4) (hl : C.length + V.length < 1680) : ∃ T', Mo_qGoesOn_162 m T = some (1, T') ∧ QS g E q T' L (C ++ M) (V ++ [m]) op base ∧ FQs T T' := by
  have base' : ∀ {T : MS} {C : List Int}, QS g E q T L C V op base → ∃ T', Mo_qGoesOn_162 m T = some (1, T') ∧ QS g E q T' L C (V ++ [m]) op base ∧ FQs T T' := fun {T C} h => by
    obtain ⟨p1, p2⟩ := q_push (c := m) h
    have w1 := h.2.2.2.2.1.1
    have no3 : m_Mo_qIsOn 3 T = some (0, T) ∧ m_Mo_qIsOn 4 T = some (0, T) := by
      rcases V.eq_nil_or_concat with rfl | ⟨V', x, rfl⟩
      · exact ⟨q_on0 h, q_on0 h⟩
      · rw [List.concat_eq_append] at *
        obtain ⟨x1, x2⟩ := hV V' x rfl
        rw [List.length_append, List.length_singleton] at hl
        rw [q_on h (by omega), q_on h (by omega), if_neg x1, if_neg x2]
        exact ⟨rfl, rfl⟩
    rw [e_Mo_qGoesOn_162, no3.1, Option.bind_some]
    dsimp only
    rw [if_pos rfl, no3.2, Option.bind_some]
    dsimp only
    rw [if_pos rfl]
    simp only [w1]
    rw [if_pos (by omega), Int.toNat_natCast, wr_suc2 (show V.length < 1700 by omega) (by decide)]
    exact ⟨_, rfl, p1, p2⟩
  rcases hM with rfl | ⟨y, rfl, hy⟩
  · rw [List.append_nil] at h ⊢
    exact base' h
  · obtain ⟨T1, r1, r2, r3⟩ := q_drop h (by omega) (by omega)
    obtain ⟨T2, s1, s2, s3⟩ := base' r2
    refine ⟨T2, ?_, s2, r3.tr s3⟩
    rw [e_Mo_qGoesOn_162, q_on h (by omega), Option.bind_some]
    dsimp only
    by_cases c : y = 3
    · rw [if_pos c, if_neg n10, r1, Option.bind_some]; exact s1
    · rw [if_neg c, if_pos rfl, q_on h (by omega), Option.bind_some]
      dsimp only
      rw [if_pos (show y = 4 by omega), if_neg n10, r1, Option.bind_some]; exact s1
theorem go_add {V R : List Int} {L : List Tok} {m : Int} {op base : Nat} (hV : ∀ V' x, V = V' ++ [x] → ¬ (1 ≤ x ∧ x ≤ 4)) : ∀ (R : List Int) (C : List Int) (T : MS), OPS R → QS g E q T L C (V ++ R.reverse) op base → C.length + V.length + R.length < 1680 → ∃ T', Mo_qGoesOn_247 m T = some (1, T') ∧ QS g E q T' L (C ++ R) (V ++ [m]) op base ∧ FQs T T' := by
  intro R
  induction R with
  | nil =>
    intro C T _ h hl
    rw [List.reverse_nil, List.append_nil] at h
    rw [List.length_nil] at hl
    obtain ⟨p1, p2⟩ := q_push (c := m) h
    have w1 := h.2.2.2.2.1.1
    have no3 : ∀ a : Int, 1 ≤ a → a ≤ 4 → m_Mo_qIsOn a T = some (0, T) := fun a a1 a2 => by
      rcases V.eq_nil_or_concat with rfl | ⟨V', x, rfl⟩
      · exact q_on0 h
      · rw [List.concat_eq_append] at *
        have hx := hV V' x rfl
        rw [List.length_append, List.length_singleton] at hl
        rw [q_on h (by omega), if_neg (by omega)]
    rw [e_Mo_qGoesOn_247, no3 3 (by decide) (by decide), Option.bind_some]
    dsimp only
    rw [if_pos rfl, no3 4 (by decide) (by decide), Option.bind_some]
    dsimp only
    rw [if_pos rfl, no3 1 (by decide) (by decide), Option.bind_some]
    dsimp only
    rw [if_pos rfl, no3 2 (by decide) (by decide), Option.bind_some]
    dsimp only
    rw [if_pos rfl]
    simp only [w1]
    rw [if_pos (by omega), Int.toNat_natCast, wr_suc2 (show V.length < 1700 by omega) (by decide)]
    exact ⟨_, rfl, by rw [List.append_nil]; exact p1, p2⟩
  | cons y R ih =>
    intro C T ho h hl
    rw [List.length_cons] at hl
    have hy := ho y (List.mem_cons_self ..)
    rw [List.reverse_cons, ← List.append_assoc] at h
    have hlen : (V ++ R.reverse).length = V.length + R.length := by simp only [List.length_append, List.length_reverse]
    obtain ⟨T1, r1, r2, r3⟩ := q_drop h (by omega) (by omega)
    obtain ⟨T2, s1, s2, s3⟩ := ih (C ++ [y]) T1 (fun z hz => ho z (List.mem_cons_of_mem _ hz)) r2 (by rw [List.length_append, List.length_singleton]; omega)
    have hq : ∀ a : Int, m_Mo_qIsOn a T = some ((if y = a then 1 else 0), T) := fun a => q_on h (by omega)
    refine ⟨T2, ?_, by rw [List.append_assoc] at s2; exact s2, r3.tr s3⟩
    rw [e_Mo_qGoesOn_247, hq 3, Option.bind_some]
    dsimp only
    by_cases c3 : y = 3
    · rw [if_pos c3, if_neg n10, r1, Option.bind_some]; exact s1
    · rw [if_neg c3, if_pos rfl, hq 4, Option.bind_some]
      dsimp only
      by_cases c4 : y = 4
      · rw [if_pos c4, if_neg n10, r1, Option.bind_some]; exact s1
      · rw [if_neg c4, if_pos rfl, hq 1, Option.bind_some]
        dsimp only
        by_cases c1 : y = 1
        · rw [if_pos c1, if_neg n10, r1, Option.bind_some]; exact s1
        · rw [if_neg c1, if_pos rfl, hq 2, Option.bind_some]
          dsimp only
          rw [if_pos (show y = 2 by omega), if_neg n10, r1, Option.bind_some]; exact s1
end
