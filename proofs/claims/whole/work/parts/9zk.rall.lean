/-! the reference: every part and sum -/
section
variable {n : Nat} {P S T : MS} {g : Nat → Int} {E : Nat} {q : Int}
theorem r_78 {m base p : Nat} {was : Int} {inn : Option RDR} {t : Tok} {L1 : List Tok} {C W : List Int} (hm : m < 7) (hi : INR g E q m inn) (ht : t.1 = 24 ∨ t.1 = 25) (hT : TOK E p (t :: L1)) (h : QS g E q T (t :: L1) C W (6 - m) base) (hb : base ≤ W.length) (hl : C.length + W.length + (t :: L1).length ≤ 1650) : PRB g E q (6 - m) base was T C W (rdPair inn (if t.1 = 24 then 5 else 6) L1) ((Mo_qPartTold_78 1 T).bind (KQs was)) := by
  obtain ⟨k1, -⟩ := hT.tl (by omega)
  rw [List.length_cons] at hl
  rw [e_Mo_qPartTold_78]
  rcases m_takes hr_461 h.2.1 h.1 with ⟨e, T1, r1, r2, r3⟩ | ⟨e, T1, r1, r2, r3, r4⟩
  · rw [r1, Option.bind_some]
    dsimp only
    rw [if_neg n10, if_pos e]
    exact (r_pair (was := was) (v4 := 1) hm hi (Or.inr ⟨by decide, rfl⟩) k1 (h.frt r3 r2) hb (by omega)).pre r3.toQ
  · have h1 := h.frt r4.t r2
    rcases m_asks hr_462 h1.2.1 r2 with ⟨-, T2, s1, s2, s3⟩ | ⟨e2, -⟩
    · rw [r1, Option.bind_some]
      dsimp only
      rw [if_pos rfl, s1, Option.bind_some, if_neg e]
      exact (r_pair (was := was) (v4 := 0) hm hi (Or.inl ⟨rfl, rfl⟩) k1 (h1.frt s3 s2) hb (by omega)).pre (r4.t.tr s3).toQ
    · omega
theorem r_186 {op base p : Nat} {was : Int} {t : Tok} {L1 : List Tok} {C W : List Int} (hq3 : q = 0 ∨ q = 1 ∨ q = 2 ∨ q = 3) (hT : TOK E p (t :: L1)) (h : QS g E q T (t :: L1) C W op base) (hl : C.length + W.length + (t :: L1).length ≤ 1650) (hr : RDR) (hrd : hr (t :: L1) = if t.1 = 33 then rdNum g 0 9999 t (fun v => PR.ok L1 [1000 + v]) else match vlH q t.1 with
      | none => PR.no 1 t.2.1
      | some k => PR.ok L1 [40 + k]) : PRB g E q op base was T C W (hr (t :: L1)) ((Mo_qPartTold_186 T).bind (KQs was)) := by
  rw [List.length_cons] at hl
  rw [e_Mo_qPartTold_186, h.1.2.2.2.1, if_pos rfl]
  obtain ⟨z, T1, r1, r2, r3, r4, r5⟩ := m_qwo (lo := 0) (hi := 8) h.2.1 h.1 h.2.2.1 hq3
  have h1 := h.frt r4.t r2
  obtain ⟨v1, v2⟩ := qw_vl t.1 hq3
  rw [r1, Option.bind_some]
  dsimp only
  rcases r5 with ⟨a1, a2, a3, rfl⟩ | ⟨a1, rfl⟩
  · have hv := v1 ⟨a1, a2, a3⟩
    have h33 : t.1 ≠ 33 := fun e => by rw [e] at hv; cases hv
    obtain ⟨T2, s1, s2, s3⟩ := m_qaw h1.2.1 r2 (by omega)
    obtain ⟨T3, u1, u2, u3⟩ := q_code (c := 40 + qwN t.1) (h1.frt s3 s2) (by omega)
    rw [if_neg (by omega), s1, Option.bind_some, e_Mo_qPartTold_212, if_neg (by omega), wrN (by omega) (by omega), u1, Option.bind_some, hrd, if_neg h33, hv]
    refine Or.inl ⟨L1, _, T3, rfl, ?_, u2, (r4.t.tr s3).toQ.tr u3⟩
    unfold EPs
    rw [e_Mo_qEndsPart]
    cases Mo_qEndsPart_0 T3 <;> rfl
  · have hv := v2 a1
    rw [if_pos rfl, e_Mo_qPartTold_212, if_pos rfl, hrd, hv]
    rcases m_number (lo := 0) (hi := 9999) r2 with ⟨v, T2, s1, s2, s3, s4, s5, s6, s7⟩ | ⟨k, q', v, T2, s1, s2, s3, s4, s5, s6⟩
    · obtain ⟨T3, u1, u2, u3⟩ := q_code (c := 1000 + v) (h1.frt s6 s5) (by omega)
      rw [s4, Option.bind_some]
      dsimp only
      rw [wrN (by omega) (by omega), u1, Option.bind_some, if_pos s3, s1]
      refine Or.inl ⟨L1, _, T3, rfl, ?_, u2, (r4.t.tr s6).toQ.tr u3⟩
      unfold EPs
      rw [e_Mo_qEndsPart]
      cases Mo_qEndsPart_0 T3 <;> rfl
    · have w97 : T2 401 97 = ((C.length : Nat) : Int) := by rw [s5.2 97 (by decide) (by decide) (by decide) (by decide) (by decide)]; exact h1.2.2.2.1.1
      have hb5 : up (up T2 473 C.length (wr (1000 + v))) 401 97 ((C.length + 1 : Nat) : Int) 401 5 ≠ 0 := by rw [up_k (by decide), up_c (by decide), s4.1]; exact s2
      have e0 : (if t.1 = 33 then rdNum g 0 9999 t (fun v => PR.ok L1 [1000 + v]) else PR.no 1 t.2.1) = PR.no k q' := by
        by_cases c : t.1 = 33
        · rw [if_pos c, s1]
        · have := s1 (fun v => PR.ok L1 [1000 + v])
          unfold rdNum at this
          rw [if_neg c] at this
          rw [if_neg c]; exact this
      rw [s3, Option.bind_some]
      dsimp only
      rw [e_Mo_qCode, w97, if_pos (show 0 ≤ ((C.length : Nat) : Int) ∧ ((C.length : Nat) : Int) < 1700 by omega), Option.bind_some, Int.toNat_natCast, wr_suc2 (show C.length < 1700 by omega) (by decide), e_Mo_qEndsPart, e_Mo_qEndsPart_0, if_neg hb5, Option.bind_some, Option.bind_some, kq_bad hb5]
      refine PRB.bad e0 s2 rfl ⟨⟨by rw [up_k (by decide), up_c (by decide)]; exact s4.1, by rw [up_k (by decide), up_c (by decide)]; exact s4.2⟩, by rw [up_s]; omega⟩ ((r4.t.tr s5).toQ.tr ⟨fun c a1 a2 _ => by rw [up_c a1, up_c a2], fun k _ _ _ _ _ k6 _ _ => by rw [up_k k6, up_c (by decide)]⟩)
theorem body_ref {m : Nat} {inn : Option RDR} (hq3 : q = 0 ∨ q = 1 ∨ q = 2 ∨ q = 3) (hm : m < 7) (hi : INR g E q m inn) : PSM g E q (6 - m) (rdBody g q inn) := by
  intro p L C W base was T hT h hb hl
  cases L with
  | nil => exact hT.elim
  | cons t L1 =>
    show PRB g E q (6 - m) base was T C W (rdBody g q inn (t :: L1)) (PTs was T)
    obtain ⟨T1, r1, r2, r3, r4, r5⟩ := m_lookq h.1
    have h1 := h.frt r4.t r2
    obtain ⟨z, T2, s1, s2, s3, s4, s5⟩ := m_qwo (lo := 8) (hi := 10) h1.2.1 r2 h1.2.2.1 hq3
    have h2 := h1.frt s4.t s2
    have f2 : FQs T T2 := (r4.t.tr s4.t).toQ
    have hqw := qwN_cases t.1
    unfold PTs
    rw [e_Mo_qPartTold_2, if_neg n10, h.1.2.2.2.1, if_pos rfl, r1, Option.bind_some]
    dsimp only
    rw [s1, Option.bind_some]
    dsimp only
    unfold rdBody
    dsimp only
    by_cases c0 : t.1 = 296
    · rw [if_neg (by omega), if_neg (by omega), if_neg (by omega), if_pos c0, if_pos (show lkc g t = 40 from (r5 40 sg40).mpr c0)]
      exact (r_round (was := was) hm hi c0 hT h2 s3 hb hl).pre f2
    · rw [if_neg (show ¬ lkc g t = 40 from fun x => c0 ((r5 40 sg40).mp x))]
      obtain ⟨T3, a1, a2, a3, a4, -⟩ := m_isHere hr_461 h2.2.1 s2
      have h3 := h2.frt a4.t a2
      have f3 := f2.tr a4.q2
      rw [a1, Option.bind_some]
      dsimp only
      by_cases c1 : t.1 = 24
      · rw [if_neg (by omega), if_pos (Or.inl c1), if_neg (show ¬ (if t.1 = 24 then (1 : Int) else 0) = 0 by rw [if_pos c1]; decide)]
        exact (r_78 (was := was) hm hi (Or.inl c1) hT h3 hb hl).pre f3
      · obtain ⟨T4, b1, b2, b3, b4, -⟩ := m_isHere hr_462 h3.2.1 a2
        have h4 := h3.frt b4.t b2
        have f4 := f3.tr b4.q2
        rw [if_pos (show (if t.1 = 24 then (1 : Int) else 0) = 0 by rw [if_neg c1]), b1, Option.bind_some]
        dsimp only
        by_cases c2 : t.1 = 25
        · rw [if_neg (by omega), if_pos (Or.inr c2), if_neg (show ¬ (if t.1 = 25 then (1 : Int) else 0) = 0 by rw [if_pos c2]; decide)]
          exact (r_78 (was := was) hm hi (Or.inr c2) hT h4 hb hl).pre f4
        · rw [if_pos (show (if t.1 = 25 then (1 : Int) else 0) = 0 by rw [if_neg c2])]
          by_cases c3 : t.1 = 18 ∨ t.1 = 19
          · rw [if_pos c3]
            by_cases c4 : q = 3
            · have hz : t.1 = 18 ∧ z = 8 ∨ t.1 = 19 ∧ z = 9 := by
                unfold ALW at s5
                omega
              rw [if_pos c4, if_neg (show ¬ z = -1 by omega)]
              exact (r_of (was := was) hm hi hz hT h4 b3 hb hl).pre f4
            · have hz : z = -1 := by
                unfold ALW at s5
                omega
              have hpt : Mo_qPartTold_2 0 T4 = Mo_qPartTold_186 T4 := by rw [e_Mo_qPartTold_2, if_pos rfl]
              have hvn : vlH q t.1 = none := (qw_vl t.1 hq3).2 (by omega)
              rw [if_neg c4, if_pos hz, hpt]
              exact (r_186 (was := was) hq3 hT h4 hl (fun _ => PR.no 1 t.2.1) (by rw [if_neg (by omega), hvn])).pre f4
          · have hz : z = -1 := by omega
            have hpt : Mo_qPartTold_2 0 T4 = Mo_qPartTold_186 T4 := by rw [e_Mo_qPartTold_2, if_pos rfl]
            rw [if_neg c3, if_neg (by omega), if_pos hz, hpt, if_neg c0]
            exact (r_186 (was := was) hq3 hT h4 hl (fun _ => if t.1 = 33 then rdNum g 0 9999 t (fun v => PR.ok L1 [1000 + v]) else match vlH q t.1 with | none => PR.no 1 t.2.1 | some k => PR.ok L1 [40 + k]) rfl).pre f4
theorem part_ref (hq3 : q = 0 ∨ q = 1 ∨ q = 2 ∨ q = 3) : ∀ m, m < 7 → PSM g E q (6 - m) (rdPart g q m) := by
  intro m
  induction m with
  | zero => intro hm; exact body_ref hq3 hm (Or.inl ⟨rfl, rfl⟩)
  | succ m ih => intro hm; exact body_ref hq3 hm (Or.inr ⟨m, rfl, rfl, ih (by omega)⟩)
/-- a whole sum -/
theorem end_0 : ∀ (R C W : List Int) (op : Nat) (L : List Tok) (T : MS) (was : Int), QS g E q T L C (W ++ R.reverse) op W.length → C.length + W.length + R.length < 1680 → ∃ T', Mo_qSums_53 was T = some (up T' 401 101 was) ∧ QS g E q T' L (C ++ R) W op W.length ∧ FQs T T' := by
  intro R
  induction R with
  | nil =>
    intro C W op L T was h hl
    rw [List.reverse_nil, List.append_nil] at h
    rw [e_Mo_qSums_53, h.1.2.2.2.1, if_pos rfl, h.2.2.2.2.1.1, h.2.2.2.2.2.2, if_neg (by omega)]
    exact ⟨T, rfl, by rw [List.append_nil]; exact h, FQs.rf T⟩
  | cons y R ih =>
    intro C W op L T was h hl
    rw [List.length_cons] at hl
    rw [List.reverse_cons, ← List.append_assoc] at h
    obtain ⟨w1, -, -⟩ := snoc_top h
    have hlen : (W ++ R.reverse).length = W.length + R.length := by simp only [List.length_append, List.length_reverse]
    obtain ⟨T1, r1, r2, r3⟩ := q_drop h (by omega) (by omega)
    obtain ⟨T2, s1, s2, s3⟩ := ih (C ++ [y]) W op L T1 was r2 (by rw [List.length_append, List.length_singleton]; omega)
    rw [e_Mo_qSums_53, h.1.2.2.2.1, if_pos rfl, w1, h.2.2.2.2.2.2, if_pos (by omega), r1, Option.bind_some, s1]
    exact ⟨T2, rfl, by rw [List.append_assoc] at s2; exact s2, r3.tr s3⟩
/-- behind a sum that stands open nowhere: done -/
theorem go_done {t : Tok} {L1 : List Tok} {C W R : List Int} {op : Nat} {was : Int} (h : QS g E q T (t :: L1) C (W ++ R.reverse) op W.length) (ho : OPS R) (hl : C.length + W.length + R.length < 1660) (hn : t.1 ≠ 298 ∧ t.1 ≠ 303 ∧ t.1 ≠ 299 ∧ t.1 ≠ 301) : ∃ T', KQs was T = some (up T' 401 101 was) ∧ QS g E q T' (t :: L1) (C ++ R) W op W.length ∧ FQs T T' := by
  have ho' : OPS R.reverse := fun y hy => ho y (List.mem_reverse.mp hy)
  have hlen : (W ++ R.reverse).length < 1690 := by simp only [List.length_append, List.length_reverse]; omega
  obtain ⟨T1, r1, r2, r3, r4, r5⟩ := m_lookq h.1
  have h1 := h.frt r4.t r2
  have eb := q_bracket0 ho' h1 hlen
  have g122 : Mo_qGoesOn_0 T = Mo_qGoesOn_122 T1 := by
    rw [e_Mo_qGoesOn_0, h.1.2.2.2.1, if_pos rfl, r1, Option.bind_some]
    dsimp only
    by_cases c : lkc g t = 41
    · rw [if_pos c, eb, Option.bind_some]
      dsimp only
      rw [if_neg (by decide), eb, Option.bind_some]
      dsimp only
      rw [if_neg (by decide), eb, Option.bind_some]
      dsimp only
      rw [if_neg (by decide)]
    · rw [if_neg c]
  obtain ⟨T2, b1, b2, b3, b4⟩ := g122_no h1 hn
  have eb2 := q_bracket0 ho' b2 hlen
  obtain ⟨T3, s1, s2, s3⟩ := end_0 R C W op (t :: L1) T2 was b2 (by omega)
  rw [kq_go h.1.2.2.2.1, g122, b1, eb2, Option.bind_some]
  dsimp only
  rw [if_neg (by decide), eb2, Option.bind_some]
  dsimp only
  rw [if_neg (by decide), eb2, Option.bind_some]
  dsimp only
  rw [if_pos rfl, Option.bind_some]
  unfold RQs
  dsimp only
  rw [if_pos rfl, e_Mo_qSums_15, if_pos rfl, s1]
  exact ⟨T3, rfl, s2, r4.q2.tr (b4.tr s3)⟩
def FQt (T T' : MS) : Prop := (∀ c, c ≠ 401 → c ≠ 473 → c ≠ 474 → T' c = T c) ∧ ∀ k, k ≠ 2 → k ≠ 4 → k ≠ 5 → k ≠ 6 → k ≠ 10 → k ≠ 97 → k ≠ 99 → k ≠ 100 → k ≠ 101 → T' 401 k = T 401 k
theorem FQs.q3 {T T' : MS} (h : FQs T T') : FQt T T' := ⟨h.1, fun k a1 a2 a3 a4 a5 a6 a7 a8 _ => h.2 k a1 a2 a3 a4 a5 a6 a7 a8⟩
theorem FQt.tr {T T' T'' : MS} (h : FQt T T') (k : FQt T' T'') : FQt T T'' := ⟨fun c a1 a2 a3 => (k.1 c a1 a2 a3).trans (h.1 c a1 a2 a3), fun j a1 a2 a3 a4 a5 a6 a7 a8 a9 => (k.2 j a1 a2 a3 a4 a5 a6 a7 a8 a9).trans (h.2 j a1 a2 a3 a4 a5 a6 a7 a8 a9)⟩
theorem FQt.u {T : MS} {z : Int} : FQt T (up T 401 101 z) := ⟨fun c a1 _ _ => up_c a1, fun k _ _ _ _ _ _ _ _ k9 => up_k k9⟩
theorem q_base {L : List Tok} {C W : List Int} {op base base' : Nat} (h : QS g E q T L C W op base) : QS g E q (up T 401 101 ((base' : Nat) : Int)) L C W op base' := by
  obtain ⟨c1, c2⟩ := h.2.2.2.1
  obtain ⟨w1, w2⟩ := h.2.2.2.2.1
  exact h.mk2 (fun c a1 _ _ => up_c a1) (fun k _ _ _ k4 => up_k k4) ⟨by rw [up_k (by decide)]; exact c1, fun i hi => by rw [up_c (by decide)]; exact c2 i hi⟩ ⟨by rw [up_k (by decide)]; exact w1, fun i hi => by rw [up_c (by decide)]; exact w2 i hi⟩ (by rw [up_k (by decide)]; exact h.2.2.2.2.2.1) (up_s _ _ _ _)
/-- a sum of the reference, at so many open -/
theorem m_qSums {m base p : Nat} {C W : List Int} {L : List Tok} (hq3 : q = 0 ∨ q = 1 ∨ q = 2 ∨ q = 3) (hm : m < 7) (hW : ∀ V' x, W = V' ++ [x] → ¬ (1 ≤ x ∧ x ≤ 4)) (hT : TOK E p L) (h : QS g E q T L C W (6 - m) base) (hl : C.length + W.length + L.length ≤ 1650) : (∃ L' cs T', rdSumP (rdPart g q m) L = PR.ok L' cs ∧ m_Mo_qSums T = some T' ∧ QS g E q T' L' (C ++ cs) W (6 - m) base ∧ FQt T T') ∨ ∃ k p T', rdSumP (rdPart g q m) L = PR.no k p ∧ k ≠ 0 ∧ m_Mo_qSums T = some T' ∧ BDQ T' k p ∧ FQt T T' := by
  have w1 := h.2.2.2.2.1.1
  have hb := h.2.2.2.2.2.2
  have h1 := q_base (base' := W.length) h
  have fu : FQt T (up T 401 101 ((W.length : Nat) : Int)) := FQt.u
  rw [e_Mo_qSums, hb, w1, pt_eq h1.1.2.2.2.1]
  rcases sum_allr (was := ((base : Nat) : Int)) (part_ref hq3 m hm) (rdPart_k g q m) hW (Or.inr rfl) (Nat.le_refl _) hT h1 hl with ⟨L2, accR, R, T2, c1, c2, c3, c4, c5, c6⟩ | ⟨k, p', T2, c1, c2, c3, c4, c5⟩
  · obtain ⟨p2, d1, d2, d3, d4⟩ := rdSumP_k (rdPart_k g q m) E _ _ _ _ hT c1
    rw [List.length_append] at d3
    cases L2 with
    | nil => exact d2.elim
    | cons t2 L2 =>
      obtain ⟨T3, s1, s2, s3⟩ := go_done (was := ((base : Nat) : Int)) c4 c2.1 (by rw [List.length_append]; rw [List.length_cons] at d3; omega) (c5 t2 L2 rfl)
      left
      rw [c3, s1]
      refine ⟨_, _, _, c1, rfl, ?_, fu.tr (c6.q3.tr (s3.q3.tr FQt.u))⟩
      rw [← List.append_assoc]
      exact q_base s2
  · right
    rw [c3]
    exact ⟨k, p', _, c1, c2, rfl, ⟨⟨by rw [up_k (by decide)]; exact c4.1.1, by rw [up_k (by decide)]; exact c4.1.2⟩, by rw [up_k (by decide)]; exact c4.2⟩, fu.tr (c5.q3.tr FQt.u)⟩
end
