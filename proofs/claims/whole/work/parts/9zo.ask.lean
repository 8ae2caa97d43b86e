/-! ASK: how a question is read, both -/
section
variable {n : Nat} {P S T : MS} {g : Nat → Int} {E : Nat} {q : Int}
def rdAsk (g : Nat → Int) : RDR := fun L => match L with
  | [] => PR.no 1 0
  | t :: L1 => if t.1 < 26 ∨ 31 < t.1 then PR.no 1 t.2.1 else (if 28 < t.1 then rdSumP (rdPart g 3 6) L1 else rdTestP (rdFact g 3 6) L1).bnd (fun L' cs => match L' with
    | [] => PR.no 1 0
    | t' :: _ => if t'.1 = 35 then PR.ok [] (((t.1 - 26 : Nat) : Int) :: cs) else PR.no 1 t'.2.1)
def FKa (S S' : MS) : Prop := (∀ c, c ≠ 2 → c ≠ 4 → c ≠ 126 → c ≠ 127 → c ≠ 132 → S' c = S c) ∧ (∀ k, k < 3 ∨ 9 < k → S' 2 k = S 2 k) ∧ S' 132 1 = 1
theorem bind_eta {x : Option (Int × MS)} : (x.bind fun p1 => some (p1.1, p1.2)) = x := by cases x <;> rfl
theorem rdAsk_ok {t t' : Tok} {L1 L2 : List Tok} {cs : List Int} (c1 : ¬ (t.1 < 26 ∨ 31 < t.1)) (h : (if 28 < t.1 then rdSumP (rdPart g 3 6) L1 else rdTestP (rdFact g 3 6) L1) = PR.ok (t' :: L2) cs) : rdAsk g (t :: L1) = if t'.1 = 35 then PR.ok [] (((t.1 - 26 : Nat) : Int) :: cs) else PR.no 1 t'.2.1 := by
  show (if t.1 < 26 ∨ 31 < t.1 then PR.no 1 t.2.1 else (if 28 < t.1 then rdSumP (rdPart g 3 6) L1 else rdTestP (rdFact g 3 6) L1).bnd _) = _
  rw [if_neg c1, h]
  rfl
theorem rdAsk_no {t : Tok} {L1 : List Tok} {k : Int} {p : Nat} (c1 : ¬ (t.1 < 26 ∨ 31 < t.1)) (h : (if 28 < t.1 then rdSumP (rdPart g 3 6) L1 else rdTestP (rdFact g 3 6) L1) = PR.no k p) : rdAsk g (t :: L1) = PR.no k p := by
  show (if t.1 < 26 ∨ 31 < t.1 then PR.no 1 t.2.1 else (if 28 < t.1 then rdSumP (rdPart g 3 6) L1 else rdTestP (rdFact g 3 6) L1).bnd _) = _
  rw [if_neg c1, h]
  rfl
theorem rdAsk_0 {t : Tok} {L1 : List Tok} (c1 : t.1 < 26 ∨ 31 < t.1) : rdAsk g (t :: L1) = PR.no 1 t.2.1 := by
  show (if t.1 < 26 ∨ 31 < t.1 then PR.no 1 t.2.1 else _) = _
  rw [if_pos c1]
theorem ask_k {k : Nat} : SUBK (fun L => if 28 < k then rdSumP (rdPart g 3 6) L else rdTestP (rdFact g 3 6) L) := by
  by_cases c : 28 < k
  · simp only [if_pos c]; exact rdSumP_k (rdPart_k g 3 6)
  · simp only [if_neg c]; exact rdTestP_k (rdFact_k g 3 6)
theorem ask_ty {k : Nat} {L1 L' : List Tok} {cs : List Int} (h26 : 26 ≤ k) (h : (if 28 < k then rdSumP (rdPart g 3 6) L1 else rdTestP (rdFact g 3 6) L1) = PR.ok L' cs) : tyS 3 cs [] = some [decide (k - 26 < 3)] := by
  by_cases c : 28 < k
  · rw [if_pos c] at h
    rw [sum_ty _ _ _ h [] (by decide), decide_eq_false (by omega)]
  · rw [if_neg c] at h
    rw [test_ty _ _ _ h [] (by decide), decide_eq_true (by omega)]
def ASKc (g : Nat → Int) (L : List Tok) (S : MS) (x : Option (Int × MS)) : Prop := (∃ (k : Nat) (cs : List Int) (S' : MS), rdAsk g L = PR.ok [] ((k : Int) :: cs) ∧ k < 6 ∧ x = m_As_answerOfAll ((26 + k : Nat) : Int) S' ∧ (S' 126 1 = ((cs.length : Nat) : Int) ∧ ∀ i, i < cs.length → S' 127 i = mc (cs.getD i 0)) ∧ (S' 2 8 = 0 ∧ S' 2 9 = -1) ∧ FKa S S' ∧ cs.length ≤ 1601 ∧ tyS 3 cs [] = some [decide (k < 3)]) ∨ ∃ k p S', rdAsk g L = PR.no k p ∧ x = some (-1000000000000000, S') ∧ (S' 2 8 = k ∧ S' 2 9 = ((p : Nat) : Int)) ∧ FKa S S'
theorem c_answer (hE : E ≤ 1600) (hg : ∀ i, i < E → 0 ≤ g i ∧ g i ≤ 255) (h1 : S 2 1 = (E : Int)) (h3 : S 3 = g) (hz : S 132 1 = 1) : ASKc g (LX g E 0 false) S (m_As_answer S) := by
  obtain ⟨S1, r1, r2, r3, r4, r5⟩ := c_beginRd hE hg h1 h3
  have hT := LX_tok hg E 0 false (by omega) (Nat.zero_le _)
  have hlen := hT.len.2
  generalize LX g E 0 false = L at r2 hT hlen
  have hf1 : FKa S S1 := ⟨fun c a1 a2 _ _ _ => r3 c a1 a2, r5, by rw [r3 132 (by decide) (by decide)]; exact hz⟩
  have href : ∀ k p, FKa S (up (up S1 2 8 k) 2 9 p) := fun k p => ⟨fun c a1 a2 a3 a4 a5 => by rw [up_c a1, up_c a1]; exact hf1.1 c a1 a2 a3 a4 a5, fun j hj => by rw [up_k (by omega), up_k (by omega)]; exact hf1.2.1 j hj, by rw [up_c (by decide), up_c (by decide)]; exact hf1.2.2⟩
  cases L with
  | nil => exact hT.elim
  | cons t L1 =>
    rw [e_As_answer, r1, Option.bind_some]
    rw [List.length_cons] at hlen
    have ht := r2.hd
    simp only [ht.1]
    by_cases c1 : t.1 < 26
    · rw [if_pos (by omega), c_unfit r2, Option.bind_some]
      exact Or.inr ⟨1, t.2.1, up (up S1 2 8 1) 2 9 ((t.2.1 : Nat) : Int), rdAsk_0 (Or.inl c1), rfl, ref_89 _ _, href _ _⟩
    · rw [if_neg (by omega)]
      by_cases c2 : 31 < t.1
      · rw [if_pos (by omega), c_unfit r2, Option.bind_some]
        exact Or.inr ⟨1, t.2.1, up (up S1 2 8 1) 2 9 ((t.2.1 : Nat) : Int), rdAsk_0 (Or.inr c2), rfl, ref_89 _ _, href _ _⟩
      · rw [if_neg (by omega)]
        obtain ⟨k1, -⟩ := hT.tl (by omega)
        obtain ⟨S2, s1, s2, s3⟩ := c_adv r2 k1.ne
        rw [s1, Option.bind_some, e_Gr_begin_a_a, Option.bind_some]
        have ec : ∀ c, c ≠ 126 → c ≠ 132 → up (up (up (up S2 126 1 0) 132 1 1) 132 2 3) 132 3 0 c = S2 c := fun c a b => by rw [up_c b, up_c b, up_c b, up_c a]
        have hG : GSa g E 3 (up (up (up (up S2 126 1 0) 132 1 1) 132 2 3) 132 3 0) L1 [] [] := ⟨s2.fr (ec 4 (by decide) (by decide)) (fun k _ _ => by rw [ec 2 (by decide) (by decide)]), ⟨by rw [ec 2 (by decide) (by decide), s3.2 1 (by omega), r5 1 (by omega)]; exact h1, by rw [ec 3 (by decide) (by decide), s3.1 3 (by decide), r3 3 (by decide) (by decide)]; exact h3⟩, ⟨by rw [up_c (by decide), up_c (by decide), up_c (by decide), up_s]; rfl, fun i hi => absurd hi (Nat.not_lt_zero _)⟩, ⟨by rw [up_k (by decide), up_k (by decide), up_s], by rw [up_k (by decide), up_s]⟩, Or.inl (up_s _ _ _ _), fun _ => List.not_mem_nil⟩
        have hf2 : FKa S (up (up (up (up S2 126 1 0) 132 1 1) 132 2 3) 132 3 0) := ⟨fun c a1 a2 a3 a4 a5 => by rw [ec c a3 a5, s3.1 c a1]; exact hf1.1 c a1 a2 a3 a4 a5, fun j hj => by rw [ec 2 (by decide) (by decide), s3.2 j (by omega)]; exact hf1.2.1 j hj, by rw [up_k (by decide), up_k (by decide), up_s]⟩
        generalize up (up (up (up S2 126 1 0) 132 1 1) 132 2 3) 132 3 0 = S3 at hG hf2
        have hf3 : ∀ {S4}, FGa S3 S4 → FKa S S4 := fun {S4} f => ⟨fun c a1 a2 a3 a4 a5 => by rw [f.1 c a1 a3 a4 a5]; exact hf2.1 c a1 a2 a3 a4 a5, fun j hj => by rw [f.2.1 j (by omega)]; exact hf2.2.1 j hj, by rw [f.2.2.2 1 (by decide)]; exact hf2.2.2⟩
        have key : ∀ x : Option (Int × MS), RESa g E 3 S3 [] [] (if 28 < t.1 then rdSumP (rdPart g 3 6) L1 else rdTestP (rdFact g 3 6) L1) x → ASKc g (t :: L1) S (x.bind fun p4 => As_answer_91 ((t.1 : Nat) : Int) p4.1 p4.2) := by
          intro x hx
          rcases hx with ⟨L', cs, S4, a1, rfl, a3, a4⟩ | ⟨k, p, S4, a1, rfl, a2, a3, a4⟩
          · rw [Option.bind_some, e_As_answer_91]
            dsimp only
            rw [if_neg n10]
            obtain ⟨p', b1, b2, b3, b4⟩ := (ask_k (k := t.1)) E t.2.2 L1 L' cs k1 a1
            have hl : cs.length ≤ 1601 := by omega
            obtain ⟨d1, ⟨d2, d3⟩, ⟨d4, d5⟩, d6, d7, d8⟩ := a3
            cases L' with
            | nil => exact b2.elim
            | cons t' L2 =>
              have hu := d1.hd
              have h89 : S4 2 8 = 0 ∧ S4 2 9 = -1 := by
                obtain ⟨A, i, g1, g2, g3, g4, g5, g6, g7, g8, g9, g10⟩ := d1
                exact g10
              have hk := rdAsk_ok (g := g) (by omega) a1
              have hu1 := hu.1
              by_cases c3 : t'.1 = 35
              · rw [if_pos (by rw [hu1]; omega), if_neg n10, bind_eta]
                rw [if_pos c3] at hk
                exact Or.inl ⟨t.1 - 26, cs, S4, hk, by omega, by rw [show 26 + (t.1 - 26) = t.1 by omega], ⟨d4, d5⟩, h89, hf3 a4, hl, ask_ty (by omega) a1⟩
              · rw [if_neg (by rw [hu1]; omega), c_unfit d1, Option.bind_some]
                dsimp only
                rw [if_pos rfl]
                rw [if_neg c3] at hk
                have f4 := hf3 a4
                exact Or.inr ⟨1, t'.2.1, up (up S4 2 8 1) 2 9 ((t'.2.1 : Nat) : Int), hk, rfl, ref_89 _ _, ⟨fun c a1 a2 a3 a4 a5 => by rw [up_c a1, up_c a1]; exact f4.1 c a1 a2 a3 a4 a5, fun j hj => by rw [up_k (by omega), up_k (by omega)]; exact f4.2.1 j hj, by rw [up_c (by decide), up_c (by decide)]; exact f4.2.2⟩⟩
          · rw [Option.bind_some, e_As_answer_91, if_pos rfl, if_pos rfl]
            exact Or.inr ⟨k, p, S4, rdAsk_no (by omega) a1, rfl, ⟨a2, a3⟩, hf3 a4⟩
        have hl0 : (([] : List Int) ++ ([] : List Int)).length + L1.length ≤ 1612 := by show 0 + L1.length ≤ 1612; omega
        by_cases c3 : 28 < t.1
        · rw [if_pos (by omega)]
          apply key
          rw [if_pos c3]
          exact sum_alla hE hg (by omega) _ _ _ _ _ k1 hG hl0
        · rw [if_neg (by omega)]
          apply key
          rw [if_neg c3]
          exact test_alla hE hg (by omega) _ _ _ _ _ k1 hG hl0
end
