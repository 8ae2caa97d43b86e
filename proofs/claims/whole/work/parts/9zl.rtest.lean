/-! the reference: tests -/
section
variable {n : Nat} {P S T : MS} {g : Nat → Int} {E : Nat} {q : Int}
noncomputable def RT (p5 : Int × MS) : Option MS := if p5.1 = 0 then Mo_qTest_2 0 p5.2 else Mo_qTest_2 1 p5.2
noncomputable def KT (p4 : MS) : Option MS := if p4 401 5 = 0 then (m_Mo_qGoesOnTest p4).bind RT else Mo_qTest_2 0 p4
noncomputable def FEs (T : MS) : Option MS := (Mo_qDropsNots_0 T).bind KT
theorem t2_bad (h : T 401 5 ≠ 0) (v : Int) : Mo_qTest_2 v T = some T := by
  have h110 : Mo_qTest_110 T = some T := by rw [e_Mo_qTest_110, if_neg h]
  rw [e_Mo_qTest_2, if_neg h, h110]
  split <;> rfl
theorem kt_bad (h : T 401 5 ≠ 0) : KT T = some T := by
  unfold KT
  rw [if_neg h, t2_bad h]
theorem fe_bad (h : T 401 5 ≠ 0) : FEs T = some T := by
  unfold FEs
  rw [e_Mo_qDropsNots_0, if_neg h, Option.bind_some, kt_bad h]
theorem kt_go (h : T 401 5 = 0) : KT T = (Mo_qGoesOnTest_0 T).bind RT := by
  unfold KT
  rw [if_pos h, e_Mo_qGoesOnTest]
theorem nots_tot : ∀ (w c : Nat) (T : MS), T 401 99 = ((w : Nat) : Int) → T 401 97 = ((c : Nat) : Int) → c + w < 1690 → T 401 5 = 0 → ∃ p, Mo_qDropsNots_0 T = some p ∧ p 401 5 = 0 := by
  intro w
  induction w with
  | zero =>
    intro c T h1 h2 h3 h4
    rw [e_Mo_qDropsNots_0, if_pos h4, e_Mo_qIsOn, h1, if_neg (by decide), Option.bind_some, if_pos rfl]
    exact ⟨T, rfl, h4⟩
  | succ w ih =>
    intro c T h1 h2 h3 h4
    have e : wr (((w + 1 : Nat) : Int) - 1) = ((w : Nat) : Int) := by rw [wrN (by omega) (by omega)]; omega
    rw [e_Mo_qDropsNots_0, if_pos h4, e_Mo_qIsOn, h1, if_pos (by omega), e, if_pos (by omega), Int.toNat_natCast]
    by_cases c2 : T 474 w = 12
    · rw [if_pos c2, Option.bind_some]
      dsimp only
      rw [if_neg n10]
      have f1 : ∀ z : Int, up T 401 100 z 401 99 = ((w + 1 : Nat) : Int) := fun z => by rw [up_k (by decide)]; exact h1
      have f2 : ∀ z : Int, up T 401 100 z 401 97 = ((c : Nat) : Int) := fun z => by rw [up_k (by decide)]; exact h2
      rw [e_Mo_qDrops, f1, e, if_pos (by omega), Int.toNat_natCast, e_Mo_qCode, up_k (show (97 : Nat) ≠ 99 by decide), f2, if_pos (by omega), Option.bind_some, Option.bind_some, wr_suc2 (show c < 1700 by omega) (by decide), Int.toNat_natCast]
      exact ih (c + 1) _ (by rw [up_k (by decide), up_c (by decide), up_s]) (up_s _ _ _ _) (by omega) (by rw [up_k (by decide), up_c (by decide), up_k (by decide), up_k (by decide)]; exact h4)
    · rw [if_neg c2, Option.bind_some, if_pos rfl]
      exact ⟨T, rfl, h4⟩
theorem fe_go {L : List Tok} {C W : List Int} {op base : Nat} (h : QS g E q T L C W op base) (hl : C.length + W.length < 1690) : ((m_Mo_qDropsNots T).bind fun p2 => Mo_qGoesOnTest_0 p2).bind RT = FEs T := by
  obtain ⟨p, p1, p2⟩ := nots_tot W.length C.length T h.2.2.2.2.1.1 h.2.2.2.1.1 hl h.1.2.2.2.1
  unfold FEs
  rw [e_Mo_qDropsNots, p1, Option.bind_some, Option.bind_some, kt_go p2]
/-- no NOT waits on top -/
def NN (V : List Int) : Prop := ∀ V' x, V = V' ++ [x] → x ≠ 12
theorem fe_kt {L : List Tok} {C V : List Int} {op base : Nat} (h : QS g E q T L C V op base) (hV : NN V) (hl : V.length < 1690) : FEs T = KT T := by
  have h0 : m_Mo_qIsOn 12 T = some (0, T) := by
    rcases V.eq_nil_or_concat with rfl | ⟨V', x, rfl⟩
    · exact q_on0 h
    · rw [List.concat_eq_append] at *
      rw [List.length_append, List.length_singleton] at hl
      rw [q_on h (by omega), if_neg (hV V' x rfl)]
  unfold FEs
  rw [e_Mo_qDropsNots_0, h.1.2.2.2.1, if_pos rfl, h0, Option.bind_some, if_pos rfl, Option.bind_some]
theorem fe_not {L : List Tok} {C W : List Int} {op base : Nat} (h : QS g E q T L C (W ++ [12]) (op + 1) base) (hop : op < 1000) (hl : C.length + W.length < 1680) : ∃ T', FEs T = FEs T' ∧ QS g E q T' L (C ++ [12]) W op base ∧ FQs T T' := by
  have e2 : wr (T 401 100 - 1) = ((op : Nat) : Int) := by rw [h.2.2.2.2.2.1, wrN (by omega) (by omega)]; omega
  obtain ⟨u1, u2⟩ := q_setop (op' := op) h
  obtain ⟨T', r1, r2, r3⟩ := q_drop u1 (by omega) (by omega)
  refine ⟨T', ?_, r2, u2.tr r3⟩
  unfold FEs
  rw [e_Mo_qDropsNots_0, h.1.2.2.2.1, if_pos rfl, q_on h (by omega), if_pos rfl, Option.bind_some]
  dsimp only
  rw [if_neg n10, e2, r1, Option.bind_some]
/-! squares -/
theorem m_sq1 {L : List Tok} {C W : List Int} {op base : Nat} (h : QS g E q T L C W op base) (hl : W.length < 1690) : ∀ (j i : Nat), i + j = W.length → ((∃ k, i ≤ k ∧ k < W.length ∧ W.getD k 0 = 25) → Mo_qHasSquare_2 i T = some (1, T)) ∧ ((∀ k, i ≤ k → k < W.length → W.getD k 0 ≠ 25) → Mo_qHasSquare_2 i T = some (0, T)) := by
  obtain ⟨w1, w2⟩ := h.2.2.2.2.1
  intro j
  induction j with
  | zero =>
    intro i e
    rw [e_Mo_qHasSquare_2, w1, if_neg (by omega)]
    exact ⟨fun ⟨k, a, b, _⟩ => by omega, fun _ => rfl⟩
  | succ j ih =>
    intro i e
    obtain ⟨i1, i2⟩ := ih (i + 1) (by omega)
    rw [e_Mo_qHasSquare_2, w1, if_pos (by omega), if_pos (by omega), Int.toNat_natCast, w2 i (by omega), wr_suc2 (show i < 1690 by omega) (by decide)]
    by_cases c : W.getD i 0 = 25
    · rw [if_pos c]
      exact ⟨fun _ => rfl, fun x => absurd c (x i (Nat.le_refl _) (by omega))⟩
    · rw [if_neg c]
      refine ⟨fun ⟨k, a, b, d⟩ => i1 ⟨k, ?_, b, d⟩, fun x => i2 (fun k a b => x k (by omega) b)⟩
      by_cases ek : k = i
      · rw [ek] at d; exact absurd d c
      · omega
theorem m_sqY {L : List Tok} {C V R : List Int} {op base : Nat} (h : QS g E q T L C (V ++ [25] ++ R) op base) (hl : (V ++ [25] ++ R).length < 1690) : m_Mo_qHasSquare T = some (1, T) := by
  rw [e_Mo_qHasSquare]
  refine (m_sq1 h hl (V ++ [25] ++ R).length 0 (by omega)).1 ⟨V.length, Nat.zero_le _, by simp only [List.length_append, List.length_singleton]; omega, ?_⟩
  rw [List.getD_eq_getElem?_getD, List.append_assoc, List.getElem?_append_right (Nat.le_refl _), Nat.sub_self]
  rfl
theorem m_sqN {L : List Tok} {C W : List Int} {op base : Nat} (h : QS g E q T L C W op base) (hl : W.length < 1690) (hW : ∀ x ∈ W, x ≠ 25) : m_Mo_qHasSquare T = some (0, T) := by
  rw [e_Mo_qHasSquare]
  refine (m_sq1 h hl W.length 0 (by omega)).2 (fun k _ hk => hW _ ?_)
  rw [List.getD_eq_getElem?_getD, List.getElem?_eq_getElem hk, Option.getD_some]
  exact List.getElem_mem hk
theorem sg91 : sgB 91 := by unfold sgB; decide
theorem sg93 : sgB 93 := by unfold sgB; decide
theorem sg60 : sgB 60 := by unfold sgB; decide
theorem sg61 : sgB 61 := by unfold sgB; decide
theorem sg62 : sgB 62 := by unfold sgB; decide
/-- tests that wait, as they will fall -/
def TR (R : List Int) : Prop := R = [] ∨ R = [10] ∨ R = [11] ∨ R = [10, 11]
theorem TR.len {R : List Int} (h : TR R) : R.length ≤ 2 := by rcases h with rfl | rfl | rfl | rfl <;> decide
theorem t_drops {m : Int} {V : List Int} {L : List Tok} {op base : Nat} (hV : ∀ V' x, V = V' ++ [x] → x ≠ 10 ∧ x ≠ 11) : ∀ (R C : List Int) (T : MS), (∀ y ∈ R, y = 10 ∨ y = 11) → QS g E q T L C (V ++ R.reverse) op base → C.length + V.length + R.length < 1680 → ∃ T', Mo_qGoesOnTest_137 T = some (1, T') ∧ QS g E q T' L (C ++ R) (V ++ [11]) op base ∧ FQs T T' := by
  intro R
  induction R with
  | nil =>
    intro C T _ h hl
    rw [List.reverse_nil, List.append_nil] at h
    rw [List.length_nil] at hl
    obtain ⟨p1, p2⟩ := q_push (c := 11) h
    have w1 := h.2.2.2.2.1.1
    have no3 : m_Mo_qIsOn 10 T = some (0, T) ∧ m_Mo_qIsOn 11 T = some (0, T) := by
      rcases V.eq_nil_or_concat with rfl | ⟨V', x, rfl⟩
      · exact ⟨q_on0 h, q_on0 h⟩
      · rw [List.concat_eq_append] at *
        obtain ⟨x1, x2⟩ := hV V' x rfl
        rw [List.length_append, List.length_singleton] at hl
        rw [q_on h (by omega), q_on h (by omega), if_neg x1, if_neg x2]
        exact ⟨rfl, rfl⟩
    rw [e_Mo_qGoesOnTest_137, no3.1, Option.bind_some]
    dsimp only
    rw [if_pos rfl, no3.2, Option.bind_some]
    dsimp only
    rw [if_pos rfl]
    simp only [w1]
    rw [if_pos (by omega), Int.toNat_natCast, wr_suc2 (show V.length < 1700 by omega) (by decide)]
    exact ⟨_, rfl, by rw [List.append_nil]; exact p1, p2⟩
  | cons y R ih =>
    intro C T ho h hl
    rw [List.length_cons] at hl
    have hy := ho y (List.mem_cons_self ..)
    rw [List.reverse_cons, ← List.append_assoc] at h
    have hlen : (V ++ R.reverse).length = V.length + R.length := by simp only [List.length_append, List.length_reverse]
    obtain ⟨T1, r1, r2, r3⟩ := q_drop h (by omega) (by omega)
    obtain ⟨T2, s1, s2, s3⟩ := ih (C ++ [y]) T1 (fun z hz => ho z (List.mem_cons_of_mem _ hz)) r2 (by rw [List.length_append, List.length_singleton]; omega)
    have hq : ∀ a : Int, m_Mo_qIsOn a T = some ((if y = a then 1 else 0), T) := fun a => q_on h (by omega)
    refine ⟨T2, ?_, by rw [List.append_assoc] at s2; exact s2, r3.tr s3⟩
    rw [e_Mo_qGoesOnTest_137, hq 10, Option.bind_some]
    dsimp only
    by_cases c3 : y = 10
    · rw [if_pos c3, if_neg n10, r1, Option.bind_some]; exact s1
    · rw [if_neg c3, if_pos rfl, hq 11, Option.bind_some]
      dsimp only
      rw [if_pos (show y = 11 by omega), if_neg n10, r1, Option.bind_some]; exact s1
theorem t_and {V M C : List Int} {L : List Tok} {op base : Nat} (hM : M = [] ∨ M = [10]) (hV : ∀ V' x, V = V' ++ [x] → x ≠ 10) (h : QS g E q T L C (V ++ M) op base) (hl : C.length + V.length < 1680) : ∃ T', Mo_qGoesOnTest_87 T = some (1, T') ∧ QS g E q T' L (C ++ M) (V ++ [10]) op base ∧ FQs T T' := by
  have base' : ∀ {T : MS} {C : List Int}, QS g E q T L C V op base → ∃ T', Mo_qGoesOnTest_87 T = some (1, T') ∧ QS g E q T' L C (V ++ [10]) op base ∧ FQs T T' := fun {T C} h => by
    obtain ⟨p1, p2⟩ := q_push (c := 10) h
    have w1 := h.2.2.2.2.1.1
    have no3 : m_Mo_qIsOn 10 T = some (0, T) := by
      rcases V.eq_nil_or_concat with rfl | ⟨V', x, rfl⟩
      · exact q_on0 h
      · rw [List.concat_eq_append] at *
        rw [List.length_append, List.length_singleton] at hl
        rw [q_on h (by omega), if_neg (hV V' x rfl)]
    rw [e_Mo_qGoesOnTest_87, no3, Option.bind_some]
    dsimp only
    rw [if_pos rfl]
    simp only [w1]
    rw [if_pos (by omega), Int.toNat_natCast, wr_suc2 (show V.length < 1700 by omega) (by decide)]
    exact ⟨_, rfl, p1, p2⟩
  rcases hM with rfl | rfl
  · rw [List.append_nil] at h ⊢
    exact base' h
  · obtain ⟨T1, r1, r2, r3⟩ := q_drop h (by omega) (by omega)
    obtain ⟨T2, s1, s2, s3⟩ := base' r2
    refine ⟨T2, ?_, s2, r3.tr s3⟩
    rw [e_Mo_qGoesOnTest_87, q_on h (by omega), if_pos rfl, Option.bind_some]
    dsimp only
    rw [if_neg n10, r1, Option.bind_some]; exact s1
/-- behind a fact: on to the words -/
theorem gt_76 {t : Tok} {L1 : List Tok} {C W : List Int} {op base : Nat} (h : QS g E q T (t :: L1) C W op base) (ht : t.1 ≠ 349 ∨ m_Mo_qHasSquare = m_Mo_qHasSquare ∧ ∀ x ∈ W, x ≠ 25) (hl : W.length < 1690) : ∃ T1, Mo_qGoesOnTest_0 T = Mo_qGoesOnTest_76 T1 ∧ QS g E q T1 (t :: L1) C W op base ∧ FQs T T1 := by
  obtain ⟨T1, r1, r2, r3, r4, r5⟩ := m_lookq h.1
  have h1 := h.frt r4.t r2
  rw [e_Mo_qGoesOnTest_0, h.1.2.2.2.1, if_pos rfl, r1, Option.bind_some]
  dsimp only
  refine ⟨T1, ?_, h1, r4.q2⟩
  by_cases c : lkc g t = 93
  · rw [if_pos c]
    rcases ht with ht | ⟨-, ht⟩
    · exact absurd ((r5 93 sg93).mp c) ht
    · rw [m_sqN h1 hl ht, Option.bind_some]
      dsimp only
      rw [if_pos rfl]
  · rw [if_neg c]
theorem kt_and {t : Tok} {L1 : List Tok} {V M C : List Int} {op base : Nat} (ht : t.1 = 21) (hM : M = [] ∨ M = [10]) (hV : ∀ V' x, V = V' ++ [x] → x ≠ 10) (h : QS g E q T (t :: L1) C (V ++ M) op base) (hl : C.length + V.length < 1680) : ∃ T', KT T = Mo_qTest_2 1 T' ∧ QS g E q T' L1 (C ++ M) (V ++ [10]) op base ∧ FQs T T' := by
  have hm : M.length ≤ 1 := by rcases hM with rfl | rfl <;> decide
  obtain ⟨T1, a1, a2, a3⟩ := gt_76 h (Or.inl (by omega)) (by rw [List.length_append]; omega)
  rcases m_takes hr_458 a2.2.1 a2.1 with ⟨-, T2, r1, r2, r3⟩ | ⟨e, -⟩
  · obtain ⟨T3, s1, s2, s3⟩ := t_and hM hV (a2.frt r3 r2) hl
    rw [kt_go h.1.2.2.2.1, a1, e_Mo_qGoesOnTest_76, r1, Option.bind_some]
    dsimp only
    rw [if_neg n10, s1, Option.bind_some]
    unfold RT
    dsimp only
    rw [if_neg n10]
    exact ⟨T3, rfl, s2, a3.tr (r3.toQ.tr s3)⟩
  · exact absurd ht e
theorem kt_or {t : Tok} {L1 : List Tok} {V R C : List Int} {op base : Nat} (ht : t.1 = 20) (hR : TR R) (hV : ∀ V' x, V = V' ++ [x] → x ≠ 10 ∧ x ≠ 11) (h : QS g E q T (t :: L1) C (V ++ R.reverse) op base) (hl : C.length + V.length + R.length < 1680) : ∃ T', KT T = Mo_qTest_2 1 T' ∧ QS g E q T' L1 (C ++ R) (V ++ [11]) op base ∧ FQs T T' := by
  obtain ⟨T1, a1, a2, a3⟩ := gt_76 h (Or.inl (by omega)) (by rw [List.length_append, List.length_reverse]; omega)
  rcases m_takes hr_458 a2.2.1 a2.1 with ⟨e, -⟩ | ⟨-, T2, r1, r2, r3, r4⟩
  · omega
  have h2 := a2.frt r4.t r2
  rcases m_takes hr_459 h2.2.1 r2 with ⟨-, T3, u1, u2, u3⟩ | ⟨e, -⟩
  · obtain ⟨T4, s1, s2, s3⟩ := t_drops (m := 0) hV R C T3 (fun y hy => by rcases hR with rfl | rfl | rfl | rfl <;> simp at hy <;> omega) (h2.frt u3 u2) hl
    rw [kt_go h.1.2.2.2.1, a1, e_Mo_qGoesOnTest_76, r1, Option.bind_some]
    dsimp only
    rw [if_pos rfl, u1, Option.bind_some]
    dsimp only
    rw [if_neg n10, s1, Option.bind_some]
    unfold RT
    dsimp only
    rw [if_neg n10]
    exact ⟨T4, rfl, s2, a3.tr (r4.q2.tr (u3.toQ.tr s3))⟩
  · exact absurd ht e
theorem kt_no {t : Tok} {L1 : List Tok} {C W : List Int} {op base : Nat} (h : QS g E q T (t :: L1) C W op base) (hn : t.1 ≠ 20 ∧ t.1 ≠ 21) : ∃ T1, Mo_qGoesOnTest_76 T = ((m_Mo_qHasSquare T1).bind fun p3 => if p3.1 = 0 then some (0, p3.2) else (m_Mo_fail 1 (p3.2 401 2) p3.2).bind fun p4 => some (0, p4)) ∧ QS g E q T1 (t :: L1) C W op base ∧ T1 401 2 = ((t.2.1 : Nat) : Int) ∧ FQs T T1 := by
  rcases m_takes hr_458 h.2.1 h.1 with ⟨e, -⟩ | ⟨-, T2, r1, r2, r3, r4⟩
  · omega
  have h2 := h.frt r4.t r2
  rcases m_takes hr_459 h2.2.1 r2 with ⟨e, -⟩ | ⟨-, T3, u1, u2, u3, u4⟩
  · omega
  have h3 := h2.frt u4.t u2
  rw [e_Mo_qGoesOnTest_76, r1, Option.bind_some]
  dsimp only
  rw [if_pos rfl, u1, Option.bind_some]
  dsimp only
  rw [if_pos rfl, if_pos h3.1.2.2.2.1]
  exact ⟨T3, rfl, h3, u3, r4.q2.tr u4.q2⟩
theorem kt_fail {t : Tok} {L1 : List Tok} {C W R : List Int} {op base : Nat} (h : QS g E q T (t :: L1) C (W ++ [25] ++ R) op base) (hn : t.1 ≠ 20 ∧ t.1 ≠ 21) (ht : t.1 ≠ 349) (hl : (W ++ [25] ++ R).length < 1690) : ∃ T', KT T = some T' ∧ BDT T' 1 t.2.1 ∧ FQs T T' := by
  obtain ⟨T1, a1, a2, a3⟩ := gt_76 h (Or.inl ht) hl
  obtain ⟨T2, b1, b2, b3, b4⟩ := kt_no a2 hn
  have e0 := b2.1.2.2.2.1
  rw [kt_go h.1.2.2.2.1, a1, b1, m_sqY b2 hl, Option.bind_some]
  dsimp only
  rw [if_neg n10, m_fail e0, Option.bind_some, Option.bind_some, b3]
  unfold RT
  dsimp only
  rw [if_pos rfl, t2_bad (by rw [up_k (by decide), up_s]; decide)]
  exact ⟨_, rfl, bdt_fail 1 _, a3.tr (b4.tr (FRt.fail _ _).toQ)⟩
theorem t_33 {W : List Int} {L : List Tok} {op base : Nat} (hop : op < 1000) : ∀ (R C : List Int) (T : MS), (∀ y ∈ R, y = 10 ∨ y = 11) → QS g E q T L C (W ++ [25] ++ R.reverse) (op + 1) base → C.length + W.length + R.length < 1670 → ∃ T', (Mo_qGoesOnTest_33 T).bind RT = FEs T' ∧ QS g E q T' L (C ++ R) W op base ∧ FQs T T' := by
  intro R
  induction R with
  | nil =>
    intro C T _ h hl
    rw [List.reverse_nil, List.append_nil] at h
    rw [List.length_nil] at hl
    obtain ⟨w1, w2, -⟩ := snoc_top h
    have e : wr (((W.length + 1 : Nat) : Int) - 1) = ((W.length : Nat) : Int) := by rw [wrN (by omega) (by omega)]; omega
    have e2 : wr (T 401 100 - 1) = ((op : Nat) : Int) := by rw [h.2.2.2.2.2.1, wrN (by omega) (by omega)]; omega
    obtain ⟨k1, k2⟩ := q_pop (op' := op) h
    rw [e_Mo_qGoesOnTest_33, q_on h (by omega), if_pos rfl, Option.bind_some]
    dsimp only
    rw [if_neg n10, w1, e, e2]
    exact ⟨_, fe_go k1 (by omega), by rw [List.append_nil]; exact k1, k2⟩
  | cons y R ih =>
    intro C T ho h hl
    rw [List.length_cons] at hl
    have hy := ho y (List.mem_cons_self ..)
    rw [List.reverse_cons, ← List.append_assoc] at h
    have hlen : (W ++ [25] ++ R.reverse).length = W.length + 1 + R.length := by simp only [List.length_append, List.length_reverse, List.length_singleton]
    obtain ⟨T1, r1, r2, r3⟩ := q_drop h (by omega) (by omega)
    obtain ⟨T2, s1, s2, s3⟩ := ih (C ++ [y]) T1 (fun z hz => ho z (List.mem_cons_of_mem _ hz)) r2 (by rw [List.length_append, List.length_singleton]; omega)
    rw [e_Mo_qGoesOnTest_33, q_on h (by omega), if_neg (by omega), Option.bind_some]
    dsimp only
    rw [if_pos rfl, r1, Option.bind_some, s1]
    exact ⟨T2, rfl, by rw [List.append_assoc] at s2; exact s2, r3.tr s3⟩
theorem kt_close {t : Tok} {L1 : List Tok} {C W R : List Int} {op base : Nat} (ht : t.1 = 349) (hR : TR R) (h : QS g E q T (t :: L1) C (W ++ [25] ++ R.reverse) (op + 1) base) (hop : op < 1000) (hl : C.length + W.length + R.length < 1660) : ∃ T', KT T = FEs T' ∧ QS g E q T' L1 (C ++ R) W op base ∧ FQs T T' := by
  have hlen : (W ++ [25] ++ R.reverse).length < 1690 := by simp only [List.length_append, List.length_reverse, List.length_singleton]; omega
  obtain ⟨T1, r1, r2, r3, r4, r5⟩ := m_lookq h.1
  have h1 := h.frt r4.t r2
  obtain ⟨v1, -, v3⟩ := r2.adv r3 sg93 ht
  have hE := r2.1
  have fu : FRt T1 (up T1 401 2 ((t.2.1 + 1 : Nat) : Int)) := FRt.u (Or.inl rfl)
  obtain ⟨T2, s1, s2, s3⟩ := t_33 hop R C (up T1 401 2 ((t.2.1 + 1 : Nat) : Int)) (fun y hy => by rcases hR with rfl | rfl | rfl | rfl <;> simp at hy <;> omega) (h1.frt fu v1) (by omega)
  rw [kt_go h.1.2.2.2.1, e_Mo_qGoesOnTest_0, h.1.2.2.2.1, if_pos rfl, r1, Option.bind_some]
  dsimp only
  rw [if_pos (show lkc g t = 93 from (r5 93 sg93).mpr ht), m_sqY h1 hlen, Option.bind_some]
  dsimp only
  rw [if_neg n10, r3, wr_suc2 (show t.2.1 < 1600 by omega) (by decide), s1]
  exact ⟨T2, rfl, s2, r4.q2.tr (fu.toQ.tr s3)⟩
/-- the outermost test is over -/
theorem t_110 : ∀ (R C : List Int) (op base : Nat) (L : List Tok) (T : MS), QS g E q T L C R.reverse op base → C.length + R.length < 1680 → ∃ T', Mo_qTest_110 T = some T' ∧ QS g E q T' L (C ++ R) [] op base ∧ FQs T T' := by
  intro R
  induction R with
  | nil =>
    intro C op base L T h hl
    rw [e_Mo_qTest_110, h.1.2.2.2.1, if_pos rfl, h.2.2.2.2.1.1, if_neg (by decide)]
    exact ⟨T, rfl, by rw [List.append_nil]; exact h, FQs.rf T⟩
  | cons y R ih =>
    intro C op base L T h hl
    rw [List.length_cons] at hl
    rw [List.reverse_cons] at h
    obtain ⟨w1, -, -⟩ := snoc_top h
    obtain ⟨T1, r1, r2, r3⟩ := q_drop h (by rw [List.length_reverse]; omega) (by omega)
    obtain ⟨T2, s1, s2, s3⟩ := ih (C ++ [y]) op base L T1 r2 (by rw [List.length_append, List.length_singleton]; omega)
    rw [e_Mo_qTest_110, h.1.2.2.2.1, if_pos rfl, w1, if_pos (by omega), r1, Option.bind_some, s1]
    exact ⟨T2, rfl, by rw [List.append_assoc] at s2; exact s2, r3.tr s3⟩
theorem kt_done {t : Tok} {L1 : List Tok} {C R : List Int} {op base : Nat} (h : QS g E q T (t :: L1) C R.reverse op base) (hn : t.1 ≠ 20 ∧ t.1 ≠ 21) (hR : TR R) (hl : C.length + R.length < 1680) : ∃ T', KT T = some T' ∧ QS g E q T' (t :: L1) (C ++ R) [] op base ∧ FQs T T' := by
  have hns : ∀ x ∈ R.reverse, x ≠ 25 := fun x hx => by
    have hx := List.mem_reverse.mp hx
    rcases hR with rfl | rfl | rfl | rfl <;> simp at hx <;> omega
  have hlen : R.reverse.length < 1690 := by rw [List.length_reverse]; omega
  obtain ⟨T1, a1, a2, a3⟩ := gt_76 h (Or.inr ⟨rfl, hns⟩) hlen
  obtain ⟨T2, b1, b2, b3, b4⟩ := kt_no a2 hn
  obtain ⟨T3, s1, s2, s3⟩ := t_110 R C op base _ T2 b2 hl
  rw [kt_go h.1.2.2.2.1, a1, b1, m_sqN b2 hlen hns, Option.bind_some]
  dsimp only
  rw [if_pos rfl, Option.bind_some]
  unfold RT
  dsimp only
  rw [if_pos rfl, e_Mo_qTest_2, if_pos rfl, s1]
  exact ⟨T3, rfl, s2, a3.tr (b4.tr s3)⟩
end
