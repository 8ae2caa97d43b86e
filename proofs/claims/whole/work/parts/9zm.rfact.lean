/-! the reference: tests, as told -/
section
variable {n : Nat} {P S T : MS} {g : Nat → Int} {E : Nat} {q : Int}
def W5 (W : List Int) : Prop := ∀ x ∈ W, ¬ (1 ≤ x ∧ x ≤ 4)
theorem W5.sn {W : List Int} {x : Int} (h : W5 W) (hx : ¬ (1 ≤ x ∧ x ≤ 4)) : W5 (W ++ [x]) := by
  intro y hy
  rcases List.mem_append.mp hy with hy | hy
  · exact h y hy
  · rw [List.mem_singleton] at hy; rw [hy]; exact hx
theorem W5.top {W : List Int} (h : W5 W) : ∀ V' x, W = V' ++ [x] → ¬ (1 ≤ x ∧ x ≤ 4) := fun V' x e => h x (by rw [e]; exact List.mem_append.mpr (Or.inr (List.mem_singleton.mpr rfl)))
def FSM (g : Nat → Int) (E : Nat) (q : Int) (op : Nat) (sub : RDR) : Prop := ∀ (p : Nat) (L : List Tok) (C W : List Int) (T : MS), TOK E p L → QS g E q T L C W op 0 → W5 W → C.length + W.length + L.length ≤ 1650 → (∃ L' cs T', sub L = PR.ok L' cs ∧ Mo_qTest_2 1 T = FEs T' ∧ QS g E q T' L' (C ++ cs) W op 0 ∧ FQt T T') ∨ ∃ k p T', sub L = PR.no k p ∧ k ≠ 0 ∧ Mo_qTest_2 1 T = some T' ∧ BDT T' k p ∧ FQt T T'
theorem opB_v {w : Nat} {m : Int} (h : opB w = some m) : m = 10 ∧ w = 21 := by
  unfold opB at h
  by_cases c : w = 21
  · rw [if_pos c] at h; cases h; exact ⟨rfl, c⟩
  · rw [if_neg c] at h; cases h
theorem opT_v {w : Nat} {m : Int} (h : opT w = some m) : m = 11 ∧ w = 20 := by
  unfold opT at h
  by_cases c : w = 20
  · rw [if_pos c] at h; cases h; exact ⟨rfl, c⟩
  · rw [if_neg c] at h; cases h
def M10 (M : List Int) : Prop := M = [] ∨ M = [10]
theorem M10.len {M : List Int} (h : M10 M) : M.length ≤ 1 := by rcases h with rfl | rfl <;> decide
theorem M10.w5 {M V : List Int} (h : M10 M) (hV : W5 V) : W5 (V ++ M) := by
  rcases h with rfl | rfl
  · rw [List.append_nil]; exact hV
  · exact hV.sn (by decide)
theorem sn_inj {V V' : List Int} {x y : Int} (e : V ++ [x] = V' ++ [y]) : y = x := by
  have := List.append_inj_right' e rfl
  rw [List.cons.injEq] at this
  exact this.1.symm
theorem and_more {sub : RDR} {op : Nat} {V : List Int} (hs : FSM g E q op sub) (hk : SUBK sub) (hV : ∀ V' x, V = V' ++ [x] → x ≠ 10) (h5 : W5 V) : ∀ (n p : Nat) (L : List Tok) (C accR M : List Int) (T : MS), L.length ≤ n → TOK E p L → M10 M → QS g E q T L (C ++ accR) (V ++ M) op 0 → (C ++ accR).length + (V ++ M).length + L.length ≤ 1650 → (∃ L' accR' M' T', rdMore opB sub n L (accR ++ M) = PR.ok L' (accR' ++ M') ∧ M10 M' ∧ KT T = KT T' ∧ QS g E q T' L' (C ++ accR') (V ++ M') op 0 ∧ (∀ t L1, L' = t :: L1 → t.1 ≠ 21) ∧ FQt T T') ∨ ∃ k p T', rdMore opB sub n L (accR ++ M) = PR.no k p ∧ k ≠ 0 ∧ KT T = some T' ∧ BDT T' k p ∧ FQt T T' := by
  intro n
  induction n with
  | zero => intro p L C accR M T hn hT; exact absurd (List.length_eq_zero_iff.mp (by omega)) hT.ne
  | succ n ih =>
    intro p L C accR M T hn hT hM h hl
    cases L with
    | nil => exact hT.elim
    | cons t L =>
      rw [rdMore]
      cases hop : opB t.1 with
      | none =>
        refine Or.inl ⟨_, accR, M, T, rfl, hM, rfl, h, fun t' L1 e c => ?_, FQs.q3 (FQs.rf T)⟩
        cases e
        unfold opB at hop
        rw [if_pos c] at hop; cases hop
      | some m =>
        obtain ⟨rfl, ht⟩ := opB_v hop
        obtain ⟨k1, k2, -⟩ := hT.tl (by omega)
        have hml := hM.len
        rw [List.length_cons] at hn hl
        simp only [List.length_append] at hl
        obtain ⟨T3, b1, b2, b3⟩ := kt_and ht hM hV h (by simp only [List.length_append]; omega)
        rcases hs _ L (C ++ accR ++ M) (V ++ [10]) T3 k1 b2 (h5.sn (by decide)) (by simp only [List.length_append, List.length_cons, List.length_nil]; omega) with ⟨L2, cs2, T4, c1, c2, c3, c4⟩ | ⟨k, p', T4, c1, c2, c3, c4, c5⟩
        · obtain ⟨p2, d1, d2, d3, d4⟩ := hk E _ _ _ _ k1 c1
          have hE := fe_kt c3 (fun V' x e => by have := sn_inj e; omega) (by rw [List.length_append, List.length_singleton]; omega)
          have ea : C ++ accR ++ M ++ cs2 = C ++ (accR ++ M ++ cs2) := by simp only [List.append_assoc]
          rw [ea] at c3
          have eb : accR ++ M ++ (cs2 ++ [10]) = (accR ++ M ++ cs2) ++ [10] := by simp only [List.append_assoc]
          have hr := ih p2 L2 C (accR ++ M ++ cs2) [10] T4 (by omega) d2 (Or.inr rfl) c3 (by simp only [List.length_append, List.length_cons, List.length_nil] at *; omega)
          rw [← eb] at hr
          rw [c1]
          have hKK : KT T = KT T4 := b1.trans (c2.trans hE)
          rcases hr with ⟨L', accR', M', T', e1, e2, e3, e4, e5, e6⟩ | ⟨k, p', T', e1, e2, e3, e4, e5⟩
          · exact Or.inl ⟨L', accR', M', T', e1, e2, hKK.trans e3, e4, e5, b3.q3.tr (c4.tr e6)⟩
          · exact Or.inr ⟨k, p', T', e1, e2, hKK.trans e3, e4, b3.q3.tr (c4.tr e5)⟩
        · rw [c1]
          exact Or.inr ⟨k, p', T4, rfl, c2, b1.trans c3, c4, b3.q3.tr c5⟩
theorem and_all {sub : RDR} {op p : Nat} {V C : List Int} {L : List Tok} (hs : FSM g E q op sub) (hk : SUBK sub) (hV : ∀ V' x, V = V' ++ [x] → x ≠ 10 ∧ x ≠ 12) (h5 : W5 V) (hT : TOK E p L) (h : QS g E q T L C V op 0) (hl : C.length + V.length + L.length ≤ 1650) : (∃ L' accR M T', rdLoop opB sub L = PR.ok L' (accR ++ M) ∧ M10 M ∧ Mo_qTest_2 1 T = KT T' ∧ QS g E q T' L' (C ++ accR) (V ++ M) op 0 ∧ (∀ t L1, L' = t :: L1 → t.1 ≠ 21) ∧ FQt T T') ∨ ∃ k p T', rdLoop opB sub L = PR.no k p ∧ k ≠ 0 ∧ Mo_qTest_2 1 T = some T' ∧ BDT T' k p ∧ FQt T T' := by
  unfold rdLoop
  rcases hs _ L C V T hT h h5 hl with ⟨L2, cs2, T4, c1, c2, c3, c4⟩ | ⟨k, p', T4, c1, c2, c3, c4, c5⟩
  · obtain ⟨p2, d1, d2, d3, d4⟩ := hk E _ _ _ _ hT c1
    have hE := fe_kt c3 (fun V' x e => (hV V' x e).2) (by omega)
    have hr := and_more hs hk (fun V' x e => (hV V' x e).1) h5 L2.length p2 L2 C cs2 [] T4 (Nat.le_refl _) d2 (Or.inl rfl) (by rw [List.append_nil]; exact c3) (by simp only [List.length_append, List.length_nil]; omega)
    rw [List.append_nil] at hr
    rw [c1, bnd_k]
    rcases hr with ⟨L', accR', M', T', e1, e2, e3, e4, e5, e6⟩ | ⟨k, p', T', e1, e2, e3, e4, e5⟩
    · exact Or.inl ⟨L', accR', M', T', e1, e2, c2.trans (hE.trans e3), e4, e5, c4.tr e6⟩
    · exact Or.inr ⟨k, p', T', e1, e2, c2.trans (hE.trans e3), e4, c4.tr e5⟩
  · rw [c1]
    exact Or.inr ⟨k, p', T4, rfl, c2, c3, c4, c5⟩
theorem or_more {sub : RDR} {op : Nat} {V : List Int} (hs : FSM g E q op sub) (hk : SUBK sub) (hV : ∀ V' x, V = V' ++ [x] → x ≠ 10 ∧ x ≠ 11 ∧ x ≠ 12) (h5 : W5 V) : ∀ (n p : Nat) (L : List Tok) (C accR R : List Int) (T : MS), L.length ≤ n → TOK E p L → TR R → (∀ t L1, L = t :: L1 → t.1 ≠ 21) → QS g E q T L (C ++ accR) (V ++ R.reverse) op 0 → (C ++ accR).length + (V ++ R).length + L.length ≤ 1650 → (∃ L' accR' R' T', rdMore opT (rdLoop opB sub) n L (accR ++ R) = PR.ok L' (accR' ++ R') ∧ TR R' ∧ KT T = KT T' ∧ QS g E q T' L' (C ++ accR') (V ++ R'.reverse) op 0 ∧ (∀ t L1, L' = t :: L1 → t.1 ≠ 20 ∧ t.1 ≠ 21) ∧ FQt T T') ∨ ∃ k p T', rdMore opT (rdLoop opB sub) n L (accR ++ R) = PR.no k p ∧ k ≠ 0 ∧ KT T = some T' ∧ BDT T' k p ∧ FQt T T' := by
  intro n
  induction n with
  | zero => intro p L C accR R T hn hT; exact absurd (List.length_eq_zero_iff.mp (by omega)) hT.ne
  | succ n ih =>
    intro p L C accR R T hn hT hR hnm h hl
    cases L with
    | nil => exact hT.elim
    | cons t L =>
      rw [rdMore]
      cases hop : opT t.1 with
      | none =>
        refine Or.inl ⟨_, accR, R, T, rfl, hR, rfl, h, fun t' L1 e => ?_, FQs.q3 (FQs.rf T)⟩
        cases e
        unfold opT at hop
        exact ⟨fun c => (by rw [if_pos c] at hop; cases hop), hnm t L rfl⟩
      | some m =>
        obtain ⟨rfl, ht⟩ := opT_v hop
        obtain ⟨k1, k2, -⟩ := hT.tl (by omega)
        have hrl := hR.len
        rw [List.length_cons] at hn hl
        simp only [List.length_append] at hl
        obtain ⟨T3, b1, b2, b3⟩ := kt_or ht hR (fun V' x e => ⟨(hV V' x e).1, (hV V' x e).2.1⟩) h (by simp only [List.length_append]; omega)
        rcases and_all hs hk (fun V' x e => by have := sn_inj e; omega) (h5.sn (by decide)) k1 b2 (by simp only [List.length_append, List.length_cons, List.length_nil]; omega) with ⟨L2, csR, M, T4, c1, c2, c3, c4, c5, c6⟩ | ⟨k, p', T4, c1, c2, c3, c4, c5⟩
        · obtain ⟨p2, d1, d2, d3, d4⟩ := rdLoop_k hk rfl E _ _ _ _ k1 c1
          have hml := c2.len
          have ea : C ++ accR ++ R ++ csR = C ++ (accR ++ R ++ csR) := by simp only [List.append_assoc]
          rw [ea] at c4
          have eb : accR ++ R ++ (csR ++ M ++ [11]) = (accR ++ R ++ csR) ++ (M ++ [11]) := by simp only [List.append_assoc]
          have er : V ++ [11] ++ M = V ++ (M ++ [11]).reverse := by rcases c2 with rfl | rfl <;> simp
          rw [er] at c4
          have hr := ih p2 L2 C (accR ++ R ++ csR) (M ++ [11]) T4 (by omega) d2 (by rcases c2 with rfl | rfl; exact Or.inr (Or.inr (Or.inl rfl)); exact Or.inr (Or.inr (Or.inr rfl))) c5 c4 (by simp only [List.length_append, List.length_cons, List.length_nil] at *; omega)
          rw [← eb] at hr
          rw [c1]
          have hKK : KT T = KT T4 := b1.trans c3
          rcases hr with ⟨L', accR', M', T', e1, e2, e3, e4, e5, e6⟩ | ⟨k, p', T', e1, e2, e3, e4, e5⟩
          · exact Or.inl ⟨L', accR', M', T', e1, e2, hKK.trans e3, e4, e5, b3.q3.tr (c6.tr e6)⟩
          · exact Or.inr ⟨k, p', T', e1, e2, hKK.trans e3, e4, b3.q3.tr (c6.tr e5)⟩
        · rw [c1]
          exact Or.inr ⟨k, p', T4, rfl, c2, b1.trans c3, c4, b3.q3.tr c5⟩
theorem test_allr {sub : RDR} {op p : Nat} {V C : List Int} {L : List Tok} (hs : FSM g E q op sub) (hk : SUBK sub) (hV : ∀ V' x, V = V' ++ [x] → x ≠ 10 ∧ x ≠ 11 ∧ x ≠ 12) (h5 : W5 V) (hT : TOK E p L) (h : QS g E q T L C V op 0) (hl : C.length + V.length + L.length ≤ 1650) : (∃ L' accR R T', rdTestP sub L = PR.ok L' (accR ++ R) ∧ TR R ∧ Mo_qTest_2 1 T = KT T' ∧ QS g E q T' L' (C ++ accR) (V ++ R.reverse) op 0 ∧ (∀ t L1, L' = t :: L1 → t.1 ≠ 20 ∧ t.1 ≠ 21) ∧ FQt T T') ∨ ∃ k p T', rdTestP sub L = PR.no k p ∧ k ≠ 0 ∧ Mo_qTest_2 1 T = some T' ∧ BDT T' k p ∧ FQt T T' := by
  unfold rdTestP
  rcases and_all hs hk (fun V' x e => ⟨(hV V' x e).1, (hV V' x e).2.2⟩) h5 hT h hl with ⟨L2, csR, M, T4, c1, c2, c3, c4, c5, c6⟩ | ⟨k, p', T4, c1, c2, c3, c4, c5⟩
  · obtain ⟨p2, d1, d2, d3, d4⟩ := rdLoop_k hk rfl E _ _ _ _ hT c1
    have hml := c2.len
    have hMr : M.reverse = M := by rcases c2 with rfl | rfl <;> rfl
    have hr := or_more hs hk hV h5 L2.length p2 L2 C csR M T4 (Nat.le_refl _) d2 (by rcases c2 with rfl | rfl; exact Or.inl rfl; exact Or.inr (Or.inl rfl)) c5 (by rw [hMr]; exact c4) (by simp only [List.length_append] at *; omega)
    have e0 : rdLoop opT (rdLoop opB sub) L = rdMore opT (rdLoop opB sub) L2.length L2 (csR ++ M) := by
      show PR.bnd (rdLoop opB sub L) _ = _
      rw [c1]; rfl
    rw [e0]
    rcases hr with ⟨L', accR', M', T', e1, e2, e3, e4, e5, e6⟩ | ⟨k, p', T', e1, e2, e3, e4, e5⟩
    · exact Or.inl ⟨L', accR', M', T', e1, e2, c3.trans e3, e4, e5, c6.tr e6⟩
    · exact Or.inr ⟨k, p', T', e1, e2, c3.trans e3, e4, c6.tr e5⟩
  · have e0 : rdLoop opT (rdLoop opB sub) L = PR.no k p' := by
      show PR.bnd (rdLoop opB sub L) _ = _
      rw [c1]; rfl
    rw [e0]
    exact Or.inr ⟨k, p', T4, rfl, c2, c3, c4, c5⟩
/-! a fact -/
def INT (g : Nat → Int) (E : Nat) (q : Int) (m : Nat) (inn : Option RDR) : Prop := (m = 0 ∧ inn = none) ∨ ∃ m', m = m' + 1 ∧ inn = some (rdFact g q m') ∧ FSM g E q (6 - m') (rdFact g q m')
/-- a comparison, or all -/
theorem m_qFact {m p : Nat} {inn : Option RDR} {t : Tok} {L1 : List Tok} {C W : List Int} (hq3 : q = 0 ∨ q = 1 ∨ q = 2 ∨ q = 3) (hm : m < 7) (h5 : W5 W) (ht : t.1 ≠ 22 ∧ t.1 ≠ 347) (hT : TOK E p (t :: L1)) (h : QS g E q T (t :: L1) C W (6 - m) 0) (hl : C.length + W.length + (t :: L1).length ≤ 1650) : (∃ L' cs T', rdFactB (rdSumP (rdPart g q m)) inn (t :: L1) = PR.ok L' cs ∧ m_Mo_qFact T = some T' ∧ QS g E q T' L' (C ++ cs) W (6 - m) 0 ∧ FQt T T') ∨ ∃ k p T', rdFactB (rdSumP (rdPart g q m)) inn (t :: L1) = PR.no k p ∧ k ≠ 0 ∧ m_Mo_qFact T = some T' ∧ BDT T' k p ∧ FQt T T' := by
  rw [List.length_cons] at hl
  unfold rdFactB
  dsimp only
  rw [if_neg ht.1, if_neg ht.2, e_Mo_qFact]
  rcases m_takes hr_460 h.2.1 h.1 with ⟨e, T1, r1, r2, r3⟩ | ⟨e, T1, r1, r2, r3, r4⟩
  · obtain ⟨T2, s1, s2, s3⟩ := q_code (c := 13) (h.frt r3 r2) (by omega)
    rw [if_pos e, r1, Option.bind_some]
    dsimp only
    rw [if_neg n10, s1, Option.bind_some]
    exact Or.inl ⟨L1, [13], T2, rfl, rfl, s2, (r3.toQ.tr s3).q3⟩
  · have h1 := h.frt r4.t r2
    rw [if_neg e, r1, Option.bind_some]
    dsimp only
    rw [if_pos rfl]
    rcases m_qSums hq3 hm h5.top hT h1 (by rw [List.length_cons]; omega) with ⟨L2, cs, T2, s1, s2, s3, s4⟩ | ⟨k, p', T2, s1, s2, s3, s4, s5⟩
    · obtain ⟨p2, d1, d2, d3, d4⟩ := rdSumP_k (rdPart_k g q m) E _ _ _ _ hT s1
      rw [List.length_cons] at d3
      rw [s1, bnd_k, s2, Option.bind_some, if_pos s3.1.2.2.2.1]
      cases L2 with
      | nil => exact d2.elim
      | cons t' L2 =>
        rw [List.length_cons] at d3
        obtain ⟨T3, u1, u2, u3, u4, u5⟩ := m_lookq s3.1
        have h3 := s3.frt u4.t u2
        have hE := u2.1
        have f3 : FQt T T3 := r4.q2.q3.tr (s4.tr u4.q2.q3)
        rw [u1, Option.bind_some]
        dsimp only
        have go : ∀ (a : Nat) (c : Int), sgB a → t'.1 = 256 + a → opC t'.1 = some c → (∀ p1 : MS, (if (a : Int) = 60 then ((m_Mo_qCode 7 p1).bind fun p2 => some p2) else if (a : Int) = 62 then ((m_Mo_qCode 8 p1).bind fun p2 => some p2) else (m_Mo_qCode 9 p1).bind fun p2 => some p2) = (m_Mo_qCode c p1).bind fun p2 => some p2) → (∃ L' cs' T', (match opC t'.1 with | none => PR.no 1 t'.2.1 | some c => (rdSumP (rdPart g q m) L2).bnd (fun L3 cs2 => PR.ok L3 (cs ++ (cs2 ++ [c])))) = PR.ok L' cs' ∧ Mo_qFact_63 a T3 = some T' ∧ QS g E q T' L' (C ++ cs') W (6 - m) 0 ∧ FQt T T') ∨ ∃ k p T', (match opC t'.1 with | none => PR.no 1 t'.2.1 | some c => (rdSumP (rdPart g q m) L2).bnd (fun L3 cs2 => PR.ok L3 (cs ++ (cs2 ++ [c])))) = PR.no k p ∧ k ≠ 0 ∧ Mo_qFact_63 a T3 = some T' ∧ BDT T' k p ∧ FQt T T' := fun a c ha hta hc hcode => by
          obtain ⟨k5, -⟩ := d2.tl (by omega)
          obtain ⟨v1, -, v3⟩ := u2.adv u3 ha hta
          have fu : FRt T3 (up T3 401 2 ((t'.2.1 + 1 : Nat) : Int)) := FRt.u (Or.inl rfl)
          rw [e_Mo_qFact_63, u3, wr_suc2 (show t'.2.1 < 1600 by omega) (by decide), hc]
          dsimp only
          rcases m_qSums hq3 hm h5.top k5 (h3.frt fu v1) (by rw [List.length_append]; omega) with ⟨L5, cs2, T5, x1, x2, x3, x4⟩ | ⟨k, p', T5, x1, x2, x3, x4, x5⟩
          · obtain ⟨p5, y1, y2, y3, y4⟩ := rdSumP_k (rdPart_k g q m) E _ _ _ _ k5 x1
            obtain ⟨T6, z1, z2, z3⟩ := q_code (c := c) x3 (by simp only [List.length_append]; omega)
            rw [x1, bnd_k, x2, Option.bind_some, hcode, z1, Option.bind_some]
            refine Or.inl ⟨L5, _, T6, rfl, rfl, ?_, f3.tr (fu.toQ.q3.tr (x4.tr z3.q3))⟩
            have ea : C ++ (cs ++ (cs2 ++ [c])) = C ++ cs ++ cs2 ++ [c] := by simp only [List.append_assoc]
            rw [ea]
            exact z2
          · obtain ⟨b1, b2⟩ := x4
            rw [x1, x3, Option.bind_some, hcode, e_Mo_qCode, if_pos (by omega), Option.bind_some]
            refine Or.inr ⟨k, p', _, rfl, x2, rfl, ⟨by rw [up_k (by decide), up_c (by decide)]; exact b1.1, by rw [up_k (by decide), up_c (by decide)]; exact b1.2⟩, f3.tr (fu.toQ.q3.tr (x5.tr ⟨fun c a1 a2 _ => by rw [up_c a1, up_c a2], fun k _ _ _ _ _ k6 _ _ _ => by rw [up_k k6, up_c (by decide)]⟩))⟩
        have e60 := u5 60 sg60
        have e61 := u5 61 sg61
        have e62 := u5 62 sg62
        by_cases c60 : t'.1 = 316
        · have hlk : lkc g t' = 60 := e60.mpr c60
          rw [if_pos hlk, hlk]
          exact go 60 7 sg60 c60 (by unfold opC; rw [if_pos c60]) (fun p1 => by rw [if_pos (by decide)])
        · rw [if_neg (show ¬ lkc g t' = 60 from fun x => c60 (e60.mp x))]
          by_cases c62 : t'.1 = 318
          · have hlk : lkc g t' = 62 := e62.mpr c62
            rw [if_pos hlk, hlk]
            exact go 62 8 sg62 c62 (by unfold opC; rw [if_neg c60, if_pos c62]) (fun p1 => by rw [if_neg (by decide), if_pos (by decide)])
          · rw [if_neg (show ¬ lkc g t' = 62 from fun x => c62 (e62.mp x))]
            by_cases c61 : t'.1 = 317
            · have hlk : lkc g t' = 61 := e61.mpr c61
              rw [if_pos hlk, hlk]
              exact go 61 9 sg61 c61 (by unfold opC; rw [if_neg c60, if_neg c62, if_pos c61]) (fun p1 => by rw [if_neg (by decide), if_neg (by decide)])
            · have hc : opC t'.1 = none := by unfold opC; rw [if_neg c60, if_neg c62, if_neg c61]
              rw [if_neg (show ¬ lkc g t' = 61 from fun x => c61 (e61.mp x)), m_fail h3.1.2.2.2.1, Option.bind_some, hc, u3]
              exact Or.inr ⟨1, t'.2.1, _, rfl, by decide, rfl, bdt_fail 1 _, f3.tr (FRt.fail _ _).toQ.q3⟩
    · have hb5 : T2 401 5 ≠ 0 := by rw [s4.1.1]; exact s2
      rw [s1, s3, Option.bind_some, if_neg hb5]
      exact Or.inr ⟨k, p', T2, rfl, s2, rfl, s4.1, r4.q2.q3.tr s5⟩
theorem fact_ref {m : Nat} {inn : Option RDR} (hq3 : q = 0 ∨ q = 1 ∨ q = 2 ∨ q = 3) (hm : m < 7) (hi : INT g E q m inn) : FSM g E q (6 - m) (rdFactB (rdSumP (rdPart g q m)) inn) := by
  intro p L C W T hT h h5 hl
  cases L with
  | nil => exact hT.elim
  | cons t L1 =>
    obtain ⟨T1, r1, r2, r3, r4, r5⟩ := m_lookq h.1
    have h1 := h.frt r4.t r2
    have hl' := hl
    rw [List.length_cons] at hl'
    rw [e_Mo_qTest_2, if_neg n10, h.1.2.2.2.1, if_pos rfl, r1, Option.bind_some]
    dsimp only
    by_cases c1 : t.1 = 347
    · obtain ⟨k1, -⟩ := hT.tl (by omega)
      rw [if_pos (show lkc g t = 91 from (r5 91 sg91).mpr c1)]
      have hsp : rdFactB (rdSumP (rdPart g q m)) inn (t :: L1) = opn inn t.2.1 (fun r => (rdTestP r L1).bnd (fun L' cs => sgn L' 93 (fun L2 => PR.ok L2 cs))) := by
        unfold rdFactB
        dsimp only
        rw [if_neg (by omega), if_pos c1]
      rw [hsp]
      rcases hi with ⟨rfl, rfl⟩ | ⟨m', rfl, rfl, hs⟩
      · have h1 : QS g E q T1 (t :: L1) C W 6 0 := h1
        obtain ⟨T2, s1, s2, s3⟩ := m_opn6 (a := 25) (p := t.2.1) h1 (by omega)
        rw [r3, s1, Option.bind_some, t2_bad (by rw [up_k (by decide), s2.1.1]; decide)]
        exact Or.inr ⟨4, t.2.1, _, rfl, by decide, rfl, ⟨by rw [up_k (by decide)]; exact s2.1.1, by rw [up_k (by decide)]; exact s2.1.2⟩, r4.q2.q3.tr (s3.q3.tr (FRt.u (Or.inl rfl)).toQ.q3)⟩
      · obtain ⟨T2, s1, s2, s3, s4⟩ := m_opnS (a := 25) (p := T1 401 2) h1 (by omega) (by omega)
        rw [r3] at s4
        obtain ⟨v1, -, v3⟩ := s2.1.adv s4 sg91 c1
        have hE := s2.1.1
        have fu : FRt T2 (up T2 401 2 ((t.2.1 + 1 : Nat) : Int)) := FRt.u (Or.inl rfl)
        have h3 := s2.frt fu v1
        rw [s1, Option.bind_some, s4, wr_suc2 (show t.2.1 < 1600 by omega) (by decide)]
        rw [show 6 - (m' + 1) + 1 = 6 - m' by omega] at h3
        have f3 : FQt T (up T2 401 2 ((t.2.1 + 1 : Nat) : Int)) := r4.q2.q3.tr (s3.q3.tr fu.toQ.q3)
        rcases test_allr hs (rdFact_k g q m') (fun V' x e => by have := sn_inj e; omega) (h5.sn (by decide)) k1 h3 (by rw [List.length_append, List.length_singleton]; omega) with ⟨L2, accR, R, T4, c1', c2, c3, c4, c5, c6⟩ | ⟨k, p', T4, c1', c2, c3, c4, c5⟩
        · obtain ⟨p2, d1, d2, d3, d4⟩ := rdTestP_k (rdFact_k g q m') E _ _ _ _ k1 c1'
          have hrl := c2.len
          have eo : opn (some (rdFact g q m')) t.2.1 (fun r => (rdTestP r L1).bnd (fun L' cs => sgn L' 93 (fun L2 => PR.ok L2 cs))) = sgn L2 93 (fun L3 => PR.ok L3 (accR ++ R)) := by
            show PR.bnd (rdTestP (rdFact g q m') L1) _ = _
            rw [c1', bnd_k]
          rw [eo]
          cases L2 with
          | nil => exact d2.elim
          | cons t2 L2 =>
            rw [List.length_cons] at d3
            rw [List.length_append] at d3
            rw [sgn_k]
            by_cases e : t2.1 = 256 + 93
            · rw [if_pos e]
              rw [show 6 - m' = (6 - (m' + 1)) + 1 by omega] at c4
              obtain ⟨T5, u1, u2, u3⟩ := kt_close e c2 c4 (by omega) (by rw [List.length_append]; omega)
              rw [List.append_assoc] at u2
              exact Or.inl ⟨L2, _, T5, rfl, c3.trans u1, u2, f3.tr (c6.tr u3.q3)⟩
            · rw [if_neg e]
              obtain ⟨T5, u1, u2, u3⟩ := kt_fail c4 (c5 t2 L2 rfl) e (by simp only [List.length_append, List.length_singleton, List.length_reverse]; omega)
              exact Or.inr ⟨1, t2.2.1, T5, rfl, by decide, c3.trans u1, u2, f3.tr (c6.tr u3.q3)⟩
        · have eo : opn (some (rdFact g q m')) t.2.1 (fun r => (rdTestP r L1).bnd (fun L' cs => sgn L' 93 (fun L2 => PR.ok L2 cs))) = PR.no k p' := by
            show PR.bnd (rdTestP (rdFact g q m') L1) _ = _
            rw [c1']; rfl
          rw [eo]
          exact Or.inr ⟨k, p', T4, rfl, c2, c3, c4, f3.tr c5⟩
    · rw [if_neg (show ¬ lkc g t = 91 from fun x => c1 ((r5 91 sg91).mp x))]
      obtain ⟨T2, a1, a2, a3, a4, -⟩ := m_isHere hr_457 h1.2.1 r2
      have h2 := h1.frt a4.t a2
      have f2 : FQt T T2 := r4.q2.q3.tr a4.q2.q3
      rw [a1, Option.bind_some]
      dsimp only
      by_cases c2 : t.1 = 22
      · obtain ⟨k1, -⟩ := hT.tl (by omega)
        rw [if_pos c2, if_neg n10]
        have hsp : rdFactB (rdSumP (rdPart g q m)) inn (t :: L1) = opn inn t.2.1 (fun r => (r L1).bnd (fun L' cs => PR.ok L' (cs ++ [12]))) := by
          unfold rdFactB
          dsimp only
          rw [if_pos c2]
        rw [hsp]
        rcases hi with ⟨rfl, rfl⟩ | ⟨m', rfl, rfl, hs⟩
        · have h2 : QS g E q T2 (t :: L1) C W 6 0 := h2
          obtain ⟨T3, s1, s2, s3⟩ := m_opn6 (a := 12) (p := t.2.1) h2 (by omega)
          have hb5 : T3 401 5 ≠ 0 := by rw [s2.1.1]; decide
          rw [a3, s1, Option.bind_some, m_asksB hb5, Option.bind_some, t2_bad hb5]
          exact Or.inr ⟨4, t.2.1, _, rfl, by decide, rfl, s2.1, f2.tr s3.q3⟩
        · obtain ⟨T3, s1, s2, s3, s4⟩ := m_opnS (a := 12) (p := T2 401 2) h2 (by omega) (by omega)
          rcases m_asks hr_457 s2.2.1 s2.1 with ⟨-, T4, b1, b2, b3⟩ | ⟨e, -⟩
          · have h4 := s2.frt b3 b2
            rw [s1, Option.bind_some, b1, Option.bind_some]
            rw [show 6 - (m' + 1) + 1 = 6 - m' by omega] at h4
            have f4 : FQt T T4 := f2.tr (s3.q3.tr b3.toQ.q3)
            rcases hs _ L1 C (W ++ [12]) T4 k1 h4 (h5.sn (by decide)) (by rw [List.length_append, List.length_singleton]; omega) with ⟨L2, cs, T5, x1, x2, x3, x4⟩ | ⟨k, p', T5, x1, x2, x3, x4, x5⟩
            · obtain ⟨p2, d1, d2, d3, d4⟩ := rdFact_k g q m' E _ _ _ _ k1 x1
              have eo : opn (some (rdFact g q m')) t.2.1 (fun r => (r L1).bnd (fun L' cs => PR.ok L' (cs ++ [12]))) = PR.ok L2 (cs ++ [12]) := by
                show PR.bnd (rdFact g q m' L1) _ = _
                rw [x1]; rfl
              rw [eo]
              rw [show 6 - m' = (6 - (m' + 1)) + 1 by omega] at x3
              obtain ⟨T6, u1, u2, u3⟩ := fe_not x3 (by omega) (by rw [List.length_append]; omega)
              rw [List.append_assoc] at u2
              exact Or.inl ⟨L2, _, T6, rfl, x2.trans u1, u2, f4.tr (x4.tr u3.q3)⟩
            · have eo : opn (some (rdFact g q m')) t.2.1 (fun r => (r L1).bnd (fun L' cs => PR.ok L' (cs ++ [12]))) = PR.no k p' := by
                show PR.bnd (rdFact g q m' L1) _ = _
                rw [x1]; rfl
              rw [eo]
              exact Or.inr ⟨k, p', T5, rfl, x2, x3, x4, f4.tr x5⟩
          · exact absurd c2 e
      · rw [if_neg c2, if_pos rfl]
        have hfe : ∀ T3 : MS, ((m_Mo_qDropsNots T3).bind fun p4 => if p4 401 5 = 0 then ((m_Mo_qGoesOnTest p4).bind fun p5 => if p5.1 = 0 then Mo_qTest_2 0 p5.2 else Mo_qTest_2 1 p5.2) else Mo_qTest_2 0 p4) = FEs T3 := fun T3 => by rw [e_Mo_qDropsNots]; rfl
        rcases m_qFact (inn := inn) hq3 hm h5 ⟨c2, c1⟩ hT h2 hl with ⟨L', cs, T3, s1, s2, s3, s4⟩ | ⟨k, p', T3, s1, s2, s3, s4, s5⟩
        · rw [s2, Option.bind_some, hfe]
          exact Or.inl ⟨L', cs, T3, s1, rfl, s3, f2.tr s4⟩
        · have hb5 : T3 401 5 ≠ 0 := by rw [s4.1]; exact s2
          rw [s3, Option.bind_some, hfe, fe_bad hb5]
          exact Or.inr ⟨k, p', T3, s1, s2, rfl, s4, f2.tr s5⟩
theorem fact_all (hq3 : q = 0 ∨ q = 1 ∨ q = 2 ∨ q = 3) : ∀ m, m < 7 → FSM g E q (6 - m) (rdFact g q m) := by
  intro m
  induction m with
  | zero => intro hm; exact fact_ref hq3 hm (Or.inl ⟨rfl, rfl⟩)
  | succ m ih => intro hm; exact fact_ref hq3 hm (Or.inr ⟨m, rfl, rfl, ih (by omega)⟩)
/-- a whole test -/
theorem m_qTest {p : Nat} {C : List Int} {L : List Tok} (hq3 : q = 0 ∨ q = 1 ∨ q = 2 ∨ q = 3) (hT : TOK E p L) (h : QS g E q T L C [] 0 0) (hl : C.length + L.length ≤ 1650) : (∃ L' cs T', rdTestP (rdFact g q 6) L = PR.ok L' cs ∧ m_Mo_qTest T = some T' ∧ QS g E q T' L' (C ++ cs) [] 0 0 ∧ FQt T T') ∨ ∃ k p T', rdTestP (rdFact g q 6) L = PR.no k p ∧ k ≠ 0 ∧ m_Mo_qTest T = some T' ∧ BDT T' k p ∧ FQt T T' := by
  rw [e_Mo_qTest]
  rcases test_allr (V := []) (fact_all hq3 6 (by decide)) (rdFact_k g q 6) (fun V' x e => absurd e.symm (by simp)) (fun x hx => absurd hx (List.not_mem_nil)) hT h (by rw [List.length_nil]; omega) with ⟨L2, accR, R, T4, c1, c2, c3, c4, c5, c6⟩ | ⟨k, p', T4, c1, c2, c3, c4, c5⟩
  · obtain ⟨p2, d1, d2, d3, d4⟩ := rdTestP_k (rdFact_k g q 6) E _ _ _ _ hT c1
    rw [List.length_append] at d3
    cases L2 with
    | nil => exact d2.elim
    | cons t2 L2 =>
      rw [List.nil_append] at c4
      obtain ⟨T5, u1, u2, u3⟩ := kt_done c4 (c5 t2 L2 rfl) c2 (by rw [List.length_append]; omega)
      left
      rw [c3, u1]
      rw [List.append_assoc] at u2
      exact ⟨_, _, T5, c1, rfl, u2, c6.tr u3.q3⟩
  · exact Or.inr ⟨k, p', T4, c1, c2, c3, c4, c5⟩
end
