/-! the reference: codes, and what waits -/
section
variable {n : Nat} {P S T : MS} {g : Nat → Int} {E : Nat} {q : Int}
def QS (g : Nat → Int) (E : Nat) (q : Int) (T : MS) (L : List Tok) (C W : List Int) (op base : Nat) : Prop := RTK g E T L ∧ WDT T ∧ T 401 48 = q ∧ (T 401 97 = ((C.length : Nat) : Int) ∧ ∀ i, i < C.length → T 473 i = C.getD i 0) ∧ (T 401 99 = ((W.length : Nat) : Int) ∧ ∀ i, i < W.length → T 474 i = W.getD i 0) ∧ T 401 100 = ((op : Nat) : Int) ∧ T 401 101 = ((base : Nat) : Int)
def FQs (T T' : MS) : Prop := (∀ c, c ≠ 401 → c ≠ 473 → c ≠ 474 → T' c = T c) ∧ ∀ k, k ≠ 2 → k ≠ 4 → k ≠ 5 → k ≠ 6 → k ≠ 10 → k ≠ 97 → k ≠ 99 → k ≠ 100 → T' 401 k = T 401 k
theorem FQs.rf (T : MS) : FQs T T := ⟨fun _ _ _ _ => rfl, fun _ _ _ _ _ _ _ _ _ => rfl⟩
theorem FQs.tr {T T' T'' : MS} (h : FQs T T') (k : FQs T' T'') : FQs T T'' := ⟨fun c a1 a2 a3 => (k.1 c a1 a2 a3).trans (h.1 c a1 a2 a3), fun j a1 a2 a3 a4 a5 a6 a7 a8 => (k.2 j a1 a2 a3 a4 a5 a6 a7 a8).trans (h.2 j a1 a2 a3 a4 a5 a6 a7 a8)⟩
theorem FRt.toQ {T T' : MS} (h : FRt T T') : FQs T T' := ⟨fun c a1 _ _ => h.1 c a1, fun j a1 a2 a3 a4 a5 _ _ _ => h.2 j a1 a2 a3 a4 a5⟩
theorem RTK.fr {T T' : MS} {L : List Tok} (h : RTK g E T L) (f : T' 402 = T 402) (f1 : ∀ k, 2 ≤ k → k ≤ 6 → T' 401 k = T 401 k) : RTK g E T' L := by
  obtain ⟨hE, hg, h3, h5, p, hp, h2, h4, hL⟩ := h
  exact ⟨hE, by rw [f]; exact hg, by rw [f1 3 (by decide) (by decide)]; exact h3, by rw [f1 5 (by decide) (by decide)]; exact h5, p, hp, by rw [f1 2 (by decide) (by decide)]; exact h2, by rw [f1 4 (by decide) (by decide), f1 6 (by decide) (by decide)]; exact h4, by rw [f1 4 (by decide) (by decide)]; exact hL⟩
theorem QS.frt {T T' : MS} {L L' : List Tok} {C W : List Int} {op base : Nat} (h : QS g E q T L C W op base) (f : FRt T T') (h' : RTK g E T' L') : QS g E q T' L' C W op base := by
  obtain ⟨-, a2, a3, a4, a5, a6, a7⟩ := h
  have u : ∀ k, 11 ≤ k → T' 401 k = T 401 k := fun k hk => f.2 k (by omega) (by omega) (by omega) (by omega) (by omega)
  refine ⟨h', a2.fr f.1, by rw [u 48 (by decide)]; exact a3, ?_, ?_, by rw [u 100 (by decide)]; exact a6, by rw [u 101 (by decide)]; exact a7⟩
  · rw [u 97 (by decide), f.1 473 (by decide)]; exact a4
  · rw [u 99 (by decide), f.1 474 (by decide)]; exact a5
theorem snoc_get {C : List Int} {c : Int} {i : Nat} (h : i < (C ++ [c]).length) : (C ++ [c]).getD i 0 = if i = C.length then c else C.getD i 0 := by
  rw [List.length_append, List.length_singleton] at h
  rw [List.getD_eq_getElem?_getD]
  by_cases e : i = C.length
  · rw [if_pos e, e, List.getElem?_append_right (Nat.le_refl _), Nat.sub_self]; rfl
  · rw [if_neg e, List.getElem?_append_left (by omega), ← List.getD_eq_getElem?_getD]
def BDQ (T : MS) (k : Int) (p : Nat) : Prop := BDT T k p ∧ 0 ≤ T 401 97 ∧ T 401 97 < 1699
theorem WDT.fq {T T' : MS} (h : WDT T) (f : ∀ c, c ≠ 401 → c ≠ 473 → c ≠ 474 → T' c = T c) : WDT T' := by
  intro q hq k hk
  have hr : ∀ q ∈ wdM, q.1 ≠ 401 ∧ q.1 ≠ 473 ∧ q.1 ≠ 474 := by decide
  rw [f q.1 (hr q hq).1 (hr q hq).2.1 (hr q hq).2.2]
  exact h q hq k hk
/-- cells of the reading alone -/
theorem QS.mk2 {T T' : MS} {L : List Tok} {C W C' W' : List Int} {op base op' base' : Nat} (h : QS g E q T L C W op base) (f : ∀ c, c ≠ 401 → c ≠ 473 → c ≠ 474 → T' c = T c) (f1 : ∀ k, k ≠ 97 → k ≠ 99 → k ≠ 100 → k ≠ 101 → T' 401 k = T 401 k) (hC : T' 401 97 = ((C'.length : Nat) : Int) ∧ ∀ i, i < C'.length → T' 473 i = C'.getD i 0) (hW : T' 401 99 = ((W'.length : Nat) : Int) ∧ ∀ i, i < W'.length → T' 474 i = W'.getD i 0) (ho : T' 401 100 = ((op' : Nat) : Int)) (hb : T' 401 101 = ((base' : Nat) : Int)) : QS g E q T' L C' W' op' base' := by
  obtain ⟨a1, a2, a3, -⟩ := h
  exact ⟨a1.fr (f 402 (by decide) (by decide) (by decide)) (fun k k1 k2 => f1 k (by omega) (by omega) (by omega) (by omega)), a2.fq f, by rw [f1 48 (by decide) (by decide) (by decide) (by decide)]; exact a3, hC, hW, ho, hb⟩
theorem q_code {L : List Tok} {C W : List Int} {op base : Nat} {c : Int} (h : QS g E q T L C W op base) (hl : C.length < 1700) : ∃ T', m_Mo_qCode c T = some T' ∧ QS g E q T' L (C ++ [c]) W op base ∧ FQs T T' := by
  obtain ⟨c1, c2⟩ := h.2.2.2.1
  obtain ⟨w1, w2⟩ := h.2.2.2.2.1
  rw [e_Mo_qCode, c1, if_pos (by omega), Int.toNat_natCast, wr_suc2 hl (by decide)]
  refine ⟨_, rfl, h.mk2 (fun c a1 a2 _ => by rw [up_c a1, up_c a2]) (fun k k1 _ _ _ => by rw [up_k k1, up_c (by decide)]) ⟨by rw [up_s, List.length_append, List.length_singleton], fun i hi => ?_⟩ ⟨by rw [up_k (by decide), up_c (by decide)]; exact w1, fun i hi => by rw [up_c (by decide), up_c (by decide)]; exact w2 i hi⟩ (by rw [up_k (by decide), up_c (by decide)]; exact h.2.2.2.2.2.1) (by rw [up_k (by decide), up_c (by decide)]; exact h.2.2.2.2.2.2), ⟨fun c a1 a2 _ => by rw [up_c a1, up_c a2], fun k _ _ _ _ _ k6 _ _ => by rw [up_k k6, up_c (by decide)]⟩⟩
  rw [up_c (by decide), snoc_get hi]
  rw [List.length_append, List.length_singleton] at hi
  by_cases e : i = C.length
  · rw [if_pos e, e, up_s]
  · rw [if_neg e, up_k e]; exact c2 i (by omega)
theorem q_push {L : List Tok} {C W : List Int} {op base : Nat} {c : Int} (h : QS g E q T L C W op base) : QS g E q (up (up T 474 W.length c) 401 99 ((W.length + 1 : Nat) : Int)) L C (W ++ [c]) op base ∧ FQs T (up (up T 474 W.length c) 401 99 ((W.length + 1 : Nat) : Int)) := by
  obtain ⟨c1, c2⟩ := h.2.2.2.1
  obtain ⟨w1, w2⟩ := h.2.2.2.2.1
  refine ⟨h.mk2 (fun c a1 _ a3 => by rw [up_c a1, up_c a3]) (fun k _ k2 _ _ => by rw [up_k k2, up_c (by decide)]) ⟨by rw [up_k (by decide), up_c (by decide)]; exact c1, fun i hi => by rw [up_c (by decide), up_c (by decide)]; exact c2 i hi⟩ ⟨by rw [up_s, List.length_append, List.length_singleton], fun i hi => ?_⟩ (by rw [up_k (by decide), up_c (by decide)]; exact h.2.2.2.2.2.1) (by rw [up_k (by decide), up_c (by decide)]; exact h.2.2.2.2.2.2), ⟨fun c a1 _ a3 => by rw [up_c a1, up_c a3], fun k _ _ _ _ _ _ k7 _ => by rw [up_k k7, up_c (by decide)]⟩⟩
  rw [up_c (by decide), snoc_get hi]
  rw [List.length_append, List.length_singleton] at hi
  by_cases e : i = W.length
  · rw [if_pos e, e, up_s]
  · rw [if_neg e, up_k e]; exact w2 i (by omega)
theorem snoc_top {W : List Int} {x : Int} {L : List Tok} {C : List Int} {op base : Nat} (h : QS g E q T L C (W ++ [x]) op base) : T 401 99 = ((W.length + 1 : Nat) : Int) ∧ T 474 W.length = x ∧ ∀ i, i < W.length → T 474 i = W.getD i 0 := by
  obtain ⟨w1, w2⟩ := h.2.2.2.2.1
  rw [List.length_append, List.length_singleton] at w1
  refine ⟨w1, ?_, fun i hi => ?_⟩
  · have := w2 W.length (by rw [List.length_append, List.length_singleton]; omega)
    rw [snoc_get (by rw [List.length_append, List.length_singleton]; omega), if_pos rfl] at this
    exact this
  · have := w2 i (by rw [List.length_append, List.length_singleton]; omega)
    rw [snoc_get (by rw [List.length_append, List.length_singleton]; omega), if_neg (by omega)] at this
    exact this
theorem q_on {W : List Int} {x a : Int} {L : List Tok} {C : List Int} {op base : Nat} (h : QS g E q T L C (W ++ [x]) op base) (hl : W.length < 1690) : m_Mo_qIsOn a T = some ((if x = a then 1 else 0), T) := by
  obtain ⟨w1, w2, -⟩ := snoc_top h
  have e : wr (((W.length + 1 : Nat) : Int) - 1) = ((W.length : Nat) : Int) := by rw [wrN (by omega) (by omega)]; omega
  rw [e_Mo_qIsOn, w1, if_pos (by omega), e, if_pos (by omega), Int.toNat_natCast, w2]
  split <;> rfl
theorem q_on0 {a : Int} {L : List Tok} {C : List Int} {op base : Nat} (h : QS g E q T L C [] op base) : m_Mo_qIsOn a T = some (0, T) := by
  obtain ⟨w1, -⟩ := h.2.2.2.2.1
  rw [e_Mo_qIsOn, w1, if_neg (by decide)]
theorem q_drop {W : List Int} {x : Int} {L : List Tok} {C : List Int} {op base : Nat} (h : QS g E q T L C (W ++ [x]) op base) (hl : W.length < 1690) (hc : C.length < 1690) : ∃ T', m_Mo_qDrops T = some T' ∧ QS g E q T' L (C ++ [x]) W op base ∧ FQs T T' := by
  obtain ⟨w1, w2, w3⟩ := snoc_top h
  have e : wr (((W.length + 1 : Nat) : Int) - 1) = ((W.length : Nat) : Int) := by rw [wrN (by omega) (by omega)]; omega
  have h1 : QS g E q (up T 401 99 ((W.length : Nat) : Int)) L C W op base := by
    obtain ⟨c1, c2⟩ := h.2.2.2.1
    exact h.mk2 (fun c a1 _ _ => up_c a1) (fun k _ k2 _ _ => up_k k2) ⟨by rw [up_k (by decide)]; exact c1, fun i hi => by rw [up_c (by decide)]; exact c2 i hi⟩ ⟨up_s _ _ _ _, fun i hi => by rw [up_c (by decide)]; exact w3 i hi⟩ (by rw [up_k (by decide)]; exact h.2.2.2.2.2.1) (by rw [up_k (by decide)]; exact h.2.2.2.2.2.2)
  obtain ⟨T', r1, r2, r3⟩ := q_code (c := x) h1 (by omega)
  rw [e_Mo_qDrops, w1, e, if_pos (by omega), Int.toNat_natCast, w2, r1, Option.bind_some]
  exact ⟨T', rfl, r2, FQs.tr ⟨fun c a1 _ _ => up_c a1, fun k _ _ _ _ _ _ k7 _ => up_k k7⟩ r3⟩
theorem q_setop {L : List Tok} {C W : List Int} {op op' base : Nat} (h : QS g E q T L C W op base) : QS g E q (up T 401 100 ((op' : Nat) : Int)) L C W op' base ∧ FQs T (up T 401 100 ((op' : Nat) : Int)) := by
  obtain ⟨c1, c2⟩ := h.2.2.2.1
  obtain ⟨w1, w2⟩ := h.2.2.2.2.1
  exact ⟨h.mk2 (fun c a1 _ _ => up_c a1) (fun k _ _ k3 _ => up_k k3) ⟨by rw [up_k (by decide)]; exact c1, fun i hi => by rw [up_c (by decide)]; exact c2 i hi⟩ ⟨by rw [up_k (by decide)]; exact w1, fun i hi => by rw [up_c (by decide)]; exact w2 i hi⟩ (up_s _ _ _ _) (by rw [up_k (by decide)]; exact h.2.2.2.2.2.2), ⟨fun c a1 _ _ => up_c a1, fun k _ _ _ _ _ _ _ k8 => up_k k8⟩⟩
theorem q_pop {W : List Int} {x : Int} {L : List Tok} {C : List Int} {op op' base : Nat} (h : QS g E q T L C (W ++ [x]) op base) : QS g E q (up (up T 401 99 ((W.length : Nat) : Int)) 401 100 ((op' : Nat) : Int)) L C W op' base ∧ FQs T (up (up T 401 99 ((W.length : Nat) : Int)) 401 100 ((op' : Nat) : Int)) := by
  obtain ⟨w1, w2, w3⟩ := snoc_top h
  obtain ⟨c1, c2⟩ := h.2.2.2.1
  exact ⟨h.mk2 (fun c a1 _ _ => by rw [up_c a1, up_c a1]) (fun k _ k2 k3 _ => by rw [up_k k3, up_k k2]) ⟨by rw [up_k (by decide), up_k (by decide)]; exact c1, fun i hi => by rw [up_c (by decide), up_c (by decide)]; exact c2 i hi⟩ ⟨by rw [up_k (by decide), up_s], fun i hi => by rw [up_c (by decide), up_c (by decide)]; exact w3 i hi⟩ (up_s _ _ _ _) (by rw [up_k (by decide), up_k (by decide)]; exact h.2.2.2.2.2.2), ⟨fun c a1 _ _ => by rw [up_c a1, up_c a1], fun k _ _ _ _ _ _ k7 k8 => by rw [up_k k8, up_k k7]⟩⟩
/-- what is open last -/
theorem q_brk {W : List Int} {x : Int} (hx : 20 ≤ x ∧ x ≤ 24) : ∀ (R : List Int) (k : Nat), k = W.length + R.length → (∀ y ∈ R, y < 20) → T 401 101 ≤ ((W.length : Nat) : Int) → k < 1690 → (∀ i, i < W.length + 1 + R.length → T 474 i = (W ++ ([x] ++ R.reverse)).getD i 0) → Mo_qBracket_7 k T = some (x, T) := by
  intro R
  induction R with
  | nil =>
    intro k hk hR hb h1690 hW
    have h0 := hW W.length (by omega)
    have hg : (W ++ ([x] ++ ([] : List Int).reverse)).getD W.length 0 = x := by
      rw [List.getD_eq_getElem?_getD, List.getElem?_append_right (Nat.le_refl _), Nat.sub_self]; rfl
    rw [hg] at h0
    rw [List.length_nil] at hk
    rw [e_Mo_qBracket_7, if_neg (by omega), if_pos (by omega), Int.toNat_natCast, show k = W.length by omega, h0, e_Mo_qIsBracket, if_neg (by omega), if_neg (by omega), Option.bind_some]
    dsimp only
    rw [if_neg n10, if_neg (by omega), if_pos (by omega), h0]
  | cons y R ih =>
    intro k hk hR hb h1690 hW
    rw [List.length_cons] at hk hW
    have hy := hR y (List.mem_cons_self ..)
    have h0 := hW k (by omega)
    have hg : (W ++ ([x] ++ (y :: R).reverse)).getD k 0 = y := by
      rw [List.reverse_cons, List.getD_eq_getElem?_getD, ← List.append_assoc, ← List.append_assoc, List.getElem?_append_right (by simp only [List.length_append, List.length_singleton, List.length_reverse]; omega)]
      rw [show k - (W ++ [x] ++ R.reverse).length = 0 by simp only [List.length_append, List.length_singleton, List.length_reverse]; omega]
      rfl
    rw [hg] at h0
    obtain ⟨k', rfl⟩ : ∃ k', k = k' + 1 := ⟨k - 1, by omega⟩
    rw [e_Mo_qBracket_7, if_neg (by omega), if_pos (by omega), Int.toNat_natCast, h0, e_Mo_qIsBracket, if_pos hy, Option.bind_some]
    dsimp only
    rw [if_pos rfl, show wr (((k' + 1 : Nat) : Int) + -1) = ((k' : Nat) : Int) by rw [wrN (by omega) (by omega)]; omega]
    refine ih k' (by omega) (fun z hz => hR z (List.mem_cons_of_mem _ hz)) hb (by omega) (fun i hi => ?_)
    rw [hW i (by omega), List.reverse_cons, List.getD_eq_getElem?_getD, List.getD_eq_getElem?_getD, ← List.append_assoc, ← List.append_assoc, ← List.append_assoc, List.getElem?_append_left (by simp only [List.length_append, List.length_singleton, List.length_reverse]; omega)]
theorem q_brk0 : ∀ (R : List Int) (W : List Int) (k : Int), k = ((W.length + R.length : Nat) : Int) - 1 → (∀ y ∈ R, y < 20) → T 401 101 = ((W.length : Nat) : Int) → k < 1690 → (∀ i, i < W.length + R.length → T 474 i = (W ++ R.reverse).getD i 0) → Mo_qBracket_7 k T = some (-1, T) := by
  intro R
  induction R with
  | nil =>
    intro W k hk hR hb _ hW
    rw [List.length_nil] at hk
    rw [e_Mo_qBracket_7, if_pos (by omega), if_pos (by omega)]
  | cons y R ih =>
    intro W k hk hR hb h1690 hW
    rw [List.length_cons] at hk hW
    have hy := hR y (List.mem_cons_self ..)
    obtain ⟨k', rfl⟩ : ∃ k' : Nat, k = (k' : Int) := ⟨k.toNat, by omega⟩
    have h0 := hW k' (by omega)
    have hg : (W ++ (y :: R).reverse).getD k' 0 = y := by
      rw [List.reverse_cons, List.getD_eq_getElem?_getD, ← List.append_assoc, List.getElem?_append_right (by simp only [List.length_append, List.length_reverse]; omega)]
      rw [show k' - (W ++ R.reverse).length = 0 by simp only [List.length_append, List.length_reverse]; omega]
      rfl
    rw [hg] at h0
    rw [e_Mo_qBracket_7, if_neg (by omega), if_pos (by omega), Int.toNat_natCast, h0, e_Mo_qIsBracket, if_pos hy, Option.bind_some]
    dsimp only
    rw [if_pos rfl]
    refine ih W _ (by rw [wrN (by omega) (by omega)]; omega) (fun z hz => hR z (List.mem_cons_of_mem _ hz)) hb (by rw [wrN (by omega) (by omega)]; omega) (fun i hi => ?_)
    rw [hW i (by omega), List.reverse_cons, List.getD_eq_getElem?_getD, List.getD_eq_getElem?_getD, ← List.append_assoc, List.getElem?_append_left (by simp only [List.length_append, List.length_reverse]; omega)]
/-- operators that wait -/
def OPS (ops : List Int) : Prop := ∀ y ∈ ops, 1 ≤ y ∧ y ≤ 4
theorem OPS.lt {ops : List Int} (h : OPS ops) : ∀ y ∈ ops.reverse, y < 20 := fun y hy => by have := h y (List.mem_reverse.mp hy); omega
theorem q_bracket {W ops : List Int} {x : Int} {L : List Tok} {C : List Int} {op base : Nat} (hx : 20 ≤ x ∧ x ≤ 24) (ho : OPS ops) (h : QS g E q T L C (W ++ [x] ++ ops) op base) (hb : base ≤ W.length) (hl : (W ++ [x] ++ ops).length < 1690) : m_Mo_qBracket T = some (x, T) := by
  obtain ⟨w1, w2⟩ := h.2.2.2.2.1
  simp only [List.length_append, List.length_singleton] at hl w1
  have e : wr (((W.length + 1 + ops.length : Nat) : Int) - 1) = ((W.length + ops.reverse.length : Nat) : Int) := by rw [wrN (by omega) (by omega), List.length_reverse]; omega
  rw [e_Mo_qBracket, w1, e]
  refine q_brk hx ops.reverse (W.length + ops.reverse.length) rfl ho.lt (by rw [h.2.2.2.2.2.2]; omega) (by rw [List.length_reverse]; omega) (fun i hi => ?_)
  rw [List.length_reverse] at hi
  rw [w2 i (by simp only [List.length_append, List.length_singleton]; omega), List.reverse_reverse, List.append_assoc]
theorem q_bracket0 {W ops : List Int} {L : List Tok} {C : List Int} {op : Nat} (ho : OPS ops) (h : QS g E q T L C (W ++ ops) op W.length) (hl : (W ++ ops).length < 1690) : m_Mo_qBracket T = some (-1, T) := by
  obtain ⟨w1, w2⟩ := h.2.2.2.2.1
  rw [List.length_append] at hl w1
  rw [e_Mo_qBracket, w1]
  refine q_brk0 ops.reverse W _ (by rw [wrN (by omega) (by omega), List.length_reverse]) ho.lt h.2.2.2.2.2.2 (by rw [wrN (by omega) (by omega)]; omega) (fun i hi => ?_)
  rw [List.length_reverse] at hi
  rw [w2 i (by rw [List.length_append]; omega), List.reverse_reverse]
/-- operators fall, down to what is open -/
theorem q_dto {W : List Int} {x : Int} {L : List Tok} {op base : Nat} (hx : 20 ≤ x ∧ x ≤ 24) (hb : base ≤ W.length) : ∀ (R : List Int) (C : List Int) (T : MS), OPS R → QS g E q T L C (W ++ [x] ++ R.reverse) op base → C.length + W.length + R.length < 1680 → ∃ T', Mo_qDropsToBracket_0 T = some T' ∧ QS g E q T' L (C ++ R) (W ++ [x]) op base ∧ FQs T T' := by
  intro R
  induction R with
  | nil =>
    intro C T _ h hl
    rw [List.reverse_nil, List.append_nil] at h
    rw [List.length_nil] at hl
    obtain ⟨w1, w2, -⟩ := snoc_top h
    have e : wr (((W.length + 1 : Nat) : Int) - 1) = ((W.length : Nat) : Int) := by rw [wrN (by omega) (by omega)]; omega
    rw [e_Mo_qDropsToBracket_0, w1, h.2.2.2.2.2.2, if_pos (by omega), e, if_pos (by omega), Int.toNat_natCast, w2, e_Mo_qIsBracket, if_neg (by omega), if_neg (by omega), Option.bind_some, if_neg n10]
    exact ⟨T, rfl, by rw [List.append_nil]; exact h, FQs.rf T⟩
  | cons y R ih =>
    intro C T ho h hl
    rw [List.length_cons] at hl
    have hy := ho y (List.mem_cons_self ..)
    rw [List.reverse_cons, ← List.append_assoc] at h
    obtain ⟨w1, w2, -⟩ := snoc_top h
    have hlen : (W ++ [x] ++ R.reverse).length = W.length + 1 + R.length := by simp only [List.length_append, List.length_singleton, List.length_reverse]
    rw [hlen] at w1 w2
    have e : wr (((W.length + 1 + R.length + 1 : Nat) : Int) - 1) = ((W.length + 1 + R.length : Nat) : Int) := by rw [wrN (by omega) (by omega)]; omega
    obtain ⟨T1, r1, r2, r3⟩ := q_drop h (by rw [hlen]; omega) (by omega)
    obtain ⟨T2, s1, s2, s3⟩ := ih (C ++ [y]) T1 (fun z hz => ho z (List.mem_cons_of_mem _ hz)) r2 (by rw [List.length_append, List.length_singleton]; omega)
    rw [e_Mo_qDropsToBracket_0, w1, h.2.2.2.2.2.2, if_pos (by omega), e, if_pos (by omega), Int.toNat_natCast, w2, e_Mo_qIsBracket, if_pos (by omega), Option.bind_some, if_pos rfl, r1, Option.bind_some, s1]
    exact ⟨T2, rfl, by rw [List.append_assoc] at s2; exact s2, r3.tr s3⟩
theorem q_dropsTo {W ops : List Int} {x : Int} {L : List Tok} {C : List Int} {op base : Nat} (hx : 20 ≤ x ∧ x ≤ 24) (hb : base ≤ W.length) (ho : OPS ops) (h : QS g E q T L C (W ++ [x] ++ ops) op base) (hl : C.length + W.length + ops.length < 1680) : ∃ T', m_Mo_qDropsToBracket T = some T' ∧ QS g E q T' L (C ++ ops.reverse) (W ++ [x]) op base ∧ FQs T T' := by
  rw [e_Mo_qDropsToBracket]
  exact q_dto hx hb ops.reverse C T (fun y hy => ho y (List.mem_reverse.mp hy)) (by rw [List.reverse_reverse]; exact h) (by rw [List.length_reverse]; omega)
end
