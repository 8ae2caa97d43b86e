/-! the class lays the tokens down -/
section
variable {n : Nat} {P S T : MS}
theorem c_let (x : Int) : m_Te_isLetter x S = some ((if letB x = true then 1 else 0), S) := by
  unfold letB
  rw [e_Te_isLetter]
  by_cases c : x < 97
  · rw [if_pos c, if_neg (by rw [decide_eq_true_iff]; omega)]
  · rw [if_neg c]
    by_cases c2 : 122 < x
    · rw [if_pos c2, if_neg (by rw [decide_eq_true_iff]; omega)]
    · rw [if_neg c2, if_pos (by rw [decide_eq_true_iff]; omega)]
theorem c_dig (x : Int) : m_Te_isDigit x S = some ((if digB x = true then 1 else 0), S) := by
  unfold digB
  rw [e_Te_isDigit]
  by_cases c : x < 48
  · rw [if_pos c, if_neg (by rw [decide_eq_true_iff]; omega)]
  · rw [if_neg c]
    by_cases c2 : 57 < x
    · rw [if_pos c2, if_neg (by rw [decide_eq_true_iff]; omega)]
    · rw [if_neg c2, if_pos (by rw [decide_eq_true_iff]; omega)]
theorem c_eow {g : Nat → Int} {E : Nat} (hE : E ≤ 1600) (h1 : S 2 1 = (E : Int)) (h3 : S 3 = g) : ∀ n p : Nat, E - p = n → Te_endOfWord_2 p S = some (((endL g E letB p : Nat) : Int), S) := by
  intro n
  induction n with
  | zero =>
    intro p h
    rw [e_Te_endOfWord_2, h1, if_neg (by omega), endL_eq, if_neg (by omega)]
  | succ n ih =>
    intro p h
    rw [e_Te_endOfWord_2, h1, if_pos (by omega), c_octet (by omega), Option.bind_some]
    dsimp only
    rw [c_let, Option.bind_some, h3, wr_suc2 (show p < 1600 by omega) (by decide), endL_eq]
    dsimp only
    by_cases c : letB (g p) = true
    · rw [if_pos c, if_neg n10, if_pos ⟨by omega, c⟩]
      exact ih (p + 1) (by omega)
    · rw [if_neg c, if_pos rfl, if_neg (fun h => c h.2)]
theorem c_eon {g : Nat → Int} {E : Nat} (hE : E ≤ 1600) (h1 : S 2 1 = (E : Int)) (h3 : S 3 = g) : ∀ n p : Nat, E - p = n → Te_endOfNumber_2 p S = some (((endL g E digB p : Nat) : Int), S) := by
  intro n
  induction n with
  | zero =>
    intro p h
    rw [e_Te_endOfNumber_2, h1, if_neg (by omega), endL_eq, if_neg (by omega)]
  | succ n ih =>
    intro p h
    rw [e_Te_endOfNumber_2, h1, if_pos (by omega), c_octet (by omega), Option.bind_some]
    dsimp only
    rw [c_dig, Option.bind_some, h3, wr_suc2 (show p < 1600 by omega) (by decide), endL_eq]
    dsimp only
    by_cases c : digB (g p) = true
    · rw [if_pos c, if_neg n10, if_pos ⟨by omega, c⟩]
      exact ih (p + 1) (by omega)
    · rw [if_neg c, if_pos rfl, if_neg (fun h => c h.2)]
/-! which word -/
theorem c_skip0 {v1 v2 v3 : Int} {W : List Int} {k : Nat} : ∀ (j i : Nat) (a : Int), i + j = W.length → k + W.length < 1000 → (∀ i, i < W.length → stC.getD (k + i) 0 = W.getD i 0 ∧ W.getD i 0 ≠ 32) → k + W.length < stC.length → Te_wordOf_11 v1 v2 v3 a 0 ((k + i : Nat) : Int) S = Te_wordOf_11 v1 v2 v3 a 0 ((k + W.length : Nat) : Int) S := by
  intro j
  induction j with
  | zero => intro i a e _ _ _; rw [show i = W.length by omega]
  | succ j ih =>
    intro i a e hk hW hl
    obtain ⟨h1, h2⟩ := hW i (by omega)
    rw [e_Te_wordOf_11, if_pos (by omega), if_pos (by omega), Int.toNat_natCast, h1, if_neg h2, if_pos rfl, wr_suc2 (show k + i < 1000 by omega) (by decide), show k + i + 1 = k + (i + 1) by omega]
    exact ih (i + 1) a (by omega) hk hW hl
theorem segL_s {g : Nat → Int} {p e : Nat} (h : p < e) : segL g p e = g p :: segL g (p + 1) e := by
  unfold segL
  rw [show e - p = (e - (p + 1)) + 1 by omega, List.range'_succ, List.map_cons]
theorem segL_0 (g : Nat → Int) (p : Nat) : segL g p p = [] := by unfold segL; rw [Nat.sub_self]; rfl
theorem segL_len (g : Nat → Int) (p e : Nat) : (segL g p e).length = e - p := by unfold segL; rw [List.length_map, List.length_range']
/-- along one word -/
theorem c_word1 {g : Nat → Int} {E : Nat} {v1 v3 : Int} {to k : Nat} {W : List Int} (hE : E ≤ 1600) (h1 : S 2 1 = (E : Int)) (h3 : S 3 = g) (hto : to ≤ E) (hk : k + W.length < 1000) (hW : ∀ i, i < W.length → stC.getD (k + i) 0 = W.getD i 0 ∧ W.getD i 0 ≠ 32) (hl : k + W.length < stC.length) : ∀ (j i a : Nat), i + j = W.length → a ≤ to → (∃ a' : Nat, Te_wordOf_11 v1 to v3 a 1 ((k + i : Nat) : Int) S = Te_wordOf_11 v1 to v3 a' 1 ((k + W.length : Nat) : Int) S ∧ (a ≤ a' ∧ a' ≤ to) ∧ segL g a a' = W.drop i) ∨ (∃ a' : Int, Te_wordOf_11 v1 to v3 a 1 ((k + i : Nat) : Int) S = Te_wordOf_11 v1 to v3 a' 0 ((k + W.length : Nat) : Int) S ∧ segL g a to ≠ W.drop i) := by
  intro j
  induction j with
  | zero =>
    intro i a e ha
    left
    exact ⟨a, by rw [show i = W.length by omega], ⟨Nat.le_refl _, ha⟩, by rw [segL_0, List.drop_eq_nil_of_le (by omega)]⟩
  | succ j ih =>
    intro i a e ha
    obtain ⟨w1, w2⟩ := hW i (by omega)
    have hd : W.drop i = W.getD i 0 :: W.drop (i + 1) := by
      rw [List.drop_eq_getElem_cons (by omega), List.getD_eq_getElem?_getD, List.getElem?_eq_getElem (by omega), Option.getD_some]
    have z0 : ∀ a' : Int, Te_wordOf_11 v1 to v3 a' 0 ((k + (i + 1) : Nat) : Int) S = Te_wordOf_11 v1 to v3 a' 0 ((k + W.length : Nat) : Int) S := fun a' => c_skip0 j (i + 1) a' (by omega) hk hW hl
    rw [e_Te_wordOf_11, if_pos (by omega), if_pos (by omega), Int.toNat_natCast, w1, if_neg w2, if_neg n10, wr_suc2 (show k + i < 1000 by omega) (by decide), show k + i + 1 = k + (i + 1) by omega]
    by_cases c : a < to
    · rw [if_pos (by omega), c_octet (by omega), Option.bind_some, h3, wr_suc2 (show a < 1600 by omega) (by decide)]
      dsimp only
      by_cases c2 : g a = W.getD i 0
      · rw [if_pos c2]
        rcases ih (i + 1) (a + 1) (by omega) (by omega) with ⟨a', q1, q2, q3⟩ | ⟨a', q1, q2⟩
        · left
          refine ⟨a', q1, ⟨by omega, q2.2⟩, ?_⟩
          have ha' : a < a' := by omega
          rw [segL_s ha', q3, c2, hd]
        · right
          refine ⟨a', q1, fun h => q2 ?_⟩
          rw [segL_s c, hd, List.cons.injEq] at h
          exact h.2
      · rw [if_neg c2]
        right
        refine ⟨_, z0 _, fun h => c2 ?_⟩
        rw [segL_s c, hd, List.cons.injEq] at h
        exact h.1
    · rw [if_neg (by omega)]
      right
      refine ⟨_, z0 _, fun h => ?_⟩
      have : segL g a to = [] := by unfold segL; rw [show to - a = 0 by omega]; rfl
      rw [this, hd] at h
      exact absurd h (by simp)
def flatW : List (List Int) → List Int
  | [] => []
  | w :: ws => w ++ 32 :: flatW ws
theorem flatW_len : ∀ ws : List (List Int), (flatW ws).length = (ws.map List.length).sum + ws.length := by
  intro ws
  induction ws with
  | nil => rfl
  | cons w ws ih => rw [flatW, List.length_append, List.length_cons, ih, List.map_cons, List.sum_cons, List.length_cons]; omega
theorem getD_drop' {L : List Int} {k i : Nat} : L.getD (k + i) 0 = (L.drop k).getD i 0 := by
  rw [List.getD_eq_getElem?_getD, List.getD_eq_getElem?_getD, List.getElem?_drop]
theorem c_words {g : Nat → Int} {E fr to : Nat} (hE : E ≤ 1600) (h1 : S 2 1 = (E : Int)) (h3 : S 3 = g) (hto : to ≤ E) (hf : fr ≤ to) : ∀ (ws : List (List Int)) (num k : Nat), num + ws.length = 32 → k + (flatW ws).length = stC.length → stC.drop k = flatW ws → (∀ w ∈ ws, ∀ x ∈ w, x ≠ 32) → Te_wordOf_11 fr to num fr 1 k S = some (((num + wix (segL g fr to) ws : Nat) : Int), S) := by
  have hlen : stC.length < 900 := by decide +kernel
  intro ws
  induction ws with
  | nil =>
    intro num k hn hk hd hw
    rw [flatW, List.length_nil] at hk
    rw [List.length_nil] at hn
    rw [e_Te_wordOf_11, if_neg (by omega), wix, show num + 0 = 32 by omega]
    rfl
  | cons w ws ih =>
    intro num k hn hk hd hw
    rw [flatW, List.length_append, List.length_cons] at hk
    rw [List.length_cons] at hn
    rw [flatW] at hd
    have hch : ∀ i, i < w.length → stC.getD (k + i) 0 = w.getD i 0 ∧ w.getD i 0 ≠ 32 := fun i hi => by
      rw [getD_drop', hd, List.getD_eq_getElem?_getD, List.getElem?_append_left hi, ← List.getD_eq_getElem?_getD]
      refine ⟨rfl, hw w (List.mem_cons_self ..) _ ?_⟩
      rw [List.getD_eq_getElem?_getD, List.getElem?_eq_getElem hi, Option.getD_some]
      exact List.getElem_mem _
    have hsp : stC.getD (k + w.length) 0 = 32 := by
      rw [getD_drop', hd, List.getD_eq_getElem?_getD, List.getElem?_append_right (Nat.le_refl _), Nat.sub_self]
      rfl
    have hd2 : stC.drop (k + w.length + 1) = flatW ws := by
      rw [show k + w.length + 1 = k + (w.length + 1) by omega, ← List.drop_drop, hd, List.drop_append, List.drop_eq_nil_of_le (by omega), show w.length + 1 - w.length = 1 by omega]
      rfl
    have nxt : Te_wordOf_11 fr to ((num + 1 : Nat) : Int) fr 1 ((k + w.length + 1 : Nat) : Int) S = some (((num + 1 + wix (segL g fr to) ws : Nat) : Int), S) := ih (num + 1) (k + w.length + 1) (by omega) (by omega) hd2 (fun w' h' => hw w' (List.mem_cons_of_mem _ h'))
    have k0 : ((k : Nat) : Int) = ((k + 0 : Nat) : Int) := rfl
    rcases c_word1 (v1 := fr) (v3 := num) (to := to) (k := k) (W := w) hE h1 h3 hto (by omega) hch (by omega) w.length 0 fr (by omega) hf with ⟨a', q1, q2, q3⟩ | ⟨a', q1, q2⟩
    · rw [k0, q1, e_Te_wordOf_11, if_pos (by omega), if_pos (by omega), Int.toNat_natCast, hsp, if_pos rfl, if_neg n10]
      rw [List.drop_zero] at q3
      by_cases c : a' = to
      · rw [if_pos (by omega), wix, if_pos (by rw [← c]; exact q3)]
        rfl
      · rw [if_neg (by omega), wr_suc2 (show num < 32 by omega) (by decide), wr_suc2 (show k + w.length < 900 by omega) (by decide), nxt, wix, if_neg, show num + 1 + wix (segL g fr to) ws = num + (wix (segL g fr to) ws + 1) by omega]
        intro h
        have l1 := segL_len g fr to
        have l2 := segL_len g fr a'
        rw [h] at l1
        rw [q3] at l2
        omega
    · rw [List.drop_zero] at q2
      rw [k0, q1, e_Te_wordOf_11, if_pos (by omega), if_pos (by omega), Int.toNat_natCast, hsp, if_pos rfl, if_pos rfl, wr_suc2 (show num < 32 by omega) (by decide), wr_suc2 (show k + w.length < 900 by omega) (by decide), nxt, wix, if_neg q2, show num + 1 + wix (segL g fr to) ws = num + (wix (segL g fr to) ws + 1) by omega]
theorem c_wordOf {g : Nat → Int} {E fr to : Nat} (hE : E ≤ 1600) (h1 : S 2 1 = (E : Int)) (h3 : S 3 = g) (hto : to ≤ E) (hf : fr ≤ to) : m_Te_wordOf fr to S = some (((wnum (segL g fr to) : Nat) : Int), S) := by
  have := c_words (fr := fr) (to := to) hE h1 h3 hto hf WRD 0 0 (by decide) (by decide +kernel) (by decide +kernel) (by decide)
  rw [e_Te_wordOf]
  rw [Nat.zero_add] at this
  exact this
/-! the row of tokens -/
def tpk (t : Tok) : Int := pk t.1 t.2.1 t.2.2
def tok0 : Tok := (35, 0, 0)
theorem c_addItem {a b d N : Nat} (hN : S 2 3 = (N : Int)) (hN2 : N < 1601) (ha : a < 1024) (hb : b < 2048) (hd : d < 2048) : m_Te_addItem a b d S = some (up (up S 4 N (pk a b d)) 2 3 ((N + 1 : Nat) : Int)) := by
  rw [e_Te_addItem, hN, if_pos (by omega), if_pos (by omega), Int.toNat_natCast, pk_or ha hb hd, wr_suc2 (show N < 1601 by omega) (by decide)]
def ITM (S : MS) (A : List Tok) : Prop := S 2 3 = ((A.length : Nat) : Int) ∧ ∀ i, i < A.length → S 4 i = tpk (A.getD i tok0)
theorem ITM.add {A : List Tok} {t : Tok} (h : ITM S A) : ITM (up (up S 4 A.length (tpk t)) 2 3 ((A.length + 1 : Nat) : Int)) (A ++ [t]) := by
  refine ⟨by rw [up_s, List.length_append, List.length_singleton], fun i hi => ?_⟩
  rw [List.length_append, List.length_singleton] at hi
  rw [up_c (by decide), List.getD_eq_getElem?_getD]
  by_cases c : i = A.length
  · rw [c, up_s, List.getElem?_append_right (Nat.le_refl _), Nat.sub_self]; rfl
  · rw [up_k c, List.getElem?_append_left (by omega), ← List.getD_eq_getElem?_getD]
    exact h.2 i (by omega)
theorem c_rd146 {v3 v5 : Nat} {x : Int} (hv : v3 < 1600) : Te_beginReading_146 v3 x v5 S = Te_beginReading_21 (if letB x = true ∨ digB x = true then 1 else 0) v5 ((v3 + 1 : Nat) : Int) S := by
  rw [e_Te_beginReading_146, c_let, Option.bind_some]
  dsimp only
  rw [c_dig, Option.bind_some, wr_suc2 hv (by decide)]
  dsimp only
  by_cases c : letB x = true
  · rw [if_pos c, if_neg n10, if_pos (Or.inl c)]
  · rw [if_neg c, if_pos rfl]
    by_cases c2 : digB x = true
    · rw [if_pos c2, if_neg n10, if_pos (Or.inr c2)]
    · rw [if_neg c2, if_pos rfl, if_neg (fun h => h.elim c c2)]
theorem c_rd {g : Nat → Int} {E : Nat} (hE : E ≤ 1600) (hg : ∀ i, i < E → 0 ≤ g i ∧ g i ≤ 255) : ∀ (n p k : Nat) (b : Bool) (A : List Tok) (S : MS), E - p = n → p ≤ E → k ≤ p → A.length ≤ p → S 2 1 = (E : Int) → S 3 = g → ITM S A → ∃ S', Te_beginReading_21 (if b = true then 1 else 0) p k S = (m_Te_advance (up S' 2 4 (-1))).bind (fun p2 => some p2) ∧ ITM S' (A ++ LX g E p b) ∧ (∀ c, c ≠ 2 → c ≠ 4 → S' c = S c) ∧ ∀ k, k ≠ 3 → S' 2 k = S 2 k := by
  intro n
  induction n using Nat.strongRecOn with
  | ind n ih =>
    intro p k b A S hn hp hk hA h1 h3 hI
    rw [LX_eq]
    by_cases c : p < E
    · have hgp := hg p c
      have go : ∀ (t : Tok) (q : Nat) (b' : Bool), p < q → q ≤ E → (∀ S' : MS, S' 2 1 = (E : Int) → S' 3 = g → ITM S' (A ++ [t]) → ∃ S'', Te_beginReading_21 (if b' = true then 1 else 0) q ((k + 1 : Nat) : Int) S' = (m_Te_advance (up S'' 2 4 (-1))).bind (fun p2 => some p2) ∧ ITM S'' ((A ++ [t]) ++ LX g E q b') ∧ (∀ c, c ≠ 2 → c ≠ 4 → S'' c = S' c) ∧ ∀ k, k ≠ 3 → S'' 2 k = S' 2 k) := fun t q b' hq hqE S' s1 s3 hI' => ih (E - q) (by omega) q (k + 1) b' (A ++ [t]) S' rfl hqE (by omega) (by rw [List.length_append, List.length_singleton]; omega) s1 s3 hI'
      have fin : ∀ (t : Tok) (q : Nat) (b' : Bool) (x : Option MS), p < q → q ≤ E → x = Te_beginReading_21 (if b' = true then 1 else 0) q ((k + 1 : Nat) : Int) (up (up S 4 A.length (tpk t)) 2 3 ((A.length + 1 : Nat) : Int)) → ∃ S', x = (m_Te_advance (up S' 2 4 (-1))).bind (fun p2 => some p2) ∧ ITM S' (A ++ t :: LX g E q b') ∧ (∀ c, c ≠ 2 → c ≠ 4 → S' c = S c) ∧ ∀ k, k ≠ 3 → S' 2 k = S 2 k := fun t q b' x hq hqE hx => by
        obtain ⟨S'', r1, r2, r3, r4⟩ := go t q b' hq hqE (up (up S 4 A.length (tpk t)) 2 3 ((A.length + 1 : Nat) : Int)) (by rw [up_k (by decide), up_c (by decide)]; exact h1) (by rw [up_c (by decide), up_c (by decide)]; exact h3) hI.add
        refine ⟨S'', hx.trans r1, ?_, fun c c1 c2 => by rw [r3 c c1 c2, up_c c1, up_c c2], fun k hk => by rw [r4 k hk, up_k hk, up_c (by decide)]⟩
        rw [List.append_assoc] at r2
        exact r2
      rw [e_Te_beginReading_21, if_pos (by omega), h1, if_pos (by omega), c_octet (by omega), Option.bind_some, h3, if_pos c]
      dsimp only
      rw [c_let, Option.bind_some]
      dsimp only
      by_cases c1 : letB (g p) = true
      · have he := endL_lt c c1
        rw [if_pos c1, if_neg n10, if_pos c1, e_Te_endOfWord, c_eow hE h1 h3 (E - p) p rfl, Option.bind_some]
        dsimp only
        cases b with
        | false =>
          rw [if_pos (show (if false = true then (1 : Int) else 0) = 0 from rfl), if_neg (show ¬ false = true by decide), c_wordOf hE h1 h3 he.2 (by omega), Option.bind_some]
          dsimp only
          have hw := wnum_le (segL g p (endL g E letB p))
          rw [c_addItem hI.1 (by omega) (by omega) (by omega) (by omega), Option.bind_some]
          exact fin (wnum (segL g p (endL g E letB p)), p, endL g E letB p) (endL g E letB p) true _ he.1 he.2 (by rw [c_rd146 (by omega), if_pos (Or.inl c1), if_pos rfl]; rfl)
        | true =>
          have e34 : m_Te_addItem 34 p (endL g E letB p : Nat) S = _ := c_addItem (a := 34) hI.1 (by omega) (by omega) (by omega) (by omega)
          rw [if_pos rfl, if_neg n10, if_pos rfl, e34, Option.bind_some]
          exact fin (34, p, endL g E letB p) (endL g E letB p) true _ he.1 he.2 (by rw [c_rd146 (by omega), if_pos (Or.inl c1), if_pos rfl]; rfl)
      · rw [if_neg c1, if_pos rfl, if_neg c1, c_dig, Option.bind_some]
        dsimp only
        by_cases c2 : digB (g p) = true
        · have he := endL_lt c c2
          rw [if_pos c2, if_neg n10, if_pos c2, e_Te_endOfNumber, c_eon hE h1 h3 (E - p) p rfl, Option.bind_some]
          dsimp only
          cases b with
          | false =>
            have e33 : m_Te_addItem 33 p (endL g E digB p : Nat) S = _ := c_addItem (a := 33) hI.1 (by omega) (by omega) (by omega) (by omega)
            rw [if_pos (show (if false = true then (1 : Int) else 0) = 0 from rfl), if_neg (show ¬ false = true by decide), e33, Option.bind_some]
            exact fin (33, p, endL g E digB p) (endL g E digB p) true _ he.1 he.2 (by rw [c_rd146 (by omega), if_pos (Or.inr c2), if_pos rfl]; rfl)
          | true =>
            have e34 : m_Te_addItem 34 p (endL g E digB p : Nat) S = _ := c_addItem (a := 34) hI.1 (by omega) (by omega) (by omega) (by omega)
            rw [if_pos rfl, if_neg n10, if_pos rfl, e34, Option.bind_some]
            exact fin (34, p, endL g E digB p) (endL g E digB p) true _ he.1 he.2 (by rw [c_rd146 (by omega), if_pos (Or.inr c2), if_pos rfl]; rfl)
        · rw [if_neg c2, if_pos rfl, if_neg c2, e_Te_isBlank, wr_suc2 (show p < 1600 by omega) (by decide)]
          by_cases c3 : g p = 10 ∨ g p = 32
          · have hb : (if g p = 10 then some ((1 : Int), S) else if g p = 32 then some (1, S) else some (0, S)) = some (1, S) := by
              by_cases q : g p = 10
              · rw [if_pos q]
              · rw [if_neg q, if_pos (c3.resolve_left q)]
            rw [if_pos c3, hb, Option.bind_some]
            dsimp only
            rw [if_neg n10, c_rd146 (by omega), if_neg (fun h => h.elim c1 c2)]
            have := ih (E - (p + 1)) (by omega) (p + 1) (k + 1) false A S rfl (by omega) (by omega) (by omega) h1 h3 hI
            rw [if_neg (show ¬ false = true by decide)] at this
            exact this
          · have ht : ((256 + (g p).toNat : Nat) : Int) = 256 + g p := by omega
            rw [if_neg c3, if_neg (fun q => c3 (Or.inl q)), if_neg (fun q => c3 (Or.inr q)), Option.bind_some]
            dsimp only
            rw [if_pos rfl, wrN (z := 256 + g p) (by omega) (by omega), ← ht, c_addItem hI.1 (by omega) (by omega) (by omega) (by omega), Option.bind_some]
            exact fin (256 + (g p).toNat, p, p + 1) (p + 1) false _ (Nat.lt_succ_self p) c (by rw [c_rd146 (by omega), if_neg (fun h => h.elim c1 c2), if_neg (by decide)]; rfl)
    · have hpE : p = E := by omega
      have e35 : m_Te_addItem 35 E E S = _ := c_addItem (a := 35) hI.1 (by omega) (by omega) (by omega) (by omega)
      have h177 : Te_beginReading_177 S = (m_Te_advance (up (up (up S 4 A.length (tpk (35, E, E))) 2 3 ((A.length + 1 : Nat) : Int)) 2 4 (-1))).bind (fun p2 => some p2) := by
        rw [e_Te_beginReading_177, h1, e35, Option.bind_some]
        rfl
      have h21 : Te_beginReading_21 (if b = true then 1 else 0) p k S = Te_beginReading_177 S := by
        rw [e_Te_beginReading_21, h1, if_neg (show ¬ (p : Int) < E by omega)]
        split <;> rfl
      rw [if_neg c, h21, h177]
      exact ⟨_, rfl, hI.add, fun c c1 c2 => by rw [up_c c1, up_c c2], fun k hk => by rw [up_k hk, up_c (by decide)]⟩
end
