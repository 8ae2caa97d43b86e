/-! MINISTRY: names, both -/
section
variable {n : Nat} {P S T : MS} {g : Nat → Int} {E : Nat} {q : Int}
theorem nm27_rev (L : List Int) : nm27 L = L.reverse.foldr (fun x v => 27 * v + x) 0 := by
  unfold nm27
  rw [List.foldr_reverse]
theorem f27_nn : ∀ {L : List Int}, (∀ x ∈ L, 1 ≤ x ∧ x ≤ 26) → 0 ≤ L.foldr (fun x v => 27 * v + x) 0 := by
  intro L
  induction L with
  | nil => intro _; exact Int.le_refl _
  | cons x L ih =>
    intro h
    have h1 := h x (List.mem_cons_self ..)
    have h2 := ih (fun y hy => h y (List.mem_cons_of_mem _ hy))
    rw [List.foldr_cons]
    omega
theorem f27_inj : ∀ {L L' : List Int}, (∀ x ∈ L, 1 ≤ x ∧ x ≤ 26) → (∀ x ∈ L', 1 ≤ x ∧ x ≤ 26) → L.foldr (fun x v => 27 * v + x) 0 = L'.foldr (fun x v => 27 * v + x) 0 → L = L' := by
  intro L
  induction L with
  | nil =>
    intro L' _ h' e
    cases L' with
    | nil => rfl
    | cons y L' =>
      have h1 := h' y (List.mem_cons_self ..)
      have h2 := f27_nn (fun z hz => h' z (List.mem_cons_of_mem _ hz))
      rw [List.foldr_cons, List.foldr_nil] at e
      omega
  | cons x L ih =>
    intro L' h h' e
    have h1 := h x (List.mem_cons_self ..)
    have h2 := f27_nn (fun z hz => h z (List.mem_cons_of_mem _ hz))
    cases L' with
    | nil => rw [List.foldr_cons, List.foldr_nil] at e; omega
    | cons y L' =>
      have h3 := h' y (List.mem_cons_self ..)
      have h4 := f27_nn (fun z hz => h' z (List.mem_cons_of_mem _ hz))
      rw [List.foldr_cons, List.foldr_cons] at e
      have e1 : x = y := by omega
      rw [e1, ih (fun z hz => h z (List.mem_cons_of_mem _ hz)) (fun z hz => h' z (List.mem_cons_of_mem _ hz)) (by omega)]
theorem nm27_inj {L L' : List Int} (h : ∀ x ∈ L, 1 ≤ x ∧ x ≤ 26) (h' : ∀ x ∈ L', 1 ≤ x ∧ x ≤ 26) (e : nm27 L = nm27 L') : L = L' := by
  rw [nm27_rev, nm27_rev] at e
  have := f27_inj (L := L.reverse) (L' := L'.reverse) (fun x hx => h x (List.mem_reverse.mp hx)) (fun x hx => h' x (List.mem_reverse.mp hx)) e
  rw [← List.reverse_reverse L, this, List.reverse_reverse]
theorem getD_inj : ∀ {L L' : List Int}, (∀ x ∈ L, 1 ≤ x) → (∀ x ∈ L', 1 ≤ x) → (∀ i, L.getD i 0 = L'.getD i 0) → L = L' := by
  intro L
  induction L with
  | nil =>
    intro L' _ h' e
    cases L' with
    | nil => rfl
    | cons y L' =>
      have h1 := h' y (List.mem_cons_self ..)
      have h2 : (0 : Int) = y := e 0
      omega
  | cons x L ih =>
    intro L' h h' e
    have h1 := h x (List.mem_cons_self ..)
    cases L' with
    | nil =>
      have h2 : x = (0 : Int) := e 0
      omega
    | cons y L' =>
      have h2 : x = y := e 0
      rw [h2, ih (fun z hz => h z (List.mem_cons_of_mem _ hz)) (fun z hz => h' z (List.mem_cons_of_mem _ hz)) (fun i => e (i + 1))]
theorem getD_dig {L : List Int} (h : ∀ x ∈ L, 1 ≤ x ∧ x ≤ 26) (i : Nat) : 0 ≤ L.getD i 0 ∧ L.getD i 0 ≤ 26 := by
  by_cases c : i < L.length
  · have : L.getD i 0 ∈ L := by rw [List.getD_eq_getElem?_getD, List.getElem?_eq_getElem c]; exact List.getElem_mem c
    have := h _ this
    omega
  · have : L.getD i 0 = 0 := by rw [List.getD_eq_getElem?_getD, List.getElem?_eq_none (by omega)]; rfl
    omega
theorem getD_far {L : List Int} {i : Nat} (h : L.length ≤ i) : L.getD i 0 = 0 := by rw [List.getD_eq_getElem?_getD, List.getElem?_eq_none h]; rfl
theorem nm5_inj {L L' : List Int} (h : ∀ x ∈ L, 1 ≤ x ∧ x ≤ 26) (h' : ∀ x ∈ L', 1 ≤ x ∧ x ≤ 26) (hl : L.length ≤ 6) (hl' : L'.length ≤ 6) (e : nm5 L = nm5 L') : L = L' := by
  unfold nm5 at e
  have a0 := getD_dig h 0; have a1 := getD_dig h 1; have a2 := getD_dig h 2; have a3 := getD_dig h 3; have a4 := getD_dig h 4; have a5 := getD_dig h 5
  have b0 := getD_dig h' 0; have b1 := getD_dig h' 1; have b2 := getD_dig h' 2; have b3 := getD_dig h' 3; have b4 := getD_dig h' 4; have b5 := getD_dig h' 5
  have key : ∀ x y a b : Int, 0 ≤ a ∧ a ≤ 26 → 0 ≤ b ∧ b ≤ 26 → x * 32 + a = y * 32 + b → x = y ∧ a = b := fun x y a b _ _ _ => by omega
  obtain ⟨e, e5⟩ := key _ _ _ _ a5 b5 e
  obtain ⟨e, e4⟩ := key _ _ _ _ a4 b4 e
  obtain ⟨e, e3⟩ := key _ _ _ _ a3 b3 e
  obtain ⟨e, e2⟩ := key _ _ _ _ a2 b2 e
  obtain ⟨e0, e1⟩ := key _ _ _ _ a1 b1 e
  refine getD_inj (fun x hx => (h x hx).1) (fun x hx => (h' x hx).1) (fun i => ?_)
  rcases (show i = 0 ∨ i = 1 ∨ i = 2 ∨ i = 3 ∨ i = 4 ∨ i = 5 ∨ 6 ≤ i by omega) with rfl | rfl | rfl | rfl | rfl | rfl | hi
  · exact e0
  · exact e1
  · exact e2
  · exact e3
  · exact e4
  · exact e5
  · rw [getD_far (by omega), getD_far (by omega)]
theorem NMR.iff {c v c' v' : Int} (h : NMR c v) (h' : NMR c' v') : c = c' ↔ v = v' := by
  obtain ⟨L, l1, l2, l3, rfl, rfl⟩ := h
  obtain ⟨L', k1, k2, k3, rfl, rfl⟩ := h'
  exact ⟨fun e => by rw [nm5_inj l3 k3 l2 k2 e], fun e => by rw [nm27_inj l3 k3 e]⟩
theorem name_or {s v : Int} (hs0 : 0 ≤ s) (hs : s < 33554432) (hv0 : 0 ≤ v) (hv : v < 32) : bor (shl s 5) v = s * 32 + v := by
  have es : shl s 5 = s * 32 := shl_mul hs0 (by decide) (by decide) (by show s.toNat * 32 < _; omega)
  rw [es, bor_nn (by omega) (by omega) hv0 (by omega)]
  have e2 : (s * 32).toNat ||| v.toNat = s.toNat * 32 + v.toNat := by
    rw [show (s * 32).toNat = s.toNat * 2 ^ 5 by omega, ← Nat.shiftLeft_eq, ← Nat.shiftLeft_add_eq_or_of_lt (by omega), Nat.shiftLeft_eq]
  rw [e2]
  omega
/-- the letters of a token -/
def nmL (g : Nat → Int) (t : Tok) : List Int := (List.range (t.2.2 - t.2.1)).map (fun k => g (t.2.1 + k) - 96)
theorem nmL_len (g : Nat → Int) (t : Tok) : (nmL g t).length = t.2.2 - t.2.1 := by unfold nmL; rw [List.length_map, List.length_range]
theorem nmL_get (g : Nat → Int) (t : Tok) (i : Nat) : (nmL g t).getD i 0 = if i < t.2.2 - t.2.1 then g (t.2.1 + i) - 96 else 0 := by
  unfold nmL
  rw [List.getD_eq_getElem?_getD]
  by_cases c : i < t.2.2 - t.2.1
  · rw [if_pos c, List.getElem?_map, List.getElem?_range c]; rfl
  · rw [if_neg c, List.getElem?_eq_none (by rw [List.length_map, List.length_range]; omega)]; rfl
/-- a word of letters, with room -/
def ISW (g : Nat → Int) (E : Nat) (t : Tok) : Prop := t.2.1 < t.2.2 ∧ t.2.2 ≤ E ∧ ∀ i, t.2.1 ≤ i → i < t.2.2 → 97 ≤ g i ∧ g i ≤ 122
theorem nmL_ok {t : Tok} (h : ISW g E t) : ∀ x ∈ nmL g t, 1 ≤ x ∧ x ≤ 26 := by
  intro x hx
  unfold nmL at hx
  obtain ⟨k, hk, rfl⟩ := List.mem_map.mp hx
  have := List.mem_range.mp hk
  have := h.2.2 (t.2.1 + k) (by omega) (by omega)
  omega
theorem nmL_R {t : Tok} (h : ISW g E t) (h6 : t.2.2 - t.2.1 ≤ 6) : NMR (nm5 (nmL g t)) (nm27 (nmL g t)) := ⟨nmL g t, by rw [nmL_len]; have := h.1; omega, by rw [nmL_len]; exact h6, nmL_ok h, rfl, rfl⟩
theorem c_nm58 {t : Tok} {L : List Tok} (hE : E ≤ 1600) (h : CTK S (t :: L)) (h1 : S 2 1 = (E : Int)) (h3 : S 3 = g) (hw : ISW g E t) (h6 : t.2.2 - t.2.1 ≤ 6) : Te_nameHere_58 0 0 S = some (nm5 (nmL g t), S) := by
  obtain ⟨-, hs, he, -⟩ := h.hd
  obtain ⟨w1, w2, w3⟩ := hw
  have step : ∀ (k : Nat) (v : Int), k < 6 → 0 ≤ v → v < 33554432 → Te_nameHere_58 v k S = Te_nameHere_58 (v * 32 + (nmL g t).getD k 0) ((k + 1 : Nat) : Int) S := fun k v hk hv0 hv => by
    have hd := getD_dig (nmL_ok ⟨w1, w2, w3⟩) k
    rw [e_Te_nameHere_58, if_pos (by omega), hs, he, wrN (z := ((t.2.1 : Nat) : Int) + (k : Int)) (by omega) (by omega), wr_suc2 (show k < 6 from hk) (by decide)]
    rw [nmL_get] at hd ⊢
    by_cases c : k < t.2.2 - t.2.1
    · rw [if_pos c] at hd ⊢
      rw [if_pos (by omega), e_Te_octetAt, if_neg (by omega), h1, if_pos (by omega), if_pos (by omega), h3, show (((t.2.1 : Nat) : Int) + (k : Int)).toNat = t.2.1 + k by omega, Option.bind_some]
      dsimp only
      have hx := w3 (t.2.1 + k) (by omega) (by omega)
      rw [wrN (z := g (t.2.1 + k) - 97) (by omega) (by omega), wrN (by omega) (by omega), show g (t.2.1 + k) - 97 + 1 = g (t.2.1 + k) - 96 by omega, name_or hv0 hv (by omega) (by omega)]
    · rw [if_neg c, if_neg (by omega), name_or hv0 hv (by omega) (by omega)]
  have d := fun i => getD_dig (nmL_ok (g := g) ⟨w1, w2, w3⟩) i
  have d0 := d 0; have d1 := d 1; have d2 := d 2; have d3 := d 3; have d4 := d 4; have d5 := d 5
  have e0 := step 0 0 (by decide) (by omega) (by omega)
  have e0 : Te_nameHere_58 0 0 S = _ := e0
  rw [e0, step 1 _ (by decide) (by omega) (by omega), step 2 _ (by decide) (by omega) (by omega), step 3 _ (by decide) (by omega) (by omega), step 4 _ (by decide) (by omega) (by omega), step 5 _ (by decide) (by omega) (by omega), e_Te_nameHere_58, if_neg (by decide)]
  unfold nm5
  rw [Int.zero_mul, Int.zero_add]
theorem c_nameHere {t : Tok} {L : List Tok} (hE : E ≤ 1600) (h : CTK S (t :: L)) (h1 : S 2 1 = (E : Int)) (h3 : S 3 = g) (hw : 26 ≤ t.1 ∧ t.1 ≤ 32 → ISW g E t) : (26 ≤ t.1 ∧ t.1 ≤ 32 ∧ t.2.2 - t.2.1 ≤ 6 → m_Te_nameHere S = some (nm5 (nmL g t), S)) ∧ (26 ≤ t.1 ∧ t.1 ≤ 32 ∧ 6 < t.2.2 - t.2.1 → m_Te_nameHere S = some (-1, up (up S 2 8 1) 2 9 ((t.2.1 + 6 : Nat) : Int))) ∧ (¬ (26 ≤ t.1 ∧ t.1 ≤ 32) → m_Te_nameHere S = some (-1, up (up S 2 8 1) 2 9 ((t.2.1 : Nat) : Int))) := by
  obtain ⟨h5, hs, he, -, -, -⟩ := h.hd
  have hb := h.hd.2.2.2
  refine ⟨fun ⟨a1, a2, a3⟩ => ?_, fun ⟨a1, a2, a3⟩ => ?_, fun a => ?_⟩
  · have w := hw ⟨a1, a2⟩
    have w1 := w.1
    rw [e_Te_nameHere, h5, if_neg (by omega), if_neg (by omega), hs, he, wrN (z := ((t.2.2 : Nat) : Int) - ((t.2.1 : Nat) : Int)) (by omega) (by omega), if_neg (by omega)]
    exact c_nm58 hE h h1 h3 w a3
  · have w1 := (hw ⟨a1, a2⟩).1
    rw [e_Te_nameHere, h5, if_neg (by omega), if_neg (by omega), hs, he, wrN (z := ((t.2.2 : Nat) : Int) - ((t.2.1 : Nat) : Int)) (by omega) (by omega), if_pos (by omega), wrN (z := ((t.2.1 : Nat) : Int) + 6) (by omega) (by omega), c_refuseAt, Option.bind_some, show ((t.2.1 : Nat) : Int) + 6 = ((t.2.1 + 6 : Nat) : Int) by omega]
  · rw [e_Te_nameHere, h5]
    by_cases c : t.1 < 26
    · rw [if_pos (by omega), c_unfit h, Option.bind_some]
    · rw [if_neg (by omega), if_pos (by omega), c_unfit h, Option.bind_some]
end
