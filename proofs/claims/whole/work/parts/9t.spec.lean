/-! WHAT IS TOLD: the little language, on tokens; codes as the reference writes them -/
abbrev PR := Sum (List Tok × List Int) (Int × Nat)
abbrev PR.ok (L : List Tok) (cs : List Int) : PR := Sum.inl (L, cs)
abbrev PR.no (k : Int) (p : Nat) : PR := Sum.inr (k, p)
def PR.bnd (r : PR) (f : List Tok → List Int → PR) : PR := match r with
  | Sum.inl (L, cs) => f L cs
  | Sum.inr (k, p) => PR.no k p
abbrev RDR := List Tok → PR
def sgn (L : List Tok) (c : Nat) (f : List Tok → PR) : PR := match L with
  | [] => PR.no 1 0
  | t :: L' => if t.1 = 256 + c then f L' else PR.no 1 t.2.1
def rdMore (op : Nat → Option Int) (sub : RDR) : Nat → List Tok → List Int → PR
  | 0, L, cs => PR.ok L cs
  | n + 1, L, cs => match L with
    | [] => PR.ok [] cs
    | t :: L' => match op t.1 with
      | none => PR.ok (t :: L') cs
      | some c => (sub L').bnd (fun L2 cs2 => rdMore op sub n L2 (cs ++ (cs2 ++ [c])))
def rdLoop (op : Nat → Option Int) (sub : RDR) : RDR := fun L => (sub L).bnd (fun L' cs => rdMore op sub L'.length L' cs)
def opM (w : Nat) : Option Int := if w = 298 then some 3 else if w = 303 then some 4 else none
def opA (w : Nat) : Option Int := if w = 299 then some 1 else if w = 301 then some 2 else none
def opB (w : Nat) : Option Int := if w = 21 then some 10 else none
def opT (w : Nat) : Option Int := if w = 20 then some 11 else none
def opC (w : Nat) : Option Int := if w = 316 then some 7 else if w = 318 then some 8 else if w = 317 then some 9 else none
def rdSumP (part : RDR) : RDR := rdLoop opA (rdLoop opM part)
def rdTestP (fact : RDR) : RDR := rdLoop opT (rdLoop opB fact)
def numF (g : Nat → Int) : Nat → Nat → Int → Int
  | 0, _, v => v
  | n + 1, p, v => numF g n (p + 1) (10 * v + g p - 48)
/-- the number at t, from least to most -/
def rdNum (g : Nat → Int) (lo hi : Int) (t : Tok) (f : Int → PR) : PR :=
  if t.1 = 33 then (if 4 < t.2.2 - t.2.1 then PR.no 1 (t.2.1 + 4) else if numF g (t.2.2 - t.2.1) t.2.1 0 < lo ∨ hi < numF g (t.2.2 - t.2.1) t.2.1 0 then PR.no 2 t.2.1 else f (numF g (t.2.2 - t.2.1) t.2.1 0)) else PR.no 1 t.2.1
/-- which part a word is, in this sort of law -/
def vlH (q : Int) (w : Nat) : Option Int :=
  if w = 2 then some 0 else if w = 1 then some 1 else if w = 15 then some 2 else if w = 14 ∧ q = 0 then some 3 else if w = 6 ∧ q = 0 then some 4 else if w = 16 ∧ (q = 1 ∨ q = 2) then some 5 else if w = 3 ∧ q = 2 then some 6 else if w = 17 ∧ q = 3 then some 7 else none
def opn (inn : Option RDR) (p : Nat) (f : RDR → PR) : PR := match inn with
  | none => PR.no 4 p
  | some r => f r
def rdPair (inn : Option RDR) (c : Int) : RDR := fun L => match L with
  | [] => PR.no 1 0
  | t2 :: L2 => if t2.1 = 296 then opn inn t2.2.1 (fun r => (rdSumP r L2).bnd (fun L3 cs => sgn L3 44 (fun L4 => (rdSumP r L4).bnd (fun L5 cs2 => sgn L5 41 (fun L6 => PR.ok L6 (cs ++ (cs2 ++ [c]))))))) else PR.no 1 t2.2.1
def rdBody (g : Nat → Int) (q : Int) (inn : Option RDR) : RDR := fun L => match L with
  | [] => PR.no 1 0
  | t :: L =>
    if t.1 = 18 ∨ t.1 = 19 then (if q = 3 then opn inn t.2.1 (fun r => (r L).bnd (fun L' cs => PR.ok L' (cs ++ [if t.1 = 18 then 60 else 61]))) else PR.no 1 t.2.1)
    else if t.1 = 24 ∨ t.1 = 25 then rdPair inn (if t.1 = 24 then 5 else 6) L
    else if t.1 = 33 then rdNum g 0 9999 t (fun v => PR.ok L [1000 + v])
    else if t.1 = 296 then opn inn t.2.1 (fun r => (rdSumP r L).bnd (fun L2 cs => sgn L2 41 (fun L3 => PR.ok L3 cs)))
    else match vlH q t.1 with
      | none => PR.no 1 t.2.1
      | some k => PR.ok L [40 + k]
def rdPart (g : Nat → Int) (q : Int) : Nat → RDR
  | 0 => rdBody g q none
  | m + 1 => rdBody g q (some (rdPart g q m))
def rdFactB (sum : RDR) (inn : Option RDR) : RDR := fun L => match L with
  | [] => PR.no 1 0
  | t :: L =>
    if t.1 = 22 then opn inn t.2.1 (fun r => (r L).bnd (fun L' cs => PR.ok L' (cs ++ [12])))
    else if t.1 = 347 then opn inn t.2.1 (fun r => (rdTestP r L).bnd (fun L' cs => sgn L' 93 (fun L2 => PR.ok L2 cs)))
    else if t.1 = 23 then PR.ok L [13]
    else (sum (t :: L)).bnd (fun L' cs => match L' with
      | [] => PR.no 1 0
      | t' :: L2 => match opC t'.1 with
        | none => PR.no 1 t'.2.1
        | some c => (sum L2).bnd (fun L3 cs2 => PR.ok L3 (cs ++ (cs2 ++ [c]))))
def rdFact (g : Nat → Int) (q : Int) : Nat → RDR
  | 0 => rdFactB (rdSumP (rdPart g q 0)) none
  | m + 1 => rdFactB (rdSumP (rdPart g q (m + 1))) (some (rdFact g q m))
/-- it goes on, and writes no more codes than it reads tokens -/
def SUBK (sub : RDR) : Prop := ∀ (E p : Nat) (L L' : List Tok) (cs : List Int), TOK E p L → sub L = PR.ok L' cs → ∃ p', p ≤ p' ∧ TOK E p' L' ∧ L'.length + cs.length ≤ L.length ∧ 1 ≤ cs.length
theorem TOK.tl {E p : Nat} {t : Tok} {L : List Tok} (h : TOK E p (t :: L)) (ht : t.1 ≠ 35) : TOK E t.2.2 L ∧ p ≤ t.2.2 ∧ p ≤ t.2.1 ∧ t.2.1 < t.2.2 ∧ t.2.2 ≤ E := by
  obtain ⟨h1, h2, h3, ⟨-, h4⟩ | ⟨h4, -, -, h5⟩⟩ := h
  · rw [h4] at ht; exact absurd rfl ht
  · exact ⟨h5, by omega, h1, h4, h3⟩
theorem PR.bnd_ok {r : PR} {f : List Tok → List Int → PR} {L' : List Tok} {cs : List Int} (h : r.bnd f = PR.ok L' cs) : ∃ L1 c1, r = PR.ok L1 c1 ∧ f L1 c1 = PR.ok L' cs := by
  rcases r with ⟨L1, c1⟩ | ⟨k, p⟩
  · exact ⟨L1, c1, rfl, h⟩
  · exact absurd h (by intro h; cases h)
theorem sgn_ok {L : List Tok} {c : Nat} {f : List Tok → PR} {L' : List Tok} {cs : List Int} (h : sgn L c f = PR.ok L' cs) : ∃ t L1, L = t :: L1 ∧ t.1 = 256 + c ∧ f L1 = PR.ok L' cs := by
  cases L with
  | nil => exact absurd h (by intro h; cases h)
  | cons t L1 =>
    unfold sgn at h
    by_cases q : t.1 = 256 + c
    · dsimp only at h; rw [if_pos q] at h; exact ⟨t, L1, rfl, q, h⟩
    · dsimp only at h; rw [if_neg q] at h; cases h
theorem opn_ok {inn : Option RDR} {p : Nat} {f : RDR → PR} {L' : List Tok} {cs : List Int} (h : opn inn p f = PR.ok L' cs) : ∃ r, inn = some r ∧ f r = PR.ok L' cs := by
  cases inn with
  | none => cases h
  | some r => exact ⟨r, rfl, h⟩
theorem rdNum_ok {g : Nat → Int} {lo hi : Int} {t : Tok} {f : Int → PR} {L' : List Tok} {cs : List Int} (h : rdNum g lo hi t f = PR.ok L' cs) : t.1 = 33 ∧ ∃ v, lo ≤ v ∧ v ≤ hi ∧ f v = PR.ok L' cs := by
  unfold rdNum at h
  by_cases c : t.1 = 33
  · rw [if_pos c] at h
    refine ⟨c, ?_⟩
    by_cases c2 : 4 < t.2.2 - t.2.1
    · rw [if_pos c2] at h; cases h
    · rw [if_neg c2] at h
      by_cases c3 : numF g (t.2.2 - t.2.1) t.2.1 0 < lo ∨ hi < numF g (t.2.2 - t.2.1) t.2.1 0
      · rw [if_pos c3] at h; cases h
      · rw [if_neg c3] at h
        exact ⟨_, by omega, by omega, h⟩
  · rw [if_neg c] at h; cases h
theorem rdMore_k {op : Nat → Option Int} {sub : RDR} (hs : SUBK sub) (ho : op 35 = none) : ∀ (n E p : Nat) (L L' : List Tok) (cs cs' : List Int), TOK E p L → rdMore op sub n L cs = PR.ok L' cs' → ∃ p', p ≤ p' ∧ TOK E p' L' ∧ L'.length + cs'.length ≤ L.length + cs.length ∧ cs.length ≤ cs'.length := by
  intro n
  induction n with
  | zero =>
    intro E p L L' cs cs' h e
    cases e
    exact ⟨p, Nat.le_refl _, h, Nat.le_refl _, Nat.le_refl _⟩
  | succ n ih =>
    intro E p L L' cs cs' h e
    cases L with
    | nil => exact h.elim
    | cons t L1 =>
      rw [rdMore] at e
      cases ho' : op t.1 with
      | none =>
        simp only [ho'] at e
        cases e
        exact ⟨p, Nat.le_refl _, h, Nat.le_refl _, Nat.le_refl _⟩
      | some c =>
        simp only [ho'] at e
        obtain ⟨L2, c2, e1, e2⟩ := PR.bnd_ok e
        have ht : t.1 ≠ 35 := fun q => by rw [q, ho] at ho'; cases ho'
        obtain ⟨k1, k2, -⟩ := h.tl ht
        obtain ⟨p2, q1, q2, q3, q4⟩ := hs E _ _ _ _ k1 e1
        obtain ⟨p3, r1, r2, r3, r4⟩ := ih E p2 L2 L' _ cs' q2 e2
        rw [List.length_append, List.length_append, List.length_singleton] at r3 r4
        rw [List.length_cons]
        exact ⟨p3, by omega, r2, by omega, by omega⟩
theorem rdLoop_k {op : Nat → Option Int} {sub : RDR} (hs : SUBK sub) (ho : op 35 = none) : SUBK (rdLoop op sub) := by
  intro E p L L' cs h e
  obtain ⟨L1, c1, e1, e2⟩ := PR.bnd_ok e
  obtain ⟨p1, q1, q2, q3, q4⟩ := hs E p _ _ _ h e1
  obtain ⟨p2, r1, r2, r3, r4⟩ := rdMore_k hs ho _ E p1 _ _ _ _ q2 e2
  exact ⟨p2, by omega, r2, by omega, by omega⟩
theorem rdSumP_k {r : RDR} (h : SUBK r) : SUBK (rdSumP r) := rdLoop_k (rdLoop_k h rfl) rfl
theorem rdTestP_k {r : RDR} (h : SUBK r) : SUBK (rdTestP r) := rdLoop_k (rdLoop_k h rfl) rfl
theorem rdBody_k {g : Nat → Int} {q : Int} {inn : Option RDR} (hi : ∀ r, inn = some r → SUBK r) : SUBK (rdBody g q inn) := by
  intro E p L L' cs h e
  cases L with
  | nil => exact h.elim
  | cons t L =>
    unfold rdBody at e
    dsimp only at e
    have fin : ∀ {t : Tok} {L L' : List Tok} {cs cs1 : List Int} {p : Nat}, TOK E p (t :: L) → t.1 ≠ 35 → cs1.length = 1 → PR.ok L cs1 = PR.ok L' cs → ∃ p', p ≤ p' ∧ TOK E p' L' ∧ L'.length + cs.length ≤ (t :: L).length ∧ 1 ≤ cs.length := fun h ht hc e => by
      cases e
      obtain ⟨k1, k2, -⟩ := h.tl ht
      exact ⟨_, k2, k1, by rw [List.length_cons]; omega, by omega⟩
    by_cases c1 : t.1 = 18 ∨ t.1 = 19
    · rw [if_pos c1] at e
      by_cases c2 : q = 3
      · rw [if_pos c2] at e
        obtain ⟨r, rfl, e⟩ := opn_ok e
        obtain ⟨L1, cs1, e1, e2⟩ := PR.bnd_ok e
        obtain ⟨k1, k2, -⟩ := h.tl (by omega)
        obtain ⟨p1, q1, q2, q3, q4⟩ := hi r rfl E _ _ _ _ k1 e1
        cases e2
        rw [List.length_append, List.length_singleton, List.length_cons]
        exact ⟨p1, by omega, q2, by omega, by omega⟩
      · rw [if_neg c2] at e; cases e
    · rw [if_neg c1] at e
      by_cases c2 : t.1 = 24 ∨ t.1 = 25
      · rw [if_pos c2] at e
        unfold rdPair at e
        cases L with
        | nil => cases e
        | cons t2 L2 =>
          dsimp only at e
          by_cases c3 : t2.1 = 296
          · rw [if_pos c3] at e
            obtain ⟨r, rfl, e⟩ := opn_ok e
            obtain ⟨L3, cs3, e3, e⟩ := PR.bnd_ok e
            obtain ⟨t4, L4, rfl, t44, e⟩ := sgn_ok e
            obtain ⟨L5, cs5, e5, e⟩ := PR.bnd_ok e
            obtain ⟨t6, L6, rfl, t66, e⟩ := sgn_ok e
            obtain ⟨k1, k2, -⟩ := h.tl (by omega)
            obtain ⟨k3, k4, -⟩ := k1.tl (by omega)
            have hr := rdSumP_k (hi r rfl)
            obtain ⟨p1, q1, q2, q3, q4⟩ := hr E _ _ _ _ k3 e3
            obtain ⟨k5, k6, -⟩ := q2.tl (by omega)
            obtain ⟨p2, r1, r2, r3, r4⟩ := hr E _ _ _ _ k5 e5
            obtain ⟨k7, k8, -⟩ := r2.tl (by omega)
            cases e
            simp only [List.length_append, List.length_cons, List.length_nil] at q3 r3 ⊢
            exact ⟨_, by omega, k7, by omega, by omega⟩
          · rw [if_neg c3] at e; cases e
      · rw [if_neg c2] at e
        by_cases c3 : t.1 = 33
        · rw [if_pos c3] at e
          obtain ⟨-, v, -, -, e⟩ := rdNum_ok e
          exact fin h (by omega) rfl e
        · rw [if_neg c3] at e
          by_cases c4 : t.1 = 296
          · rw [if_pos c4] at e
            obtain ⟨r, rfl, e⟩ := opn_ok e
            obtain ⟨L1, cs1, e1, e⟩ := PR.bnd_ok e
            obtain ⟨t6, L6, rfl, t66, e⟩ := sgn_ok e
            obtain ⟨k1, k2, -⟩ := h.tl (by omega)
            obtain ⟨p1, q1, q2, q3, q4⟩ := rdSumP_k (hi r rfl) E _ _ _ _ k1 e1
            obtain ⟨k7, k8, -⟩ := q2.tl (by omega)
            cases e
            simp only [List.length_cons] at q3 ⊢
            exact ⟨_, by omega, k7, by omega, by omega⟩
          · rw [if_neg c4] at e
            cases hv : vlH q t.1 with
            | none => simp only [hv] at e; cases e
            | some k =>
              simp only [hv] at e
              refine fin h (fun q => ?_) rfl e
              rw [q] at hv
              unfold vlH at hv
              simp at hv
theorem rdPart_k (g : Nat → Int) (q : Int) : ∀ m, SUBK (rdPart g q m) := by
  intro m
  induction m with
  | zero => exact rdBody_k (fun r h => by cases h)
  | succ m ih => exact rdBody_k (fun r h => by cases h; exact ih)
theorem rdFactB_k {sum : RDR} {inn : Option RDR} (hs : SUBK sum) (hi : ∀ r, inn = some r → SUBK r) : SUBK (rdFactB sum inn) := by
  intro E p L L' cs h e
  cases L with
  | nil => exact h.elim
  | cons t L =>
    unfold rdFactB at e
    dsimp only at e
    by_cases c1 : t.1 = 22
    · rw [if_pos c1] at e
      obtain ⟨r, rfl, e⟩ := opn_ok e
      obtain ⟨L1, cs1, e1, e2⟩ := PR.bnd_ok e
      obtain ⟨k1, k2, -⟩ := h.tl (by omega)
      obtain ⟨p1, q1, q2, q3, q4⟩ := hi r rfl E _ _ _ _ k1 e1
      cases e2
      rw [List.length_append, List.length_singleton, List.length_cons]
      exact ⟨p1, by omega, q2, by omega, by omega⟩
    · rw [if_neg c1] at e
      by_cases c2 : t.1 = 347
      · rw [if_pos c2] at e
        obtain ⟨r, rfl, e⟩ := opn_ok e
        obtain ⟨L1, cs1, e1, e⟩ := PR.bnd_ok e
        obtain ⟨t6, L6, rfl, t66, e⟩ := sgn_ok e
        obtain ⟨k1, k2, -⟩ := h.tl (by omega)
        obtain ⟨p1, q1, q2, q3, q4⟩ := rdTestP_k (hi r rfl) E _ _ _ _ k1 e1
        obtain ⟨k7, k8, -⟩ := q2.tl (by omega)
        cases e
        simp only [List.length_cons] at q3 ⊢
        exact ⟨_, by omega, k7, by omega, by omega⟩
      · rw [if_neg c2] at e
        by_cases c3 : t.1 = 23
        · rw [if_pos c3] at e
          cases e
          obtain ⟨k1, k2, -⟩ := h.tl (by omega)
          exact ⟨_, k2, k1, by simp only [List.length_cons, List.length_nil]; omega, by simp only [List.length_cons, List.length_nil]; omega⟩
        · rw [if_neg c3] at e
          obtain ⟨L1, cs1, e1, e⟩ := PR.bnd_ok e
          obtain ⟨p1, q1, q2, q3, q4⟩ := hs E _ _ _ _ h e1
          cases L1 with
          | nil => exact q2.elim
          | cons t' L2 =>
            dsimp only at e
            cases hc : opC t'.1 with
            | none => simp only [hc] at e; cases e
            | some c =>
              simp only [hc] at e
              obtain ⟨L3, cs3, e3, e⟩ := PR.bnd_ok e
              have ht : t'.1 ≠ 35 := fun q => by rw [q] at hc; cases hc
              obtain ⟨k1, k2, -⟩ := q2.tl ht
              obtain ⟨p2, r1, r2, r3, r4⟩ := hs E _ _ _ _ k1 e3
              cases e
              simp only [List.length_append, List.length_cons, List.length_nil] at q3 r3 ⊢
              exact ⟨p2, by omega, r2, by omega, by omega⟩
theorem rdFact_k (g : Nat → Int) (q : Int) : ∀ m, SUBK (rdFact g q m) := by
  intro m
  induction m with
  | zero => exact rdFactB_k (rdSumP_k (rdPart_k g q 0)) (fun r h => by cases h)
  | succ m ih => exact rdFactB_k (rdSumP_k (rdPart_k g q (m + 1))) (fun r h => by cases h; exact ih)
