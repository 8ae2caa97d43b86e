/-! A RUN: what the machine comes to, if it does -/
def runN (tb : Nat → Option PF) (o : PO) : Nat → PS → Option PRes
  | 0, _ => none
  | j + 1, (pc, l, st, M) => match tb pc with
    | none => none
    | some f => match f o l st M with
      | none => none
      | some (.inl s) => runN tb o j s
      | some (.inr r) => some r
theorem runN_succ {tb : Nat → Option PF} {o : PO} : ∀ {j : Nat} {s : PS} {r : PRes}, runN tb o j s = some r → runN tb o (j + 1) s = some r := by
  intro j
  induction j with
  | zero => intro s r h; cases h
  | succ j ih =>
    intro s r h
    obtain ⟨pc, l, st, M⟩ := s
    rw [runN] at h ⊢
    cases hf : tb pc with
    | none => rw [hf] at h; cases h
    | some f =>
      rw [hf] at h
      dsimp only at h ⊢
      cases hr : f o l st M with
      | none => rw [hr] at h; cases h
      | some q =>
        rw [hr] at h
        cases q with
        | inl s => exact ih h
        | inr r' => exact h
theorem runN_le {tb : Nat → Option PF} {o : PO} {j : Nat} {s : PS} {r : PRes} (h : runN tb o j s = some r) : ∀ d : Nat, runN tb o (j + d) s = some r := by
  intro d
  induction d with
  | zero => exact h
  | succ d ih => exact runN_succ ih
theorem runN_det {tb : Nat → Option PF} {o : PO} {i j : Nat} {s : PS} {r q : PRes} (h : runN tb o i s = some r) (h' : runN tb o j s = some q) : r = q := by
  have a := runN_le h j
  have b := runN_le h' i
  rw [Nat.add_comm j i, a] at b
  exact Option.some.inj b
noncomputable def RN (tb : Nat → Option PF) (o : PO) (s : PS) : Option PRes := by
  classical
  exact if h : ∃ j r, runN tb o j s = some r then some (Classical.choose (Classical.choose_spec h)) else none
theorem RN_of {tb : Nat → Option PF} {o : PO} {j : Nat} {s : PS} {r : PRes} (h : runN tb o j s = some r) : RN tb o s = some r := by
  have hx : ∃ j r, runN tb o j s = some r := ⟨j, r, h⟩
  unfold RN
  rw [dif_pos hx]
  exact congrArg some (runN_det (Classical.choose_spec (Classical.choose_spec hx)) h)
theorem RN_to {tb : Nat → Option PF} {o : PO} {s : PS} {r : PRes} (h : RN tb o s = some r) : ∃ j, runN tb o j s = some r := by
  unfold RN at h
  split at h
  · rename_i hx
    cases h
    exact ⟨Classical.choose hx, Classical.choose_spec (Classical.choose_spec hx)⟩
  · cases h
theorem RN_not {tb : Nat → Option PF} {o : PO} {s : PS} (h : ∀ j r, ¬ runN tb o j s = some r) : RN tb o s = none := by
  unfold RN
  rw [dif_neg (fun ⟨j, r, q⟩ => h j r q)]
/-- one step -/
def stp (tb : Nat → Option PF) (o : PO) (pc : Nat) (l : PL) (st : List PV) (M : PM) : Option (PS ⊕ PRes) := match tb pc with
  | none => none
  | some f => f o l st M
theorem RN_stp {tb : Nat → Option PF} {o : PO} {pc : Nat} {l : PL} {st : List PV} {M : PM} : RN tb o (pc, l, st, M) = match stp tb o pc l st M with | none => none | some (.inl s) => RN tb o s | some (.inr r) => some r := by
  have e : ∀ j, runN tb o (j + 1) (pc, l, st, M) = match stp tb o pc l st M with | none => none | some (.inl s) => runN tb o j s | some (.inr r) => some r := by
    intro j
    rw [runN]
    unfold stp
    cases tb pc <;> rfl
  cases h : stp tb o pc l st M with
  | none =>
    refine RN_not fun j r q => ?_
    cases j with
    | zero => cases q
    | succ j => rw [e j, h] at q; cases q
  | some q =>
    cases q with
    | inr r => exact RN_of (j := 1) (by rw [e 0, h])
    | inl s =>
      dsimp only
      cases hs : RN tb o s with
      | none =>
        refine RN_not fun j r q => ?_
        cases j with
        | zero => cases q
        | succ j => rw [e j, h] at q; dsimp only at q; rw [RN_of q] at hs; cases hs
      | some r =>
        obtain ⟨j, hj⟩ := RN_to hs
        exact RN_of (j := j + 1) (by rw [e j, h]; exact hj)
/-- the methods by their numbers: each calls lower ones alone -/
noncomputable def TT : Nat → PO
  | 0 => fun _ _ _ => none
  | k + 1 => fun k' a M => if k' = k then RN (tabs k) (TT k) (0, eL 0 a, [], M) else TT k k' a M
noncomputable def call (k : Nat) (a : List PV) (M : PM) : Option PRes := RN (tabs k) (TT k) (0, eL 0 a, [], M)
theorem TT_lt {k' : Nat} : ∀ {k : Nat}, k' < k → TT k k' = call k' := by
  intro k
  induction k with
  | zero => intro h; exact absurd h (Nat.not_lt_zero _)
  | succ k ih =>
    intro h
    funext a M
    show (if k' = k then RN (tabs k) (TT k) (0, eL 0 a, [], M) else TT k k' a M) = _
    by_cases e : k' = k
    · subst e; rw [if_pos rfl]; rfl
    · rw [if_neg e, ih (by omega)]
theorem TT_ge {k' : Nat} : ∀ {k : Nat}, k ≤ k' → ∀ a M, TT k k' a M = none := by
  intro k
  induction k with
  | zero => intro _ a M; rfl
  | succ k ih =>
    intro h a M
    show (if k' = k then RN (tabs k) (TT k) (0, eL 0 a, [], M) else TT k k' a M) = _
    rw [if_neg (by omega)]
    exact ih (by omega) a M
/-! typed answers, over a world whose shape stays -/
noncomputable def cvI (C : MC) : PRes → Option (Int × MS)
  | (some (.inl z), M) => if M.2 = C then some (z, M.1) else none
  | _ => none
noncomputable def cvL (C : MC) : PRes → Option (Int × MS)
  | (some (.inr (.inl z)), M) => if M.2 = C then some (z, M.1) else none
  | _ => none
noncomputable def cvV (C : MC) : PRes → Option MS
  | (none, M) => if M.2 = C then some M.1 else none
  | _ => none
noncomputable def RX {β : Type} (cv : MC → PRes → Option β) (tb : Nat → Option PF) (K : Nat) (C : MC) (pc : Nat) (l : PL) (st : List PV) (S : MS) : Option β := (RN tb (TT K) (pc, l, st, S, C)).bind (cv C)
noncomputable def mI (k : Nat) (a : List PV) (S : MS) (C : MC) : Option (Int × MS) := (call k a (S, C)).bind (cvI C)
noncomputable def mL (k : Nat) (a : List PV) (S : MS) (C : MC) : Option (Int × MS) := (call k a (S, C)).bind (cvL C)
noncomputable def mV (k : Nat) (a : List PV) (S : MS) (C : MC) : Option MS := (call k a (S, C)).bind (cvV C)
section
variable {β : Type} {cv : MC → PRes → Option β} {tb : Nat → Option PF} {K : Nat} {C : MC} {pc : Nat} {l : PL} {st : List PV} {S : MS}
/-- some steps that call nothing -/
def it (tb : Nat → Option PF) (o : PO) (C : MC) : Nat → Nat → PL → List PV → MS → Option PS
  | 0, pc, l, st, S => some (pc, l, st, S, C)
  | j + 1, pc, l, st, S => match stp tb o pc l st (S, C) with
    | some (.inl (pc', l', st', S', C')) => it tb o C' j pc' l' st' S'
    | _ => none
theorem it_RN {tb : Nat → Option PF} {o : PO} : ∀ (j : Nat) (C : MC) (pc : Nat) (l : PL) (st : List PV) (S : MS) (s : PS), it tb o C j pc l st S = some s → RN tb o (pc, l, st, S, C) = RN tb o s := by
  intro j
  induction j with
  | zero => intro C pc l st S s h; cases h; rfl
  | succ j ih =>
    intro C pc l st S s h
    rw [it] at h
    rw [RN_stp]
    cases hs : stp tb o pc l st (S, C) with
    | none => rw [hs] at h; cases h
    | some q =>
      rw [hs] at h
      cases q with
      | inr r => cases h
      | inl q =>
        obtain ⟨pc', l', st', S', C'⟩ := q
        exact ih C' pc' l' st' S' s h
theorem rxr (j : Nat) (pc' : Nat) (l' : PL) (st' : List PV) (S' : MS) (h : it tb (TT K) C j pc l st S = some (pc', l', st', S', C)) {a : Option β} (h2 : RX cv tb K C pc' l' st' S' = a) : RX cv tb K C pc l st S = a := by
  unfold RX at h2 ⊢
  rw [it_RN j C pc l st S _ h]
  exact h2
theorem rxb (p : Prop) [Decidable p] (pc1 : Nat) (l1 : PL) (st1 : List PV) (pc2 : Nat) (l2 : PL) (st2 : List PV) (h : stp tb (TT K) pc l st (S, C) = if p then some (.inl (pc1, l1, st1, S, C)) else some (.inl (pc2, l2, st2, S, C))) {a b : Option β} (h1 : RX cv tb K C pc1 l1 st1 S = a) (h2 : RX cv tb K C pc2 l2 st2 S = b) : RX cv tb K C pc l st S = if p then a else b := by
  unfold RX at h1 h2 ⊢
  rw [RN_stp, h]
  by_cases hp : p
  · rw [if_pos hp, if_pos hp]; exact h1
  · rw [if_neg hp, if_neg hp]; exact h2
theorem rxk (p : Prop) [Decidable p] (pc1 : Nat) (l1 : PL) (st1 : List PV) (S1 : MS) (h : stp tb (TT K) pc l st (S, C) = if p then some (.inl (pc1, l1, st1, S1, C)) else none) {a : Option β} (h1 : RX cv tb K C pc1 l1 st1 S1 = a) : RX cv tb K C pc l st S = if p then a else none := by
  unfold RX at h1 ⊢
  rw [RN_stp, h]
  by_cases hp : p
  · rw [if_pos hp, if_pos hp]; exact h1
  · rw [if_neg hp, if_neg hp]; rfl
theorem rxk2 (p q : Prop) [Decidable p] [Decidable q] (pc1 : Nat) (l1 : PL) (st1 : List PV) (S1 : MS) (h : stp tb (TT K) pc l st (S, C) = if p then (if q then some (.inl (pc1, l1, st1, S1, C)) else none) else none) {a : Option β} (h1 : RX cv tb K C pc1 l1 st1 S1 = a) : RX cv tb K C pc l st S = if p then (if q then a else none) else none := by
  unfold RX at h1 ⊢
  rw [RN_stp, h]
  by_cases hp : p
  · rw [if_pos hp, if_pos hp]
    by_cases hq : q
    · rw [if_pos hq, if_pos hq]; exact h1
    · rw [if_neg hq, if_neg hq]; rfl
  · rw [if_neg hp, if_neg hp]; rfl
theorem rxk3 (p q r : Prop) [Decidable p] [Decidable q] [Decidable r] (pc1 : Nat) (l1 : PL) (st1 : List PV) (S1 : MS) (h : stp tb (TT K) pc l st (S, C) = if p then (if q then (if r then some (.inl (pc1, l1, st1, S1, C)) else none) else none) else none) {a : Option β} (h1 : RX cv tb K C pc1 l1 st1 S1 = a) : RX cv tb K C pc l st S = if p then (if q then (if r then a else none) else none) else none := by
  unfold RX at h1 ⊢
  rw [RN_stp, h]
  by_cases hp : p
  · rw [if_pos hp, if_pos hp]
    by_cases hq : q
    · rw [if_pos hq, if_pos hq]
      by_cases hr : r
      · rw [if_pos hr, if_pos hr]; exact h1
      · rw [if_neg hr, if_neg hr]; rfl
    · rw [if_neg hq, if_neg hq]; rfl
  · rw [if_neg hp, if_neg hp]; rfl
theorem rxz (p : Prop) [Decidable p] (pc1 : Nat) (l1 : PL) (st1 : List PV) (h : stp tb (TT K) pc l st (S, C) = if p then none else some (.inl (pc1, l1, st1, S, C))) {a : Option β} (h1 : RX cv tb K C pc1 l1 st1 S = a) : RX cv tb K C pc l st S = if p then none else a := by
  unfold RX at h1 ⊢
  rw [RN_stp, h]
  by_cases hp : p
  · rw [if_pos hp, if_pos hp]; rfl
  · rw [if_neg hp, if_neg hp]; exact h1
/-- what is dead is forgotten -/
theorem rxq (ks : List Nat) (f : PF) (l' : PL) (ht : tb pc = some (i_kp ks f)) (h1 : kp ks l = some l') (h2 : kp ks l' = some l') : RX cv tb K C pc l st S = RX cv tb K C pc l' st S := by
  have e : stp tb (TT K) pc l st (S, C) = stp tb (TT K) pc l' st (S, C) := by
    unfold stp
    rw [ht]
    dsimp only
    unfold i_kp
    rw [h1, h2]
  unfold RX
  rw [RN_stp, RN_stp, e]
theorem rxw {x : Int} {k : Int} {t d : Nat} {r : List (Int × Nat)} {a b : Option β} (h1 : RX cv tb K C t l st S = a) (h2 : RX cv tb K C (swt x r d) l st S = b) : RX cv tb K C (swt x ((k, t) :: r) d) l st S = if x = k then a else b := by
  rw [swt]
  by_cases hp : x = k
  · rw [if_pos hp, if_pos hp]; exact h1
  · rw [if_neg hp, if_neg hp]; exact h2
theorem rxtI (z : Int) (S' : MS) (h : stp tb (TT K) pc l st (S, C) = some (.inr (some (.inl z), S', C))) : RX cvI tb K C pc l st S = some (z, S') := by
  unfold RX
  rw [RN_stp, h]
  simp [cvI]
theorem rxtZ (z : Int) (S' : MS) (h : stp tb (TT K) pc l st (S, C) = if z = 0 ∨ z = 1 then some (.inr (some (.inl z), S', C)) else none) : RX cvI tb K C pc l st S = if z = 0 ∨ z = 1 then some (z, S') else none := by
  unfold RX
  rw [RN_stp, h]
  by_cases hp : z = 0 ∨ z = 1
  · rw [if_pos hp, if_pos hp]; simp [cvI]
  · rw [if_neg hp, if_neg hp]; rfl
theorem rxtL (z : Int) (S' : MS) (h : stp tb (TT K) pc l st (S, C) = some (.inr (some (.inr (.inl z)), S', C))) : RX cvL tb K C pc l st S = some (z, S') := by
  unfold RX
  rw [RN_stp, h]
  simp [cvL]
theorem rxtV (S' : MS) (h : stp tb (TT K) pc l st (S, C) = some (.inr (none, S', C))) : RX cvV tb K C pc l st S = some S' := by
  unfold RX
  rw [RN_stp, h]
  simp [cvV]
theorem rxcI {n e s : Nat} (k : Nat) (ar : List PV) (nx : Nat) (l' : PL) (rest : List PV) (hk : k < K) (h : stp tb (TT K) pc l st (S, (n, 1, e, s)) = crI (TT K) k ar (S, (n, 1, e, s)) nx l' rest) {F : Int × MS → Option β} (h1 : ∀ p, RX cv tb K (n, 1, e, s) nx l' (.inl p.1 :: rest) p.2 = F p) : RX cv tb K (n, 1, e, s) pc l st S = (mI k ar S (n, 1, e, s)).bind F := by
  unfold RX at h1 ⊢
  rw [RN_stp, h]
  unfold crI mI
  rw [TT_lt hk]
  cases hc : call k ar (S, (n, 1, e, s)) with
  | none => rfl
  | some q =>
    obtain ⟨v, S', C'⟩ := q
    cases v with
    | none => rfl
    | some v =>
      cases v with
      | inr v => rfl
      | inl z =>
        simp only [Option.bind_some, cvI]
        by_cases hC : C' = (n, 1, e, s)
        · subst hC
          simp only [if_true, Nat.succ_ne_zero, if_false, Option.bind_some]
          exact h1 (z, S')
        · simp [hC]
theorem rxcL {n e s : Nat} (k : Nat) (ar : List PV) (nx : Nat) (l' : PL) (rest : List PV) (hk : k < K) (h : stp tb (TT K) pc l st (S, (n, 1, e, s)) = crL (TT K) k ar (S, (n, 1, e, s)) nx l' rest) {F : Int × MS → Option β} (h1 : ∀ p, RX cv tb K (n, 1, e, s) nx l' (.inr (.inl p.1) :: rest) p.2 = F p) : RX cv tb K (n, 1, e, s) pc l st S = (mL k ar S (n, 1, e, s)).bind F := by
  unfold RX at h1 ⊢
  rw [RN_stp, h]
  unfold crL mL
  rw [TT_lt hk]
  cases hc : call k ar (S, (n, 1, e, s)) with
  | none => rfl
  | some q =>
    obtain ⟨v, S', C'⟩ := q
    cases v with
    | none => rfl
    | some v =>
      cases v with
      | inl v => rfl
      | inr v =>
        cases v with
        | inr v => rfl
        | inl z =>
          simp only [Option.bind_some, cvL]
          by_cases hC : C' = (n, 1, e, s)
          · subst hC
            simp only [if_true, Option.bind_some]
            exact h1 (z, S')
          · simp [hC]
theorem rxcV {n e s : Nat} (k : Nat) (ar : List PV) (nx : Nat) (l' : PL) (rest : List PV) (hk : k < K) (h : stp tb (TT K) pc l st (S, (n, 1, e, s)) = crV (TT K) k ar (S, (n, 1, e, s)) nx l' rest) {F : MS → Option β} (h1 : ∀ p, RX cv tb K (n, 1, e, s) nx l' rest p = F p) : RX cv tb K (n, 1, e, s) pc l st S = (mV k ar S (n, 1, e, s)).bind F := by
  unfold RX at h1 ⊢
  rw [RN_stp, h]
  unfold crV mV
  rw [TT_lt hk]
  cases hc : call k ar (S, (n, 1, e, s)) with
  | none => rfl
  | some q =>
    obtain ⟨v, S', C'⟩ := q
    cases v with
    | some v => rfl
    | none =>
      simp only [Option.bind_some, cvV]
      by_cases hC : C' = (n, 1, e, s)
      · subst hC
        simp only [if_true, Nat.succ_ne_zero, if_false, Option.bind_some]
        exact h1 S'
      · simp [hC]
theorem rxkcI {n e s : Nat} (q : Prop) [Decidable q] (k : Nat) (ar : List PV) (nx : Nat) (l' : PL) (rest : List PV) (hk : k < K) (h : stp tb (TT K) pc l st (S, (n, 1, e, s)) = if q then crI (TT K) k ar (S, (n, 1, e, s)) nx l' rest else none) {F : Int × MS → Option β} (h1 : ∀ p, RX cv tb K (n, 1, e, s) nx l' (.inl p.1 :: rest) p.2 = F p) : RX cv tb K (n, 1, e, s) pc l st S = if q then (mI k ar S (n, 1, e, s)).bind F else none := by
  by_cases hq : q
  · rw [if_pos hq] at h ⊢
    exact rxcI k ar nx l' rest hk h h1
  · rw [if_neg hq] at h ⊢
    unfold RX
    rw [RN_stp, h]
    rfl
theorem rxkcV {n e s : Nat} (q : Prop) [Decidable q] (k : Nat) (ar : List PV) (nx : Nat) (l' : PL) (rest : List PV) (hk : k < K) (h : stp tb (TT K) pc l st (S, (n, 1, e, s)) = if q then crV (TT K) k ar (S, (n, 1, e, s)) nx l' rest else none) {F : MS → Option β} (h1 : ∀ p, RX cv tb K (n, 1, e, s) nx l' rest p = F p) : RX cv tb K (n, 1, e, s) pc l st S = if q then (mV k ar S (n, 1, e, s)).bind F else none := by
  by_cases hq : q
  · rw [if_pos hq] at h ⊢
    exact rxcV k ar nx l' rest hk h h1
  · rw [if_neg hq] at h ⊢
    unfold RX
    rw [RN_stp, h]
    rfl
end
abbrev CD : MC := (135, 1, 31, 5)
abbrev CM : MC := (477, 1, 0, 0)
