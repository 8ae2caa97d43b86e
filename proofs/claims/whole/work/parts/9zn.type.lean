/-! WHAT IS TOLD IS WELL TYPED -/
def TYK (q : Int) (m : Nat) (b : Bool) (r : RDR) : Prop := ∀ (L L' : List Tok) (cs : List Int), r L = PR.ok L' cs → ∀ τ : List Bool, τ.length + m ≤ 60 → tyS q cs τ = some (b :: τ)
theorem TYK.mono {q : Int} {m n : Nat} {b : Bool} {r : RDR} (h : TYK q m b r) (hm : m ≤ n) : TYK q n b r := fun L L' cs e τ ht => h L L' cs e τ (by omega)
theorem tyS_cat {q : Int} {xs ys : List Int} {τ τ1 : List Bool} (h : tyS q xs τ = some τ1) : tyS q (xs ++ ys) τ = tyS q ys τ1 := by rw [tyS_append, h]
theorem tyS_one {q c : Int} {τ τ1 : List Bool} (h : ty1 q c τ = some τ1) : tyS q [c] τ = some τ1 := by rw [tyS, h]; rfl
theorem tyS_2 {q c : Int} {xs ys : List Int} {a b d : Bool} {m : Nat} {τ : List Bool} (h1 : tyS q xs τ = some (a :: τ)) (h2 : ∀ τ' : List Bool, τ'.length + m ≤ 60 → tyS q ys τ' = some (b :: τ')) (hm : τ.length + 1 + m ≤ 60) (h3 : ty1 q c (b :: a :: τ) = some (d :: τ)) : tyS q (xs ++ (ys ++ [c])) τ = some (d :: τ) := by
  rw [tyS_cat h1, tyS_cat (h2 (a :: τ) (by rw [List.length_cons]; omega)), tyS_one h3]
theorem rdMore_ty {op : Nat → Option Int} {sub : RDR} {q : Int} {m : Nat} {b : Bool} (hs : TYK q m b sub) (ho : ∀ w c, op w = some c → ∀ τ, ty1 q c (b :: b :: τ) = some (b :: τ)) : ∀ (n : Nat) (L L' : List Tok) (cs cs' : List Int) (τ : List Bool), rdMore op sub n L cs = PR.ok L' cs' → tyS q cs τ = some (b :: τ) → τ.length + 1 + m ≤ 60 → tyS q cs' τ = some (b :: τ) := by
  intro n
  induction n with
  | zero =>
    intro L L' cs cs' τ e h hm
    cases e
    exact h
  | succ n ih =>
    intro L L' cs cs' τ e h hm
    cases L with
    | nil => cases e; exact h
    | cons t L1 =>
      rw [rdMore] at e
      cases ho' : op t.1 with
      | none =>
        simp only [ho'] at e
        cases e
        exact h
      | some c =>
        simp only [ho'] at e
        obtain ⟨L2, c2, e1, e2⟩ := PR.bnd_ok e
        exact ih L2 L' _ cs' τ e2 (tyS_2 h (hs _ _ _ e1) hm (ho _ _ ho' τ)) hm
theorem rdLoop_ty {op : Nat → Option Int} {sub : RDR} {q : Int} {m : Nat} {b : Bool} (hs : TYK q m b sub) (ho : ∀ w c, op w = some c → ∀ τ, ty1 q c (b :: b :: τ) = some (b :: τ)) : TYK q (m + 1) b (rdLoop op sub) := by
  intro L L' cs e τ hm
  obtain ⟨L1, c1, e1, e2⟩ := PR.bnd_ok e
  exact rdMore_ty hs ho _ _ _ _ _ _ e2 (hs _ _ _ e1 τ (by omega)) (by omega)
theorem opA_ty {q : Int} (w : Nat) (c : Int) (h : opA w = some c) (τ : List Bool) : ty1 q c (false :: false :: τ) = some (false :: τ) := by
  unfold opA at h
  by_cases h1 : w = 299
  · rw [if_pos h1] at h; cases h; rfl
  · rw [if_neg h1] at h
    by_cases h2 : w = 301
    · rw [if_pos h2] at h; cases h; rfl
    · rw [if_neg h2] at h; cases h
theorem opM_ty {q : Int} (w : Nat) (c : Int) (h : opM w = some c) (τ : List Bool) : ty1 q c (false :: false :: τ) = some (false :: τ) := by
  unfold opM at h
  by_cases h1 : w = 298
  · rw [if_pos h1] at h; cases h; rfl
  · rw [if_neg h1] at h
    by_cases h2 : w = 303
    · rw [if_pos h2] at h; cases h; rfl
    · rw [if_neg h2] at h; cases h
theorem opB_ty {q : Int} (w : Nat) (c : Int) (h : opB w = some c) (τ : List Bool) : ty1 q c (true :: true :: τ) = some (true :: τ) := by
  unfold opB at h
  by_cases h1 : w = 21
  · rw [if_pos h1] at h; cases h; rfl
  · rw [if_neg h1] at h; cases h
theorem opT_ty {q : Int} (w : Nat) (c : Int) (h : opT w = some c) (τ : List Bool) : ty1 q c (true :: true :: τ) = some (true :: τ) := by
  unfold opT at h
  by_cases h1 : w = 20
  · rw [if_pos h1] at h; cases h; rfl
  · rw [if_neg h1] at h; cases h
theorem opC_ty {q : Int} (w : Nat) (c : Int) (h : opC w = some c) (τ : List Bool) : ty1 q c (false :: false :: τ) = some (true :: τ) := by
  unfold opC at h
  by_cases h1 : w = 316
  · rw [if_pos h1] at h; cases h; rfl
  · rw [if_neg h1] at h
    by_cases h2 : w = 318
    · rw [if_pos h2] at h; cases h; rfl
    · rw [if_neg h2] at h
      by_cases h3 : w = 317
      · rw [if_pos h3] at h; cases h; rfl
      · rw [if_neg h3] at h; cases h
theorem rdSumP_ty {r : RDR} {q : Int} {m : Nat} (h : TYK q m false r) : TYK q (m + 2) false (rdSumP r) := rdLoop_ty (rdLoop_ty h opM_ty) opA_ty
theorem rdTestP_ty {r : RDR} {q : Int} {m : Nat} (h : TYK q m true r) : TYK q (m + 2) true (rdTestP r) := rdLoop_ty (rdLoop_ty h opB_ty) opT_ty
theorem ty_num {q v : Int} {τ : List Bool} (h0 : 0 ≤ v) (h1 : v ≤ 9999) (hm : τ.length + 1 ≤ 60) : ty1 q (1000 + v) τ = some (false :: τ) := by
  unfold ty1
  rw [if_pos (by omega), if_pos (by omega)]
theorem vlH_alw {q k : Int} {w : Nat} (h : vlH q w = some k) : 0 ≤ k ∧ k < 8 ∧ alw q k = true := by
  unfold vlH at h
  by_cases h1 : w = 2
  · rw [if_pos h1] at h; cases h; exact ⟨by decide, by decide, rfl⟩
  rw [if_neg h1] at h
  by_cases h1 : w = 1
  · rw [if_pos h1] at h; cases h; exact ⟨by decide, by decide, rfl⟩
  rw [if_neg h1] at h
  by_cases h1 : w = 15
  · rw [if_pos h1] at h; cases h; exact ⟨by decide, by decide, rfl⟩
  rw [if_neg h1] at h
  by_cases h1 : w = 14 ∧ q = 0
  · rw [if_pos h1] at h; cases h; obtain ⟨-, rfl⟩ := h1; exact ⟨by decide, by decide, rfl⟩
  rw [if_neg h1] at h
  by_cases h1 : w = 6 ∧ q = 0
  · rw [if_pos h1] at h; cases h; obtain ⟨-, rfl⟩ := h1; exact ⟨by decide, by decide, rfl⟩
  rw [if_neg h1] at h
  by_cases h1 : w = 16 ∧ (q = 1 ∨ q = 2)
  · rw [if_pos h1] at h; cases h; obtain ⟨-, rfl | rfl⟩ := h1 <;> exact ⟨by decide, by decide, rfl⟩
  rw [if_neg h1] at h
  by_cases h1 : w = 3 ∧ q = 2
  · rw [if_pos h1] at h; cases h; obtain ⟨-, rfl⟩ := h1; exact ⟨by decide, by decide, rfl⟩
  rw [if_neg h1] at h
  by_cases h1 : w = 17 ∧ q = 3
  · rw [if_pos h1] at h; cases h; obtain ⟨-, rfl⟩ := h1; exact ⟨by decide, by decide, rfl⟩
  rw [if_neg h1] at h; cases h
theorem ty_part {q k : Int} {τ : List Bool} (h : 0 ≤ k ∧ k < 8 ∧ alw q k = true) (hm : τ.length + 1 ≤ 60) : ty1 q (40 + k) τ = some (false :: τ) := by
  obtain ⟨h0, h1, h2⟩ := h
  unfold ty1
  rw [if_neg (by omega), if_neg (by omega), if_pos (by omega), if_pos ⟨by omega, by rw [show 40 + k - 40 = k by omega]; exact h2, by omega⟩]
theorem rdBody_ty {g : Nat → Int} {q : Int} {m : Nat} {inn : Option RDR} (hi : ∀ r, inn = some r → TYK q m false r) : TYK q (m + 3) false (rdBody g q inn) := by
  intro L L' cs e τ hm
  cases L with
  | nil => cases e
  | cons t L =>
    unfold rdBody at e
    dsimp only at e
    by_cases c1 : t.1 = 18 ∨ t.1 = 19
    · rw [if_pos c1] at e
      by_cases c2 : q = 3
      · rw [if_pos c2] at e
        obtain ⟨r, rfl, e⟩ := opn_ok e
        obtain ⟨L1, cs1, e1, e2⟩ := PR.bnd_ok e
        cases e2
        subst c2
        rw [tyS_cat (hi r rfl _ _ _ e1 τ (by omega))]
        apply tyS_one
        by_cases c3 : t.1 = 18
        · rw [if_pos c3]; rfl
        · rw [if_neg c3]; rfl
      · rw [if_neg c2] at e; cases e
    · rw [if_neg c1] at e
      by_cases c2 : t.1 = 24 ∨ t.1 = 25
      · rw [if_pos c2] at e
        unfold rdPair at e
        cases L with
        | nil => cases e
        | cons t2 L2 =>
          dsimp only at e
          by_cases c3 : t2.1 = 296
          · rw [if_pos c3] at e
            obtain ⟨r, rfl, e⟩ := opn_ok e
            obtain ⟨L3, cs3, e3, e⟩ := PR.bnd_ok e
            obtain ⟨t4, L4, rfl, t44, e⟩ := sgn_ok e
            obtain ⟨L5, cs5, e5, e⟩ := PR.bnd_ok e
            obtain ⟨t6, L6, rfl, t66, e⟩ := sgn_ok e
            cases e
            have hr := rdSumP_ty (hi r rfl)
            apply tyS_2 (hr _ _ _ e3 τ (by omega)) (hr _ _ _ e5) (by omega)
            by_cases c4 : t.1 = 24
            · rw [if_pos c4]; rfl
            · rw [if_neg c4]; rfl
          · rw [if_neg c3] at e; cases e
      · rw [if_neg c2] at e
        by_cases c3 : t.1 = 33
        · rw [if_pos c3] at e
          obtain ⟨-, v, v0, v1, e⟩ := rdNum_ok e
          cases e
          exact tyS_one (ty_num v0 v1 (by omega))
        · rw [if_neg c3] at e
          by_cases c4 : t.1 = 296
          · rw [if_pos c4] at e
            obtain ⟨r, rfl, e⟩ := opn_ok e
            obtain ⟨L1, cs1, e1, e⟩ := PR.bnd_ok e
            obtain ⟨t6, L6, rfl, t66, e⟩ := sgn_ok e
            cases e
            exact rdSumP_ty (hi r rfl) _ _ _ e1 τ (by omega)
          · rw [if_neg c4] at e
            cases h : vlH q t.1 with
            | none => simp only [h] at e; cases e
            | some k =>
              simp only [h] at e
              cases e
              exact tyS_one (ty_part (vlH_alw h) (by omega))
theorem rdPart_ty {g : Nat → Int} {q : Int} : ∀ m : Nat, TYK q (3 * m + 3) false (rdPart g q m)
  | 0 => rdBody_ty (m := 0) (fun r h => by cases h)
  | m + 1 => rdBody_ty (fun r h => by cases h; exact rdPart_ty m)
theorem rdFactB_ty {sum : RDR} {q : Int} {m n : Nat} {inn : Option RDR} (hs : TYK q m false sum) (hi : ∀ r, inn = some r → TYK q n true r) (hmn : n + 2 ≤ m + 1) : TYK q (m + 1) true (rdFactB sum inn) := by
  intro L L' cs e τ hm
  cases L with
  | nil => cases e
  | cons t L =>
    unfold rdFactB at e
    dsimp only at e
    by_cases c1 : t.1 = 22
    · rw [if_pos c1] at e
      obtain ⟨r, rfl, e⟩ := opn_ok e
      obtain ⟨L1, cs1, e1, e2⟩ := PR.bnd_ok e
      cases e2
      rw [tyS_cat (hi r rfl _ _ _ e1 τ (by omega))]
      exact tyS_one rfl
    · rw [if_neg c1] at e
      by_cases c2 : t.1 = 347
      · rw [if_pos c2] at e
        obtain ⟨r, rfl, e⟩ := opn_ok e
        obtain ⟨L1, cs1, e1, e⟩ := PR.bnd_ok e
        obtain ⟨t6, L6, rfl, t66, e⟩ := sgn_ok e
        cases e
        exact rdTestP_ty (hi r rfl) _ _ _ e1 τ (by omega)
      · rw [if_neg c2] at e
        by_cases c3 : t.1 = 23
        · rw [if_pos c3] at e
          cases e
          apply tyS_one
          show (if τ.length < 60 then some (true :: τ) else none) = _
          rw [if_pos (by omega)]
        · rw [if_neg c3] at e
          obtain ⟨L1, cs1, e1, e⟩ := PR.bnd_ok e
          cases L1 with
          | nil => cases e
          | cons t' L2 =>
            dsimp only at e
            cases h : opC t'.1 with
            | none => simp only [h] at e; cases e
            | some c =>
              simp only [h] at e
              obtain ⟨L3, cs3, e3, e⟩ := PR.bnd_ok e
              cases e
              exact tyS_2 (hs _ _ _ e1 τ (by omega)) (hs _ _ _ e3) (by omega) (opC_ty _ _ h τ)
theorem rdFact_ty {g : Nat → Int} {q : Int} : ∀ m : Nat, TYK q (3 * m + 6) true (rdFact g q m)
  | 0 => rdFactB_ty (m := 5) (n := 0) (rdSumP_ty (rdPart_ty 0)) (fun r h => by cases h) (by omega)
  | m + 1 => rdFactB_ty (m := 3 * m + 8) (n := 3 * m + 6) (rdSumP_ty (rdPart_ty (m + 1))) (fun r h => by cases h; exact rdFact_ty m) (by omega)
theorem sum_ty {g : Nat → Int} {q : Int} : TYK q 23 false (rdSumP (rdPart g q 6)) := rdSumP_ty (rdPart_ty 6)
theorem test_ty {g : Nat → Int} {q : Int} : TYK q 26 true (rdTestP (rdFact g q 6)) := rdTestP_ty (rdFact_ty 6)
