/-! WHAT A LAW'S CODE TELLS: the codes as the reference writes them, over a pile of numbers (the last first) -/
def hld (v : Int) : Int := if 1000000 < v then 1000000 else if v < -1000000 then -1000000 else v
def fdv (a b : Int) : Int := if b = 0 then 0 else if a.tmod b = 0 then a.tdiv b else if (a < 0) = (b < 0) then a.tdiv b else a.tdiv b - 1
def ev2 (c a b : Int) : Int :=
  if c = 1 then hld (a + b) else if c = 2 then hld (a - b) else if c = 3 then hld (a * b) else if c = 4 then fdv a b
  else if c = 5 then (if a < b then a else b) else if c = 6 then (if b < a then a else b)
  else if c = 7 then (if a < b then 1 else 0) else if c = 8 then (if b < a then 1 else 0) else if c = 9 then (if a = b then 1 else 0)
  else if c = 10 then a * b else if 0 < a + b then 1 else 0
theorem ev2_1 (a b : Int) : ev2 1 a b = hld (a + b) := by unfold ev2; rw [if_pos rfl]
theorem ev2_2 (a b : Int) : ev2 2 a b = hld (a - b) := by unfold ev2; rw [if_neg (by decide), if_pos rfl]
theorem ev2_3 (a b : Int) : ev2 3 a b = hld (a * b) := by unfold ev2; rw [if_neg (by decide), if_neg (by decide), if_pos rfl]
theorem ev2_4 (a b : Int) : ev2 4 a b = fdv a b := by unfold ev2; rw [if_neg (by decide), if_neg (by decide), if_neg (by decide), if_pos rfl]
theorem ev2_5 (a b : Int) : ev2 5 a b = (if a < b then a else b) := by unfold ev2; rw [if_neg (by decide), if_neg (by decide), if_neg (by decide), if_neg (by decide), if_pos rfl]
theorem ev2_6 (a b : Int) : ev2 6 a b = (if b < a then a else b) := by unfold ev2; rw [if_neg (by decide), if_neg (by decide), if_neg (by decide), if_neg (by decide), if_neg (by decide), if_pos rfl]
theorem ev2_7 (a b : Int) : ev2 7 a b = (if a < b then 1 else 0) := by unfold ev2; rw [if_neg (by decide), if_neg (by decide), if_neg (by decide), if_neg (by decide), if_neg (by decide), if_neg (by decide), if_pos rfl]
theorem ev2_8 (a b : Int) : ev2 8 a b = (if b < a then 1 else 0) := by unfold ev2; rw [if_neg (by decide), if_neg (by decide), if_neg (by decide), if_neg (by decide), if_neg (by decide), if_neg (by decide), if_neg (by decide), if_pos rfl]
theorem ev2_9 (a b : Int) : ev2 9 a b = (if a = b then 1 else 0) := by unfold ev2; rw [if_neg (by decide), if_neg (by decide), if_neg (by decide), if_neg (by decide), if_neg (by decide), if_neg (by decide), if_neg (by decide), if_neg (by decide), if_pos rfl]
theorem ev2_10 (a b : Int) : ev2 10 a b = a * b := by unfold ev2; rw [if_neg (by decide), if_neg (by decide), if_neg (by decide), if_neg (by decide), if_neg (by decide), if_neg (by decide), if_neg (by decide), if_neg (by decide), if_neg (by decide), if_pos rfl]
theorem ev2_11 (a b : Int) : ev2 11 a b = (if 0 < a + b then 1 else 0) := by unfold ev2; rw [if_neg (by decide), if_neg (by decide), if_neg (by decide), if_neg (by decide), if_neg (by decide), if_neg (by decide), if_neg (by decide), if_neg (by decide), if_neg (by decide), if_neg (by decide)]
def ev1 (pv : Nat → Int) (fl st : Int → Int) (c : Int) (s : List Int) : List Int :=
  if 1000 ≤ c then (c - 1000) :: s
  else if 60 ≤ c then (match s with | a :: t => (if c = 60 then fl a else st a) :: t | [] => [])
  else if 40 ≤ c then pv (c - 40).toNat :: s
  else if c = 13 then 1 :: s
  else if c = 12 then (match s with | a :: t => (1 - a) :: t | [] => [])
  else (match s with | b :: a :: t => ev2 c a b :: t | _ => [])
def evS (pv : Nat → Int) (fl st : Int → Int) : List Int → List Int → List Int
  | [], s => s
  | c :: cs, s => evS pv fl st cs (ev1 pv fl st c s)
def alw (q k : Int) : Bool := decide (k < 3) || (if q = 0 then decide (k < 5) else if q = 1 then decide (k = 5) else if q = 2 then decide (k = 5) || decide (k = 6) else decide (k = 7))
def ty1 (q c : Int) (τ : List Bool) : Option (List Bool) :=
  if 1000 ≤ c then (if c ≤ 10999 ∧ τ.length < 60 then some (false :: τ) else none)
  else if 60 ≤ c then (if c ≤ 61 ∧ q = 3 then (match τ with | false :: t => some (false :: t) | _ => none) else none)
  else if 40 ≤ c then (if c < 48 ∧ alw q (c - 40) = true ∧ τ.length < 60 then some (false :: τ) else none)
  else if c = 13 then (if τ.length < 60 then some (true :: τ) else none)
  else if c = 12 then (match τ with | true :: t => some (true :: t) | _ => none)
  else if 1 ≤ c ∧ c ≤ 6 then (match τ with | false :: false :: t => some (false :: t) | _ => none)
  else if 7 ≤ c ∧ c ≤ 9 then (match τ with | false :: false :: t => some (true :: t) | _ => none)
  else if 10 ≤ c ∧ c ≤ 11 then (match τ with | true :: true :: t => some (true :: t) | _ => none)
  else none
def tyS (q : Int) : List Int → List Bool → Option (List Bool)
  | [], τ => some τ
  | c :: cs, τ => match ty1 q c τ with | some τ' => tyS q cs τ' | none => none
theorem tyS_append (q : Int) : ∀ (xs ys : List Int) (τ : List Bool), tyS q (xs ++ ys) τ = match tyS q xs τ with | some τ' => tyS q ys τ' | none => none := by
  intro xs
  induction xs with
  | nil => intro ys τ; rfl
  | cons c cs ih =>
    intro ys τ
    rw [List.cons_append, tyS, tyS]
    cases ty1 q c τ with
    | none => rfl
    | some t => exact ih ys t
theorem ty1_inv {q c : Int} {τ τ' : List Bool} (h : ty1 q c τ = some τ') :
    (1000 ≤ c ∧ c ≤ 10999 ∧ τ.length < 60 ∧ τ' = false :: τ) ∨ ((c = 60 ∨ c = 61) ∧ q = 3 ∧ ∃ t, τ = false :: t ∧ τ' = false :: t) ∨
    (40 ≤ c ∧ c < 48 ∧ alw q (c - 40) = true ∧ τ.length < 60 ∧ τ' = false :: τ) ∨ (c = 13 ∧ τ.length < 60 ∧ τ' = true :: τ) ∨
    (c = 12 ∧ ∃ t, τ = true :: t ∧ τ' = true :: t) ∨ ((1 ≤ c ∧ c ≤ 6) ∧ ∃ t, τ = false :: false :: t ∧ τ' = false :: t) ∨
    ((7 ≤ c ∧ c ≤ 9) ∧ ∃ t, τ = false :: false :: t ∧ τ' = true :: t) ∨ ((10 ≤ c ∧ c ≤ 11) ∧ ∃ t, τ = true :: true :: t ∧ τ' = true :: t) := by
  unfold ty1 at h
  by_cases h1 : 1000 ≤ c
  · rw [if_pos h1] at h
    by_cases h2 : c ≤ 10999 ∧ τ.length < 60
    · rw [if_pos h2] at h; cases h; exact Or.inl ⟨h1, h2.1, h2.2, rfl⟩
    · rw [if_neg h2] at h; cases h
  rw [if_neg h1] at h
  by_cases h2 : 60 ≤ c
  · rw [if_pos h2] at h
    by_cases h3 : c ≤ 61 ∧ q = 3
    · rw [if_pos h3] at h
      split at h
      · cases h; exact Or.inr (Or.inl ⟨by omega, h3.2, _, rfl, rfl⟩)
      · cases h
    · rw [if_neg h3] at h; cases h
  rw [if_neg h2] at h
  by_cases h3 : 40 ≤ c
  · rw [if_pos h3] at h
    by_cases h4 : c < 48 ∧ alw q (c - 40) = true ∧ τ.length < 60
    · rw [if_pos h4] at h; cases h; exact Or.inr (Or.inr (Or.inl ⟨h3, h4.1, h4.2.1, h4.2.2, rfl⟩))
    · rw [if_neg h4] at h; cases h
  rw [if_neg h3] at h
  by_cases h4 : c = 13
  · rw [if_pos h4] at h
    by_cases h5 : τ.length < 60
    · rw [if_pos h5] at h; cases h; exact Or.inr (Or.inr (Or.inr (Or.inl ⟨h4, h5, rfl⟩)))
    · rw [if_neg h5] at h; cases h
  rw [if_neg h4] at h
  by_cases h5 : c = 12
  · rw [if_pos h5] at h
    split at h
    · cases h; exact Or.inr (Or.inr (Or.inr (Or.inr (Or.inl ⟨h5, _, rfl, rfl⟩))))
    · cases h
  rw [if_neg h5] at h
  by_cases h6 : 1 ≤ c ∧ c ≤ 6
  · rw [if_pos h6] at h
    split at h
    · cases h; exact Or.inr (Or.inr (Or.inr (Or.inr (Or.inr (Or.inl ⟨h6, _, rfl, rfl⟩)))))
    · cases h
  rw [if_neg h6] at h
  by_cases h7 : 7 ≤ c ∧ c ≤ 9
  · rw [if_pos h7] at h
    split at h
    · cases h; exact Or.inr (Or.inr (Or.inr (Or.inr (Or.inr (Or.inr (Or.inl ⟨h7, _, rfl, rfl⟩))))))
    · cases h
  rw [if_neg h7] at h
  by_cases h8 : 10 ≤ c ∧ c ≤ 11
  · rw [if_pos h8] at h
    split at h
    · cases h; exact Or.inr (Or.inr (Or.inr (Or.inr (Or.inr (Or.inr (Or.inr ⟨h8, _, rfl, rfl⟩))))))
    · cases h
  rw [if_neg h8] at h
  cases h
def vt (b : Bool) (v : Int) : Prop := if b = true then v = 0 ∨ v = 1 else -1000000 ≤ v ∧ v ≤ 1000000
def VT : List Bool → List Int → Prop
  | [], [] => True
  | b :: τ, v :: s => vt b v ∧ VT τ s
  | _, _ => False
theorem VT_len : ∀ {τ : List Bool} {s : List Int}, VT τ s → s.length = τ.length := by
  intro τ
  induction τ with
  | nil => intro s h; cases s with | nil => rfl | cons => exact h.elim
  | cons b τ ih => intro s h; cases s with | nil => exact h.elim | cons v s => rw [List.length_cons, List.length_cons, ih h.2]
theorem VT_1 {b : Bool} {t : List Bool} {s : List Int} (h : VT (b :: t) s) : ∃ v r, s = v :: r ∧ vt b v ∧ VT t r := by
  cases s with
  | nil => exact h.elim
  | cons v r => exact ⟨v, r, rfl, h.1, h.2⟩
theorem VT_2 {b d : Bool} {t : List Bool} {s : List Int} (h : VT (b :: d :: t) s) : ∃ v w r, s = v :: w :: r ∧ vt b v ∧ vt d w ∧ VT t r := by
  obtain ⟨v, r, rfl, h1, h2⟩ := VT_1 h
  obtain ⟨w, r, rfl, h3, h4⟩ := VT_1 h2
  exact ⟨v, w, r, rfl, h1, h3, h4⟩
theorem hld_b (v : Int) : vt false (hld v) := by show -1000000 ≤ hld v ∧ hld v ≤ 1000000; unfold hld; split; · omega
                                                 split <;> omega
theorem tdiv_abs (a b : Int) : (a.tdiv b).natAbs ≤ a.natAbs := by rw [Int.natAbs_tdiv]; exact Nat.div_le_self _ _
theorem tdiv_half {a b : Int} (h : a.tmod b ≠ 0) (hb : b ≠ 0) : (a.tdiv b).natAbs ≤ a.natAbs / 2 ∧ 1 ≤ a.natAbs := by
  have h1 : b.natAbs ≠ 1 := by
    intro e
    have : b = 1 ∨ b = -1 := by omega
    rcases this with rfl | rfl
    · exact h (Int.tmod_one a)
    · apply h
      rw [show (-1 : Int) = -(1) from rfl, Int.tmod_neg]
      exact Int.tmod_one a
  refine ⟨?_, ?_⟩
  · rw [Int.natAbs_tdiv]
    exact Nat.div_le_div_left (by omega) (by decide)
  · by_cases e : a = 0
    · subst e; exact absurd (Int.zero_tmod b) h
    · omega
theorem fdv_b {a b : Int} (ha : vt false a) : vt false (fdv a b) := by
  have ha : -1000000 ≤ a ∧ a ≤ 1000000 := ha
  show -1000000 ≤ fdv a b ∧ fdv a b ≤ 1000000
  have h := tdiv_abs a b
  unfold fdv
  split
  · omega
  · split
    · omega
    · split
      · omega
      · rename_i h1 h2 _
        have := tdiv_half h2 h1
        omega
theorem ev2_num {c a b : Int} (hc : 1 ≤ c ∧ c ≤ 6) (ha : vt false a) (hb : vt false b) : vt false (ev2 c a b) := by
  unfold ev2
  rcases (show c = 1 ∨ c = 2 ∨ c = 3 ∨ c = 4 ∨ c = 5 ∨ c = 6 by omega) with rfl | rfl | rfl | rfl | rfl | rfl
  · rw [if_pos rfl]; exact hld_b _
  · rw [if_neg (by decide), if_pos rfl]; exact hld_b _
  · rw [if_neg (by decide), if_neg (by decide), if_pos rfl]; exact hld_b _
  · rw [if_neg (by decide), if_neg (by decide), if_neg (by decide), if_pos rfl]; exact fdv_b ha
  · rw [if_neg (by decide), if_neg (by decide), if_neg (by decide), if_neg (by decide), if_pos rfl]; split <;> assumption
  · rw [if_neg (by decide), if_neg (by decide), if_neg (by decide), if_neg (by decide), if_neg (by decide), if_pos rfl]; split <;> assumption
theorem vt_true (p : Prop) [Decidable p] : vt true (if p then 1 else 0) := by by_cases h : p; · rw [if_pos h]; exact Or.inr rfl
                                                                              · rw [if_neg h]; exact Or.inl rfl
theorem ev2_cmp {c a b : Int} (hc : 7 ≤ c ∧ c ≤ 9) : vt true (ev2 c a b) := by
  unfold ev2
  rcases (show c = 7 ∨ c = 8 ∨ c = 9 by omega) with rfl | rfl | rfl
  · exact vt_true _
  · exact vt_true _
  · exact vt_true _
theorem ev2_bool {c a b : Int} (hc : 10 ≤ c ∧ c ≤ 11) (ha : vt true a) (hb : vt true b) : vt true (ev2 c a b) := by
  unfold ev2
  rcases (show c = 10 ∨ c = 11 by omega) with rfl | rfl
  · show vt true (a * b)
    rcases ha with rfl | rfl <;> rcases hb with rfl | rfl <;> first | exact Or.inl rfl | exact Or.inr rfl
  · exact vt_true _
section
variable {pv : Nat → Int} {fl st : Int → Int} {q : Int}
def pvok (q : Int) (pv : Nat → Int) : Prop := ∀ k : Nat, k < 8 → alw q k = true → vt false (pv k)
theorem ev1_num {c : Int} {s : List Int} (h : 1000 ≤ c) : ev1 pv fl st c s = (c - 1000) :: s := if_pos h
theorem ev1_of {c a : Int} {s : List Int} (h : c = 60 ∨ c = 61) : ev1 pv fl st c (a :: s) = (if c = 60 then fl a else st a) :: s := by
  unfold ev1; rw [if_neg (by omega), if_pos (by omega)]
theorem ev1_part {c : Int} {s : List Int} (h : 40 ≤ c ∧ c < 48) : ev1 pv fl st c s = pv (c - 40).toNat :: s := by
  unfold ev1; rw [if_neg (by omega), if_neg (by omega), if_pos (by omega)]
theorem ev1_two {c a b : Int} {s : List Int} (h : 1 ≤ c ∧ c ≤ 11) : ev1 pv fl st c (b :: a :: s) = ev2 c a b :: s := by
  unfold ev1; rw [if_neg (by omega), if_neg (by omega), if_neg (by omega), if_neg (by omega), if_neg (by omega)]
theorem ev1_VT (hp : pvok q pv) (hf : ∀ a, vt false (fl a)) (hs : ∀ a, vt false (st a)) {c : Int} {τ τ' : List Bool} {s : List Int} (h : ty1 q c τ = some τ') (hv : VT τ s) : VT τ' (ev1 pv fl st c s) := by
  rcases ty1_inv h with ⟨h1, h2, h3, rfl⟩ | ⟨h1, h2, t, rfl, rfl⟩ | ⟨h1, h2, h3, h4, rfl⟩ | ⟨rfl, h2, rfl⟩ | ⟨rfl, t, rfl, rfl⟩ | ⟨h1, t, rfl, rfl⟩ | ⟨h1, t, rfl, rfl⟩ | ⟨h1, t, rfl, rfl⟩
  · rw [ev1_num h1]; exact ⟨by show _ ∧ _; omega, hv⟩
  · obtain ⟨a, r, rfl, h3, h4⟩ := VT_1 hv
    rw [ev1_of h1]
    exact ⟨by split; · exact hf a
              · exact hs a, h4⟩
  · rw [ev1_part ⟨h1, h2⟩]; exact ⟨hp _ (by omega) (by rw [show (((c - 40).toNat : Nat) : Int) = c - 40 by omega]; exact h3), hv⟩
  · exact ⟨Or.inr rfl, hv⟩
  · obtain ⟨a, r, rfl, h3, h4⟩ := VT_1 hv
    refine ⟨?_, h4⟩
    rcases h3 with rfl | rfl <;> first | exact Or.inl rfl | exact Or.inr rfl
  · obtain ⟨b, a, r, rfl, h3, h4, h5⟩ := VT_2 hv
    rw [ev1_two (by omega)]
    exact ⟨ev2_num h1 h4 h3, h5⟩
  · obtain ⟨b, a, r, rfl, h3, h4, h5⟩ := VT_2 hv
    rw [ev1_two (by omega)]
    exact ⟨ev2_cmp h1, h5⟩
  · obtain ⟨b, a, r, rfl, h3, h4, h5⟩ := VT_2 hv
    rw [ev1_two (by omega)]
    exact ⟨ev2_bool h1 h4 h3, h5⟩
theorem evS_VT (hp : pvok q pv) (hf : ∀ a, vt false (fl a)) (hs : ∀ a, vt false (st a)) : ∀ {cs : List Int} {τ τ' : List Bool} {s : List Int}, tyS q cs τ = some τ' → VT τ s → VT τ' (evS pv fl st cs s) := by
  intro cs
  induction cs with
  | nil => intro τ τ' s h hv; cases h; exact hv
  | cons c cs ih =>
    intro τ τ' s h hv
    rw [tyS] at h
    cases h1 : ty1 q c τ with
    | none => rw [h1] at h; cases h
    | some t => rw [h1] at h; exact ih h (ev1_VT hp hf hs h1 hv)
end
/-- what a code of one answer comes to -/
def evC (pv : Nat → Int) (fl st : Int → Int) (cs : List Int) : Int := (evS pv fl st cs []).headD 0
theorem evC_of {pv : Nat → Int} {fl st : Int → Int} {q : Int} (hp : pvok q pv) (hf : ∀ a, vt false (fl a)) (hs : ∀ a, vt false (st a)) {cs : List Int} {b : Bool} (h : tyS q cs [] = some [b]) : evS pv fl st cs [] = [evC pv fl st cs] ∧ vt b (evC pv fl st cs) := by
  have h1 := evS_VT (q := q) hp hf hs h (s := []) trivial
  obtain ⟨v, r, e, h2, h3⟩ := VT_1 h1
  cases r with
  | cons _ _ => exact h3.elim
  | nil => unfold evC; rw [e]; exact ⟨rfl, h2⟩
/-- only the parts that may stand there are asked -/
theorem evS_congr {pv pv' : Nat → Int} {fl fl' st st' : Int → Int} {q : Int} (hp : ∀ k : Nat, k < 8 → alw q k = true → pv k = pv' k) (hf : q = 3 → fl = fl' ∧ st = st') : ∀ {cs : List Int} {τ τ' : List Bool} {s : List Int}, tyS q cs τ = some τ' → s.length = τ.length → evS pv fl st cs s = evS pv' fl' st' cs s := by
  intro cs
  induction cs with
  | nil => intro τ τ' s _ _; rfl
  | cons c cs ih =>
    intro τ τ' s h hl
    rw [tyS] at h
    cases h1 : ty1 q c τ with
    | none => rw [h1] at h; cases h
    | some t =>
      rw [h1] at h
      have e : ev1 pv fl st c s = ev1 pv' fl' st' c s ∧ (ev1 pv fl st c s).length = t.length := by
        rcases ty1_inv h1 with ⟨g1, g2, g3, rfl⟩ | ⟨g1, g2, t, rfl, rfl⟩ | ⟨g1, g2, g3, g4, rfl⟩ | ⟨rfl, g2, rfl⟩ | ⟨rfl, t, rfl, rfl⟩ | ⟨g1, t, rfl, rfl⟩ | ⟨g1, t, rfl, rfl⟩ | ⟨g1, t, rfl, rfl⟩
        · rw [ev1_num g1, ev1_num g1]; exact ⟨rfl, by simp [hl]⟩
        · cases s with
          | nil => cases hl
          | cons a s =>
            obtain ⟨rfl, rfl⟩ := hf g2
            rw [ev1_of g1, ev1_of g1]
            exact ⟨rfl, by simpa using hl⟩
        · rw [ev1_part ⟨g1, g2⟩, ev1_part ⟨g1, g2⟩, hp _ (by omega) (by rw [show (((c - 40).toNat : Nat) : Int) = c - 40 by omega]; exact g3)]; exact ⟨rfl, by simp [hl]⟩
        · exact ⟨rfl, by show (1 :: s).length = _; simp [hl]⟩
        · cases s with
          | nil => cases hl
          | cons a s => exact ⟨rfl, hl⟩
        all_goals
          cases s with
          | nil => cases hl
          | cons b s =>
            cases s with
            | nil => simp at hl
            | cons a s =>
              rw [ev1_two (by omega), ev1_two (by omega)]
              exact ⟨rfl, by simpa using hl⟩
      rw [evS, evS, e.1]
      exact ih h (by rw [← e.1]; exact e.2)
/-- no item of the day: the day is not asked -/
theorem evS_day {pv pv' : Nat → Int} {fl st : Int → Int} (hp : ∀ k : Nat, k ≠ 2 → pv k = pv' k) : ∀ {cs : List Int} {s : List Int}, (∀ c ∈ cs, c ≠ 42) → evS pv fl st cs s = evS pv' fl st cs s := by
  intro cs
  induction cs with
  | nil => intro s _; rfl
  | cons c cs ih =>
    intro s h
    have h1 : c ≠ 42 := h c List.mem_cons_self
    have e : ev1 pv fl st c s = ev1 pv' fl st c s := by
      unfold ev1
      by_cases g1 : 1000 ≤ c
      · rw [if_pos g1, if_pos g1]
      rw [if_neg g1, if_neg g1]
      by_cases g2 : 60 ≤ c
      · rw [if_pos g2, if_pos g2]
      rw [if_neg g2, if_neg g2]
      by_cases g3 : 40 ≤ c
      · rw [if_pos g3, if_pos g3, hp _ (by omega)]
      · rw [if_neg g3, if_neg g3]
    rw [evS, evS, e]
    exact ih (fun c hc => h c (List.mem_cons_of_mem _ hc))
/-! rows of cells, as lists -/
def seg (f : Nat → Int) (a : Nat) : Nat → List Int
  | 0 => []
  | n + 1 => f a :: seg f (a + 1) n
def stk (f : Nat → Int) : Nat → List Int
  | 0 => []
  | n + 1 => f n :: stk f n
theorem stk_len (f : Nat → Int) : ∀ n, (stk f n).length = n := by
  intro n
  induction n with
  | zero => rfl
  | succ n ih => rw [stk, List.length_cons, ih]
theorem stk_congr {f g : Nat → Int} : ∀ {n : Nat}, (∀ k, k < n → f k = g k) → stk f n = stk g n := by
  intro n
  induction n with
  | zero => intro _; rfl
  | succ n ih => intro h; rw [stk, stk, h n (by omega), ih (fun k hk => h k (by omega))]
theorem seg_congr {f g : Nat → Int} : ∀ {n a : Nat}, (∀ k, a ≤ k → k < a + n → f k = g k) → seg f a n = seg g a n := by
  intro n
  induction n with
  | zero => intro a _; rfl
  | succ n ih => intro a h; rw [seg, seg, h a (by omega) (by omega), ih (fun k h1 h2 => h k (by omega) (by omega))]
theorem seg_len (f : Nat → Int) : ∀ (n a : Nat), (seg f a n).length = n := by
  intro n
  induction n with
  | zero => intro a; rfl
  | succ n ih => intro a; rw [seg, List.length_cons, ih]
theorem seg_snoc (f : Nat → Int) : ∀ (n a : Nat), seg f a (n + 1) = seg f a n ++ [f (a + n)] := by
  intro n
  induction n with
  | zero => intro a; rfl
  | succ n ih => intro a; rw [seg, ih (a + 1), seg, List.cons_append]; congr 3; congr 1; omega
theorem seg_map (f g : Nat → Int) (h : Int → Int) : ∀ {n a b : Nat}, seg f a n = (seg g b n).map h → ∀ i, i < n → f (a + i) = h (g (b + i)) := by
  intro n
  induction n with
  | zero => intro a b _ i hi; omega
  | succ n ih =>
    intro a b e i hi
    rw [seg, seg, List.map_cons] at e
    injection e with e1 e2
    cases i with
    | zero => exact e1
    | succ i => have := ih e2 i (by omega); rw [show a + (i + 1) = a + 1 + i by omega, show b + (i + 1) = b + 1 + i by omega]; exact this
theorem seg_mk {f g : Nat → Int} {h : Int → Int} : ∀ {n a b : Nat}, (∀ i, i < n → f (a + i) = h (g (b + i))) → seg f a n = (seg g b n).map h := by
  intro n
  induction n with
  | zero => intro a b _; rfl
  | succ n ih =>
    intro a b e
    rw [seg, seg, List.map_cons, ih (a := a + 1) (b := b + 1) (fun i hi => by have := e (i + 1) (by omega); rw [show a + (i + 1) = a + 1 + i by omega, show b + (i + 1) = b + 1 + i by omega] at this; exact this)]
    have := e 0 (by omega)
    rw [Nat.add_zero, Nat.add_zero] at this
    rw [this]
theorem up_s (S : MS) (c k : Nat) (z : Int) : up S c k z c k = z := by unfold up; rw [if_pos rfl, if_pos rfl]
theorem up_k {S : MS} {c k k' : Nat} {z : Int} (h : k' ≠ k) : up S c k z c k' = S c k' := by unfold up; rw [if_pos rfl, if_neg h]
theorem up_c {S : MS} {c c' k : Nat} {z : Int} (h : c' ≠ c) : up S c k z c' = S c' := by funext k'; unfold up; rw [if_neg h]
/-- the class's items out of the reference's codes -/
def mc (c : Int) : Int := if 1000 ≤ c then c - 1000 else if 60 ≤ c then 48 - c else if 40 ≤ c then 39 - c else if c = 13 then 1 else if c = 12 then -11 else -20 - c
