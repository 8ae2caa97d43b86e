/-! cutting: what flows at most is what is cut at least -/
section
variable {n : Nat} {P S T : MS}
theorem sumN_upd {g h : Nat → Int} {x : Nat} : ∀ n : Nat, (∀ k, k < n → k ≠ x → h k = g k) → x < n → sumN h n = sumN g n + (h x - g x) := by
  intro n
  induction n with
  | zero => intro _ hx; omega
  | succ n ih =>
    intro e hx
    rw [sumN, sumN]
    by_cases c : x = n
    · subst c
      have := sumN_congr (n := x) (g := h) (h := g) (fun k hk => e k (by omega) (by omega))
      omega
    · have := ih (fun k hk hkx => e k (by omega) hkx) (by omega)
      have := e n (by omega) (by omega)
      omega
theorem sumN_add (g h : Nat → Int) : ∀ n : Nat, sumN (fun k => g k + h k) n = sumN g n + sumN h n := by
  intro n
  induction n with
  | zero => rfl
  | succ n ih => rw [sumN, sumN, sumN, ih]; omega
theorem sumN_sub (g h : Nat → Int) : ∀ n : Nat, sumN (fun k => g k - h k) n = sumN g n - sumN h n := by
  intro n
  induction n with
  | zero => rfl
  | succ n ih => rw [sumN, sumN, sumN, ih]; omega
theorem sumN_zero : ∀ n : Nat, sumN (fun _ => (0 : Int)) n = 0 := by
  intro n
  induction n with
  | zero => rfl
  | succ n ih => rw [sumN, ih]; rfl
theorem sumN_swap (a : Nat → Nat → Int) (m : Nat) : ∀ n : Nat, sumN (fun x => sumN (fun k => a k x) m) n = sumN (fun k => sumN (fun x => a k x) n) m := by
  intro n
  induction n with
  | zero => exact (sumN_zero m).symm
  | succ n ih =>
    rw [sumN, ih, ← sumN_add]
    rfl
theorem sumN_if (c : Bool) (g : Nat → Int) : ∀ n : Nat, (if c = true then sumN g n else 0) = sumN (fun k => if c = true then g k else 0) n := by
  intro n
  cases c
  · rw [if_neg (by decide)]
    exact (sumN_zero n).symm.trans (sumN_congr (fun k _ => (if_neg (by decide)).symm))
  · rw [if_pos rfl]
    exact sumN_congr (fun k _ => (if_pos rfl).symm)
theorem ind_sum (R : Nat → Bool) {y : Nat} (hy : y < 8) : sumN (fun x => if R x = true then (if y = x then (1 : Int) else 0) else 0) 8 = if R y = true then 1 else 0 := by
  rw [sumN_upd (g := fun _ => 0) (x := y) 8 (fun k _ hk => by (try dsimp only); rw [if_neg (show ¬ y = k by omega)]; split <;> rfl) hy, sumN_zero, if_pos (rfl : y = y)]
  split <;> rfl
def inD (c : Bool) : Int := if c = true then 1 else 0
def eN (P : MS) (w : Nat → Int) (k x : Nat) : Int := (if frN P w k = x then 1 else 0) - (if toN P w k = x then 1 else 0)
def netF (P : MS) (w F : Nat → Int) (x : Nat) : Int := sumN (fun k => if F k = 1 then eN P w k x else 0) (nCa P)
def FOK (P : MS) (w F : Nat → Int) : Prop := ∀ k, k < nCa P → (F k = 0 ∨ F k = 1) ∧ (F k = 1 → w (1 + 2 * k) = 1)
def FLW (P : MS) (w F : Nat → Int) (s t : Nat) (v : Int) : Prop := FOK P w F ∧ ∀ x, x < 8 → netF P w F x = (if x = s then v else 0) - (if x = t then v else 0)
def capF (P : MS) (w : Nat → Int) (R : Nat → Bool) : Int := sumN (fun k => if w (1 + 2 * k) = 1 ∧ R (frN P w k) = true ∧ R (toN P w k) = false then 1 else 0) (nCa P)
def RE (P : MS) (w F : Nat → Int) (k u x : Nat) : Prop := w (1 + 2 * k) = 1 ∧ ((F k = 0 ∧ frN P w k = u ∧ toN P w k = x) ∨ (F k = 1 ∧ toN P w k = u ∧ frN P w k = x))
def CUT (P : MS) (w F : Nat → Int) (R : Nat → Bool) : Prop := ∀ k u x, k < nCa P → RE P w F k u x → R u = true → R x = true
theorem FLW.sum {w F : Nat → Int} {s t : Nat} {v : Int} (hP : PLN P) (h : FLW P w F s t v) (hs : s < 8) (R : Nat → Bool) (r1 : R s = true) (r2 : R t = false) : v = sumN (fun k => if F k = 1 then inD (R (frN P w k)) - inD (R (toN P w k)) else 0) (nCa P) := by
  have A : sumN (fun x => if R x = true then netF P w F x else 0) 8 = v := by
    rw [sumN_upd (g := fun _ => 0) (x := s) 8 (fun k hk hks => by
      (try dsimp only)
      by_cases c : R k = true
      · rw [if_pos c, h.2 k hk, if_neg hks, if_neg (fun e => by rw [e, r2] at c; exact absurd c (by decide))]; rfl
      · rw [if_neg c]) hs, sumN_zero, if_pos r1, h.2 s hs, if_pos rfl, if_neg (fun e => by rw [e, r2] at r1; exact absurd r1 (by decide))]
    omega
  have B : sumN (fun x => if R x = true then netF P w F x else 0) 8 = sumN (fun k => sumN (fun x => if R x = true then (if F k = 1 then eN P w k x else 0) else 0) 8) (nCa P) := by
    rw [← sumN_swap (fun k x => if R x = true then (if F k = 1 then eN P w k x else 0) else 0)]
    exact sumN_congr (fun x _ => sumN_if (R x) _ _)
  rw [← A, B]
  refine sumN_congr (fun k hk => ?_)
  (try dsimp only)
  obtain ⟨⟨-, f8⟩, -, t8⟩ := ft_b (w := w) hP hk
  by_cases c : F k = 1
  · rw [if_pos c]
    have e : ∀ x, x < 8 → (if R x = true then (if F k = 1 then eN P w k x else 0) else 0) = (if R x = true then (if frN P w k = x then (1 : Int) else 0) else 0) - (if R x = true then (if toN P w k = x then (1 : Int) else 0) else 0) := fun x _ => by
      rw [if_pos c]
      unfold eN
      split
      · rfl
      · rfl
    rw [sumN_congr e, sumN_sub, ind_sum R f8, ind_sum R t8]
    rfl
  · rw [if_neg c]
    refine (sumN_congr (fun x _ => ?_)).trans (sumN_zero 8)
    rw [if_neg c]
    split <;> rfl
theorem FLW.weak {w F : Nat → Int} {s t : Nat} {v : Int} (hP : PLN P) (h : FLW P w F s t v) (hs : s < 8) (R : Nat → Bool) (r1 : R s = true) (r2 : R t = false) : v ≤ capF P w R := by
  rw [h.sum hP hs R r1 r2]
  refine sumN_le _ (fun k hk => ?_)
  (try dsimp only)
  unfold inD
  by_cases c : F k = 1
  · rw [if_pos c]
    have := (h.1 k hk).2 c
    cases R (frN P w k) <;> cases R (toN P w k) <;> simp [this]
  · rw [if_neg c]
    split <;> omega
theorem FLW.strong {w F : Nat → Int} {s t : Nat} {v : Int} (hP : PLN P) (h : FLW P w F s t v) (hs : s < 8) (R : Nat → Bool) (r1 : R s = true) (r2 : R t = false) (hc : CUT P w F R) : v = capF P w R := by
  rw [h.sum hP hs R r1 r2]
  refine sumN_congr (fun k hk => ?_)
  (try dsimp only)
  unfold inD
  by_cases c : F k = 1
  · rw [if_pos c]
    have hi := (h.1 k hk).2 c
    have g := hc k (toN P w k) (frN P w k) hk ⟨hi, Or.inr ⟨c, rfl, rfl⟩⟩
    revert g
    cases R (frN P w k) <;> cases R (toN P w k) <;> simp [hi]
  · rw [if_neg c]
    have c0 := ((h.1 k hk).1).resolve_right c
    rw [if_neg (fun ⟨a1, a2, a3⟩ => by
      have g := hc k (frN P w k) (toN P w k) hk ⟨a1, Or.inl ⟨c0, rfl, rfl⟩⟩ a2
      rw [a3] at g
      exact absurd g (by decide))]
theorem FLW.le12 {w F : Nat → Int} {s t : Nat} {v : Int} (hP : PLN P) (h : FLW P w F s t v) (hs : s < 8) (hst : s ≠ t) : v ≤ 12 := by
  have h1 := h.2 s hs
  rw [if_pos rfl, if_neg hst] at h1
  have h2 := sumN_le (g := fun k => if F k = 1 then eN P w k s else 0) (h := fun _ => 1) (nCa P) (fun k hk => by
    (try dsimp only)
    split
    · unfold eN
      split <;> split <;> omega
    · omega)
  have h3 := (sumN_b (B := 1) (g := fun _ => 1) (n := nCa P) (fun k _ => by omega)).2
  have h4 := nCa_le hP
  unfold netF at h1
  omega
/-- two flows, one with a cut, the other with a cut or of twelve -/
theorem flw_eq {w F F' : Nat → Int} {s t : Nat} {v v' : Int} (hP : PLN P) (h : FLW P w F s t v) (h' : FLW P w F' s t v') (hs : s < 8) (hst : s ≠ t) {R : Nat → Bool} (r1 : R s = true) (r2 : R t = false) (hc : CUT P w F' R)
    (q : v = 12 ∨ ∃ R' : Nat → Bool, R' s = true ∧ R' t = false ∧ CUT P w F R') : v = v' := by
  have a1 := h.weak hP hs R r1 r2
  have a2 := h'.strong hP hs R r1 r2 hc
  rcases q with q | ⟨R', q1, q2, q3⟩
  · have := h'.le12 hP hs hst
    omega
  · have b1 := h'.weak hP hs R' q1 q2
    have b2 := h.strong hP hs R' q1 q2 q3
    omega
def flp (F : Nat → Int) (k : Nat) (j : Nat) : Int := if j = k then 1 - F k else F j
theorem RE.flip {w F : Nat → Int} {k u x : Nat} (h : RE P w F k u x) (hk : k < nCa P) (y : Nat) : netF P w (flp F k) y = netF P w F y + ((if y = u then 1 else 0) - (if y = x then 1 else 0)) := by
  unfold netF
  rw [sumN_upd (g := fun k => if F k = 1 then eN P w k y else 0) (x := k) (nCa P) (fun j _ hj => by unfold flp; rw [if_neg hj]) hk]
  congr 1
  unfold flp eN
  rw [if_pos rfl]
  obtain ⟨-, ⟨h0, rfl, rfl⟩ | ⟨h0, rfl, rfl⟩⟩ := h
  · rw [h0, if_pos (by decide), if_neg (show ¬ (0 : Int) = 1 by decide)]
    simp only [eq_comm (a := y)]
    omega
  · rw [h0, if_neg (show ¬ (1 : Int) - 1 = 1 by decide), if_pos rfl]
    simp only [eq_comm (a := y)]
    omega
theorem FOK.flip {w F : Nat → Int} {k u x : Nat} (h : FOK P w F) (g : RE P w F k u x) : FOK P w (flp F k) := by
  intro j hj
  unfold flp
  by_cases c : j = k
  · subst c
    rw [if_pos rfl]
    have := (h j hj).1
    exact ⟨by omega, fun _ => g.1⟩
  · rw [if_neg c]; exact h j hj
/-- a tree of ways from s, each by a carbon -/
def TRE (P : MS) (w F : Nat → Int) (s : Nat) (V : Nat → Prop) (cm r : Nat → Nat) : Prop := r s = 0 ∧ ∀ x, x < 8 → V x → r x ≤ 7 ∧ (x ≠ s → ∃ u, u < 8 ∧ V u ∧ r u < r x ∧ cm x < nCa P ∧ RE P w F (cm x) u x)
def WK (P : MS) (w F0 F : Nat → Int) (s t : Nat) (v : Int) (V : Nat → Prop) (cm r : Nat → Nat) (z : Nat) : Prop := FOK P w F ∧ (∀ y, y < 8 → V y → y ≠ s → r y ≤ r z → F (cm y) = F0 (cm y)) ∧ ∀ x, x < 8 → netF P w F x = (if x = s then v else 0) - (if x = t then v + 1 else 0) + (if x = z then 1 else 0)
theorem WK.beg {w F : Nat → Int} {s t : Nat} {v : Int} {V : Nat → Prop} {cm r : Nat → Nat} (h : FLW P w F s t v) : WK P w F F s t v V cm r t := by
  refine ⟨h.1, fun _ _ _ _ _ => rfl, fun x hx => ?_⟩
  rw [h.2 x hx]
  by_cases c : x = t
  · rw [if_pos c, if_pos c, if_pos c]; omega
  · rw [if_neg c, if_neg c, if_neg c]; omega
theorem WK.fin {w F0 F : Nat → Int} {s t : Nat} {v : Int} {V : Nat → Prop} {cm r : Nat → Nat} (h : WK P w F0 F s t v V cm r s) : FLW P w F s t (v + 1) := by
  refine ⟨h.1, fun x hx => ?_⟩
  rw [h.2.2 x hx]
  by_cases c : x = s
  · rw [if_pos c, if_pos c, if_pos c]; omega
  · rw [if_neg c, if_neg c, if_neg c]; omega
theorem WK.step {w F0 F : Nat → Int} {s t z : Nat} {v : Int} {V : Nat → Prop} {cm r : Nat → Nat} (hT : TRE P w F0 s V cm r) (h : WK P w F0 F s t v V cm r z) (hz : z < 8) (hV : V z) (hs : z ≠ s) : ∃ u, u < 8 ∧ V u ∧ r u < r z ∧ cm z < nCa P ∧ u ≠ z ∧ RE P w F (cm z) u z ∧ WK P w F0 (flp F (cm z)) s t v V cm r u := by
  obtain ⟨u, u1, u2, u3, u4, u5⟩ := (hT.2 z hz hV).2 hs
  have e := h.2.1 z hz hV hs (Nat.le_refl _)
  have hr : RE P w F (cm z) u z := by unfold RE; rw [e]; exact u5
  refine ⟨u, u1, u2, u3, u4, fun q => by rw [q] at u3; omega, hr, h.1.flip hr, fun y hy hVy hys hry => ?_, fun x hx => ?_⟩
  · have ne : cm y ≠ cm z := fun q => by
      obtain ⟨u', -, -, -, -, g5⟩ := (hT.2 y hy hVy).2 hys
      rw [q] at g5
      obtain ⟨-, ⟨a1, a2, a3⟩ | ⟨a1, a2, a3⟩⟩ := g5 <;> obtain ⟨-, ⟨b1, b2, b3⟩ | ⟨b1, b2, b3⟩⟩ := u5
      · rw [show y = z by omega] at hry; omega
      · omega
      · omega
      · rw [show y = z by omega] at hry; omega
    unfold flp
    rw [if_neg ne]
    exact h.2.1 y hy hVy hys (by omega)
  · rw [hr.flip u4 x, h.2.2 x hx]
    omega
end
