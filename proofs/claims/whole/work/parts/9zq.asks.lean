/-! ASK: what is told at each officer -/
section
variable {n : Nat} {P S T : MS}
theorem seg_list {f : Nat → Int} : ∀ (cs : List Int) (a : Nat), (∀ i, i < cs.length → f (a + i) = cs.getD i 0) → seg f a cs.length = cs := by
  intro cs
  induction cs with
  | nil => intro a _; rfl
  | cons c cs ih =>
    intro a h
    show f a :: seg f (a + 1) cs.length = c :: cs
    rw [ih (a + 1) (fun i hi => by have := h (i + 1) (by rw [List.length_cons]; omega); rw [show a + 1 + i = a + (i + 1) by omega, this]; rfl)]
    have := h 0 (by rw [List.length_cons]; omega)
    rw [show f a = c from this]
def pvq (P : MS) (w : Nat → Int) (o : Nat) (k : Nat) : Int := if k = 0 then P 432 (17 + 2 * o) else if k = 1 then P 432 (16 + 2 * o) else if k = 2 then w 0 else (o : Int)
def flq (P : MS) (w : Nat → Int) (o : Nat) (x : Int) : Int := if 0 ≤ x ∧ x < P 430 5 then w (25 + 4 * o + x.toNat) else 0
def stq (P : MS) (d : Nat → Int) (x : Int) : Int := if 0 ≤ x ∧ x < P 430 4 then d x.toNat else -1
def valQ (P : MS) (w : Nat → Int) (D : Nat → Nat → Int) (cs : List Int) (o : Nat) : Int := evC (pvq P w o) (flq P w o) (stq P (D o)) cs
theorem DST.le7 {w : Nat → Int} {s : Nat} {d : Nat → Int} (h : DST (EDG P w) s d) {x : Nat} (hx : x < 8) : d x ≤ 7 := no8 (d := d) (fun x j hx e => by obtain ⟨y, y1, -, y3⟩ := h.2.2.2.1 x j hx e; exact ⟨y, y1, y3⟩) hx
theorem DST.out {w : Nat → Int} (hP : PLN P) {s : Nat} (hs : s < nOf P) {d : Nat → Int} (h : DST (EDG P w) s d) {x : Nat} (hx : x < 8) (hn : nOf P ≤ x) : d x = -1 := by
  have h1 := h.2.1 x hx
  by_cases c : d x = -1
  · exact c
  · by_cases c2 : d x = 0
    · have := h.2.2.1 x hx c2
      omega
    · obtain ⟨y, -, ⟨k, k1, -, -, k4⟩, -⟩ := h.2.2.2.1 x (d x - 1).toNat hx (by omega)
      have h2 := (toC_b hP k1 (w (2 + 2 * k))).1
      unfold toN at k4
      unfold nOf at hn
      omega
theorem pvq_ok {w : Nat → Int} (hP : PLN P) (hW : WV P w) {o : Nat} (ho : o < 8) : pvok 3 (pvq P w o) := by
  intro k hk ha
  show -1000000 ≤ pvq P w o k ∧ pvq P w o k ≤ 1000000
  have h1 := hP.2.2.2.2.1 (17 + 2 * o) (by omega) (by omega)
  have h2 := hP.2.2.2.2.1 (16 + 2 * o) (by omega) (by omega)
  have h3 := hW.1
  unfold pvq
  split
  · omega
  · split
    · omega
    · split <;> omega
theorem flq_ok {w : Nat → Int} (hP : PLN P) (hW : WV P w) {o : Nat} (ho : o < 8) (x : Int) : vt false (flq P w o x) := by
  show -1000000 ≤ flq P w o x ∧ flq P w o x ≤ 1000000
  unfold flq
  by_cases c : 0 ≤ x ∧ x < P 430 5
  · rw [if_pos c]
    have := hP.2.1
    have := hW.2.2.1 (25 + 4 * o + x.toNat) (by omega) (by omega)
    omega
  · rw [if_neg c]; omega
theorem stq_ok {w : Nat → Int} (hP : PLN P) {s : Nat} {d : Nat → Int} (h : DST (EDG P w) s d) (x : Int) : vt false (stq P d x) := by
  show -1000000 ≤ stq P d x ∧ stq P d x ≤ 1000000
  unfold stq
  by_cases c : 0 ≤ x ∧ x < P 430 4
  · rw [if_pos c]
    have := hP.1
    have h1 := h.2.1 x.toNat (by omega)
    have h2 := h.le7 (x := x.toNat) (by omega)
    omega
  · rw [if_neg c]; omega
theorem set_a7 (z : Int) : m_Co_set_a (-8) z S = some (up S 128 7 z) := by
  rw [e_Co_set_a, if_neg (by decide), if_pos (by decide), if_pos (by decide)]; rfl
theorem set_a0 (z : Int) : m_Co_set_a (-1) z S = some (up S 128 0 z) := by
  rw [e_Co_set_a, if_neg (by decide), if_pos (by decide), if_pos (by decide)]; rfl
theorem set_a1 (z : Int) : m_Co_set_a (-2) z S = some (up S 128 1 z) := by
  rw [e_Co_set_a, if_neg (by decide), if_pos (by decide), if_pos (by decide)]; rfl
theorem set_a2 (z : Int) : m_Co_set_a (-3) z S = some (up S 128 2 z) := by
  rw [e_Co_set_a, if_neg (by decide), if_pos (by decide), if_pos (by decide)]; rfl
/-- what answering changes in the class -/
def FVa (S S' : MS) : Prop := ∀ c, c ≠ 114 → c ≠ 128 → c ≠ 129 → c ≠ 130 → c ≠ 131 → S' c = S c
theorem FVa.rf (S : MS) : FVa S S := fun _ _ _ _ _ _ => rfl
theorem FVa.tr {S S' S'' : MS} (h : FVa S S') (g : FVa S' S'') : FVa S S'' := fun c a1 a2 a3 a4 a5 => (g c a1 a2 a3 a4 a5).trans (h c a1 a2 a3 a4 a5)
/-- what an asked officer needs -/
def AQc (P : MS) (w : Nat → Int) (cs : List Int) (S : MS) : Prop := EM P S ∧ SWn S 24 w ∧ S 126 1 = ((cs.length : Nat) : Int) ∧ ∀ i, i < cs.length → S 127 i = mc (cs.getD i 0)
theorem AQc.fr {w : Nat → Int} {cs : List Int} {S' : MS} (h : AQc P w cs S) (f : FVa S S') : AQc P w cs S' :=
  ⟨h.1.fr (fun c c1 c2 => f c (by omega) (by omega) (by omega) (by omega) (by omega)), h.2.1.fr (by rw [f 24 (by decide) (by decide) (by decide) (by decide) (by decide)]) (by rw [f 24 (by decide) (by decide) (by decide) (by decide) (by decide)]) (by rw [f 24 (by decide) (by decide) (by decide) (by decide) (by decide)]) (f 25 (by decide) (by decide) (by decide) (by decide) (by decide)), by rw [f 126 (by decide) (by decide) (by decide) (by decide) (by decide)]; exact h.2.2.1, by rw [f 127 (by decide) (by decide) (by decide) (by decide) (by decide)]; exact h.2.2.2⟩
theorem c_v69 {w : Nat → Int} {o : Nat} (ho : o < 8) : ∀ (j f : Nat) (S : MS), f + j = 4 → SWn S 24 w → ∃ S', As_valueOf_69 o f S = As_valueOf_69 o 4 S' ∧ (∀ c, c ≠ 129 → S' c = S c) ∧ (∀ i, f ≤ i → i < 4 → S' 129 i = w (25 + 4 * o + i)) ∧ ∀ i, i < f → S' 129 i = S 129 i := by
  intro j
  induction j with
  | zero =>
    intro f S hf _
    have : f = 4 := by omega
    subst this
    exact ⟨S, rfl, fun _ _ => rfl, fun i h1 h2 => by omega, fun _ _ => rfl⟩
  | succ j ih =>
    intro f S hf hS
    rw [e_As_valueOf_69, if_pos (by omega), c_str_now hS ho (by omega), Option.bind_some, if_pos (by omega), Int.toNat_natCast, wr_suc2 (show f < 4 by omega) (by decide)]
    obtain ⟨S', r1, r2, r3, r4⟩ := ih (f + 1) (up S 129 f (w (25 + 4 * o + f))) (by omega) (hS.fr (by rw [up_c (by decide)]) (by rw [up_c (by decide)]) (by rw [up_c (by decide)]) (up_c (by decide)))
    refine ⟨S', r1, fun c hc => by rw [r2 c hc, up_c hc], fun i h1 h2 => ?_, fun i hi => by rw [r4 i (by omega), up_k (by omega)]⟩
    by_cases e : i = f
    · rw [e, r4 f (by omega), up_s]
    · exact r3 i (by omega) h2
theorem c_valueOf {w : Nat → Int} {cs : List Int} {b : Bool} {D : Nat → Nat → Int} (hP : PLN P) (hW : WV P w) (hA : AQc P w cs S) (hl : cs.length ≤ 1601) (ht : tyS 3 cs [] = some [b]) {o : Nat} (ho : o < nOf P) (hD : DST (EDG P w) o (D o)) : ∃ S', m_As_valueOf o S = some (valQ P w D cs o, S') ∧ FVa S S' := by
  have h8 : o < 8 := by have := hP.1; unfold nOf at ho; omega
  obtain ⟨hE, hS, h126, h127⟩ := id hA
  obtain ⟨p1, p2⟩ := hE.1.2.2.2.2.1 o ho
  rw [e_As_valueOf, set_a7, Option.bind_some, if_pos (by omega), set_a0, Option.bind_some, if_pos (by omega), set_a1, Option.bind_some, set_a2, Option.bind_some]
  simp only [Int.toNat_natCast, up_c (show (34 : Nat) ≠ 128 by decide), up_c (show (33 : Nat) ≠ 128 by decide), up_c (show (24 : Nat) ≠ 128 by decide)]
  rw [p1, p2, hS.1]
  generalize hS1 : up (up (up (up S 128 7 (o : Int)) 128 0 (P 432 (17 + 2 * o))) 128 1 (P 432 (16 + 2 * o))) 128 2 (w 0) = S1
  have f1 : ∀ c, c ≠ 128 → S1 c = S c := fun c hc => by rw [← hS1, up_c hc, up_c hc, up_c hc, up_c hc]
  have v1 : S1 128 0 = P 432 (17 + 2 * o) ∧ S1 128 1 = P 432 (16 + 2 * o) ∧ S1 128 2 = w 0 ∧ S1 128 7 = (o : Int) := by rw [← hS1]; exact ⟨rfl, rfl, rfl, rfl⟩
  obtain ⟨S2, r1, r2, r3, -⟩ := c_v69 (o := o) h8 4 0 S1 rfl (hS.fr (by rw [f1 24 (by decide)]) (by rw [f1 24 (by decide)]) (by rw [f1 24 (by decide)]) (f1 25 (by decide)))
  have r1 : As_valueOf_69 o 0 S1 = _ := r1
  have f2 : ∀ c, c ≠ 128 → c ≠ 129 → S2 c = S c := fun c a b => by rw [r2 c b, f1 c a]
  rw [r1, e_As_valueOf_69, if_neg (by decide)]
  obtain ⟨S3, q1, q2, q3⟩ := c_measure (s := o) hP hW (hE.fr (fun c c1 c2 => f2 c (by omega) (by omega))) (hS.fr (by rw [f2 24 (by decide) (by decide)]) (by rw [f2 24 (by decide) (by decide)]) (by rw [f2 24 (by decide) (by decide)]) (f2 25 (by decide) (by decide))) h8
  rw [q1, Option.bind_some]
  generalize hS4 : cpy S3 114 130 0 0 8 = S4
  have f4 : ∀ c, c ≠ 130 → S4 c = S3 c := fun c hc => by rw [← hS4]; exact cpy_c hc
  have v4 : ∀ x, x < 8 → S4 130 x = D o x := fun x hx => by rw [← hS4, cpy_at (by omega)]; exact q2.eq hD hx
  have f5 : ∀ c, c ≠ 114 → c ≠ 128 → c ≠ 129 → c ≠ 130 → S4 c = S c := fun c a1 a2 a3 a4 => by rw [f4 c a4, q3 c a1, f2 c a2 a3]
  have efl : cfl_a S4 = flq P w o := by
    funext x
    unfold cfl_a flq
    by_cases c : 0 ≤ x ∧ x < 4
    · rw [if_pos c, f4 129 (by decide), q3 129 (by decide), r3 x.toNat (by omega) (by omega)]
      by_cases c2 : 0 ≤ x ∧ x < P 430 5
      · rw [if_pos c2]
      · rw [if_neg c2]
        exact hW.2.2.2.1 o x.toNat h8 (by omega) (Or.inr (by unfold nFe; omega))
    · rw [if_neg c, if_neg (by have := hP.2.1; omega)]
  have est : cst_a S4 = stq P (D o) := by
    funext x
    unfold cst_a stq
    by_cases c : 0 ≤ x ∧ x < 8
    · rw [if_pos c, v4 x.toNat (by omega)]
      by_cases c2 : 0 ≤ x ∧ x < P 430 4
      · rw [if_pos c2]
      · rw [if_neg c2]
        exact hD.out hP ho (by omega) (by unfold nOf; omega)
    · rw [if_neg c, if_neg (by have := hP.1; omega)]
  have e126 : S4 126 1 = ((0 + cs.length : Nat) : Int) := by rw [f5 126 (by decide) (by decide) (by decide) (by decide), h126, Nat.zero_add]
  have hpv : ∀ j : Nat, j < 8 → alw 3 j = true → S4 128 j = pvq P w o j := fun j hj ha => by
    rw [f4 128 (by decide), q3 128 (by decide), r2 128 (by decide)]
    rcases (show j = 0 ∨ j = 1 ∨ j = 2 ∨ j = 3 ∨ j = 4 ∨ j = 5 ∨ j = 6 ∨ j = 7 by omega) with rfl | rfl | rfl | rfl | rfl | rfl | rfl | rfl
    · exact v1.1
    · exact v1.2.1
    · exact v1.2.2.1
    · exact absurd ha (by decide)
    · exact absurd ha (by decide)
    · exact absurd ha (by decide)
    · exact absurd ha (by decide)
    · exact v1.2.2.2
  obtain ⟨S5, s1, s2⟩ := c_run_a (S := S4) (a := 0) (pvq_ok hP hW h8) (by rw [e126]; exact Int.le_refl _) (by omega) (fun i hi => by rw [Nat.zero_add, f5 127 (by decide) (by decide) (by decide) (by decide)]; exact h127 i hi) hpv (by rw [efl]; exact flq_ok hP hW h8) (by rw [est]; exact stq_ok hP hD) ht
  have s1 : m_Co_run_a 0 ((0 + cs.length : Nat) : Int) S4 = _ := s1
  rw [e126, s1, efl, est, Option.bind_some]
  exact ⟨S5, rfl, fun c a1 a2 a3 a4 a5 => by rw [s2 c a5, f5 c a1 a2 a3 a4]⟩
end
