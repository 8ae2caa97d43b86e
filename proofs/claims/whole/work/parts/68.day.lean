/-! A DAY, by the engine -/
/-- sums of what comes, carbon by carbon -/
def sumA (P : MS) (d : Int) (inb tub s : Nat → Int) : Nat → Nat → Int
  | 0, o => if 0 < s o then fadeV P d (s o) o else 0
  | n + 1, o => if toC P n (tub n) = (o : Int) ∧ inb n = 1 ∧ 0 < s (frC P n (tub n)).toNat then sumA P d inb tub s n o + passV P d n (tub n) (s (frC P n (tub n)).toNat) else sumA P d inb tub s n o
def nxt (P : MS) (d : Int) (inb tub s : Nat → Int) (o : Nat) : Int := cutF (sumA P d inb tub s (nCa P) o)
theorem sumA_b (P : MS) (d : Int) (inb tub s : Nat → Int) (o : Nat) : ∀ n : Nat, 0 ≤ sumA P d inb tub s n o ∧ sumA P d inb tub s n o ≤ 99 + 99 * (n : Int) := by
  intro n
  induction n with
  | zero =>
    rw [sumA]
    split
    · have := cutF_b (evC (pvF P d (s o) 0 o) z0 z0 (lawC P 1))
      unfold fadeV
      omega
    · omega
  | succ n ih =>
    rw [sumA]
    split
    · have := cutF_b (evC (pvP P d (s (frC P n (tub n)).toNat) n (toC P n (tub n)).toNat) z0 z0 (lawC P 0))
      unfold passV
      omega
    · omega
theorem nxt_b (P : MS) (d : Int) (inb tub s : Nat → Int) (o : Nat) : 0 ≤ nxt P d inb tub s o ∧ nxt P d inb tub s o ≤ 99 := cutF_b _
theorem sumA_0 (P : MS) (d : Int) (inb tub s : Nat → Int) (hs : ∀ o : Nat, s o ≤ 0) (o : Nat) : ∀ n : Nat, sumA P d inb tub s n o = 0 := by
  intro n
  induction n with
  | zero => rw [sumA, if_neg (by have := hs o; omega)]
  | succ n ih => rw [sumA, if_neg (fun h => by have := hs (frC P n (tub n)).toNat; omega), ih]
theorem nxt_0 (P : MS) (d : Int) (inb tub s : Nat → Int) (hs : ∀ o : Nat, s o ≤ 0) (o : Nat) : nxt P d inb tub s o = 0 := by
  unfold nxt; rw [sumA_0 P d inb tub s hs o]; rfl
theorem sumA_congr {P : MS} {d : Int} {inb inb' tub tub' s s' : Nat → Int} (hP : PLN P) (hi : ∀ k, k < nCa P → inb k = inb' k) (ht : ∀ k, k < nCa P → tub k = tub' k) (hs : ∀ o, o < 8 → s o = s' o) : ∀ n : Nat, n ≤ nCa P → ∀ o : Nat, o < 8 → sumA P d inb tub s n o = sumA P d inb' tub' s' n o := by
  intro n
  induction n with
  | zero => intro _ o ho; rw [sumA, sumA, hs o ho]
  | succ n ih =>
    intro hn o ho
    have hf := (toC_b hP (k := n) (by omega) (tub n)).2
    have hO8 : P 430 4 ≤ 8 := hP.1.2
    rw [sumA, sumA, ih (by omega) o ho, hs _ (show (frC P n (tub n)).toNat < 8 by omega), hi n (by omega), ht n (by omega)]
theorem nxt_congr {P : MS} {d : Int} {inb inb' tub tub' s s' : Nat → Int} (hP : PLN P) (hi : ∀ k, k < nCa P → inb k = inb' k) (ht : ∀ k, k < nCa P → tub k = tub' k) (hs : ∀ o, o < 8 → s o = s' o) {o : Nat} (ho : o < 8) : nxt P d inb tub s o = nxt P d inb' tub' s' o := by
  unfold nxt; rw [sumA_congr hP hi ht hs _ (Nat.le_refl _) o ho]
/-- nobody beyond the officers there are -/
theorem sumA_out {P : MS} {d : Int} {inb tub s : Nat → Int} (hP : PLN P) (hs : ∀ o : Nat, nOf P ≤ o → s o = 0) : ∀ n : Nat, n ≤ nCa P → ∀ o : Nat, nOf P ≤ o → sumA P d inb tub s n o = 0 := by
  intro n
  induction n with
  | zero => intro _ o ho; rw [sumA, if_neg (by rw [hs o ho]; omega)]
  | succ n ih =>
    intro hn o ho
    have hf := (toC_b hP (k := n) (by omega) (tub n)).1
    rw [sumA, if_neg (fun h => by unfold nOf at ho; omega), ih (by omega) o ho]
theorem nxt_out {P : MS} {d : Int} {inb tub s : Nat → Int} (hP : PLN P) (hs : ∀ o : Nat, nOf P ≤ o → s o = 0) {o : Nat} (ho : nOf P ≤ o) : nxt P d inb tub s o = 0 := by
  unfold nxt; rw [sumA_out hP hs _ (Nat.le_refl _) o ho]; rfl
theorem c_strengthIn {F o : Int} {S : MS} (h0 : 0 ≤ F) (h1 : F < ((2 ^ 56 : Nat) : Int)) (ho : 0 ≤ o ∧ o < 8) : m_Ma_strengthIn F o S = some (dg F o.toNat, S) := by
  have h56 : ((2 ^ 56 : Nat) : Int) = 72057594037927936 := rfl
  rw [e_Ma_strengthIn, strengthIn_dg h0 (by omega) ho.1 ho.2]
/-- all that the engine wants: a right plan, right answers kept, its day -/
def EN (P : MS) (d : Int) (S : MS) : Prop := CP P S ∧ CK P S ∧ CV S ∧ S 30 4 = d
theorem EN.fs {P : MS} {d : Int} {S S' : MS} (h : EN P d S) (f : FS S S') (k : CK P S') : EN P d S' :=
  ⟨h.1.fe f.fe, k, h.2.2.1.fe f.fe, by rw [f 30 (by decide) (by decide) (by decide) (by decide)]; exact h.2.2.2⟩
/-- cells 50 (the sums) aside -/
def FN (S S' : MS) : Prop := ∀ c, c ≠ 42 → c ≠ 45 → c ≠ 48 → c ≠ 49 → c ≠ 50 → S' c = S c
theorem FN.rf (S : MS) : FN S S := fun _ _ _ _ _ _ => rfl
theorem FN.tr {S S' S'' : MS} (h : FN S S') (g : FN S' S'') : FN S S'' := fun c a1 a2 a3 a4 a5 => (g c a1 a2 a3 a4 a5).trans (h c a1 a2 a3 a4 a5)
theorem FN.fe {S S' : MS} (h : FN S S') : FE S S' := ⟨fun c _ a2 a3 a4 a5 a6 => h c a2 a3 a4 a5 a6, fun k _ _ => by rw [h 30 (by decide) (by decide) (by decide) (by decide) (by decide)]⟩
theorem FS.fn {S S' : MS} (h : FS S S') : FN S S' := fun c a1 a2 a3 a4 _ => h c a1 a2 a3 a4
theorem FN_50 {S : MS} {k : Nat} {z : Int} : FN S (up S 50 k z) := fun c _ _ _ _ a5 => up_c a5
theorem EN.up50 {P : MS} {d : Int} {S : MS} {k : Nat} {z : Int} (h : EN P d S) : EN P d (up S 50 k z) :=
  ⟨h.1.fe FN_50.fe, h.2.1.fr (up_c (by decide)) (up_c (by decide)) (up_c (by decide)) (up_c (by decide)), h.2.2.1.fe FN_50.fe, by rw [up_c (by decide)]; exact h.2.2.2⟩
section
variable {P : MS} {d F inn tur : Int}
theorem c_next1 (hP : PLN P) (hd : 0 ≤ d ∧ d ≤ 2000) (hF : 0 ≤ F ∧ F < ((2 ^ 56 : Nat) : Int)) (hb : ∀ o : Nat, o < 8 → dg F o ≤ 99) (hz : ∀ o : Nat, nOf P ≤ o → dg F o = 0) : ∀ (n v : Nat) (S : MS), v + n = 8 → EN P d S → (∀ o : Nat, o < v → S 50 o = (if 0 < dg F o then fadeV P d (dg F o) o else 0)) →
    ∃ S', En_next_11 F inn tur v S = En_next_59 F inn tur 0 S' ∧ EN P d S' ∧ FN S S' ∧ ∀ o : Nat, o < 8 → S' 50 o = (if 0 < dg F o then fadeV P d (dg F o) o else 0) := by
  intro n
  induction n with
  | zero =>
    intro v S hv hE hs
    rw [e_En_next_11, if_neg (by omega)]
    exact ⟨S, rfl, hE, FN.rf S, fun o ho => hs o (by omega)⟩
  | succ n ih =>
    intro v S hv hE hs
    rw [e_En_next_11, if_pos (by omega), c_strengthIn hF.1 hF.2 (by omega), Option.bind_some, Int.toNat_natCast, wrN (z := (v : Int) + 1) (by omega) (by omega)]
    dsimp only
    by_cases h0 : 0 < dg F v
    · have hvO : v < nOf P := by
        apply Classical.byContradiction
        intro h
        have := hz v (by omega)
        omega
      obtain ⟨S1, r1, r2, r3⟩ := c_faded hP hE.1 hE.2.1 hE.2.2.1 hvO (s := dg F v) (d := d) ⟨by omega, hb v (by omega)⟩ hE.2.2.2 hd
      rw [if_pos h0, r1, Option.bind_some, if_pos (by omega)]
      obtain ⟨S', q1, q2, q3, q4⟩ := ih (v + 1) (up S1 50 v (fadeV P d (dg F v) v)) (by omega) (hE.fs r2 r3).up50 (fun o ho => by
        by_cases e : o = v
        · subst e; rw [up_s, if_pos h0]
        · rw [up_k e, r2 50 (by decide) (by decide) (by decide) (by decide)]; exact hs o (by omega))
      exact ⟨S', q1, q2, r2.fn.tr (FN_50.tr q3), q4⟩
    · rw [if_neg h0, if_pos (by omega)]
      obtain ⟨S', q1, q2, q3, q4⟩ := ih (v + 1) (up S 50 v 0) (by omega) hE.up50 (fun o ho => by
        by_cases e : o = v
        · subst e; rw [up_s, if_neg h0]
        · rw [up_k e]; exact hs o (by omega))
      exact ⟨S', q1, q2, FN_50.tr q3, q4⟩
theorem c_next2 (hP : PLN P) (hd : 0 ≤ d ∧ d ≤ 2000) (hF : 0 ≤ F ∧ F < ((2 ^ 56 : Nat) : Int)) (hb : ∀ o : Nat, o < 8 → dg F o ≤ 99) (hi : -2147483648 ≤ inn ∧ inn < 2147483648) (ht : -2147483648 ≤ tur ∧ tur < 2147483648) : ∀ (n v : Nat) (S : MS), v + n = nCa P → EN P d S → (∀ o : Nat, o < 8 → S 50 o = sumA P d (bt inn) (bt tur) (dg F) v o) →
    ∃ S', En_next_59 F inn tur v S = En_next_143 0 0 S' ∧ EN P d S' ∧ FN S S' ∧ ∀ o : Nat, o < 8 → S' 50 o = sumA P d (bt inn) (bt tur) (dg F) (nCa P) o := by
  intro n
  induction n with
  | zero =>
    intro v S hv hE hs
    have h2 := hE.1.2.2.1
    have h3 := hP.2.2.1
    rw [e_En_next_59, if_neg (by rw [h2]; unfold nCa at hv; omega)]
    exact ⟨S, rfl, hE, FN.rf S, fun o ho => by rw [hs o ho, show v = nCa P by omega]⟩
  | succ n ih =>
    intro v S hv hE hs
    have h2 := hE.1.2.2.1
    have h3 := hP.2.2.1
    have h12 := nCa_le hP
    have hvC : v < nCa P := by omega
    have hO8 : P 430 4 ≤ 8 := hP.1.2
    obtain ⟨hto, hfr⟩ := toC_b hP hvC (bt tur v)
    rw [e_En_next_59, if_pos (by rw [h2]; unfold nCa at hvC; omega), c_giverP hE.1 hvC (by omega) ht, Option.bind_some]
    dsimp only
    rw [c_strengthIn hF.1 hF.2 (by omega), Option.bind_some, wrN (z := (v : Int) + 1) (by omega) (by omega), bt_of hi.1 hi.2 (by omega) (by omega), bt_of ht.1 ht.2 (by omega) (by omega), Int.toNat_natCast]
    dsimp only
    by_cases c1 : bt inn v = 1
    · rw [if_pos c1]
      by_cases c2 : 0 < dg F (frC P v (bt tur v)).toNat
      · rw [if_pos c2, c_takerP hE.1 hvC (by omega) ht, Option.bind_some]
        dsimp only
        obtain ⟨S1, r1, r2, r3⟩ := c_passed hP hE.1 hE.2.1 hE.2.2.1 hvC (b := bt tur v) (s := dg F (frC P v (bt tur v)).toNat) (d := d) (bt_01 _ _) ⟨by omega, hb _ (by omega)⟩ hE.2.2.2 hd
        have hsm := sumA_b P d (bt inn) (bt tur) (dg F) (toC P v (bt tur v)).toNat v
        have hpb : 0 ≤ passV P d v (bt tur v) (dg F (frC P v (bt tur v)).toNat) ∧ passV P d v (bt tur v) (dg F (frC P v (bt tur v)).toNat) ≤ 99 := cutF_b _
        rw [if_pos (by omega), r1, Option.bind_some, if_pos (by omega)]
        dsimp only
        rw [hs _ (by omega), wrN (by omega) (by omega)]
        obtain ⟨S', q1, q2, q3, q4⟩ := ih (v + 1) (up S1 50 (toC P v (bt tur v)).toNat (sumA P d (bt inn) (bt tur) (dg F) v (toC P v (bt tur v)).toNat + passV P d v (bt tur v) (dg F (frC P v (bt tur v)).toNat))) (by omega) (hE.fs r2 r3).up50 (fun o ho => by
          rw [sumA]
          by_cases e : o = (toC P v (bt tur v)).toNat
          · rw [e, up_s, if_pos ⟨by omega, c1, c2⟩]
          · rw [up_k e, r2 50 (by decide) (by decide) (by decide) (by decide), if_neg (fun h => e (by omega))]; exact hs o ho)
        exact ⟨S', q1, q2, r2.fn.tr (FN_50.tr q3), q4⟩
      · rw [if_neg c2]
        obtain ⟨S', q1, q2, q3, q4⟩ := ih (v + 1) S (by omega) hE (fun o ho => by rw [sumA, if_neg (fun h => c2 h.2.2)]; exact hs o ho)
        exact ⟨S', q1, q2, q3, q4⟩
    · rw [if_neg c1]
      obtain ⟨S', q1, q2, q3, q4⟩ := ih (v + 1) S (by omega) hE (fun o ho => by rw [sumA, if_neg (fun h => c1 h.2.1)]; exact hs o ho)
      exact ⟨S', q1, q2, q3, q4⟩
theorem c_next3 {s : Nat → Int} {S : MS} (hs : ∀ o : Nat, o < 8 → S 50 o = s o) : ∀ (n v : Nat) (acc : Int), v + n = 8 → 0 ≤ acc → acc < ((2 ^ (7 * v) : Nat) : Int) → (∀ j : Nat, j < v → dg acc j = cutF (s j)) →
    ∃ F', En_next_143 acc v S = some (F', S) ∧ (0 ≤ F' ∧ F' < ((2 ^ 56 : Nat) : Int)) ∧ ∀ j : Nat, j < 8 → dg F' j = cutF (s j) := by
  intro n
  induction n with
  | zero =>
    intro v acc hv h0 h1 h2
    obtain rfl : v = 8 := by omega
    rw [e_En_next_143, if_neg (by omega)]
    exact ⟨acc, rfl, ⟨h0, h1⟩, h2⟩
  | succ n ih =>
    intro v acc hv h0 h1 h2
    have hc := cutF_b (s v)
    rw [e_En_next_143, if_pos (by omega), if_pos (by omega), Int.toNat_natCast, hs v (by omega), c_cut, Option.bind_some]
    dsimp only
    rw [e_Ma_packed, Option.bind_some]
    dsimp only
    obtain ⟨p1, p2⟩ := pack_add (acc := acc) (v := cutF (s v)) (o := v) h0 h1 hc.1 (by omega) (by omega)
    rw [p1, wrN (z := (v : Int) + 1) (by omega) (by omega)]
    have hp0 : 0 ≤ cutF (s v) * ((2 ^ (7 * v) : Nat) : Int) := Int.mul_nonneg hc.1 (by omega)
    exact ih (v + 1) _ (by omega) (by omega) p2 (fun j hj => by
      rw [dg_pack h0 h1 hc.1 (by omega) (by omega)]
      by_cases e : j = v
      · rw [if_pos e, e]
      · rw [if_neg e]; exact h2 j (by omega))
theorem dg_zero (o : Nat) : dg 0 o = 0 := by unfold dg; rw [Int.zero_ediv]; rfl
theorem dg_out {F : Int} (h0 : 0 ≤ F) (h1 : F < ((2 ^ 56 : Nat) : Int)) {o : Nat} (ho : 8 ≤ o) : dg F o = 0 := by
  unfold dg
  have hp : (2 : Nat) ^ 56 ≤ 2 ^ (7 * o) := Nat.pow_le_pow_right (by decide) (by omega)
  rw [Int.ediv_eq_zero_of_lt h0 (by omega)]
  rfl
theorem c_next (hP : PLN P) (hd : 0 ≤ d ∧ d ≤ 2000) (hF : 0 ≤ F ∧ F < ((2 ^ 56 : Nat) : Int)) (hb : ∀ o : Nat, o < 8 → dg F o ≤ 99) (hz : ∀ o : Nat, nOf P ≤ o → dg F o = 0) (hi : -2147483648 ≤ inn ∧ inn < 2147483648) (ht : -2147483648 ≤ tur ∧ tur < 2147483648) {S : MS} (hE : EN P d S) :
    ∃ F' S', m_En_next F inn tur S = some (F', S') ∧ EN P d S' ∧ FN S S' ∧ (0 ≤ F' ∧ F' < ((2 ^ 56 : Nat) : Int)) ∧ ∀ o : Nat, o < 8 → dg F' o = nxt P d (bt inn) (bt tur) (dg F) o := by
  rw [e_En_next]
  by_cases h0 : F = 0
  · rw [if_pos (lcp_0.mpr h0)]
    refine ⟨0, S, rfl, hE, FN.rf S, by decide, fun o ho => ?_⟩
    rw [dg_zero, nxt_0 _ _ _ _ _ (fun o => by rw [h0, dg_zero]; omega)]
  · rw [if_neg (fun h => h0 (lcp_0.mp h))]
    obtain ⟨S1, r1, r2, r3, r4⟩ := c_next1 (inn := inn) (tur := tur) hP hd hF hb hz 8 0 S rfl hE (fun o ho => by omega)
    obtain ⟨S2, q1, q2, q3, q4⟩ := c_next2 hP hd hF hb hi ht (nCa P) 0 S1 (by omega) r2 (fun o ho => by rw [r4 o ho]; rfl)
    obtain ⟨F', t1, t2, t3⟩ := c_next3 (S := S2) (s := fun o => sumA P d (bt inn) (bt tur) (dg F) (nCa P) o) q4 8 0 0 rfl (by omega) (by decide) (fun j hj => by omega)
    exact ⟨F', S2, r1.trans (q1.trans t1), q2, r3.tr q3, t2, t3⟩
end
/-! a world, as the class keeps it: at the cell C the DAY, the carbons, behind it the strengths -/
def WV (P : MS) (w : Nat → Int) : Prop :=
  (0 ≤ w 0 ∧ w 0 ≤ 2000) ∧ (∀ k, k < 12 → (w (1 + 2 * k) = 0 ∨ w (1 + 2 * k) = 1) ∧ (w (2 + 2 * k) = 0 ∨ w (2 + 2 * k) = 1)) ∧
  (∀ i, 25 ≤ i → i < 57 → 0 ≤ w i ∧ w i ≤ 99) ∧ (∀ o f, o < 8 → f < 4 → nOf P ≤ o ∨ nFe P ≤ f → w (25 + 4 * o + f) = 0) ∧ ∀ k, nCa P ≤ k → k < 12 → w (1 + 2 * k) = 0 ∧ w (2 + 2 * k) = 0
def colW (w : Nat → Int) (f o : Nat) : Int := w (25 + 4 * o + f)
def inW (w : Nat → Int) (k : Nat) : Int := w (1 + 2 * k)
def tuW (w : Nat → Int) (k : Nat) : Int := w (2 + 2 * k)
def SWn (S : MS) (C : Nat) (w : Nat → Int) : Prop :=
  S C 0 = w 0 ∧ (0 ≤ S C 1 ∧ S C 1 < 4096) ∧ (0 ≤ S C 2 ∧ S C 2 < 4096) ∧ (∀ k, k < 12 → bt (S C 1) k = w (1 + 2 * k) ∧ bt (S C 2) k = w (2 + 2 * k)) ∧
  ∀ f, f < 4 → (0 ≤ S (C + 1) f ∧ S (C + 1) f < ((2 ^ 56 : Nat) : Int)) ∧ ∀ o, o < 8 → dg (S (C + 1) f) o = w (25 + 4 * o + f)
/-- one day later, but for the DAY: the strengths -/
def goW (P : MS) (w : Nat → Int) (i : Nat) : Int := if 25 ≤ i ∧ i < 57 then nxt P (w 0) (inW w) (tuW w) (colW w ((i - 25) % 4)) ((i - 25) / 4) else w i
theorem goW_s (P : MS) (w : Nat → Int) {o f : Nat} (ho : o < 8) (hf : f < 4) : goW P w (25 + 4 * o + f) = nxt P (w 0) (inW w) (tuW w) (colW w f) o := by
  unfold goW
  rw [if_pos (by omega), show (25 + 4 * o + f - 25) % 4 = f by omega, show (25 + 4 * o + f - 25) / 4 = o by omega]
theorem goW_o (P : MS) (w : Nat → Int) {i : Nat} (h : i < 25 ∨ 57 ≤ i) : goW P w i = w i := by unfold goW; rw [if_neg (by omega)]
def dayP (w : Nat → Int) (i : Nat) : Int := if i = 0 then w 0 + 1 else w i
theorem colW_out {P : MS} {w : Nat → Int} (h : WV P w) {f : Nat} (hf : f < 4) (hfe : nFe P ≤ f) {o : Nat} (ho : o < 8) : colW w f o = 0 := h.2.2.2.1 o f ho hf (Or.inr hfe)
theorem goW_WV {P : MS} (hP : PLN P) {w : Nat → Int} (h : WV P w) : WV P (goW P w) := by
  have hO := nOf_le hP
  refine ⟨by rw [goW_o _ _ (Or.inl (by decide))]; exact h.1, fun k hk => by rw [goW_o _ _ (Or.inl (by omega)), goW_o _ _ (Or.inl (by omega))]; exact h.2.1 k hk, fun i h1 h2 => ?_, fun o f ho hf hc => ?_, fun k h1 h2 => by rw [goW_o _ _ (Or.inl (by omega)), goW_o _ _ (Or.inl (by omega))]; exact h.2.2.2.2 k h1 h2⟩
  · unfold goW
    rw [if_pos ⟨h1, h2⟩]
    exact nxt_b _ _ _ _ _ _
  · rw [goW_s P w ho hf]
    rcases hc with hc | hc
    · have e : nxt P (w 0) (inW w) (tuW w) (colW w f) o = nxt P (w 0) (inW w) (tuW w) (fun x => if x < 8 then colW w f x else 0) o := nxt_congr hP (fun _ _ => rfl) (fun _ _ => rfl) (fun x hx => by rw [if_pos hx]) ho
      rw [e]
      refine nxt_out hP (fun x hx => ?_) hc
      split
      · rename_i hx8; exact h.2.2.2.1 x f hx8 hf (Or.inl hx)
      · rfl
    · have e : nxt P (w 0) (inW w) (tuW w) (colW w f) o = nxt P (w 0) (inW w) (tuW w) (fun _ => 0) o := nxt_congr hP (fun _ _ => rfl) (fun _ _ => rfl) (fun x hx => colW_out h hf hc hx) ho
      rw [e]
      exact nxt_0 _ _ _ _ _ (fun _ => by omega) o
theorem WV_day {P : MS} {w : Nat → Int} (h : WV P w) (hd : w 0 < 2000) : WV P (dayP w) := by
  refine ⟨by unfold dayP; rw [if_pos rfl]; have := h.1; omega, fun k hk => ?_, fun i h1 h2 => ?_, fun o f ho hf hc => ?_, fun k h1 h2 => ?_⟩
  · unfold dayP; rw [if_neg (by omega), if_neg (by omega)]; exact h.2.1 k hk
  · unfold dayP; rw [if_neg (by omega)]; exact h.2.2.1 i h1 h2
  · unfold dayP; rw [if_neg (by omega)]; exact h.2.2.2.1 o f ho hf hc
  · unfold dayP; rw [if_neg (by omega), if_neg (by omega)]; exact h.2.2.2.2 k h1 h2
/-- strengths of a state are those of the world -/
theorem c_nextW {P : MS} {w : Nat → Int} {S : MS} {F inn tur : Int} {f : Nat} (hP : PLN P) (hW : WV P w) (hf : f < 4) (hF : (0 ≤ F ∧ F < ((2 ^ 56 : Nat) : Int)) ∧ ∀ o, o < 8 → dg F o = w (25 + 4 * o + f)) (hi : (0 ≤ inn ∧ inn < 4096) ∧ ∀ k, k < 12 → bt inn k = w (1 + 2 * k)) (ht : (0 ≤ tur ∧ tur < 4096) ∧ ∀ k, k < 12 → bt tur k = w (2 + 2 * k)) (hE : EN P (w 0) S) :
    ∃ F' S', m_En_next F inn tur S = some (F', S') ∧ EN P (w 0) S' ∧ FN S S' ∧ (0 ≤ F' ∧ F' < ((2 ^ 56 : Nat) : Int)) ∧ ∀ o, o < 8 → dg F' o = goW P w (25 + 4 * o + f) := by
  have h12 := nCa_le hP
  obtain ⟨F', S', r1, r2, r3, r4, r5⟩ := c_next (inn := inn) (tur := tur) hP hW.1 hF.1 (fun o ho => by rw [hF.2 o ho]; exact (hW.2.2.1 _ (by omega) (by omega)).2) (fun o ho => by
    by_cases h8 : o < 8
    · rw [hF.2 o h8]; exact hW.2.2.2.1 o f h8 hf (Or.inl ho)
    · exact dg_out hF.1.1 hF.1.2 (by omega)) (by omega) (by omega) hE
  refine ⟨F', S', r1, r2, r3, r4, fun o ho => ?_⟩
  rw [r5 o ho, goW_s P w ho hf]
  exact nxt_congr hP (fun k hk => hi.2 k (by omega)) (fun k hk => ht.2 k (by omega)) (fun x hx => hF.2 x hx) ho
/-! the state now -/
def FW_now (S S' : MS) : Prop := (∀ c, c ≠ 24 → c ≠ 25 → c ≠ 26 → c ≠ 30 → c ≠ 42 → c ≠ 45 → c ≠ 48 → c ≠ 49 → c ≠ 50 → S' c = S c) ∧ ∀ k, k ≠ 3 → k ≠ 4 → S' 30 k = S 30 k
theorem FW_now.rf (S : MS) : FW_now S S := ⟨fun _ _ _ _ _ _ _ _ _ _ => rfl, fun _ _ _ => rfl⟩
theorem FW_now.tr {S S' S'' : MS} (h : FW_now S S') (g : FW_now S' S'') : FW_now S S'' := ⟨fun c a1 a2 a3 a4 a5 a6 a7 a8 a9 => (g.1 c a1 a2 a3 a4 a5 a6 a7 a8 a9).trans (h.1 c a1 a2 a3 a4 a5 a6 a7 a8 a9), fun k a1 a2 => (g.2 k a1 a2).trans (h.2 k a1 a2)⟩
theorem FE.fw_now {S S' : MS} (h : FE S S') : FW_now S S' := ⟨fun c _ _ _ a4 a5 a6 a7 a8 a9 => h.1 c a4 a5 a6 a7 a8 a9, h.2⟩
theorem FN.fw_now {S S' : MS} (h : FN S S') : FW_now S S' := h.fe.fw_now
theorem FW_now.u1 {S : MS} {k : Nat} {z : Int} : FW_now S (up S 24 k z) := ⟨fun c a1 _ _ _ _ _ _ _ _ => up_c a1, fun k _ _ => by rw [up_c (by decide)]⟩
theorem FW_now.u2 {S : MS} {k : Nat} {z : Int} : FW_now S (up S 25 k z) := ⟨fun c _ a2 _ _ _ _ _ _ _ => up_c a2, fun k _ _ => by rw [up_c (by decide)]⟩
theorem FW_now.u3 {S : MS} {k : Nat} {z : Int} : FW_now S (up S 26 k z) := ⟨fun c _ _ a3 _ _ _ _ _ _ => up_c a3, fun k _ _ => by rw [up_c (by decide)]⟩
theorem EN.up1_now {P : MS} {d : Int} {S : MS} {k : Nat} {z : Int} (h : EN P d S) : EN P d (up S 24 k z) :=
  ⟨h.1.fr (up_c (by decide)) (up_c (by decide)) (up_c (by decide)) (up_c (by decide)) (up_c (by decide)) (up_c (by decide)) (up_c (by decide)) (up_c (by decide)) (up_c (by decide)) (up_c (by decide)), h.2.1.fr (up_c (by decide)) (up_c (by decide)) (up_c (by decide)) (up_c (by decide)), by unfold CV; rw [up_c (by decide), up_c (by decide)]; exact h.2.2.1, by rw [up_c (by decide)]; exact h.2.2.2⟩
theorem EN.up2_now {P : MS} {d : Int} {S : MS} {k : Nat} {z : Int} (h : EN P d S) : EN P d (up S 25 k z) :=
  ⟨h.1.fr (up_c (by decide)) (up_c (by decide)) (up_c (by decide)) (up_c (by decide)) (up_c (by decide)) (up_c (by decide)) (up_c (by decide)) (up_c (by decide)) (up_c (by decide)) (up_c (by decide)), h.2.1.fr (up_c (by decide)) (up_c (by decide)) (up_c (by decide)) (up_c (by decide)), by unfold CV; rw [up_c (by decide), up_c (by decide)]; exact h.2.2.1, by rw [up_c (by decide)]; exact h.2.2.2⟩
theorem EN.up3_now {P : MS} {d : Int} {S : MS} {k : Nat} {z : Int} (h : EN P d S) : EN P d (up S 26 k z) :=
  ⟨h.1.fr (up_c (by decide)) (up_c (by decide)) (up_c (by decide)) (up_c (by decide)) (up_c (by decide)) (up_c (by decide)) (up_c (by decide)) (up_c (by decide)) (up_c (by decide)) (up_c (by decide)), h.2.1.fr (up_c (by decide)) (up_c (by decide)) (up_c (by decide)) (up_c (by decide)), by unfold CV; rw [up_c (by decide), up_c (by decide)]; exact h.2.2.1, by rw [up_c (by decide)]; exact h.2.2.2⟩
/-- feelings below v have gone, the others not -/
def GW_now (P : MS) (w : Nat → Int) (v : Nat) (S : MS) : Prop :=
  S 24 0 = w 0 ∧ (0 ≤ S 24 1 ∧ S 24 1 < 4096) ∧ (0 ≤ S 24 2 ∧ S 24 2 < 4096) ∧ (∀ k, k < 12 → bt (S 24 1) k = w (1 + 2 * k) ∧ bt (S 24 2) k = w (2 + 2 * k)) ∧
  ∀ f, f < 4 → (0 ≤ S 25 f ∧ S 25 f < ((2 ^ 56 : Nat) : Int)) ∧ ∀ o, o < 8 → dg (S 25 f) o = if f < v then goW P w (25 + 4 * o + f) else w (25 + 4 * o + f)
theorem c_flow1_now {P : MS} {w : Nat → Int} (hP : PLN P) (hW : WV P w) : ∀ (n v : Nat) (z : Int) (S : MS), v + n = 4 → (z = 0 ∨ z = 1) → EN P (w 0) S → GW_now P w v S → (z = 0 ↔ ∀ o f, o < 8 → f < v → goW P w (25 + 4 * o + f) = w (25 + 4 * o + f)) →
    ∃ z' S', En_flow_now_12 z v S = some (z', up S' 24 0 (w 0 + 1)) ∧ (z' = 0 ∨ z' = 1) ∧ EN P (w 0) S' ∧ GW_now P w 4 S' ∧ FW_now S S' ∧ S' 30 = S 30 ∧ S' 26 = S 26 ∧ S' 24 = S 24 ∧ (z' = 0 ↔ ∀ o f, o < 8 → f < 4 → goW P w (25 + 4 * o + f) = w (25 + 4 * o + f)) := by
  intro n
  induction n with
  | zero =>
    intro v z S hv hz hE hG hq
    obtain rfl : v = 4 := by omega
    have hw0 := hW.1
    rw [e_En_flow_now_12, if_neg (by omega), if_pos hz, hG.1, wrN (by omega) (by omega)]
    exact ⟨z, S, rfl, hz, hE, hG, FW_now.rf S, rfl, rfl, rfl, hq⟩
  | succ n ih =>
    intro v z S hv hz hE hG hq
    obtain ⟨g1, g2, g3, g4, g5⟩ := hG
    obtain ⟨a1, a2⟩ := g5 v (by omega)
    obtain ⟨F', S1, r1, r2, r3, r4, r5⟩ := c_nextW (f := v) (F := S 25 v) (inn := S 24 1) (tur := S 24 2) hP hW (by omega) ⟨a1, fun o ho => by rw [a2 o ho, if_neg (by omega)]⟩ ⟨g2, fun k hk => (g4 k hk).1⟩ ⟨g3, fun k hk => (g4 k hk).2⟩ hE
    have e24 : S1 24 = S 24 := r3 24 (by decide) (by decide) (by decide) (by decide) (by decide)
    have e25 : S1 25 = S 25 := r3 25 (by decide) (by decide) (by decide) (by decide) (by decide)
    have e26 : S1 26 = S 26 := r3 26 (by decide) (by decide) (by decide) (by decide) (by decide)
    have e30 : S1 30 = S 30 := r3 30 (by decide) (by decide) (by decide) (by decide) (by decide)
    rw [e_En_flow_now_12, if_pos (by omega), if_pos (by omega), Int.toNat_natCast, r1, Option.bind_some, if_pos (by omega)]
    dsimp only
    simp only [e25]
    rw [wrN (z := (v : Int) + 1) (by omega) (by omega)]
    have hG1 : GW_now P w (v + 1) (up S1 25 v F') := by
      refine ⟨by rw [up_c (by decide), e24]; exact g1, by rw [up_c (by decide), e24]; exact g2, by rw [up_c (by decide), e24]; exact g3, by rw [up_c (by decide), e24]; exact g4, fun f hf => ?_⟩
      by_cases e : f = v
      · subst e; rw [up_s]; exact ⟨r4, fun o ho => by rw [r5 o ho, if_pos (by omega)]⟩
      · rw [up_k e, e25]
        refine ⟨(g5 f hf).1, fun o ho => ?_⟩
        rw [(g5 f hf).2 o ho]
        by_cases h : f < v
        · rw [if_pos h, if_pos (by omega)]
        · rw [if_neg h, if_neg (by omega)]
    have hsame : F' = S 25 v ↔ ∀ o, o < 8 → goW P w (25 + 4 * o + v) = w (25 + 4 * o + v) := by
      constructor
      · intro h o ho
        rw [← r5 o ho, h, a2 o ho, if_neg (by omega)]
      · intro h
        refine dg_ext r4.1 r4.2 a1.1 a1.2 (fun o ho => ?_)
        rw [r5 o ho, h o ho, a2 o ho, if_neg (by omega)]
    have hbor : ∀ y : Int, y = 0 ∨ y = 1 → (bor z y = 0 ∨ bor z y = 1) ∧ (bor z y = 0 ↔ z = 0 ∧ y = 0) := by
      intro y hy
      rcases hz with rfl | rfl <;> rcases hy with rfl | rfl <;> (rw [bor_nn (by decide) (by decide) (by decide) (by decide)]; decide)
    by_cases c : F' = S 25 v
    · rw [if_pos (lcp_0.mpr c), if_pos (by omega)]
      obtain ⟨z', S', q1, q2, q3, q4, q5, q6, q7, q8, q9⟩ := ih (v + 1) (bor z 0) (up S1 25 v F') (by omega) (hbor 0 (Or.inl rfl)).1 r2.up2_now hG1 (by
        rw [(hbor 0 (Or.inl rfl)).2, hq]
        constructor
        · intro h o f ho hf
          by_cases e : f = v
          · subst e; exact hsame.mp c o ho
          · exact h.1 o f ho (by omega)
        · intro h; exact ⟨fun o f ho hf => h o f ho (by omega), rfl⟩)
      exact ⟨z', S', q1, q2, q3, q4, r3.fw_now.tr (FW_now.u2.tr q5), by rw [q6, up_c (by decide), e30], by rw [q7, up_c (by decide), e26], by rw [q8, up_c (by decide), e24], q9⟩
    · rw [if_neg (fun h => c (lcp_0.mp h)), if_pos (by omega)]
      obtain ⟨z', S', q1, q2, q3, q4, q5, q6, q7, q8, q9⟩ := ih (v + 1) (bor z 1) (up S1 25 v F') (by omega) (hbor 1 (Or.inr rfl)).1 r2.up2_now hG1 (by
        rw [(hbor 1 (Or.inr rfl)).2]
        constructor
        · intro h; exact absurd h.2 (by decide)
        · intro h; exact absurd (hsame.mpr (fun o ho => h o v ho (by omega))) c)
      exact ⟨z', S', q1, q2, q3, q4, r3.fw_now.tr (FW_now.u2.tr q5), by rw [q6, up_c (by decide), e30], by rw [q7, up_c (by decide), e26], by rw [q8, up_c (by decide), e24], q9⟩
/-- the engine, whatever its day -/
def EM (P : MS) (S : MS) : Prop := CP P S ∧ CK P S ∧ CV S
theorem EN.em {P : MS} {d : Int} {S : MS} (h : EN P d S) : EM P S := ⟨h.1, h.2.1, h.2.2.1⟩
theorem c_flow_now {P : MS} {w : Nat → Int} {S : MS} (hP : PLN P) (hW : WV P w) (hE : EM P S) (hB : S 30 3 < 15999999) (hS : SWn S 24 w) :
    ∃ z' S', m_En_flow_now S = some (z', S') ∧ (z' = 0 ∨ z' = 1) ∧ EN P (w 0) S' ∧ SWn S' 24 (dayP (goW P w)) ∧ FW_now S S' ∧ S' 30 3 ≤ S 30 3 + 1 ∧ S' 26 = S 26 ∧ S' 24 5 = S 24 5 ∧ (z' = 0 ↔ ∀ o f, o < 8 → f < 4 → goW P w (25 + 4 * o + f) = w (25 + 4 * o + f)) := by
  obtain ⟨s1, s2, s3, s4, s5⟩ := hS
  obtain ⟨S1, r1, r2, r3, r4, r5⟩ := c_openDay (d := S 24 0) hE.2.1 hB
  have e24 : S1 24 = S 24 := r2.1 24 (by decide) (by decide) (by decide) (by decide) (by decide) (by decide)
  have e25 : S1 25 = S 25 := r2.1 25 (by decide) (by decide) (by decide) (by decide) (by decide) (by decide)
  have e26 : S1 26 = S 26 := r2.1 26 (by decide) (by decide) (by decide) (by decide) (by decide) (by decide)
  rw [e_En_flow_now, r1, Option.bind_some]
  obtain ⟨z', S', q1, q2, q3, q4, q5, q6, q7, q8, q9⟩ := c_flow1_now hP hW 4 0 0 S1 rfl (Or.inl rfl) ⟨hE.1.fe r2, r3, hE.2.2.fe r2, by rw [r4]; exact s1⟩ ⟨by rw [e24]; exact s1, by rw [e24]; exact s2, by rw [e24]; exact s3, by rw [e24]; exact s4, fun f hf => by rw [e25]; exact ⟨(s5 f hf).1, fun o ho => by rw [(s5 f hf).2 o ho, if_neg (by omega)]⟩⟩ ⟨fun _ o f ho hf => by omega, fun _ => rfl⟩
  refine ⟨z', _, q1, q2, q3.up1_now, ?_, r2.fw_now.tr (q5.tr FW_now.u1), by rw [up_c (by decide), q6]; exact r5, by rw [up_c (by decide), q7, e26], by rw [up_k (by decide), q8, e24], q9⟩
  obtain ⟨g1, g2, g3, g4, g5⟩ := q4
  refine ⟨?_, by rw [up_k (by decide)]; exact g2, by rw [up_k (by decide)]; exact g3, fun k hk => ?_, fun f hf => ?_⟩
  · rw [up_s]; unfold dayP; rw [if_pos rfl, goW_o _ _ (Or.inl (by decide))]
  · rw [up_k (by decide), up_k (by decide)]
    unfold dayP
    rw [if_neg (by omega), if_neg (by omega), goW_o _ _ (Or.inl (by omega)), goW_o _ _ (Or.inl (by omega))]
    exact g4 k hk
  · show (0 ≤ up S' 24 0 (w 0 + 1) 25 f ∧ _) ∧ _
    rw [up_c (by decide)]
    refine ⟨(g5 f hf).1, fun o ho => ?_⟩
    show dg (up S' 24 0 (w 0 + 1) 25 f) o = _
    rw [up_c (by decide), (g5 f hf).2 o ho, if_pos hf]
    unfold dayP
    rw [if_neg (by omega)]
/-! the state then -/
def FW_then (S S' : MS) : Prop := (∀ c, c ≠ 27 → c ≠ 28 → c ≠ 29 → c ≠ 30 → c ≠ 42 → c ≠ 45 → c ≠ 48 → c ≠ 49 → c ≠ 50 → S' c = S c) ∧ ∀ k, k ≠ 3 → k ≠ 4 → S' 30 k = S 30 k
theorem FW_then.rf (S : MS) : FW_then S S := ⟨fun _ _ _ _ _ _ _ _ _ _ => rfl, fun _ _ _ => rfl⟩
theorem FW_then.tr {S S' S'' : MS} (h : FW_then S S') (g : FW_then S' S'') : FW_then S S'' := ⟨fun c a1 a2 a3 a4 a5 a6 a7 a8 a9 => (g.1 c a1 a2 a3 a4 a5 a6 a7 a8 a9).trans (h.1 c a1 a2 a3 a4 a5 a6 a7 a8 a9), fun k a1 a2 => (g.2 k a1 a2).trans (h.2 k a1 a2)⟩
theorem FE.fw_then {S S' : MS} (h : FE S S') : FW_then S S' := ⟨fun c _ _ _ a4 a5 a6 a7 a8 a9 => h.1 c a4 a5 a6 a7 a8 a9, h.2⟩
theorem FN.fw_then {S S' : MS} (h : FN S S') : FW_then S S' := h.fe.fw_then
theorem FW_then.u1 {S : MS} {k : Nat} {z : Int} : FW_then S (up S 27 k z) := ⟨fun c a1 _ _ _ _ _ _ _ _ => up_c a1, fun k _ _ => by rw [up_c (by decide)]⟩
theorem FW_then.u2 {S : MS} {k : Nat} {z : Int} : FW_then S (up S 28 k z) := ⟨fun c _ a2 _ _ _ _ _ _ _ => up_c a2, fun k _ _ => by rw [up_c (by decide)]⟩
theorem FW_then.u3 {S : MS} {k : Nat} {z : Int} : FW_then S (up S 29 k z) := ⟨fun c _ _ a3 _ _ _ _ _ _ => up_c a3, fun k _ _ => by rw [up_c (by decide)]⟩
theorem EN.up1_then {P : MS} {d : Int} {S : MS} {k : Nat} {z : Int} (h : EN P d S) : EN P d (up S 27 k z) :=
  ⟨h.1.fr (up_c (by decide)) (up_c (by decide)) (up_c (by decide)) (up_c (by decide)) (up_c (by decide)) (up_c (by decide)) (up_c (by decide)) (up_c (by decide)) (up_c (by decide)) (up_c (by decide)), h.2.1.fr (up_c (by decide)) (up_c (by decide)) (up_c (by decide)) (up_c (by decide)), by unfold CV; rw [up_c (by decide), up_c (by decide)]; exact h.2.2.1, by rw [up_c (by decide)]; exact h.2.2.2⟩
theorem EN.up2_then {P : MS} {d : Int} {S : MS} {k : Nat} {z : Int} (h : EN P d S) : EN P d (up S 28 k z) :=
  ⟨h.1.fr (up_c (by decide)) (up_c (by decide)) (up_c (by decide)) (up_c (by decide)) (up_c (by decide)) (up_c (by decide)) (up_c (by decide)) (up_c (by decide)) (up_c (by decide)) (up_c (by decide)), h.2.1.fr (up_c (by decide)) (up_c (by decide)) (up_c (by decide)) (up_c (by decide)), by unfold CV; rw [up_c (by decide), up_c (by decide)]; exact h.2.2.1, by rw [up_c (by decide)]; exact h.2.2.2⟩
theorem EN.up3_then {P : MS} {d : Int} {S : MS} {k : Nat} {z : Int} (h : EN P d S) : EN P d (up S 29 k z) :=
  ⟨h.1.fr (up_c (by decide)) (up_c (by decide)) (up_c (by decide)) (up_c (by decide)) (up_c (by decide)) (up_c (by decide)) (up_c (by decide)) (up_c (by decide)) (up_c (by decide)) (up_c (by decide)), h.2.1.fr (up_c (by decide)) (up_c (by decide)) (up_c (by decide)) (up_c (by decide)), by unfold CV; rw [up_c (by decide), up_c (by decide)]; exact h.2.2.1, by rw [up_c (by decide)]; exact h.2.2.2⟩
/-- feelings below v have gone, the others not -/
def GW_then (P : MS) (w : Nat → Int) (v : Nat) (S : MS) : Prop :=
  S 27 0 = w 0 ∧ (0 ≤ S 27 1 ∧ S 27 1 < 4096) ∧ (0 ≤ S 27 2 ∧ S 27 2 < 4096) ∧ (∀ k, k < 12 → bt (S 27 1) k = w (1 + 2 * k) ∧ bt (S 27 2) k = w (2 + 2 * k)) ∧
  ∀ f, f < 4 → (0 ≤ S 28 f ∧ S 28 f < ((2 ^ 56 : Nat) : Int)) ∧ ∀ o, o < 8 → dg (S 28 f) o = if f < v then goW P w (25 + 4 * o + f) else w (25 + 4 * o + f)
theorem c_flow1_then {P : MS} {w : Nat → Int} (hP : PLN P) (hW : WV P w) : ∀ (n v : Nat) (z : Int) (S : MS), v + n = 4 → (z = 0 ∨ z = 1) → EN P (w 0) S → GW_then P w v S → (z = 0 ↔ ∀ o f, o < 8 → f < v → goW P w (25 + 4 * o + f) = w (25 + 4 * o + f)) →
    ∃ z' S', En_flow_then_12 z v S = some (z', up S' 27 0 (w 0 + 1)) ∧ (z' = 0 ∨ z' = 1) ∧ EN P (w 0) S' ∧ GW_then P w 4 S' ∧ FW_then S S' ∧ S' 30 = S 30 ∧ S' 29 = S 29 ∧ S' 27 = S 27 ∧ (z' = 0 ↔ ∀ o f, o < 8 → f < 4 → goW P w (25 + 4 * o + f) = w (25 + 4 * o + f)) := by
  intro n
  induction n with
  | zero =>
    intro v z S hv hz hE hG hq
    obtain rfl : v = 4 := by omega
    have hw0 := hW.1
    rw [e_En_flow_then_12, if_neg (by omega), if_pos hz, hG.1, wrN (by omega) (by omega)]
    exact ⟨z, S, rfl, hz, hE, hG, FW_then.rf S, rfl, rfl, rfl, hq⟩
  | succ n ih =>
    intro v z S hv hz hE hG hq
    obtain ⟨g1, g2, g3, g4, g5⟩ := hG
    obtain ⟨a1, a2⟩ := g5 v (by omega)
    obtain ⟨F', S1, r1, r2, r3, r4, r5⟩ := c_nextW (f := v) (F := S 28 v) (inn := S 27 1) (tur := S 27 2) hP hW (by omega) ⟨a1, fun o ho => by rw [a2 o ho, if_neg (by omega)]⟩ ⟨g2, fun k hk => (g4 k hk).1⟩ ⟨g3, fun k hk => (g4 k hk).2⟩ hE
    have e24 : S1 27 = S 27 := r3 27 (by decide) (by decide) (by decide) (by decide) (by decide)
    have e25 : S1 28 = S 28 := r3 28 (by decide) (by decide) (by decide) (by decide) (by decide)
    have e26 : S1 29 = S 29 := r3 29 (by decide) (by decide) (by decide) (by decide) (by decide)
    have e30 : S1 30 = S 30 := r3 30 (by decide) (by decide) (by decide) (by decide) (by decide)
    rw [e_En_flow_then_12, if_pos (by omega), if_pos (by omega), Int.toNat_natCast, r1, Option.bind_some, if_pos (by omega)]
    dsimp only
    simp only [e25]
    rw [wrN (z := (v : Int) + 1) (by omega) (by omega)]
    have hG1 : GW_then P w (v + 1) (up S1 28 v F') := by
      refine ⟨by rw [up_c (by decide), e24]; exact g1, by rw [up_c (by decide), e24]; exact g2, by rw [up_c (by decide), e24]; exact g3, by rw [up_c (by decide), e24]; exact g4, fun f hf => ?_⟩
      by_cases e : f = v
      · subst e; rw [up_s]; exact ⟨r4, fun o ho => by rw [r5 o ho, if_pos (by omega)]⟩
      · rw [up_k e, e25]
        refine ⟨(g5 f hf).1, fun o ho => ?_⟩
        rw [(g5 f hf).2 o ho]
        by_cases h : f < v
        · rw [if_pos h, if_pos (by omega)]
        · rw [if_neg h, if_neg (by omega)]
    have hsame : F' = S 28 v ↔ ∀ o, o < 8 → goW P w (25 + 4 * o + v) = w (25 + 4 * o + v) := by
      constructor
      · intro h o ho
        rw [← r5 o ho, h, a2 o ho, if_neg (by omega)]
      · intro h
        refine dg_ext r4.1 r4.2 a1.1 a1.2 (fun o ho => ?_)
        rw [r5 o ho, h o ho, a2 o ho, if_neg (by omega)]
    have hbor : ∀ y : Int, y = 0 ∨ y = 1 → (bor z y = 0 ∨ bor z y = 1) ∧ (bor z y = 0 ↔ z = 0 ∧ y = 0) := by
      intro y hy
      rcases hz with rfl | rfl <;> rcases hy with rfl | rfl <;> (rw [bor_nn (by decide) (by decide) (by decide) (by decide)]; decide)
    by_cases c : F' = S 28 v
    · rw [if_pos (lcp_0.mpr c), if_pos (by omega)]
      obtain ⟨z', S', q1, q2, q3, q4, q5, q6, q7, q8, q9⟩ := ih (v + 1) (bor z 0) (up S1 28 v F') (by omega) (hbor 0 (Or.inl rfl)).1 r2.up2_then hG1 (by
        rw [(hbor 0 (Or.inl rfl)).2, hq]
        constructor
        · intro h o f ho hf
          by_cases e : f = v
          · subst e; exact hsame.mp c o ho
          · exact h.1 o f ho (by omega)
        · intro h; exact ⟨fun o f ho hf => h o f ho (by omega), rfl⟩)
      exact ⟨z', S', q1, q2, q3, q4, r3.fw_then.tr (FW_then.u2.tr q5), by rw [q6, up_c (by decide), e30], by rw [q7, up_c (by decide), e26], by rw [q8, up_c (by decide), e24], q9⟩
    · rw [if_neg (fun h => c (lcp_0.mp h)), if_pos (by omega)]
      obtain ⟨z', S', q1, q2, q3, q4, q5, q6, q7, q8, q9⟩ := ih (v + 1) (bor z 1) (up S1 28 v F') (by omega) (hbor 1 (Or.inr rfl)).1 r2.up2_then hG1 (by
        rw [(hbor 1 (Or.inr rfl)).2]
        constructor
        · intro h; exact absurd h.2 (by decide)
        · intro h; exact absurd (hsame.mpr (fun o ho => h o v ho (by omega))) c)
      exact ⟨z', S', q1, q2, q3, q4, r3.fw_then.tr (FW_then.u2.tr q5), by rw [q6, up_c (by decide), e30], by rw [q7, up_c (by decide), e26], by rw [q8, up_c (by decide), e24], q9⟩
theorem c_flow_then {P : MS} {w : Nat → Int} {S : MS} (hP : PLN P) (hW : WV P w) (hE : EM P S) (hB : S 30 3 < 15999999) (hS : SWn S 27 w) :
    ∃ z' S', m_En_flow_then S = some (z', S') ∧ (z' = 0 ∨ z' = 1) ∧ EN P (w 0) S' ∧ SWn S' 27 (dayP (goW P w)) ∧ FW_then S S' ∧ S' 30 3 ≤ S 30 3 + 1 ∧ S' 29 = S 29 ∧ S' 27 5 = S 27 5 ∧ (z' = 0 ↔ ∀ o f, o < 8 → f < 4 → goW P w (25 + 4 * o + f) = w (25 + 4 * o + f)) := by
  obtain ⟨s1, s2, s3, s4, s5⟩ := hS
  obtain ⟨S1, r1, r2, r3, r4, r5⟩ := c_openDay (d := S 27 0) hE.2.1 hB
  have e24 : S1 27 = S 27 := r2.1 27 (by decide) (by decide) (by decide) (by decide) (by decide) (by decide)
  have e25 : S1 28 = S 28 := r2.1 28 (by decide) (by decide) (by decide) (by decide) (by decide) (by decide)
  have e26 : S1 29 = S 29 := r2.1 29 (by decide) (by decide) (by decide) (by decide) (by decide) (by decide)
  rw [e_En_flow_then, r1, Option.bind_some]
  obtain ⟨z', S', q1, q2, q3, q4, q5, q6, q7, q8, q9⟩ := c_flow1_then hP hW 4 0 0 S1 rfl (Or.inl rfl) ⟨hE.1.fe r2, r3, hE.2.2.fe r2, by rw [r4]; exact s1⟩ ⟨by rw [e24]; exact s1, by rw [e24]; exact s2, by rw [e24]; exact s3, by rw [e24]; exact s4, fun f hf => by rw [e25]; exact ⟨(s5 f hf).1, fun o ho => by rw [(s5 f hf).2 o ho, if_neg (by omega)]⟩⟩ ⟨fun _ o f ho hf => by omega, fun _ => rfl⟩
  refine ⟨z', _, q1, q2, q3.up1_then, ?_, r2.fw_then.tr (q5.tr FW_then.u1), by rw [up_c (by decide), q6]; exact r5, by rw [up_c (by decide), q7, e26], by rw [up_k (by decide), q8, e24], q9⟩
  obtain ⟨g1, g2, g3, g4, g5⟩ := q4
  refine ⟨?_, by rw [up_k (by decide)]; exact g2, by rw [up_k (by decide)]; exact g3, fun k hk => ?_, fun f hf => ?_⟩
  · rw [up_s]; unfold dayP; rw [if_pos rfl, goW_o _ _ (Or.inl (by decide))]
  · rw [up_k (by decide), up_k (by decide)]
    unfold dayP
    rw [if_neg (by omega), if_neg (by omega), goW_o _ _ (Or.inl (by omega)), goW_o _ _ (Or.inl (by omega))]
    exact g4 k hk
  · show (0 ≤ up S' 27 0 (w 0 + 1) 28 f ∧ _) ∧ _
    rw [up_c (by decide)]
    refine ⟨(g5 f hf).1, fun o ho => ?_⟩
    show dg (up S' 27 0 (w 0 + 1) 28 f) o = _
    rw [up_c (by decide), (g5 f hf).2 o ho, if_pos hf]
    unfold dayP
    rw [if_neg (by omega)]
