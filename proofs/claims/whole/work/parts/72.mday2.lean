/-! THE REFERENCE'S DAY, feeling by feeling; what is kept -/
def act01 (P : MS) (w : Nat → Int) (o f : Nat) : Int := if 0 < w (25 + 4 * o + f) ∧ actV P (w 0) (w (25 + 4 * o + f)) f o ≠ 0 then 1 else 0
theorem act01_iff {P : MS} {w : Nat → Int} {o f : Nat} {z : Int} (hz : z = 0 ∨ z = 1) (h : z = 0 ↔ ¬ actB P w o f) : z = act01 P w o f := by
  unfold act01
  by_cases c : 0 < w (25 + 4 * o + f) ∧ actV P (w 0) (w (25 + 4 * o + f)) f o ≠ 0
  · rw [if_pos c]
    rcases hz with e | e
    · exact absurd c (h.mp e)
    · exact e
  · rw [if_neg c]; exact h.mpr c
theorem act01_01 (P : MS) (w : Nat → Int) (o f : Nat) : act01 P w o f = 0 ∨ act01 P w o f = 1 := by
  unfold act01
  split
  · exact Or.inr rfl
  · exact Or.inl rfl
def keepM (m : Nat → Int) (o f : Nat) (i : Nat) : Int :=
  if i = 57 then (if m 57 = 40 then 40 else m 57 + 1)
  else if i < 58 then m i
  else if i = 54 + 4 * (if m 57 = 40 then 40 else m 57 + 1).toNat then m 0
  else if i = 55 + 4 * (if m 57 = 40 then 40 else m 57 + 1).toNat then o
  else if i = 56 + 4 * (if m 57 = 40 then 40 else m 57 + 1).toNat then f
  else if i = 57 + 4 * (if m 57 = 40 then 40 else m 57 + 1).toNat then m (25 + 4 * o + f)
  else if m 57 = 40 ∧ i < 214 then m (i + 4) else m i
theorem keepM_lo {m : Nat → Int} {o f i : Nat} (h : i < 57) : keepM m o f i = m i := by unfold keepM; rw [if_neg (by omega), if_pos (by omega)]
theorem act01_keep {P : MS} {m : Nat → Int} {o f o' f' : Nat} (ho : o' < 8) (hf : f' < 4) : act01 P (keepM m o f) o' f' = act01 P m o' f' := by
  unfold act01
  rw [keepM_lo (by omega), keepM_lo (by omega)]
/-- officer o's feelings below n: th: in thought, nothing is kept -/
def kp1 (P : MS) (th : Int) (o : Nat) : Nat → (Nat → Int) → Nat → Int
  | 0, m => m
  | f + 1, m => if act01 P m o f = 1 ∧ th = 0 then keepM (kp1 P th o f m) o f else kp1 P th o f m
def kp2 (P : MS) (th : Int) : Nat → (Nat → Int) → Nat → Int
  | 0, m => m
  | o + 1, m => kp1 P th o (nFe P) (kp2 P th o m)
def an1 (P : MS) (m : Nat → Int) (o : Nat) : Nat → Int
  | 0 => 0
  | f + 1 => an1 P m o f + act01 P m o f
def an2 (P : MS) (m : Nat → Int) : Nat → Int
  | 0 => 0
  | o + 1 => an2 P m o + an1 P m o (nFe P)
theorem an1_b (P : MS) (m : Nat → Int) (o : Nat) : ∀ n : Nat, 0 ≤ an1 P m o n ∧ an1 P m o n ≤ n := by
  intro n
  induction n with
  | zero => exact ⟨Int.le_refl _, Int.le_refl _⟩
  | succ n ih => have := act01_01 P m o n; rw [an1]; omega
theorem an2_b {P : MS} (hP : PLN P) (m : Nat → Int) : ∀ n : Nat, 0 ≤ an2 P m n ∧ an2 P m n ≤ 4 * (n : Int) := by
  intro n
  induction n with
  | zero => exact ⟨Int.le_refl _, Int.le_refl _⟩
  | succ n ih => have := an1_b P m n (nFe P); have := nFe_le hP; rw [an2]; omega
theorem kp1_lo {P : MS} {th : Int} {o i : Nat} (h : i < 57) : ∀ (n : Nat) (m : Nat → Int), kp1 P th o n m i = m i := by
  intro n
  induction n with
  | zero => intro m; rfl
  | succ n ih =>
    intro m
    rw [kp1]
    split
    · rw [keepM_lo h, ih m]
    · exact ih m
theorem kp2_lo {P : MS} {th : Int} {i : Nat} (h : i < 57) : ∀ (n : Nat) (m : Nat → Int), kp2 P th n m i = m i := by
  intro n
  induction n with
  | zero => intro m; rfl
  | succ n ih => intro m; rw [kp2, kp1_lo h, ih m]
theorem act01_lo {P : MS} {m m' : Nat → Int} (h : ∀ i, i < 57 → m' i = m i) {o f : Nat} (ho : o < 8) (hf : f < 4) : act01 P m' o f = act01 P m o f := by
  unfold act01
  rw [h _ (by omega), h _ (by omega)]
theorem kp1_th {P : MS} {th : Int} (hth : th ≠ 0) {o : Nat} : ∀ (n : Nat) (m : Nat → Int), kp1 P th o n m = m := by
  intro n
  induction n with
  | zero => intro m; rfl
  | succ n ih => intro m; rw [kp1, if_neg (fun h => hth h.2), ih m]
theorem kp2_th {P : MS} {th : Int} (hth : th ≠ 0) : ∀ (n : Nat) (m : Nat → Int), kp2 P th n m = m := by
  intro n
  induction n with
  | zero => intro m; rfl
  | succ n ih => intro m; rw [kp2, ih m, kp1_th hth]
theorem WV.lo {P : MS} {m m' : Nat → Int} (h : WV P m) (e : ∀ i, i < 57 → m' i = m i) : WV P m' := by
  have := nOf P
  refine ⟨by rw [e 0 (by decide)]; exact h.1, fun k hk => by rw [e _ (by omega), e _ (by omega)]; exact h.2.1 k hk, fun i h1 h2 => by rw [e i h2]; exact h.2.2.1 i h1 h2, fun o f ho hf hc => by rw [e _ (by omega)]; exact h.2.2.2.1 o f ho hf hc, fun k h1 h2 => by rw [e _ (by omega), e _ (by omega)]; exact h.2.2.2.2 k h1 h2⟩
/-- what a day of the reference may change -/
def FG (T T' : MS) : Prop := (∀ c, c ≠ 401 → c ≠ 438 → c ≠ 440 → c ≠ 475 → T' c = T c) ∧ ∀ k, k ≠ 48 → k ≠ 51 → k ≠ 52 → k ≠ 53 → k ≠ 54 → k ≠ 55 → k ≠ 57 → k ≠ 103 → T' 401 k = T 401 k
theorem FG.rf (T : MS) : FG T T := ⟨fun _ _ _ _ _ => rfl, fun _ _ _ _ _ _ _ _ _ => rfl⟩
theorem FG.tr {T T' T'' : MS} (h : FG T T') (g : FG T' T'') : FG T T'' := ⟨fun c h1 h2 h3 h4 => (g.1 c h1 h2 h3 h4).trans (h.1 c h1 h2 h3 h4), fun k a1 a2 a3 a4 a5 a6 a7 a8 => (g.2 k a1 a2 a3 a4 a5 a6 a7 a8).trans (h.2 k a1 a2 a3 a4 a5 a6 a7 a8)⟩
theorem FL.fg {T T' : MS} (h : FL T T') : FG T T' := ⟨fun c a1 _ _ a4 => h.1 c a1 a4, fun k a1 a2 a3 a4 a5 a6 _ a8 => h.2 k a1 a2 a3 a4 a5 a6 a8⟩
theorem FG_440 {T : MS} {k : Nat} {z : Int} : FG T (up T 440 k z) := ⟨fun c _ _ a3 _ => up_c a3, fun k _ _ _ _ _ _ _ _ => by rw [up_c (by decide)]⟩
theorem FG_438 {T : MS} {k : Nat} {z : Int} : FG T (up T 438 k z) := ⟨fun c _ a2 _ _ => up_c a2, fun k _ _ _ _ _ _ _ _ => by rw [up_c (by decide)]⟩
theorem FG_57 {T : MS} {z : Int} : FG T (up T 401 57 z) := ⟨fun c a1 _ _ _ => up_c a1, fun k _ _ _ _ _ _ a7 _ => up_k a7⟩
theorem RP.fg {P T T' : MS} (h : RP P T) (f : FG T T') : RP P T' := h.fr (f.1 430 (by decide) (by decide) (by decide) (by decide)) (f.1 431 (by decide) (by decide) (by decide) (by decide)) (f.1 432 (by decide) (by decide) (by decide) (by decide)) (f.1 433 (by decide) (by decide) (by decide) (by decide)) (f.1 435 (by decide) (by decide) (by decide) (by decide)) (f.1 436 (by decide) (by decide) (by decide) (by decide)) (f.1 437 (by decide) (by decide) (by decide) (by decide))
section
variable {P : MS} {m : Nat → Int} {f : Nat}
theorem RP.n4 {T : MS} (h : RP P T) : T 430 4 = P 430 4 := h.1 4 (by decide) (by decide)
theorem RP.n5 {T : MS} (h : RP P T) : T 430 5 = P 430 5 := h.1 5 (by decide) (by decide)
theorem RP.n6 {T : MS} (h : RP P T) : T 430 6 = P 430 6 := h.1 6 (by decide) (by decide)
theorem m_fg1 (hP : PLN P) (hW : WV P m) (hf : f < 4) : ∀ (n v : Nat) (T : MS), v + n = nOf P → RP P T → T 438 = m → (∀ o, o < v → T 440 o = sumA P (m 0) (inW m) (tuW m) (colW m f) 0 o) →
    ∃ T', Mo_feelingGoes_2 f v T = Mo_feelingGoes_35 f 0 T' ∧ RP P T' ∧ T' 438 = m ∧ FG T T' ∧ (T' 401 57 = T 401 57) ∧ ∀ o, o < nOf P → T' 440 o = sumA P (m 0) (inW m) (tuW m) (colW m f) 0 o := by
  intro n
  have hO := nOf_le hP
  have hO1 := hP.1
  induction n with
  | zero =>
    intro v T hv hR hm hs
    rw [e_Mo_feelingGoes_2, m_oMany, Option.bind_some]
    dsimp only
    rw [hR.n4, if_neg (by unfold nOf at hv; omega)]
    exact ⟨T, rfl, hR, hm, FG.rf T, rfl, fun o ho => hs o (by omega)⟩
  | succ n ih =>
    intro v T hv hR hm hs
    rw [e_Mo_feelingGoes_2, m_oMany, Option.bind_some]
    dsimp only
    rw [hR.n4, if_pos (by unfold nOf at hv; omega), m_str (by omega) hf, Option.bind_some]
    dsimp only
    obtain ⟨T1, r1, r2⟩ := m_stays (o := v) (s := T 438 (25 + 4 * v + f)) hP hR (by rw [hm]; exact hW.1) (by omega) (by rw [hm]; exact hW.2.2.1 _ (by omega) (by omega))
    rw [r1, Option.bind_some, if_pos (by omega), wrN (by omega) (by omega), Int.toNat_natCast]
    dsimp only
    rw [hm]
    have h438 : T1 438 = m := by rw [r2.1 438 (by decide) (by decide), hm]
    obtain ⟨T', q1, q2, q3, q4, q5, q6⟩ := ih (v + 1) (up T1 440 v (if 0 < m (25 + 4 * v + f) then fadeV P (m 0) (m (25 + 4 * v + f)) v else 0)) (by omega) ((hR.fl r2).fg FG_440) (by rw [up_c (by decide), h438]) (fun o ho => by
      by_cases e : o = v
      · subst e; rw [up_s, sumA]; rfl
      · rw [up_k e, r2.1 440 (by decide) (by decide)]; exact hs o (by omega))
    exact ⟨T', q1, q2, q3, r2.fg.tr (FG_440.tr q4), by rw [q5, up_c (by decide), r2.2 57 (by decide) (by decide) (by decide) (by decide) (by decide) (by decide) (by decide)], q6⟩
theorem m_fg2 (hP : PLN P) (hW : WV P m) (hf : f < 4) : ∀ (n v : Nat) (T : MS), v + n = nCa P → RP P T → T 438 = m → (∀ o, o < nOf P → T 440 o = sumA P (m 0) (inW m) (tuW m) (colW m f) v o) →
    ∃ T', Mo_feelingGoes_35 f v T = Mo_feelingGoes_79 f 0 T' ∧ RP P T' ∧ T' 438 = m ∧ FG T T' ∧ (T' 401 57 = T 401 57) ∧ ∀ o, o < nOf P → T' 440 o = sumA P (m 0) (inW m) (tuW m) (colW m f) (nCa P) o := by
  intro n
  have hC := nCa_le hP
  have hC1 := hP.2.2.1
  have hO := nOf_le hP
  have hO1 := hP.1
  induction n with
  | zero =>
    intro v T hv hR hm hs
    rw [e_Mo_feelingGoes_35, e_Mo_carbonMany, Option.bind_some]
    dsimp only
    rw [hR.n6, if_neg (by unfold nCa at hv; omega)]
    exact ⟨T, rfl, hR, hm, FG.rf T, rfl, fun o ho => by rw [hs o ho, show v = nCa P by omega]⟩
  | succ n ih =>
    intro v T hv hR hm hs
    have hvC : v < nCa P := by omega
    obtain ⟨hto, hfr⟩ := toC_b hP hvC (T 438 (2 + 2 * v))
    obtain ⟨i1, i2⟩ := hW.2.1 v (by omega)
    rw [e_Mo_feelingGoes_35, e_Mo_carbonMany, Option.bind_some]
    dsimp only
    rw [hR.n6, if_pos (by unfold nCa at hv; omega), m_to hR (by omega) (by rw [hm]; exact i2), Option.bind_some]
    dsimp only
    rw [if_pos (by omega), m_from hR (by omega) (by rw [hm]; exact i2), Option.bind_some]
    dsimp only
    obtain ⟨a, ha⟩ : ∃ a : Nat, frC P v (T 438 (2 + 2 * v)) = (a : Int) := ⟨(frC P v (T 438 (2 + 2 * v))).toNat, by omega⟩
    rw [ha, m_str (by omega) hf, Option.bind_some]
    dsimp only
    obtain ⟨T1, r1, r2⟩ := m_through (k := v) (s := T 438 (25 + 4 * a + f)) hP hR (by rw [hm]; exact hW) hvC (by rw [hm]; exact hW.2.2.1 _ (by omega) (by omega))
    rw [r1, Option.bind_some, if_pos (by omega), wrN (z := (v : Int) + 1) (by omega) (by omega)]
    dsimp only
    have h438 : T1 438 = m := by rw [r2.1 438 (by decide) (by decide), hm]
    rw [hm] at ha hto hfr ⊢
    have hs1 := hs (toC P v (m (2 + 2 * v))).toNat (by unfold nOf; omega)
    have hb := sumA_b P (m 0) (inW m) (tuW m) (colW m f) (toC P v (m (2 + 2 * v))).toNat v
    have hsv := hW.2.2.1 (25 + 4 * a + f) (by omega) (by omega)
    have hpb : 0 ≤ passV P (m 0) v (m (2 + 2 * v)) (m (25 + 4 * a + f)) ∧ passV P (m 0) v (m (2 + 2 * v)) (m (25 + 4 * a + f)) ≤ 99 := cutF_b _
    rw [hs1]
    obtain ⟨T', q1, q2, q3, q4, q5, q6⟩ := ih (v + 1) (up T1 440 (toC P v (m (2 + 2 * v))).toNat (wr (sumA P (m 0) (inW m) (tuW m) (colW m f) v (toC P v (m (2 + 2 * v))).toNat + (if m (1 + 2 * v) = 1 ∧ m (25 + 4 * a + f) ≠ 0 then passV P (m 0) v (m (2 + 2 * v)) (m (25 + 4 * a + f)) else 0)))) (by omega) ((hR.fl r2).fg FG_440) (by rw [up_c (by decide), h438]) (fun o ho => by
      rw [sumA]
      have e1 : colW m f (frC P v (tuW m v)).toNat = m (25 + 4 * a + f) := by unfold colW tuW; rw [ha, Int.toNat_natCast]
      rw [e1]
      show _ = if toC P v (m (2 + 2 * v)) = (o : Int) ∧ m (1 + 2 * v) = 1 ∧ 0 < m (25 + 4 * a + f) then sumA P (m 0) (inW m) (tuW m) (colW m f) v o + passV P (m 0) v (m (2 + 2 * v)) (m (25 + 4 * a + f)) else sumA P (m 0) (inW m) (tuW m) (colW m f) v o
      by_cases e : o = (toC P v (m (2 + 2 * v))).toNat
      · rw [e, up_s]
        by_cases c : m (1 + 2 * v) = 1 ∧ m (25 + 4 * a + f) ≠ 0
        · rw [if_pos c, if_pos ⟨by omega, c.1, by omega⟩, wrN (by omega) (by omega)]
        · rw [if_neg c, if_neg (fun h => c ⟨h.2.1, by omega⟩), wrN (by omega) (by omega), Int.add_zero]
      · rw [up_k e, r2.1 440 (by decide) (by decide), if_neg (fun h => e (by omega))]; exact hs o ho)
    exact ⟨T', q1, q2, q3, r2.fg.tr (FG_440.tr q4), by rw [q5, up_c (by decide), r2.2 57 (by decide) (by decide) (by decide) (by decide) (by decide) (by decide) (by decide)], q6⟩
/-- one feeling goes -/
def goF (P : MS) (m : Nat → Int) (f i : Nat) : Int := if 25 ≤ i ∧ i < 57 ∧ (i - 25) % 4 = f ∧ (i - 25) / 4 < nOf P then nxt P (m 0) (inW m) (tuW m) (colW m f) ((i - 25) / 4) else m i
theorem m_fg3 (hP : PLN P) (hf : f < 4) {s : Nat → Int} (hs0 : ∀ o, o < nOf P → 0 ≤ s o) : ∀ (n v : Nat) (T : MS), v + n = nOf P → RP P T → (∀ o, o < nOf P → T 440 o = s o) → (∀ i, T 438 i = if 25 ≤ i ∧ i < 57 ∧ (i - 25) % 4 = f ∧ (i - 25) / 4 < v then cutF (s ((i - 25) / 4)) else m i) →
    ∃ T', Mo_feelingGoes_79 f v T = some T' ∧ (∀ i, T' 438 i = if 25 ≤ i ∧ i < 57 ∧ (i - 25) % 4 = f ∧ (i - 25) / 4 < nOf P then cutF (s ((i - 25) / 4)) else m i) ∧ FG T T' ∧ T' 401 57 = T 401 57 := by
  intro n
  have hO := nOf_le hP
  have hO1 := hP.1
  induction n with
  | zero =>
    intro v T hv hR hs hm
    rw [e_Mo_feelingGoes_79, m_oMany, Option.bind_some]
    dsimp only
    rw [hR.n4, if_neg (by unfold nOf at hv; omega)]
    exact ⟨T, rfl, fun i => by rw [hm i, show v = nOf P by omega], FG.rf T, rfl⟩
  | succ n ih =>
    intro v T hv hR hs hm
    have h0 := hs0 v (by omega)
    rw [e_Mo_feelingGoes_79, m_oMany, Option.bind_some]
    dsimp only
    have hw : wr (wr (25 + wr (4 * (v : Int))) + (f : Int)) = ((25 + 4 * v + f : Nat) : Int) := by
      rw [wrN (z := 4 * (v : Int)) (by omega) (by omega), wrN (z := 25 + 4 * (v : Int)) (by omega) (by omega), wrN (by omega) (by omega)]; omega
    rw [hR.n4, if_pos (by unfold nOf at hv; omega), if_pos (by omega), Int.toNat_natCast]
    simp only [hs v (show v < nOf P by omega), hw, Int.toNat_natCast, wrN (z := (v : Int) + 1) (by omega) (by omega)]
    have key : ∀ z : Int, z = cutF (s v) → ∀ i, up T 438 (25 + 4 * v + f) z 438 i = if 25 ≤ i ∧ i < 57 ∧ (i - 25) % 4 = f ∧ (i - 25) / 4 < v + 1 then cutF (s ((i - 25) / 4)) else m i := by
      intro z hz i
      by_cases e : i = 25 + 4 * v + f
      · rw [e, up_s, if_pos (by omega), show (25 + 4 * v + f - 25) / 4 = v by omega, hz]
      · rw [up_k e, hm i]
        by_cases c : 25 ≤ i ∧ i < 57 ∧ (i - 25) % 4 = f ∧ (i - 25) / 4 < v
        · rw [if_pos c, if_pos (by omega)]
        · rw [if_neg c, if_neg (by omega)]
    by_cases c : 99 < s v
    · rw [if_pos c, if_pos (by omega)]
      obtain ⟨T', q1, q2, q3, q4⟩ := ih (v + 1) (up T 438 (25 + 4 * v + f) 99) (by omega) (hR.fg FG_438) (fun o ho => by rw [up_c (by decide)]; exact hs o ho) (key 99 (by unfold cutF; rw [if_neg (by omega), if_pos c]))
      exact ⟨T', q1, q2, FG_438.tr q3, by rw [q4, up_c (by decide)]⟩
    · rw [if_neg c, if_pos (by omega), if_pos (by omega)]
      obtain ⟨T', q1, q2, q3, q4⟩ := ih (v + 1) (up T 438 (25 + 4 * v + f) (s v)) (by omega) (hR.fg FG_438) (fun o ho => by rw [up_c (by decide)]; exact hs o ho) (key (s v) (by unfold cutF; rw [if_neg (by omega), if_neg c]))
      exact ⟨T', q1, q2, FG_438.tr q3, by rw [q4, up_c (by decide)]⟩
theorem m_feelGoes (hP : PLN P) {T : MS} (hR : RP P T) (hW : WV P (T 438)) (hf : f < 4) : ∃ T', m_Mo_feelingGoes f T = some T' ∧ T' 438 = goF P (T 438) f ∧ FG T T' ∧ T' 401 57 = T 401 57 := by
  obtain ⟨T1, a1, a2, a3, a4, a5, a6⟩ := m_fg1 (m := T 438) hP hW hf (nOf P) 0 T (by omega) hR rfl (fun o ho => by omega)
  obtain ⟨T2, b1, b2, b3, b4, b5, b6⟩ := m_fg2 (m := T 438) hP hW hf (nCa P) 0 T1 (by omega) a2 a3 a6
  obtain ⟨T3, c1, c2, c3, c4⟩ := m_fg3 (m := T 438) (f := f) hP hf (s := fun o => sumA P (T 438 0) (inW (T 438)) (tuW (T 438)) (colW (T 438) f) (nCa P) o) (fun o _ => (sumA_b _ _ _ _ _ _ _).1) (nOf P) 0 T2 (by omega) b2 b6 (fun i => by rw [if_neg (by omega), b3])
  refine ⟨T3, ?_, ?_, a4.tr (b4.tr c3), by rw [c4, b5, a5]⟩
  · rw [e_Mo_feelingGoes]; exact a1.trans (b1.trans c1)
  · funext i; rw [c2 i]; rfl
theorem goF_out {i : Nat} (h : i < 25 ∨ 57 ≤ i) : goF P m f i = m i := by unfold goF; rw [if_neg (by omega)]
theorem goF_other {i : Nat} (h : (i - 25) % 4 ≠ f) : goF P m f i = m i := by unfold goF; rw [if_neg (fun c => h c.2.2.1)]
theorem goF_col (hP : PLN P) (hW : WV P m) (hf : f < 4) {o : Nat} (ho : o < 8) : goF P m f (25 + 4 * o + f) = goW P m (25 + 4 * o + f) := by
  unfold goF
  rw [show (25 + 4 * o + f - 25) % 4 = f by omega, show (25 + 4 * o + f - 25) / 4 = o by omega]
  by_cases c : o < nOf P
  · rw [if_pos ⟨by omega, by omega, rfl, c⟩, goW_s P m ho hf]
  · rw [if_neg (fun h => c h.2.2.2), (goW_WV hP hW).2.2.2.1 o f ho hf (Or.inl (by omega)), hW.2.2.2.1 o f ho hf (Or.inl (by omega))]
theorem goF_WV (hP : PLN P) (hW : WV P m) (hf : f < 4) : WV P (goF P m f) := by
  have hg := goW_WV hP hW
  refine ⟨by rw [goF_out (Or.inl (by decide))]; exact hW.1, fun k hk => by rw [goF_out (Or.inl (by omega)), goF_out (Or.inl (by omega))]; exact hW.2.1 k hk, fun i h1 h2 => ?_, fun o g ho hg2 hc => ?_, fun k h1 h2 => by rw [goF_out (Or.inl (by omega)), goF_out (Or.inl (by omega))]; exact hW.2.2.2.2 k h1 h2⟩
  · by_cases e : (i - 25) % 4 = f
    · rw [show i = 25 + 4 * ((i - 25) / 4) + f by omega, goF_col hP hW hf (by omega)]
      exact hg.2.2.1 _ (by omega) (by omega)
    · rw [goF_other e]; exact hW.2.2.1 i h1 h2
  · by_cases e : g = f
    · subst e; rw [goF_col hP hW hf ho]; exact hg.2.2.2.1 o g ho hf hc
    · rw [goF_other (by omega)]; exact hW.2.2.2.1 o g ho hg2 hc
/-- feelings below v have gone -/
def mixW (P : MS) (m : Nat → Int) (v i : Nat) : Int := if 25 ≤ i ∧ i < 57 ∧ (i - 25) % 4 < v then goW P m i else m i
theorem mixW_WV (hP : PLN P) (hW : WV P m) (v : Nat) : WV P (mixW P m v) := by
  have hg := goW_WV hP hW
  refine ⟨by unfold mixW; rw [if_neg (by omega)]; exact hW.1, fun k hk => by unfold mixW; rw [if_neg (by omega), if_neg (by omega)]; exact hW.2.1 k hk, fun i h1 h2 => ?_, fun o g ho hg2 hc => ?_, fun k h1 h2 => by unfold mixW; rw [if_neg (by omega), if_neg (by omega)]; exact hW.2.2.2.2 k h1 h2⟩
  · unfold mixW
    split
    · exact hg.2.2.1 i h1 h2
    · exact hW.2.2.1 i h1 h2
  · unfold mixW
    split
    · exact hg.2.2.2.1 o g ho hg2 hc
    · exact hW.2.2.2.1 o g ho hg2 hc
theorem mixW_next (hP : PLN P) (hW : WV P m) {v : Nat} (hv : v < 4) : goF P (mixW P m v) v = mixW P m (v + 1) := by
  funext i
  by_cases c : 25 ≤ i ∧ i < 57
  · by_cases e : (i - 25) % 4 = v
    · rw [show i = 25 + 4 * ((i - 25) / 4) + v by omega, goF_col hP (mixW_WV hP hW v) hv (by omega)]
      unfold mixW
      rw [if_pos (by omega), goW_s P _ (by omega) hv, goW_s P m (by omega) hv, if_neg (by omega)]
      refine nxt_congr hP (fun k hk => ?_) (fun k hk => ?_) (fun x hx => ?_) (by omega)
      · have := nCa_le hP; unfold inW; dsimp only; rw [if_neg (by omega)]
      · have := nCa_le hP; unfold tuW; dsimp only; rw [if_neg (by omega)]
      · unfold colW; dsimp only; rw [if_neg (by omega)]
    · rw [goF_other e]
      unfold mixW
      by_cases h : (i - 25) % 4 < v
      · rw [if_pos ⟨c.1, c.2, h⟩, if_pos ⟨c.1, c.2, by omega⟩]
      · rw [if_neg (by omega), if_neg (by omega)]
  · rw [goF_out (by omega)]
    unfold mixW
    rw [if_neg (by omega), if_neg (by omega)]
theorem mixW_all (hP : PLN P) (hW : WV P m) : mixW P m (nFe P) = goW P m := by
  funext i
  unfold mixW
  by_cases c : 25 ≤ i ∧ i < 57
  · by_cases h : (i - 25) % 4 < nFe P
    · rw [if_pos ⟨c.1, c.2, h⟩]
    · rw [if_neg (by omega), show i = 25 + 4 * ((i - 25) / 4) + (i - 25) % 4 by omega, hW.2.2.2.1 _ _ (by omega) (by omega) (Or.inr (by omega)), (goW_WV hP hW).2.2.2.1 _ _ (by omega) (by omega) (Or.inr (by omega))]
  · rw [if_neg (by omega), goW_o _ _ (by omega)]
theorem m_dg1 (hP : PLN P) (hW : WV P m) : ∀ (n v : Nat) (T : MS), v + n = nFe P → RP P T → T 438 = mixW P m v → ∃ T', Mo_dayGoes_2 v T = Mo_dayGoes_23 0 T' ∧ RP P T' ∧ T' 438 = goW P m ∧ FG T T' ∧ T' 401 57 = T 401 57 := by
  intro n
  have hF := nFe_le hP
  have hF1 := hP.2.1
  induction n with
  | zero =>
    intro v T hv hR hm
    rw [e_Mo_dayGoes_2, e_Mo_feelingMany, Option.bind_some]
    dsimp only
    rw [hR.n5, if_neg (by unfold nFe at hv; omega)]
    exact ⟨T, rfl, hR, by rw [hm, show v = nFe P by omega, mixW_all hP hW], FG.rf T, rfl⟩
  | succ n ih =>
    intro v T hv hR hm
    rw [e_Mo_dayGoes_2, e_Mo_feelingMany, Option.bind_some]
    dsimp only
    obtain ⟨T1, a1, a2, a3, a4⟩ := m_feelGoes (f := v) hP hR (by rw [hm]; exact mixW_WV hP hW v) (by omega)
    rw [hR.n5, if_pos (by unfold nFe at hv; omega), a1, Option.bind_some, wrN (by omega) (by omega)]
    obtain ⟨T', b1, b2, b3, b4, b5⟩ := ih (v + 1) T1 (by omega) (hR.fg a3) (by rw [a2, hm, mixW_next hP hW (by omega)])
    exact ⟨T', b1, b2, b3, a3.tr b4, by rw [b5, a4]⟩
end
/-! what is kept -/
theorem m_kept33 {m : Nat → Int} {o f : Int} : ∀ (n v : Nat) (T : MS), v + n = 214 → 58 ≤ v → (∀ i, T 438 i = if 58 ≤ i ∧ i < v then m (i + 4) else m i) → ∃ T', Mo_isKept_33 o f v T = Mo_isKept_74 o f T' ∧ (∀ i, T' 438 i = if 58 ≤ i ∧ i < 214 then m (i + 4) else m i) ∧ ∀ c, c ≠ 438 → T' c = T c := by
  intro n
  induction n with
  | zero =>
    intro v T hv h58 hm
    rw [e_Mo_isKept_33, if_neg (by omega)]
    exact ⟨T, rfl, fun i => by rw [hm i, show v = 214 by omega], fun _ _ => rfl⟩
  | succ n ih =>
    intro v T hv h58 hm
    rw [e_Mo_isKept_33, if_pos (by omega), wrN (z := (v : Int) + 4) (by omega) (by omega), if_pos (by omega), if_pos (by omega), wrN (by omega) (by omega), Int.toNat_natCast, show ((v : Int) + 4).toNat = v + 4 by omega]
    obtain ⟨T', q1, q2, q3⟩ := ih (v + 1) (up T 438 v (T 438 (v + 4))) (by omega) (by omega) (fun i => by
      by_cases e : i = v
      · subst e; rw [up_s, hm, if_neg (by omega), if_pos (by omega)]
      · rw [up_k e, hm i]
        by_cases c : 58 ≤ i ∧ i < v
        · rw [if_pos c, if_pos (by omega)]
        · rw [if_neg c, if_neg (by omega)])
    exact ⟨T', q1, q2, fun c hc => by rw [q3 c hc, up_c hc]⟩
theorem m_kept74 {o f : Nat} (ho : o < 8) (hf : f < 4) {T : MS} {c : Nat} (hc : T 438 57 = (c : Int)) (h1 : 1 ≤ c) (h2 : c ≤ 40) : ∃ T', Mo_isKept_74 o f T = some T' ∧ (∀ i, T' 438 i = if i = 54 + 4 * c then T 438 0 else if i = 55 + 4 * c then (o : Int) else if i = 56 + 4 * c then (f : Int) else if i = 57 + 4 * c then T 438 (25 + 4 * o + f) else T 438 i) ∧ ∀ x, x ≠ 438 → T' x = T x := by
  have hw : wr (wr (58 + wr (4 * (c : Int))) - 4) = ((54 + 4 * c : Nat) : Int) := by
    rw [wrN (z := 4 * (c : Int)) (by omega) (by omega), wrN (z := 58 + 4 * (c : Int)) (by omega) (by omega), wrN (by omega) (by omega)]; omega
  rw [e_Mo_isKept_74, hc, hw, wrN (z := ((54 + 4 * c : Nat) : Int) + 1) (by omega) (by omega), wrN (z := ((54 + 4 * c : Nat) : Int) + 2) (by omega) (by omega), wrN (z := ((54 + 4 * c : Nat) : Int) + 3) (by omega) (by omega), if_pos (by omega), if_pos (by omega), if_pos (by omega), Int.toNat_natCast, show (((54 + 4 * c : Nat) : Int) + 1).toNat = 55 + 4 * c by omega, show (((54 + 4 * c : Nat) : Int) + 2).toNat = 56 + 4 * c by omega, show (((54 + 4 * c : Nat) : Int) + 3).toNat = 57 + 4 * c by omega, m_str ho hf, Option.bind_some]
  dsimp only
  rw [if_pos (by omega)]
  refine ⟨_, rfl, fun i => ?_, fun x hx => by rw [up_c hx, up_c hx, up_c hx, up_c hx]⟩
  by_cases e3 : i = 57 + 4 * c
  · subst e3; rw [up_s, if_neg (by omega), if_neg (by omega), if_neg (by omega), if_pos rfl, up_k (by omega), up_k (by omega), up_k (by omega)]
  · rw [up_k e3]
    by_cases e2 : i = 56 + 4 * c
    · subst e2; rw [up_s, if_neg (by omega), if_neg (by omega), if_pos rfl]
    · rw [up_k e2]
      by_cases e1 : i = 55 + 4 * c
      · subst e1; rw [up_s, if_neg (by omega), if_pos rfl]
      · rw [up_k e1]
        by_cases e0 : i = 54 + 4 * c
        · subst e0; rw [up_s, if_pos rfl]
        · rw [up_k e0, if_neg e0, if_neg e1, if_neg e2, if_neg e3]
theorem m_isKept {o f : Nat} (ho : o < 8) (hf : f < 4) {T : MS} (hc : 0 ≤ T 438 57 ∧ T 438 57 ≤ 40) (hn : 0 ≤ T 401 57 ∧ T 401 57 < 1000000000) :
    ∃ T', m_Mo_isKept o f T = some T' ∧ T' 438 = (if T 401 56 = 0 then keepM (T 438) o f else T 438) ∧ T' 401 57 = T 401 57 + 1 ∧ FG T T' := by
  rw [e_Mo_isKept, wrN (z := T 401 57 + 1) (by omega) (by omega)]
  by_cases th : T 401 56 = 0
  · rw [if_pos th, if_pos th]
    by_cases c : T 438 57 = 40
    · rw [if_pos c]
      obtain ⟨T1, a1, a2, a3⟩ := m_kept33 (m := T 438) (o := o) (f := f) 156 58 (up T 401 57 (T 401 57 + 1)) rfl (by decide) (fun i => by rw [up_c (by decide), if_neg (by omega)])
      obtain ⟨T2, b1, b2, b3⟩ := m_kept74 (o := o) (f := f) (c := 40) ho hf (T := T1) (by rw [a2, if_neg (by omega), c]; rfl) (by decide) (by decide)
      refine ⟨T2, ?_, ?_, by rw [b3 401 (by decide), a3 401 (by decide), up_s], ⟨fun x h1 h2 _ _ => by rw [b3 x h2, a3 x h2, up_c h1], fun k _ _ _ _ _ _ h7 _ => by rw [b3 401 (by decide), a3 401 (by decide), up_k h7]⟩⟩
      · exact a1.trans b1
      · funext i
        rw [b2 i]
        unfold keepM
        rw [if_pos c, show (40 : Int).toNat = 40 from rfl, a2, a2, a2, if_neg (show ¬ (58 ≤ 0 ∧ 0 < 214) by omega), if_neg (show ¬ (58 ≤ 25 + 4 * o + f ∧ 25 + 4 * o + f < 214) by omega)]
        by_cases e : i = 57
        · subst e; rw [if_neg (by omega), if_neg (by omega), if_neg (by omega), if_neg (by omega), if_neg (by omega), if_pos rfl, c]
        · rw [if_neg (show ¬ i = 57 from e)]
          by_cases e2 : i < 58
          · rw [if_pos e2, if_neg (by omega), if_neg (by omega), if_neg (by omega), if_neg (by omega), if_neg (by omega)]
          · rw [if_neg e2]
            by_cases h0 : i = 54 + 4 * 40
            · rw [if_pos h0, if_pos h0]
            rw [if_neg h0, if_neg h0]
            by_cases h1 : i = 55 + 4 * 40
            · rw [if_pos h1, if_pos h1]
            rw [if_neg h1, if_neg h1]
            by_cases h2 : i = 56 + 4 * 40
            · rw [if_pos h2, if_pos h2]
            rw [if_neg h2, if_neg h2]
            by_cases h3 : i = 57 + 4 * 40
            · rw [if_pos h3, if_pos h3]
            rw [if_neg h3, if_neg h3]
            by_cases h4 : i < 214
            · rw [if_pos ⟨by omega, h4⟩, if_pos ⟨c, h4⟩]
            · rw [if_neg (by omega), if_neg (by omega)]
    · rw [if_neg c, wrN (z := T 438 57 + 1) (by omega) (by omega)]
      obtain ⟨T2, b1, b2, b3⟩ := m_kept74 (o := o) (f := f) (c := (T 438 57 + 1).toNat) ho hf (T := up (up T 401 57 (T 401 57 + 1)) 438 57 (T 438 57 + 1)) (by rw [up_s]; omega) (by omega) (by omega)
      refine ⟨T2, b1, ?_, by rw [b3 401 (by decide), up_c (by decide), up_s], ⟨fun x h1 h2 _ _ => by rw [b3 x h2, up_c h2, up_c h1], fun k _ _ _ _ _ _ h7 _ => by rw [b3 401 (by decide), up_c (by decide), up_k h7]⟩⟩
      funext i
      rw [b2 i]
      unfold keepM
      rw [if_neg c, up_k (k' := 0) (by decide), up_c (by decide), up_k (k' := 25 + 4 * o + f) (by omega), up_c (by decide)]
      by_cases e : i = 57
      · subst e; rw [if_neg (by omega), if_neg (by omega), if_neg (by omega), if_neg (by omega), up_s, if_pos rfl]
      · rw [if_neg (show ¬ i = 57 from e), up_k e, up_c (by decide)]
        by_cases e2 : i < 58
        · rw [if_pos e2, if_neg (by omega), if_neg (by omega), if_neg (by omega), if_neg (by omega)]
        · rw [if_neg e2, if_neg (show ¬ (T 438 57 = 40 ∧ i < 214) from fun h => c h.1)]
  · rw [if_neg th, if_neg th]
    exact ⟨_, rfl, by rw [up_c (by decide)], up_s _ _ _ _, FG_57⟩
/-- the number kept is right -/
def KN (m : Nat → Int) : Prop := 0 ≤ m 57 ∧ m 57 ≤ 40
theorem KN_keep {m : Nat → Int} (h : KN m) (o f : Nat) : KN (keepM m o f) := by
  unfold KN at h ⊢
  have : keepM m o f 57 = if m 57 = 40 then 40 else m 57 + 1 := by unfold keepM; rw [if_pos rfl]
  rw [this]
  split <;> omega
theorem KN_kp1 {P : MS} {th : Int} {o : Nat} : ∀ (n : Nat) (m : Nat → Int), KN m → KN (kp1 P th o n m) := by
  intro n
  induction n with
  | zero => intro m h; exact h
  | succ n ih =>
    intro m h
    rw [kp1]
    split
    · exact KN_keep (ih m h) _ _
    · exact ih m h
theorem KN_kp2 {P : MS} {th : Int} : ∀ (n : Nat) (m : Nat → Int), KN m → KN (kp2 P th n m) := by
  intro n
  induction n with
  | zero => intro m h; exact h
  | succ n ih => intro m h; exact KN_kp1 _ _ (ih m h)
section
variable {P : MS} {g : Nat → Int} {th : Int}
theorem m_dg3 (hP : PLN P) (hW : WV P g) (hK : KN g) {o : Nat} (ho : o < 8) : ∀ (n f : Nat) (T : MS), f + n = nFe P → RP P T → T 401 56 = th → T 438 = kp1 P th o f (kp2 P th o g) → (∃ A : Int, T 401 57 = A + an1 P g o f ∧ 0 ≤ A ∧ A < 990000000) →
    ∃ T', Mo_dayGoes_33 o f T = Mo_dayGoes_23 ((o : Int) + 1) T' ∧ RP P T' ∧ T' 401 56 = th ∧ T' 438 = kp2 P th (o + 1) g ∧ (∀ A : Int, T 401 57 = A + an1 P g o f → T' 401 57 = A + an1 P g o (nFe P)) ∧ FG T T' := by
  intro n
  have hF := nFe_le hP
  have hF1 := hP.2.1
  induction n with
  | zero =>
    intro f T hv hR ht hm hA
    rw [e_Mo_dayGoes_33, e_Mo_feelingMany, Option.bind_some]
    dsimp only
    rw [hR.n5, if_neg (by unfold nFe at hv; omega), wrN (by omega) (by omega)]
    exact ⟨T, rfl, hR, ht, by rw [hm, show f = nFe P by omega]; rfl, fun A h => by rw [h, show f = nFe P by omega], FG.rf T⟩
  | succ n ih =>
    intro f T hv hR ht hm hA
    have hlo : ∀ i, i < 57 → T 438 i = g i := fun i hi => by rw [hm, kp1_lo hi, kp2_lo hi]
    obtain ⟨A, hA1, hA2, hA3⟩ := hA
    have hab := an1_b P g o f
    rw [e_Mo_dayGoes_33, e_Mo_feelingMany, Option.bind_some]
    dsimp only
    obtain ⟨z, T1, a1, a2, a3, a4⟩ := m_acted (o := o) (f := f) hP hR (hW.lo hlo) ho (by omega)
    have hz := act01_iff a2 a3
    rw [act01_lo hlo ho (by omega)] at hz
    rw [hR.n5, if_pos (by unfold nFe at hv; omega), a1, Option.bind_some, wrN (z := (f : Int) + 1) (by omega) (by omega)]
    dsimp only
    have e438 : T1 438 = T 438 := a4.1 438 (by decide) (by decide)
    have e57 : T1 401 57 = T 401 57 := a4.2 57 (by decide) (by decide) (by decide) (by decide) (by decide) (by decide) (by decide)
    have e56 : T1 401 56 = T 401 56 := a4.2 56 (by decide) (by decide) (by decide) (by decide) (by decide) (by decide) (by decide)
    by_cases c : z = 0
    · rw [if_pos c]
      have h0 : act01 P g o f = 0 := by rw [← hz, c]
      obtain ⟨T', b1, b2, b3, b4, b5, b6⟩ := ih (f + 1) T1 (by omega) (hR.fl a4) (by rw [e56, ht]) (by
        have hgg : act01 P (kp2 P th o g) o f = 0 := by rw [act01_lo (fun i hi => kp2_lo hi o g) ho (by omega), h0]
        rw [e438, hm, kp1, if_neg (fun h => by rw [hgg] at h; exact absurd h.1 (by decide))]) ⟨A, by rw [e57, hA1, an1, h0, Int.add_zero], hA2, hA3⟩
      exact ⟨T', b1, b2, b3, b4, fun B hB => b5 B (by rw [e57, hB, an1, h0, Int.add_zero]), a4.fg.tr b6⟩
    · rw [if_neg c]
      have h1 : act01 P g o f = 1 := by
        rw [← hz]
        rcases a2 with h | h
        · exact absurd h c
        · exact h
      have hKT : KN (T 438) := by rw [hm]; exact KN_kp1 _ _ (KN_kp2 _ _ hK)
      obtain ⟨T2, r1, r2, r3, r4⟩ := m_isKept (o := o) (f := f) ho (by omega) (T := T1) (by rw [e438]; exact hKT) (by rw [e57, hA1]; omega)
      rw [r1, Option.bind_some]
      obtain ⟨T', b1, b2, b3, b4, b5, b6⟩ := ih (f + 1) T2 (by omega) ((hR.fl a4).fg r4) (by rw [r4.2 56 (by decide) (by decide) (by decide) (by decide) (by decide) (by decide) (by decide) (by decide), e56, ht]) (by
        have hgg : act01 P (kp2 P th o g) o f = 1 := by rw [act01_lo (fun i hi => kp2_lo hi o g) ho (by omega), h1]
        rw [r2, e438, e56, ht, hm, kp1]
        by_cases h0 : th = 0
        · rw [if_pos h0, if_pos ⟨hgg, h0⟩]
        · rw [if_neg h0, if_neg (fun h => h0 h.2)]) ⟨A, by rw [r3, e57, hA1, an1, h1]; omega, hA2, hA3⟩
      exact ⟨T', b1, b2, b3, b4, fun B hB => b5 B (by rw [r3, e57, hB, an1, h1]; omega), a4.fg.tr (r4.tr b6)⟩
theorem m_dg2 (hP : PLN P) (hW : WV P g) (hK : KN g) : ∀ (n o : Nat) (T : MS), o + n = nOf P → RP P T → T 401 56 = th → T 438 = kp2 P th o g → (∃ A : Int, T 401 57 = A + an2 P g o ∧ 0 ≤ A ∧ A < 900000000) →
    ∃ T', Mo_dayGoes_23 o T = some T' ∧ RP P T' ∧ T' 438 = dayP (kp2 P th (nOf P) g) ∧ (∀ A : Int, T 401 57 = A + an2 P g o → T' 401 57 = A + an2 P g (nOf P)) ∧ FG T T' := by
  intro n
  have hO := nOf_le hP
  have hO1 := hP.1
  induction n with
  | zero =>
    intro o T hv hR ht hm hA
    have h0 : T 438 0 = g 0 := by rw [hm, kp2_lo (by decide)]
    have hg0 := hW.1
    rw [e_Mo_dayGoes_23, m_oMany, Option.bind_some]
    dsimp only
    rw [hR.n4, if_neg (by unfold nOf at hv; omega), h0, wrN (by omega) (by omega)]
    refine ⟨_, rfl, hR.fg FG_438, ?_, fun A h => by rw [up_c (by decide), h, show o = nOf P by omega], FG_438⟩
    funext i
    unfold dayP
    by_cases e : i = 0
    · subst e; rw [up_s, if_pos rfl, kp2_lo (by decide)]
    · rw [up_k e, if_neg e, hm, show o = nOf P by omega]
  | succ n ih =>
    intro o T hv hR ht hm hA
    obtain ⟨A, hA1, hA2, hA3⟩ := hA
    have hab := an2_b hP g o
    rw [e_Mo_dayGoes_23, m_oMany, Option.bind_some]
    dsimp only
    rw [hR.n4, if_pos (by unfold nOf at hv; omega)]
    obtain ⟨T1, a1, a2, a3, a4, a5, a6⟩ := m_dg3 (th := th) (o := o) hP hW hK (by omega) (nFe P) 0 T (by omega) hR ht hm ⟨A + an2 P g o, by rw [hA1, an1, Int.add_zero], by omega, by omega⟩
    obtain ⟨T', b1, b2, b3, b4, b5⟩ := ih (o + 1) T1 (by omega) a2 a3 a4 ⟨A, by rw [a5 (A + an2 P g o) (by rw [hA1, an1, Int.add_zero]), an2]; omega, hA2, hA3⟩
    exact ⟨T', a1.trans b1, b2, b3, fun B hB => b4 B (by rw [a5 (B + an2 P g o) (by rw [hB, an1, Int.add_zero]), an2]; omega), a6.tr b5⟩
/-- a day -/
theorem m_dayGoes (hP : PLN P) {T : MS} (hR : RP P T) (hW : WV P (T 438)) (hK : KN (T 438)) (hA : 0 ≤ T 401 57 ∧ T 401 57 < 900000000) :
    ∃ T', m_Mo_dayGoes T = some T' ∧ RP P T' ∧ T' 438 = dayP (kp2 P (T 401 56) (nOf P) (goW P (T 438))) ∧ T' 401 57 = T 401 57 + an2 P (goW P (T 438)) (nOf P) ∧ FG T T' := by
  obtain ⟨T1, a1, a2, a3, a4, a5⟩ := m_dg1 (m := T 438) hP hW (nFe P) 0 T (by omega) hR (by funext i; unfold mixW; rw [if_neg (by omega)])
  have hK' : KN (goW P (T 438)) := by unfold KN; rw [goW_o _ _ (Or.inr (by decide))]; exact hK
  obtain ⟨T', b1, b2, b3, b4, b5⟩ := m_dg2 (th := T 401 56) hP (goW_WV hP hW) hK' (nOf P) 0 T1 (by omega) a2 (a4.2 56 (by decide) (by decide) (by decide) (by decide) (by decide) (by decide) (by decide) (by decide)) a3 ⟨T 401 57, by rw [a5]; show _ = _ + 0; omega, hA.1, hA.2⟩
  exact ⟨T', by rw [e_Mo_dayGoes]; exact a1.trans b1, b2, b3, b4 _ (by rw [a5]; show _ = _ + 0; omega), a4.tr b5⟩
end
