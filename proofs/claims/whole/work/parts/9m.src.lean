/-! sources: the reference tries every one -/
section
variable {n : Nat} {P S T : MS}
def srW (w : Nat → Int) (f src : Nat) (i : Nat) : Int := if 25 ≤ i ∧ i < 57 ∧ (i - 25) % 4 = f then srC src ((i - 25) / 4) else w i
theorem srW_s (w : Nat → Int) {f src o : Nat} (hf : f < 4) (ho : o < 8) : srW w f src (25 + 4 * o + f) = srC src o := by
  unfold srW
  rw [if_pos (by omega), show (25 + 4 * o + f - 25) / 4 = o by omega]
theorem srW_o (w : Nat → Int) {f src i : Nat} (h : i < 25 ∨ 57 ≤ i) : srW w f src i = w i := by
  unfold srW
  rw [if_neg (by omega)]
theorem srC_b (src o : Nat) : 0 ≤ srC src o ∧ srC src o ≤ 99 := by
  unfold srC unC
  split <;> omega
theorem srC_out {src o : Nat} (h : src < 99 * nOf P) (ho : nOf P ≤ o) : srC src o = 0 := by
  unfold srC unC
  rw [if_neg]
  omega
theorem srW_WV {w : Nat → Int} {f src : Nat} (hP : PLN P) (hW : WV P w) (hf : f < nFe P) (hs : src < 99 * nOf P) : WV P (srW w f src) := by
  have hf4 := nFe_le hP
  obtain ⟨w1, w2, w3, w4, w5⟩ := hW
  refine ⟨by rw [srW_o _ (Or.inl (by decide))]; exact w1, fun k hk => by rw [srW_o _ (Or.inl (by omega)), srW_o _ (Or.inl (by omega))]; exact w2 k hk, fun i h1 h2 => ?_, fun o g ho hg hc => ?_, fun k h1 h2 => by rw [srW_o _ (Or.inl (by omega)), srW_o _ (Or.inl (by omega))]; exact w5 k h1 h2⟩
  · unfold srW
    split
    · exact srC_b _ _
    · exact w3 i h1 h2
  · by_cases e : g = f
    · subst e
      rw [srW_s w hg ho]
      exact srC_out hs (by omega)
    · unfold srW
      rw [if_neg (by omega)]
      exact w4 o g ho hg hc
theorem one_col {w : Nat → Int} {f src : Nat} (hP : PLN P) (hW : WV P w) (hf : f < nFe P) (hs : src < 99 * nOf P) : ∀ N : Nat, w 0 + N ≤ 2000 → ∀ o, o < 8 → oneW P f N (srW w f src) (25 + 4 * o + f) = colT P w N (srC src) o := by
  have h12 := nCa_le hP
  have hf4 := nFe_le hP
  intro N
  induction N with
  | zero => intro _ o ho; exact srW_s w (by omega) ho
  | succ N ih =>
    intro hN o ho
    rw [oneW, dayP_k (by omega), goF_col hP (oneW_WV hP (by omega) (srW_WV hP hW hf hs) N (by rw [srW_o _ (Or.inl (by decide))]; omega)) (by omega) ho, goW_s P _ ho (by omega), oneW_0, srW_o _ (Or.inl (by decide))]
    refine nxt_congr hP (fun k hk => ?_) (fun k hk => ?_) (fun x hx => ih (by omega) x hx) ho
    · show oneW P f N (srW w f src) (1 + 2 * k) = w (1 + 2 * k)
      rw [oneW_k _ _ _ (by omega) (Or.inl (by omega)), srW_o _ (Or.inl (by omega))]
    · show oneW P f N (srW w f src) (2 + 2 * k) = w (2 + 2 * k)
      rw [oneW_k _ _ _ (by omega) (Or.inl (by omega)), srW_o _ (Or.inl (by omega))]
def FH (T T' : MS) : Prop := (∀ c, c ≠ 401 → c ≠ 438 → c ≠ 440 → c ≠ 447 → c ≠ 448 → c ≠ 475 → T' c = T c) ∧ ∀ k, k ≠ 48 → k ≠ 51 → k ≠ 52 → k ≠ 53 → k ≠ 54 → k ≠ 55 → k ≠ 57 → k ≠ 67 → k ≠ 103 → T' 401 k = T 401 k
theorem FH.rf (T : MS) : FH T T := ⟨fun _ _ _ _ _ _ _ => rfl, fun _ _ _ _ _ _ _ _ _ _ => rfl⟩
theorem FH.tr {T T' T'' : MS} (h : FH T T') (g : FH T' T'') : FH T T'' := ⟨fun c a1 a2 a3 a4 a5 a6 => (g.1 c a1 a2 a3 a4 a5 a6).trans (h.1 c a1 a2 a3 a4 a5 a6), fun k a1 a2 a3 a4 a5 a6 a7 a8 a9 => (g.2 k a1 a2 a3 a4 a5 a6 a7 a8 a9).trans (h.2 k a1 a2 a3 a4 a5 a6 a7 a8 a9)⟩
theorem FG.fh {T T' : MS} (h : FG T T') : FH T T' := ⟨fun c a1 a2 a3 _ _ a6 => h.1 c a1 a2 a3 a6, fun k a1 a2 a3 a4 a5 a6 a7 _ a9 => h.2 k a1 a2 a3 a4 a5 a6 a7 a9⟩
theorem FH.u438 {T T' : MS} (h : ∀ c, c ≠ 438 → T' c = T c) : FH T T' := ⟨fun c _ a2 _ _ _ _ => h c a2, fun k _ _ _ _ _ _ _ _ _ => by rw [h 401 (by decide)]⟩
theorem FH.u448 {T T' : MS} (h : ∀ c, c ≠ 448 → T' c = T c) : FH T T' := ⟨fun c _ _ _ _ a5 _ => h c a5, fun k _ _ _ _ _ _ _ _ _ => by rw [h 401 (by decide)]⟩
theorem FH.u447 {T T' : MS} (h : ∀ c, c ≠ 447 → T' c = T c) : FH T T' := ⟨fun c _ _ _ a4 _ _ => h c a4, fun k _ _ _ _ _ _ _ _ _ => by rw [h 401 (by decide)]⟩
theorem RP.fh {T T' : MS} (h : RP P T) (f : FH T T') : RP P T' := h.fr (f.1 _ (by decide) (by decide) (by decide) (by decide) (by decide) (by decide)) (f.1 _ (by decide) (by decide) (by decide) (by decide) (by decide) (by decide)) (f.1 _ (by decide) (by decide) (by decide) (by decide) (by decide) (by decide)) (f.1 _ (by decide) (by decide) (by decide) (by decide) (by decide) (by decide)) (f.1 _ (by decide) (by decide) (by decide) (by decide) (by decide) (by decide)) (f.1 _ (by decide) (by decide) (by decide) (by decide) (by decide) (by decide)) (f.1 _ (by decide) (by decide) (by decide) (by decide) (by decide) (by decide))
def ROW (P T : MS) : Prop := (0 ≤ T 401 64 ∧ T 401 64 ≤ 16) ∧ ∀ i : Nat, (i : Int) < T 401 64 → (0 ≤ T 446 (3 * i) ∧ T 446 (3 * i) ≤ 30) ∧ (0 ≤ T 446 (3 * i + 1) ∧ T 446 (3 * i + 1) < P 430 4) ∧ 0 ≤ T 446 (3 * i + 2) ∧ T 446 (3 * i + 2) ≤ 99
theorem ROr.row {P S T : MS} (h : ROr P S T) : ROW P T := by
  obtain ⟨h1, h2, h3⟩ := h
  refine ⟨by omega, fun i hi => ?_⟩
  obtain ⟨a, b, c⟩ := h3 i (by omega)
  omega
theorem ROW.fh {T T' : MS} (h : ROW P T) (f : FH T T') : ROW P T' := by
  unfold ROW
  rw [f.2 64 (by decide) (by decide) (by decide) (by decide) (by decide) (by decide) (by decide) (by decide) (by decide), f.1 446 (by decide) (by decide) (by decide) (by decide) (by decide) (by decide)]
  exact h
theorem fitS_fh {T T' : MS} (f : FH T T') (w : Nat → Int) : fitS P T' w = fitS P T w := fitS_congr (f.2 64 (by decide) (by decide) (by decide) (by decide) (by decide) (by decide) (by decide) (by decide) (by decide)) (f.1 446 (by decide) (by decide) (by decide) (by decide) (by decide) (by decide)) w
/-- one row of what was found, on day d -/
def rowB (T : MS) (m : Nat → Int) (f i : Nat) : Prop := m 0 ≤ 999 ∧ m (25 + 4 * (T 446 (3 * i + 1)).toNat + f) = T 446 (3 * i + 2)
theorem m_found {f d : Nat} (hP : PLN P) (hf : f < 4) (hr : ROW P T) : ∀ (j v : Nat), ((v + j : Nat) : Int) = T 401 64 → ∃ z, Mo_isAsFound_2 f d v T = some (z, T) ∧ (z = 0 ∨ z = 1) ∧ (z = 1 ↔ ∀ i : Nat, v ≤ i → (i : Int) < T 401 64 → T 446 (3 * i) = d → rowB T (T 438) f i) := by
  have hO := hP.1
  intro j
  induction j with
  | zero =>
    intro v e
    rw [e_Mo_isAsFound_2, if_neg (by omega)]
    exact ⟨1, rfl, Or.inr rfl, fun _ i i1 i2 => by omega, fun _ => rfl⟩
  | succ j ih =>
    intro v e
    obtain ⟨z, z1, z2, z3⟩ := ih (v + 1) (by omega)
    obtain ⟨r1, r2, r3⟩ := hr.2 v (by omega)
    have hr1 := hr.1
    have iff1 : (T 446 (3 * v) = d → rowB T (T 438) f v) → ((∀ i : Nat, v + 1 ≤ i → (i : Int) < T 401 64 → T 446 (3 * i) = d → rowB T (T 438) f i) ↔ ∀ i : Nat, v ≤ i → (i : Int) < T 401 64 → T 446 (3 * i) = d → rowB T (T 438) f i) := fun h => ⟨fun q i a b g => by
      by_cases c : i = v
      · rw [c]; rw [c] at g; exact h g
      · exact q i (by omega) b g, fun q i a b g => q i (by omega) b g⟩
    rw [e_Mo_isAsFound_2, if_pos (by omega), wr3 (by omega), if_pos (by omega), Int.toNat_natCast, wr_suc2 (show v < 16 by omega) (by decide)]
    by_cases c1 : T 446 (3 * v) = d
    · rw [if_pos c1]
      by_cases c2 : 999 < T 438 0
      · rw [if_pos c2]
        exact ⟨0, rfl, Or.inl rfl, fun q => absurd q (by decide), fun q => by have := (q v (Nat.le_refl _) (by omega) c1).1; omega⟩
      · obtain ⟨o, ho⟩ : ∃ o : Nat, T 446 (3 * v + 1) = (o : Int) := ⟨(T 446 (3 * v + 1)).toNat, by omega⟩
        rw [if_neg c2, wA1 (by omega), if_pos (by omega), Int.toNat_natCast, ho, m_str (by omega) hf, Option.bind_some]
        dsimp only
        rw [wA2 (by omega), if_pos (by omega), Int.toNat_natCast]
        have hb : rowB T (T 438) f v ↔ T 438 (25 + 4 * o + f) = T 446 (3 * v + 2) := by
          unfold rowB
          rw [ho, Int.toNat_natCast]
          exact ⟨fun q => q.2, fun q => ⟨by omega, q⟩⟩
        by_cases c3 : T 438 (25 + 4 * o + f) = T 446 (3 * v + 2)
        · rw [if_pos c3]
          exact ⟨z, z1, z2, z3.trans (iff1 (fun _ => hb.mpr c3))⟩
        · rw [if_neg c3]
          exact ⟨0, rfl, Or.inl rfl, fun q => absurd q (by decide), fun q => absurd (hb.mp (q v (Nat.le_refl _) (by omega) c1)) c3⟩
    · rw [if_neg c1]
      exact ⟨z, z1, z2, z3.trans (iff1 (fun g => absurd g c1))⟩
theorem wr248 {s d o : Nat} (hs : s < 792) (hd : d ≤ 31) (ho : o < 8) : wr ((wr ((wr (248 * (s : Int))) + (wr (8 * (d : Int))))) + (o : Int)) = ((248 * s + 8 * d + o : Nat) : Int) := by
  rw [wrN (z := 248 * (s : Int)) (by omega) (by omega), wrN (z := 8 * (d : Int)) (by omega) (by omega), wrN (z := 248 * (s : Int) + 8 * (d : Int)) (by omega) (by omega), wrN (by omega) (by omega)]
  omega
theorem m_sg85 {f s d : Nat} {z : Int} (hP : PLN P) (hf : f < 4) (hs : s < 792) (hd : d ≤ 30) : ∀ (j v : Nat) (T : MS), v + j = nOf P → RP P T → WV P (T 438) → T 438 0 + 1 ≤ 2000 → ∃ T', Mo_sourceGoes_85 f s z d v T = Mo_sourceGoes_55 f s z ((d + 1 : Nat) : Int) T' ∧ T' 438 = oneW P f 1 (T 438) ∧ (∀ i, T' 448 i = if 248 * s + 8 * d + v ≤ i ∧ i < 248 * s + 8 * d + nOf P then T 438 (25 + 4 * (i - (248 * s + 8 * d)) + f) else T 448 i) ∧ FH T T' ∧ T' 401 57 = T 401 57 ∧ T' 447 = T 447 ∧ T' 401 67 = T 401 67 := by
  have hO := nOf_le hP
  have hO1 := hP.1
  intro j
  induction j with
  | zero =>
    intro v T e hR hW hN
    obtain ⟨T1, q1, q2, q3, q4⟩ := m_oneGoes (f := f) (N := 1) hP hf hR hW hN
    have q1 : m_Mo_oneGoes f 1 T = _ := q1
    rw [e_Mo_sourceGoes_85, m_oMany, Option.bind_some]
    dsimp only
    rw [hR.n4, if_neg (by unfold nOf at e; omega), q1, Option.bind_some, wr_suc2 (show d < 31 by omega) (by decide)]
    refine ⟨T1, rfl, q2, fun i => by rw [if_neg (by omega), q3.1 448 (by decide) (by decide) (by decide) (by decide)], q3.fh, q4, q3.1 447 (by decide) (by decide) (by decide) (by decide), q3.2 67 (by decide) (by decide) (by decide) (by decide) (by decide) (by decide) (by decide) (by decide)⟩
  | succ j ih =>
    intro v T e hR hW hN
    have f1 : ∀ z : Int, FH T (up T 448 (248 * s + 8 * d + v) z) := fun z => FH.u448 (fun c hc => up_c hc)
    have e1 : ∀ z : Int, up T 448 (248 * s + 8 * d + v) z 438 = T 438 := fun z => up_c (by decide)
    rw [e_Mo_sourceGoes_85, m_oMany, Option.bind_some]
    dsimp only
    rw [hR.n4, if_pos (by unfold nOf at e; omega), m_str (by omega) hf, Option.bind_some]
    dsimp only
    rw [wr248 hs (by omega) (by omega), if_pos (by omega), Int.toNat_natCast, wr_suc2 (show v < 8 by omega) (by decide)]
    obtain ⟨T', r1, r2, r3, r4, r5, r6, r7⟩ := ih (v + 1) (up T 448 (248 * s + 8 * d + v) (T 438 (25 + 4 * v + f))) (by omega) (hR.fh (f1 _)) (by rw [e1]; exact hW) (by rw [e1]; exact hN)
    refine ⟨T', r1, by rw [r2, e1], fun i => ?_, (f1 _).tr r4, by rw [r5, up_c (by decide)], by rw [r6, up_c (by decide)], by rw [r7, up_c (by decide)]⟩
    rw [r3 i, e1]
    by_cases c : i = 248 * s + 8 * d + v
    · rw [if_neg (by omega), if_pos (by omega), c, up_s, show 248 * s + 8 * d + v - (248 * s + 8 * d) = v by omega]
    · rw [up_k c]
      by_cases c2 : 248 * s + 8 * d + (v + 1) ≤ i ∧ i < 248 * s + 8 * d + nOf P
      · rw [if_pos c2, if_pos (by omega)]
      · rw [if_neg c2, if_neg (by omega)]
def dayB (T : MS) (m : Nat → Int) (f d : Nat) : Prop := ∀ i : Nat, (i : Int) < T 401 64 → T 446 (3 * i) = d → rowB T m f i
theorem dayB_fh {T T' : MS} (g : FH T T') (m : Nat → Int) (f d : Nat) : dayB T' m f d ↔ dayB T m f d := by
  unfold dayB rowB
  rw [g.2 64 (by decide) (by decide) (by decide) (by decide) (by decide) (by decide) (by decide) (by decide) (by decide), g.1 446 (by decide) (by decide) (by decide) (by decide) (by decide) (by decide)]
theorem m_sg55 {f s : Nat} {m : Nat → Int} (hP : PLN P) (hf : f < 4) (hs : s < 792) (hW : WV P m) (hm : m 0 + 31 ≤ 2000) : ∀ (j d : Nat) (T : MS) (z : Int), d + j = 31 → RP P T → ROW P T → T 438 = oneW P f d m → (z = 0 ∨ z = 1) → ∃ z' T', Mo_sourceGoes_55 f s z d T = Mo_sourceGoes_55 f s z' 31 T' ∧ T' 438 = oneW P f 31 m ∧ (z' = 0 ∨ z' = 1) ∧ (z' = 1 ↔ z = 1 ∧ ∀ d', d ≤ d' → d' < 31 → dayB T (oneW P f d' m) f d') ∧ (∀ d' o, d ≤ d' → d' < 31 → o < nOf P → T' 448 (248 * s + 8 * d' + o) = oneW P f d' m (25 + 4 * o + f)) ∧ (∀ i, i < 248 * s + 8 * d ∨ 248 * s + 248 ≤ i → T' 448 i = T 448 i) ∧ FH T T' ∧ T' 401 57 = T 401 57 ∧ T' 447 = T 447 ∧ T' 401 67 = T 401 67 := by
  have hO := nOf_le hP
  intro j
  induction j with
  | zero =>
    intro d T z e hR hr hw hz
    have : d = 31 := by omega
    subst this
    exact ⟨z, T, rfl, hw, hz, ⟨fun q => ⟨q, fun d' a b => by omega⟩, fun q => q.1⟩, fun d' o a b => by omega, fun _ _ => rfl, FH.rf T, rfl, rfl, rfl⟩
  | succ j ih =>
    intro d T z e hR hr hw hz
    obtain ⟨y, y1, y2, y3⟩ := m_found (d := d) hP hf hr (T 401 64).toNat 0 (by have := hr.1; omega)
    have y1 : Mo_isAsFound_2 f d 0 T = _ := y1
    have y3' : y = 1 ↔ dayB T (oneW P f d m) f d := by
      rw [y3, hw]
      exact ⟨fun q i a b => q i (Nat.zero_le _) a b, fun q i _ a b => q i a b⟩
    have main : ∀ x : Int, (x = 0 ∨ x = 1) → (x = 1 ↔ z = 1 ∧ dayB T (oneW P f d m) f d) → ∃ z' T', Mo_sourceGoes_85 f s x d 0 T = Mo_sourceGoes_55 f s z' 31 T' ∧ T' 438 = oneW P f 31 m ∧ (z' = 0 ∨ z' = 1) ∧ (z' = 1 ↔ z = 1 ∧ ∀ d', d ≤ d' → d' < 31 → dayB T (oneW P f d' m) f d') ∧ (∀ d' o, d ≤ d' → d' < 31 → o < nOf P → T' 448 (248 * s + 8 * d' + o) = oneW P f d' m (25 + 4 * o + f)) ∧ (∀ i, i < 248 * s + 8 * d ∨ 248 * s + 248 ≤ i → T' 448 i = T 448 i) ∧ FH T T' ∧ T' 401 57 = T 401 57 ∧ T' 447 = T 447 ∧ T' 401 67 = T 401 67 := fun x hx hx1 => by
      obtain ⟨T1, q1, q2, q3, q4, q5, q6, q7⟩ := m_sg85 (z := x) hP hf hs (d := d) (by omega) (nOf P) 0 T (by omega) hR (by rw [hw]; exact oneW_WV hP hf hW d (by omega)) (by rw [hw, oneW_0]; omega)
      have q1 : Mo_sourceGoes_85 f s x d 0 T = _ := q1
      obtain ⟨z', T2, p1, p2, p3, p4, p5, p6, p7, p8, p9, p10⟩ := ih (d + 1) T1 x (by omega) (hR.fh q4) (hr.fh q4) (by rw [q2, hw]; rfl) hx
      refine ⟨z', T2, q1.trans p1, p2, p3, ?_, fun d' o a b c => ?_, fun i hi => ?_, q4.tr p7, by rw [p8, q5], by rw [p9, q6], by rw [p10, q7]⟩
      · rw [p4, hx1]
        constructor
        · rintro ⟨⟨g1, g2⟩, g3⟩
          refine ⟨g1, fun d' a b => ?_⟩
          by_cases c : d' = d
          · rw [c]; exact g2
          · exact (dayB_fh q4 _ _ _).mp (g3 d' (by omega) b)
        · rintro ⟨g1, g2⟩
          exact ⟨⟨g1, g2 d (Nat.le_refl _) (by omega)⟩, fun d' a b => (dayB_fh q4 _ _ _).mpr (g2 d' (by omega) b)⟩
      · by_cases c2 : d' = d
        · rw [c2, p6 _ (by omega), q3, if_pos (by omega), hw, show 248 * s + 8 * d + o - (248 * s + 8 * d) = o by omega]
        · exact p5 d' o (by omega) b c
      · rw [p6 i (by omega), q3 i, if_neg (by omega)]
    rw [e_Mo_sourceGoes_55, if_neg (by omega), e_Mo_isAsFound, y1, Option.bind_some]
    dsimp only
    rcases hz with rfl | rfl
    · rw [if_pos rfl]
      exact main 0 (Or.inl rfl) ⟨fun q => absurd q (by decide), fun q => absurd q.1 (by decide)⟩
    · rw [if_neg n10]
      rcases y2 with rfl | rfl
      · rw [if_pos rfl]
        exact main 0 (Or.inl rfl) ⟨fun q => absurd q (by decide), fun q => absurd (y3'.mpr q.2) (by decide)⟩
      · rw [if_neg n10]
        exact main 1 (Or.inr rfl) ⟨fun _ => ⟨rfl, y3'.mp rfl⟩, fun _ => rfl⟩
theorem dv99 {q r : Nat} (hr : r < 99) (hq : q < 8) : wr (((99 * q + r : Nat) : Int).tdiv 99) = (q : Int) := by
  rw [Int.tdiv_eq_ediv_of_nonneg (by omega), show ((99 * q + r : Nat) : Int) / 99 = (q : Int) by omega]
  exact wrN (by omega) (by omega)
theorem md99 {q r : Nat} (hr : r < 99) : ((99 * q + r : Nat) : Int).tmod 99 = (r : Int) := by
  rw [Int.tmod_eq_emod_of_nonneg (by omega)]; omega
theorem srC_qr {q r : Nat} (hr : r < 99) (o : Nat) : srC (99 * q + r) o = if o = q then 1 + (r : Int) else 0 := by
  unfold srC unC
  rw [show (99 * q + r) / 99 = q by omega, show (99 * q + r) % 99 = r by omega]
theorem m_sg2 {w : Nat → Int} {f q r : Nat} (hf : f < 4) (hq : q < 8) (hr : r < 99) : ∀ (j v : Nat) (T : MS), v + j = 8 → (∀ i, T 438 i = if 25 ≤ i ∧ i < 57 ∧ (i - 25) % 4 = f ∧ (i - 25) / 4 < v then 0 else w i) → ∃ T', Mo_sourceGoes_2 f ((99 * q + r : Nat) : Int) v T = Mo_sourceGoes_55 f ((99 * q + r : Nat) : Int) 1 0 T' ∧ T' 438 = srW w f (99 * q + r) ∧ ∀ c, c ≠ 438 → T' c = T c := by
  intro j
  induction j with
  | zero =>
    intro v T e hw
    rw [e_Mo_sourceGoes_2, if_neg (by omega), dv99 hr hq, md99 hr, wrN (z := 4 * (q : Int)) (by omega) (by omega), wrN (z := 25 + 4 * (q : Int)) (by omega) (by omega), wrN (z := 25 + 4 * (q : Int) + (f : Int)) (by omega) (by omega), if_pos (by omega), wrN (by omega) (by omega), show (25 + 4 * (q : Int) + (f : Int)).toNat = 25 + 4 * q + f by omega]
    refine ⟨_, rfl, ?_, fun c hc => up_c hc⟩
    funext i
    unfold srW
    by_cases c : i = 25 + 4 * q + f
    · rw [c, up_s, if_pos (by omega), srC_qr hr, if_pos (by omega)]
    · rw [up_k c, hw i]
      by_cases c2 : 25 ≤ i ∧ i < 57 ∧ (i - 25) % 4 = f
      · rw [if_pos (by omega), if_pos c2, srC_qr hr, if_neg (by omega)]
      · rw [if_neg (by omega), if_neg c2]
  | succ j ih =>
    intro v T e hw
    rw [e_Mo_sourceGoes_2, if_pos (by omega), wrN (z := 4 * (v : Int)) (by omega) (by omega), wrN (z := 25 + 4 * (v : Int)) (by omega) (by omega), wrN (z := 25 + 4 * (v : Int) + (f : Int)) (by omega) (by omega), if_pos (by omega), wr_suc2 (show v < 8 by omega) (by decide), show (25 + 4 * (v : Int) + (f : Int)).toNat = 25 + 4 * v + f by omega]
    obtain ⟨T', r1, r2, r3⟩ := ih (v + 1) (up T 438 (25 + 4 * v + f) 0) (by omega) (fun i => by
      by_cases c : i = 25 + 4 * v + f
      · rw [c, up_s, if_pos (by omega)]
      · rw [up_k c, hw i]
        by_cases c2 : 25 ≤ i ∧ i < 57 ∧ (i - 25) % 4 = f ∧ (i - 25) / 4 < v
        · rw [if_pos c2, if_pos (by omega)]
        · rw [if_neg c2, if_neg (by omega)])
    exact ⟨T', r1, r2, fun c hc => by rw [r3 c hc, up_c hc]⟩
/-- one source has been tried -/
theorem m_sg {w : Nat → Int} {f s : Nat} (hP : PLN P) (hW : WV P w) (hw9 : w 0 ≤ 999) (hf : f < nFe P) (hs : s < 99 * nOf P) (hR : RP P T) (hr : ROW P T) (hw : T 438 = w) (ht : TH w T) (h67 : 0 ≤ T 401 67 ∧ T 401 67 ≤ 1000) : ∃ T', m_Mo_sourceGoes f s T = some T' ∧ T' 438 = w ∧ TH w T' ∧ FH T T' ∧ T' 401 57 = T 401 57 ∧ (∀ i, i ≠ s → T' 447 i = T 447 i) ∧ ((fitS P T w s ∧ T' 447 s = 1 ∧ T' 401 67 = T 401 67 + 1) ∨ (¬ fitS P T w s ∧ T' 447 s = 0 ∧ T' 401 67 = T 401 67)) ∧ (∀ d o, d < 31 → o < nOf P → T' 448 (248 * s + 8 * d + o) = colT P w d (srC s) o) ∧ ∀ i, i < 248 * s ∨ 248 * s + 248 ≤ i → T' 448 i = T 448 i := by
  have hO := nOf_le hP
  have hf4 := nFe_le hP
  obtain ⟨q, r, hr9, hq, hsq⟩ : ∃ q r : Nat, r < 99 ∧ q < 8 ∧ s = 99 * q + r := ⟨s / 99, s % 99, by omega, by omega, by omega⟩
  obtain ⟨T1, a1, a2, a3⟩ := m_sg2 (w := w) (f := f) (q := q) (r := r) (by omega) hq hr9 8 0 T (by omega) (fun i => by rw [hw, if_neg (by omega)])
  rw [← hsq] at a1 a2
  have a1 : Mo_sourceGoes_2 f s 0 T = _ := a1
  have f1 : FH T T1 := FH.u438 a3
  have hWs := srW_WV hP hW hf hs
  have hm0 : srW w f s 0 = w 0 := srW_o _ (Or.inl (by decide))
  obtain ⟨z, T2, b1, b2, b3, b4, b5, b6, b7, b8, b9, b10⟩ := m_sg55 (f := f) (s := s) (m := srW w f s) hP (by omega) (by omega) hWs (by rw [hm0]; omega) 31 0 T1 1 (by omega) (hR.fh f1) (hr.fh f1) a2 (Or.inr rfl)
  have b1 : Mo_sourceGoes_55 f s 1 0 T1 = _ := b1
  have hz : z = 1 ↔ fitS P T w s := by
    rw [b4, ← fitS_fh f1]
    have hr1 := hr.fh f1
    have col : ∀ i : Nat, (i : Int) < T1 401 64 → ∀ d' : Nat, T1 446 (3 * i) = d' → (rowB T1 (oneW P f d' (srW w f s)) f i ↔ w 0 + T1 446 (3 * i) ≤ 999 ∧ colT P w (T1 446 (3 * i)).toNat (srC s) (T1 446 (3 * i + 1)).toNat = T1 446 (3 * i + 2)) := fun i hi d' hd => by
      obtain ⟨c1, c2, c3⟩ := hr1.2 i hi
      have hO1 := hP.1
      unfold rowB
      rw [oneW_0, hm0, one_col hP hW hf hs d' (by omega) _ (by omega), hd, Int.toNat_natCast]
    constructor
    · rintro ⟨-, g⟩ i hi
      obtain ⟨c1, -, -⟩ := hr1.2 i hi
      exact (col i hi (T1 446 (3 * i)).toNat (by omega)).mp (g (T1 446 (3 * i)).toNat (Nat.zero_le _) (by omega) i hi (by omega))
    · intro g
      exact ⟨rfl, fun d' _ _ i hi hd => (col i hi d' hd).mpr (g i hi)⟩
  have e67 : T2 401 67 = T 401 67 := by rw [b10, a3 401 (by decide)]
  have e447 : T2 447 = T 447 := by rw [b9, a3 447 (by decide)]
  have fH := f1.tr b7
  have t438 : ∀ i, 57 ≤ i → T2 438 i = w i := fun i hi => by rw [b2, oneW_k _ _ _ (by omega) (Or.inr hi), srW_o _ (Or.inr hi)]
  have t439 : ∀ i, i < 57 → T2 439 i = w i := fun i hi => by rw [fH.1 439 (by decide) (by decide) (by decide) (by decide) (by decide) (by decide)]; exact ht.1 i hi
  have e56 : T2 401 56 = 1 := by rw [fH.2 56 (by decide) (by decide) (by decide) (by decide) (by decide) (by decide) (by decide) (by decide) (by decide)]; exact ht.2.2
  have fin : ∀ U : MS, (∀ c, c ≠ 401 → c ≠ 447 → U c = T2 c) → (∀ k, k ≠ 67 → U 401 k = T2 401 k) → ∃ T', m_Mo_triesAnew U = some T' ∧ T' 438 = w ∧ TH w T' ∧ FH T T' ∧ T' 401 57 = T 401 57 ∧ T' 447 = U 447 ∧ T' 401 67 = U 401 67 ∧ T' 448 = T2 448 := fun U u1 u2 => by
    obtain ⟨T', p1, p2, p3⟩ := m_anew U
    have e4 : T' 438 = w := by
      funext i
      rw [p2 i]
      by_cases c : i < 57
      · rw [if_pos c, u1 439 (by decide) (by decide), t439 i c]
      · rw [if_neg c, u1 438 (by decide) (by decide), t438 i (by omega)]
    refine ⟨T', p1, e4, ⟨fun i hi => by rw [p3 439 (by decide), u1 439 (by decide) (by decide), t439 i hi], fun i _ => by rw [e4], by rw [p3 401 (by decide), u2 56 (by decide), e56]⟩, fH.tr ⟨fun c c1 c2 c3 c4 c5 c6 => by rw [p3 c c2, u1 c c1 c4], fun k _ _ _ _ _ _ _ k8 _ => by rw [p3 401 (by decide), u2 k k8]⟩, by rw [p3 401 (by decide), u2 57 (by decide), b8, a3 401 (by decide)], p3 447 (by decide), by rw [p3 401 (by decide)], by rw [p3 448 (by decide), u1 448 (by decide) (by decide)]⟩
  have w448 : ∀ T' : MS, T' 448 = T2 448 → (∀ d o, d < 31 → o < nOf P → T' 448 (248 * s + 8 * d + o) = colT P w d (srC s) o) ∧ ∀ i, i < 248 * s ∨ 248 * s + 248 ≤ i → T' 448 i = T 448 i := fun T' h => by
    rw [h]
    refine ⟨fun d o hd ho => ?_, fun i hi => ?_⟩
    · rw [b5 d o (Nat.zero_le _) hd ho, one_col hP hW hf hs d (by omega) o (by omega)]
    · rw [b6 i (by omega), a3 448 (by decide)]
  rw [e_Mo_sourceGoes, a1, b1, e_Mo_sourceGoes_55, if_pos (by decide), if_pos (by omega), if_pos b3]
  rcases b3 with rfl | rfl
  · obtain ⟨T', p1, p2, p3, p4, p5, p6, p7, p8⟩ := fin (up T2 447 s 0) (fun c _ c2 => up_c c2) (fun k _ => by rw [up_c (by decide)])
    rw [if_pos rfl, Int.toNat_natCast, p1, Option.bind_some]
    refine ⟨T', rfl, p2, p3, p4, p5, fun i hi => by rw [p6, up_k hi, e447], Or.inr ⟨fun g => absurd (hz.mpr g) (by decide), by rw [p6, up_s], by rw [p7, up_c (by decide), e67]⟩, w448 T' p8⟩
  · obtain ⟨T', p1, p2, p3, p4, p5, p6, p7, p8⟩ := fin (up (up T2 447 s 1) 401 67 (T2 401 67 + 1)) (fun c c1 c2 => by rw [up_c c1, up_c c2]) (fun k hk => by rw [up_k hk, up_c (by decide)])
    rw [if_neg n10, Int.toNat_natCast, wrN (by omega) (by omega), p1, Option.bind_some]
    refine ⟨T', rfl, p2, p3, p4, p5, fun i hi => by rw [p6, up_c (by decide), up_k hi, e447], Or.inl ⟨hz.mp rfl, by rw [p6, up_c (by decide), up_s], by rw [p7, up_s, e67]⟩, w448 T' p8⟩
end
