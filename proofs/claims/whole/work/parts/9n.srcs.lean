/-! sources, tells: the reference's lists -/
section
variable {n : Nat} {P S T : MS}
noncomputable def fitD (P T : MS) (w : Nat → Int) (k : Nat) : Bool := by
  classical
  exact decide (fitS P T w k)
theorem fitD_t {w : Nat → Int} {k : Nat} : fitD P T w k = true ↔ fitS P T w k := by
  unfold fitD
  exact @decide_eq_true_iff (fitS P T w k) (Classical.propDecidable _)
theorem fitD_f {w : Nat → Int} {k : Nat} (h : ¬ fitS P T w k) : fitD P T w k = false := by
  rcases hb : fitD P T w k with _ | _
  · rfl
  · exact absurd (fitD_t.mp hb) h
theorem fitD_fh {T' : MS} (f : FH T T') (w : Nat → Int) : fitD P T' w = fitD P T w := by
  funext k
  unfold fitD
  rw [fitS_fh f w]
theorem srcL_fit (w : Nat → Int) : srcL P T w = (List.range (99 * nOf P)).filter (fitD P T w) := rfl
/-- what fits among j sources from v -/
noncomputable def flt (P T : MS) (w : Nat → Int) (v j : Nat) : List Nat := (List.range' v j).filter (fitD P T w)
theorem flt_0 (w : Nat → Int) : flt P T w 0 (99 * nOf P) = srcL P T w := by
  unfold flt
  rw [srcL_fit, List.range_eq_range']
theorem flt_s (w : Nat → Int) (v j : Nat) : flt P T w v (j + 1) = if fitD P T w v = true then v :: flt P T w (v + 1) j else flt P T w (v + 1) j := by
  unfold flt
  rw [List.range'_succ, List.filter_cons]
theorem flt_len (w : Nat → Int) : ∀ j v : Nat, (flt P T w v j).length ≤ j := by
  intro j
  induction j with
  | zero => intro v; exact Nat.le_refl _
  | succ j ih =>
    intro v
    have := ih (v + 1)
    rw [flt_s]
    split
    · rw [List.length_cons]; omega
    · omega
/-- what the reference lays down -/
def LAI (P T : MS) (w : Nat → Int) (T' : MS) : Prop := (∀ s, s < 99 * nOf P → ((fitS P T w s ∧ T' 447 s = 1) ∨ (¬ fitS P T w s ∧ T' 447 s = 0)) ∧ ∀ d o, d < 31 → o < nOf P → T' 448 (248 * s + 8 * d + o) = colT P w d (srC s) o) ∧ T' 401 67 = ((srcL P T w).length : Nat)
theorem m_lay11 {w : Nat → Int} {f : Nat} (hP : PLN P) (hW : WV P w) (hw9 : w 0 ≤ 999) (hf : f < nFe P) : ∀ (j v : Nat) (T : MS), v + j = 99 * nOf P → RP P T → ROW P T → T 438 = w → TH w T → (0 ≤ T 401 67 ∧ T 401 67 ≤ v) → ∃ T', Mo_laysSources_11 f v T = ((m_Mo_takesBack T').bind fun p2 => some p2) ∧ TH w T' ∧ FH T T' ∧ T' 401 57 = T 401 57 ∧ (∀ i, i < v → T' 447 i = T 447 i) ∧ (∀ i, i < 248 * v → T' 448 i = T 448 i) ∧ (∀ s, v ≤ s → s < 99 * nOf P → ((fitS P T w s ∧ T' 447 s = 1) ∨ (¬ fitS P T w s ∧ T' 447 s = 0)) ∧ ∀ d o, d < 31 → o < nOf P → T' 448 (248 * s + 8 * d + o) = colT P w d (srC s) o) ∧ T' 401 67 = T 401 67 + ((flt P T w v j).length : Nat) := by
  have hO := nOf_le hP
  have hO1 := hP.1
  have hO4 : P 430 4 = (nOf P : Int) := by unfold nOf; omega
  intro j
  induction j with
  | zero =>
    intro v T e hR hr hw ht h67
    rw [e_Mo_laysSources_11, m_oMany, Option.bind_some]
    dsimp only
    rw [hR.n4, hO4, wrN (by omega) (by omega), if_neg (by omega)]
    exact ⟨T, rfl, ht, FH.rf T, rfl, fun _ _ => rfl, fun _ _ => rfl, fun s a b => by omega, (Int.add_zero _).symm⟩
  | succ j ih =>
    intro v T e hR hr hw ht h67
    obtain ⟨T1, a1, a2, a3, a4, a5, a6, a7, a8, a9⟩ := m_sg (s := v) hP hW hw9 hf (by omega) hR hr hw ht (by omega)
    have h671 : T1 401 67 = T 401 67 + (if fitD P T w v = true then 1 else 0) := by
      rcases a7 with ⟨g1, g2, g3⟩ | ⟨g1, g2, g3⟩
      · rw [g3, if_pos (fitD_t.mpr g1)]
      · rw [g3, if_neg (fun q => g1 (fitD_t.mp q)), Int.add_zero]
    obtain ⟨T2, b1, b2, b3, b4, b5, b6, b7, b8⟩ := ih (v + 1) T1 (by omega) (hR.fh a4) (hr.fh a4) a2 a3 (by rw [h671]; split <;> omega)
    rw [e_Mo_laysSources_11, m_oMany, Option.bind_some]
    dsimp only
    rw [hR.n4, hO4, wrN (by omega) (by omega), if_pos (by omega), a1, Option.bind_some, wr_suc2 (show v < 792 by omega) (by decide), b1]
    refine ⟨T2, rfl, b2, a4.tr b3, by rw [b4, a5], fun i hi => by rw [b5 i (by omega), a6 i (by omega)], fun i hi => by rw [b6 i (by omega), a9 i (by omega)], fun s s1 s2 => ?_, ?_⟩
    · by_cases c : s = v
      · subst c
        rw [b5 s (by omega)]
        refine ⟨a7.imp (fun g => ⟨g.1, g.2.1⟩) (fun g => ⟨g.1, g.2.1⟩), fun d o hd ho => ?_⟩
        rw [b6 _ (by omega)]
        exact a8 d o hd ho
      · have := b7 s (by omega) s2
        rw [fitS_fh a4] at this
        exact this
    · rw [b8, h671, flt_s]
      have : flt P T1 w (v + 1) j = flt P T w (v + 1) j := by unfold flt; rw [fitD_fh a4]
      rw [this]
      split
      · rw [List.length_cons]; omega
      · omega
theorem m_lay (h : Inv n P S T) {f : Nat} (hf : f < nFe P) : ∃ T', m_Mo_laysSources f T = some T' ∧ LKm T T' ∧ LAI P T (T 438) T' ∧ T' 401 57 = T 401 57 := by
  have hP := h.pln
  have hw0 := h.w0
  obtain ⟨T1, r1, r2, r3, r4, r5⟩ := m_aside (up T 401 67 0)
  have e438 : T1 438 = T 438 := by rw [r4 438 (by decide) (by decide), up_c (by decide)]
  have hR1 : RP P T1 := h.rp.fr (by rw [r4 _ (by decide) (by decide), up_c (by decide)]) (by rw [r4 _ (by decide) (by decide), up_c (by decide)]) (by rw [r4 _ (by decide) (by decide), up_c (by decide)]) (by rw [r4 _ (by decide) (by decide), up_c (by decide)]) (by rw [r4 _ (by decide) (by decide), up_c (by decide)]) (by rw [r4 _ (by decide) (by decide), up_c (by decide)]) (by rw [r4 _ (by decide) (by decide), up_c (by decide)])
  have e64 : T1 401 64 = T 401 64 := by rw [r5 64 (by decide), up_k (by decide)]
  have e446 : T1 446 = T 446 := by rw [r4 446 (by decide) (by decide), up_c (by decide)]
  have hr1 : ROW P T1 := by
    have := h.fd.1.row
    unfold ROW at this ⊢
    rw [e64, e446]
    exact this
  obtain ⟨T2, q1, q2, q3, q4, q5, q6, q7, q8⟩ := m_lay11 (f := f) hP h.wd.1 hw0.2 hf (99 * nOf P) 0 T1 (by omega) hR1 hr1 e438 ⟨fun i hi => by rw [r2 i hi, up_c (by decide)], fun i _ => by rw [e438], r3⟩ (by rw [r5 67 (by decide), up_s]; decide)
  have q1 : Mo_laysSources_11 f 0 T1 = _ := q1
  obtain ⟨T3, p1, p2, p3, p4, p5⟩ := m_back q2
  rw [e_Mo_laysSources, r1, Option.bind_some, q1, p1, Option.bind_some]
  have fitc : fitS P T1 (T 438) = fitS P T (T 438) := fitS_congr e64 e446 _
  refine ⟨T3, rfl, ⟨fun c hc => ?_, fun k hk => ?_⟩, ⟨fun s hs => ?_, ?_⟩, by rw [p5 57 (by decide), q4, r5 57 (by decide), up_k (by decide)]⟩
  · simp only [List.mem_cons, List.not_mem_nil, or_false, not_or] at hc
    by_cases c8 : c = 438
    · subst c8; exact p2
    · rw [p4 c c8 (by omega), q3.1 c (by omega) c8 (by omega) (by omega) (by omega) (by omega), r4 c (by omega) (by omega), up_c (by omega)]
  · simp only [List.mem_cons, List.not_mem_nil, or_false, not_or] at hk
    by_cases e : k = 56
    · subst e; rw [p3, h.wd.2.2.2.2.2]
    · rw [p5 k e, q3.2 k (by omega) (by omega) (by omega) (by omega) (by omega) (by omega) (by omega) (by omega) (by omega), r5 k e, up_k (by omega)]
  · rw [p4 447 (by decide) (by decide), p4 448 (by decide) (by decide)]
    have := q7 s (Nat.zero_le _) hs
    rw [fitc] at this
    exact this
  · rw [p5 67 (by decide), q8, r5 67 (by decide), up_s, flt_0, srcL_congr e64 e446, Int.zero_add]
def encS (s : Nat) : Int := 100 * ((s / 99 : Nat) : Int) + 1 + ((s % 99 : Nat) : Int)
theorem m_src36 {w : Nat → Int} (hP : PLN P) {T' : MS} (hR : RP P T') (hL : LAI P T w T') {k : Int} : ∀ (j v c i : Nat), v + j = 99 * nOf P → k = ((c + i : Nat) : Int) → c ≤ v → Mo_sources_36 k c v T' = some ((if i < (flt P T w v j).length then encS ((flt P T w v j).getD i 0) else -1), T') := by
  have hO := nOf_le hP
  have hO1 := hP.1
  have hO4 : P 430 4 = (nOf P : Int) := by unfold nOf; omega
  intro j
  induction j with
  | zero =>
    intro v c i e hk hc
    rw [e_Mo_sources_36, m_oMany, Option.bind_some]
    dsimp only
    rw [hR.n4, hO4, wrN (by omega) (by omega), if_neg (by omega)]
    rfl
  | succ j ih =>
    intro v c i e hk hc
    rw [e_Mo_sources_36, m_oMany, Option.bind_some]
    dsimp only
    rw [hR.n4, hO4, wrN (by omega) (by omega), if_pos (by omega), if_pos (by omega), Int.toNat_natCast, wr_suc2 (show v < 792 by omega) (by decide), flt_s]
    rcases (hL.1 v (by omega)).1 with ⟨g1, g2⟩ | ⟨g1, g2⟩
    · rw [if_neg (show ¬ T' 447 v = 0 by omega), if_pos (fitD_t.mpr g1)]
      by_cases ci : i = 0
      · subst ci
        rw [if_pos (show (c : Int) = k by omega), if_pos (by rw [List.length_cons]; omega)]
        obtain ⟨q, r, hr9, hq, hsq⟩ : ∃ q r : Nat, r < 99 ∧ q < 8 ∧ v = 99 * q + r := ⟨v / 99, v % 99, by omega, by omega, by omega⟩
        have e1 : encS v = 100 * (q : Int) + 1 + (r : Int) := by
          unfold encS
          rw [hsq, show (99 * q + r) / 99 = q by omega, show (99 * q + r) % 99 = r by omega]
        have e2 : (v :: flt P T w (v + 1) j).getD 0 0 = v := rfl
        rw [e2, e1, hsq, dv99 hr9 hq, md99 hr9, wrN (z := 100 * (q : Int)) (by omega) (by omega), wrN (z := 100 * (q : Int) + 1) (by omega) (by omega), wrN (by omega) (by omega)]
      · obtain ⟨i', rfl⟩ : ∃ i', i = i' + 1 := ⟨i - 1, by omega⟩
        rw [if_neg (show ¬ (c : Int) = k by omega), wr_suc2 (show c < 793 by omega) (by decide), ih (v + 1) (c + 1) i' (by omega) (by omega) (by omega), List.length_cons, List.getD_cons_succ]
        by_cases q : i' < (flt P T w (v + 1) j).length
        · rw [if_pos q, if_pos (by omega)]
        · rw [if_neg q, if_neg (by omega)]
    · rw [if_pos g2, if_neg (fun q => g1 (fitD_t.mp q))]
      exact ih (v + 1) c i (by omega) hk (by omega)
/-- alike, on a day, for an officer -/
theorem alkR_b {val : Nat → Int} : ∀ (L : List Nat) (t : Int → Int) (b N : Int), (∀ v, 0 ≤ t v ∧ t v ≤ N) → 0 ≤ b ∧ b ≤ N → b ≤ alkR val L t b ∧ alkR val L t b ≤ N + L.length := by
  intro L
  induction L with
  | nil => intro t b N ht hb; rw [alkR]; exact ⟨Int.le_refl _, by rw [List.length_nil]; omega⟩
  | cons k L ih =>
    intro t b N ht hb
    rw [alkR, List.length_cons]
    have := ht (val k)
    obtain ⟨i1, i2⟩ := ih (fun v => if v = val k then t v + 1 else t v) (if b < t (val k) + 1 then t (val k) + 1 else b) (N + 1) (fun v => by
      have := ht v
      (try dsimp only)
      split <;> omega) (by split <;> omega)
    constructor
    · exact Int.le_trans (by split <;> omega) i1
    · omega
theorem alkR_1 {val : Nat → Int} {L : List Nat} (h : L ≠ []) : 1 ≤ alkR val L (fun _ => 0) 0 := by
  cases L with
  | nil => exact absurd rfl h
  | cons k L =>
    rw [alkR, if_pos (by decide)]
    exact (alkR_b L _ 1 1 (fun v => by (try dsimp only); split <;> omega) (by decide)).1
theorem m_al29 {w : Nat → Int} (hP : PLN P) {d o : Nat} (hd : d < 31) (ho : o < nOf P) (hcb : ∀ s, s < 99 * nOf P → 0 ≤ colT P w d (srC s) o ∧ colT P w d (srC s) o ≤ 99) : ∀ (j v : Nat) (T' : MS) (t : Int → Int) (b : Int), v + j = 99 * nOf P → RP P T' → LAI P T w T' → (∀ x : Nat, x < 100 → T' 449 x = t x) → (∀ x, 0 ≤ t x ∧ t x ≤ v) → (0 ≤ b ∧ b ≤ v) → ∃ T2, Mo_mostAlike_29 d o b v T' = some (alkR (fun k => colT P w d (srC k) o) (flt P T w v j) t b, T2) ∧ ∀ c, c ≠ 449 → T2 c = T' c := by
  have hO := nOf_le hP
  have hO1 := hP.1
  have hO4 : P 430 4 = (nOf P : Int) := by unfold nOf; omega
  intro j
  induction j with
  | zero =>
    intro v T' t b e hR hL h449 ht hb
    rw [e_Mo_mostAlike_29, m_oMany, Option.bind_some]
    dsimp only
    rw [hR.n4, hO4, wrN (by omega) (by omega), if_neg (by omega)]
    exact ⟨T', rfl, fun _ _ => rfl⟩
  | succ j ih =>
    intro v T' t b e hR hL h449 ht hb
    have hv := hL.1 v (by omega)
    obtain ⟨x, hx⟩ : ∃ x : Nat, colT P w d (srC v) o = (x : Int) := ⟨(colT P w d (srC v) o).toNat, by have := hcb v (by omega); omega⟩
    have hx99 := hcb v (by omega)
    have htx := ht x
    rw [e_Mo_mostAlike_29, m_oMany, Option.bind_some]
    dsimp only
    rw [hR.n4, hO4, wrN (z := 99 * (nOf P : Int)) (by omega) (by omega), if_pos (by omega), if_pos (by omega), Int.toNat_natCast, wr_suc2 (show v < 792 by omega) (by decide), flt_s]
    rcases hv.1 with ⟨g1, g2⟩ | ⟨g1, g2⟩
    · rw [if_pos (fitD_t.mpr g1), alkR]
      simp only [g2, wr248 (show v < 792 by omega) (show d ≤ 31 by omega) (show o < 8 by omega), Int.toNat_natCast, hv.2 d o hd ho, hx, h449 x (by omega)]
      rw [if_neg n10, if_pos (by omega), if_pos (by omega), if_pos (by omega), if_pos (by omega), wrN (z := t x + 1) (by omega) (by omega)]
      simp only [up_s]
      have go : ∀ b' : Int, b' = (if b < t x + 1 then t x + 1 else b) → ∃ T2, Mo_mostAlike_29 d o b' ((v + 1 : Nat) : Int) (up T' 449 x (t x + 1)) = some (alkR (fun k => colT P w d (srC k) o) (flt P T w (v + 1) j) (fun v => if v = (x : Int) then t v + 1 else t v) (if b < t x + 1 then t x + 1 else b), T2) ∧ ∀ c, c ≠ 449 → T2 c = T' c := fun b' hb' => by
        obtain ⟨T2, p1, p2⟩ := ih (v + 1) (up T' 449 x (t x + 1)) (fun v => if v = (x : Int) then t v + 1 else t v) b' (by omega) (hR.fr (up_c (by decide)) (up_c (by decide)) (up_c (by decide)) (up_c (by decide)) (up_c (by decide)) (up_c (by decide)) (up_c (by decide))) (by unfold LAI; rw [up_c (by decide), up_c (by decide), up_c (by decide)]; exact hL) (fun y hy => by
          (try dsimp only)
          by_cases c : y = x
          · rw [c, up_s, if_pos rfl]
          · rw [up_k c, if_neg (by omega)]; exact h449 y hy) (fun y => by
          have := ht y
          (try dsimp only)
          split <;> omega) (by rw [hb']; split <;> omega)
        rw [← hb']
        exact ⟨T2, p1, fun c hc => by rw [p2 c hc, up_c hc]⟩
      by_cases c : b < t x + 1
      · rw [if_pos c, if_pos (by omega)]
        exact go _ (by rw [if_pos c])
      · rw [if_neg c]
        exact go _ (by rw [if_neg c])
    · rw [if_neg (fun q => g1 (fitD_t.mp q))]
      simp only [g2]
      rw [if_pos True.intro]
      exact ih (v + 1) T' t b (by omega) hR hL h449 (fun y => by have := ht y; omega) (by omega)
theorem m_al5 {d o : Int} : ∀ (j v : Nat) (T : MS), v + j = 100 → ∃ T', Mo_mostAlike_5 d o 0 v T = Mo_mostAlike_29 d o 0 0 T' ∧ (∀ x, x < 100 → T' 449 x = if v ≤ x then 0 else T 449 x) ∧ ∀ c, c ≠ 449 → T' c = T c := by
  intro j
  induction j with
  | zero =>
    intro v T e
    rw [e_Mo_mostAlike_5, if_pos (by omega)]
    exact ⟨T, rfl, fun x hx => by rw [if_neg (by omega)], fun _ _ => rfl⟩
  | succ j ih =>
    intro v T e
    rw [e_Mo_mostAlike_5, if_neg (by omega), if_pos (by omega), Int.toNat_natCast, wr_suc2 (show v < 100 by omega) (by decide)]
    obtain ⟨T', r1, r2, r3⟩ := ih (v + 1) (up T 449 v 0) (by omega)
    refine ⟨T', r1, fun x hx => ?_, fun c hc => by rw [r3 c hc, up_c hc]⟩
    rw [r2 x hx]
    by_cases c : x = v
    · subst c; rw [if_neg (by omega), up_s, if_pos (Nat.le_refl _)]
    · rw [up_k c]
      by_cases c2 : v + 1 ≤ x
      · rw [if_pos c2, if_pos (show v ≤ x by omega)]
      · rw [if_neg c2, if_neg (show ¬ v ≤ x by omega)]
/-- how many, at most, are alike -/
noncomputable def mosT (P T : MS) (w : Nat → Int) (d o : Nat) : Int := alkR (fun k => colT P w d (srC k) o) (srcL P T w) (fun _ => 0) 0
theorem mosT_b (hP : PLN P) (w : Nat → Int) (d o : Nat) : 0 ≤ mosT P T w d o ∧ mosT P T w d o ≤ 792 := by
  have hO := nOf_le hP
  have h1 := alkR_b (val := fun k => colT P w d (srC k) o) (srcL P T w) (fun _ => 0) 0 0 (fun _ => by (try dsimp only); omega) (by decide)
  have h2 := flt_len (P := P) (T := T) w (99 * nOf P) 0
  rw [flt_0] at h2
  unfold mosT
  omega
theorem colT_b {w : Nat → Int} {s : Nat} (d o : Nat) : 0 ≤ colT P w d (srC s) o ∧ colT P w d (srC s) o ≤ 99 := by
  cases d with
  | zero => exact srC_b s o
  | succ d => exact nxt_b _ _ _ _ _ _
theorem m_alike {w : Nat → Int} {T' : MS} (hP : PLN P) (hR : RP P T') (hL : LAI P T w T') {d o : Nat} (hd : d < 31) (ho : o < nOf P) : ∃ T2, m_Mo_mostAlike d o T' = some (mosT P T w d o, T2) ∧ ∀ c, c ≠ 449 → T2 c = T' c := by
  obtain ⟨T1, r1, r2, r3⟩ := m_al5 (d := d) (o := o) 100 0 T' (by omega)
  obtain ⟨T2, q1, q2⟩ := m_al29 (w := w) hP hd ho (fun s _ => colT_b d o) (99 * nOf P) 0 T1 (fun _ => 0) 0 (by omega) (hR.fr (r3 _ (by decide)) (r3 _ (by decide)) (r3 _ (by decide)) (r3 _ (by decide)) (r3 _ (by decide)) (r3 _ (by decide)) (r3 _ (by decide))) (by unfold LAI; rw [r3 _ (by decide), r3 _ (by decide), r3 _ (by decide)]; exact hL) (fun x hx => by rw [r2 x hx, if_pos (Nat.zero_le _)]) (fun _ => by (try dsimp only); omega) (by omega)
  have r1 : Mo_mostAlike_5 d o 0 0 T' = _ := r1
  have q1 : Mo_mostAlike_29 d o 0 0 T1 = _ := q1
  rw [e_Mo_mostAlike, r1, q1, flt_0]
  exact ⟨T2, rfl, fun c hc => by rw [q2 c hc, r3 c hc]⟩
theorem LAI.fr {w : Nat → Int} {T' T2 : MS} (h : LAI P T w T') (f : ∀ c, c ≠ 449 → T2 c = T' c) : LAI P T w T2 := by
  unfold LAI
  rw [f _ (by decide), f _ (by decide), f _ (by decide)]
  exact h
theorem RP.fr3 {T' T2 : MS} (h : RP P T') (r3 : ∀ c, c ≠ 449 → T2 c = T' c) : RP P T2 := h.fr (r3 _ (by decide)) (r3 _ (by decide)) (r3 _ (by decide)) (r3 _ (by decide)) (r3 _ (by decide)) (r3 _ (by decide)) (r3 _ (by decide))
theorem m_tel61 {w : Nat → Int} (hP : PLN P) {a : Int} {d : Nat} (hd : d < 30) : ∀ (j v : Nat) (T' : MS), v + j = nOf P → ∀ b : Int × Int × Int, RP P T' → LAI P T w T' → ∃ T2, Mo_tells_61 a (telO (mosT P T w (d + 1)) ((d : Int) + 1) v b).1 (telO (mosT P T w (d + 1)) ((d : Int) + 1) v b).2.1 (telO (mosT P T w (d + 1)) ((d : Int) + 1) v b).2.2 ((d + 1 : Nat) : Int) v T' = Mo_tells_39 a (telO (mosT P T w (d + 1)) ((d : Int) + 1) (nOf P) b).1 (telO (mosT P T w (d + 1)) ((d : Int) + 1) (nOf P) b).2.1 (telO (mosT P T w (d + 1)) ((d : Int) + 1) (nOf P) b).2.2 ((d + 2 : Nat) : Int) T2 ∧ ∀ c, c ≠ 449 → T2 c = T' c := by
  have hO := nOf_le hP
  have hO1 := hP.1
  have hO4 : P 430 4 = (nOf P : Int) := by unfold nOf; omega
  intro j
  induction j with
  | zero =>
    intro v T' e b hR hL
    rw [e_Mo_tells_61, m_oMany, Option.bind_some]
    dsimp only
    rw [hR.n4, hO4, if_neg (by omega), wr_suc2 (show d + 1 < 32 by omega) (by decide), show v = nOf P by omega]
    exact ⟨T', rfl, fun _ _ => rfl⟩
  | succ j ih =>
    intro v T' e b hR hL
    obtain ⟨T1, r1, r2⟩ := m_alike hP hR hL (d := d + 1) (o := v) (by omega) (by omega)
    obtain ⟨T2, q1, q2⟩ := ih (v + 1) T1 (by omega) b (hR.fr3 r2) (hL.fr r2)
    have fr : ∀ c, c ≠ 449 → T2 c = T' c := fun c hc => by rw [q2 c hc, r2 c hc]
    rw [e_Mo_tells_61, m_oMany, Option.bind_some]
    dsimp only
    rw [hR.n4, hO4, if_pos (by omega), r1, Option.bind_some, wr_suc2 (show v < 8 by omega) (by decide)]
    dsimp only
    have hs : telO (mosT P T w (d + 1)) ((d : Int) + 1) (v + 1) b = if (telO (mosT P T w (d + 1)) ((d : Int) + 1) v b).1 ≠ -1 ∧ (telO (mosT P T w (d + 1)) ((d : Int) + 1) v b).2.2 ≤ mosT P T w (d + 1) v then telO (mosT P T w (d + 1)) ((d : Int) + 1) v b else ((d : Int) + 1, (v : Int), mosT P T w (d + 1) v) := rfl
    rw [hs] at q1
    have hc : ((d + 1 : Nat) : Int) = (d : Int) + 1 := by omega
    by_cases c1 : (telO (mosT P T w (d + 1)) ((d : Int) + 1) v b).1 = -1
    · rw [if_pos c1]
      rw [if_neg (fun q => q.1 c1)] at q1
      rw [hc] at q1 ⊢
      exact ⟨T2, q1, fr⟩
    · rw [if_neg c1]
      by_cases c2 : mosT P T w (d + 1) v < (telO (mosT P T w (d + 1)) ((d : Int) + 1) v b).2.2
      · rw [if_pos c2]
        rw [if_neg (fun q => by omega)] at q1
        rw [hc] at q1 ⊢
        exact ⟨T2, q1, fr⟩
      · rw [if_neg c2]
        rw [if_pos ⟨c1, by omega⟩] at q1
        exact ⟨T2, q1, fr⟩
theorem telD_s (w : Nat → Int) (d : Nat) : telD P w (srcL P T w) (d + 1) = telO (mosT P T w (d + 1)) ((d : Int) + 1) (nOf P) (telD P w (srcL P T w) d) := rfl
theorem m_tel39 {w : Nat → Int} (hP : PLN P) (hw : 0 ≤ w 0 ∧ w 0 ≤ 999) {a : Int} (h67 : 0 < ((srcL P T w).length : Int)) : ∀ (j d : Nat) (T' : MS), d + j = telN w → RP P T' → T' 438 = w → LAI P T w T' → ∃ T2, Mo_tells_39 a (telD P w (srcL P T w) d).1 (telD P w (srcL P T w) d).2.1 (telD P w (srcL P T w) d).2.2 ((d + 1 : Nat) : Int) T' = Mo_tells_118 a (telD P w (srcL P T w) (telN w)).1 (telD P w (srcL P T w) (telN w)).2.1 (telD P w (srcL P T w) (telN w)).2.2 T2 ∧ ∀ c, c ≠ 449 → T2 c = T' c := by
  have htel : (telN w : Int) ≤ 30 ∧ w 0 + telN w ≤ 999 ∧ (telN w < 30 → w 0 + telN w = 999) := by unfold telN; split <;> omega
  intro j
  induction j with
  | zero =>
    intro d T' e hR hw' hL
    rw [e_Mo_tells_39, hL.2, if_pos h67, m_ahead0 (by rw [hw']; exact hw) (by decide) (by rw [hw']; omega), Option.bind_some, if_pos rfl, show d = telN w by omega]
    exact ⟨T', rfl, fun _ _ => rfl⟩
  | succ j ih =>
    intro d T' e hR hw' hL
    obtain ⟨T1, r1, r2⟩ := m_tel61 (a := a) hP (d := d) (by omega) (nOf P) 0 T' (by omega) (telD P w (srcL P T w) d) hR hL
    have r1 : Mo_tells_61 a (telD P w (srcL P T w) d).1 (telD P w (srcL P T w) d).2.1 (telD P w (srcL P T w) d).2.2 ((d + 1 : Nat) : Int) 0 T' = _ := r1
    obtain ⟨T2, q1, q2⟩ := ih (d + 1) T1 (by omega) (hR.fr3 r2) (by rw [r2 _ (by decide)]; exact hw') (hL.fr r2)
    rw [e_Mo_tells_39, hL.2, if_pos h67, m_ahead1 (by rw [hw']; exact hw) (by decide) (by rw [hw']; omega), Option.bind_some]
    dsimp only
    rw [if_neg n10, r1, ← telD_s, q1]
    exact ⟨T2, rfl, fun c hc => by rw [q2 c hc, r2 c hc]⟩
end
