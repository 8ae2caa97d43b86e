/-! ASK: over all officers -/
section
variable {n : Nat} {P S T : MS}
def stepQ (k : Nat) (v : Int) (o : Nat) (acc : Int) : Int :=
  if k = 0 then (if v = 1 ∧ acc = -1 then (o : Int) else acc) else if k = 1 then (if v = 1 then (o : Int) else acc) else if k = 2 then (if v = 1 then acc + 1 else acc) else if k = 3 then acc + v
  else if k = 4 then (if o = 0 then v else if acc < v then v else acc) else (if o = 0 then v else if v < acc then v else acc)
def ansQ (k : Nat) (V : Nat → Int) : Nat → Nat → Int → Int
  | 0, _, acc => acc
  | n + 1, o, acc => ansQ k V n (o + 1) (stepQ k (V o) o acc)
theorem ansQ_0 {V : Nat → Int} : ∀ (n o : Nat) (acc : Int), acc ≠ -1 → ansQ 0 V n o acc = acc := by
  intro n
  induction n with
  | zero => intro o acc _; rfl
  | succ n ih =>
    intro o acc h
    show ansQ 0 V n (o + 1) (stepQ 0 (V o) o acc) = acc
    have : stepQ 0 (V o) o acc = acc := by unfold stepQ; rw [if_pos rfl, if_neg (fun q => h q.2)]
    rw [this]
    exact ih _ _ h
theorem stepQ_4 {o : Nat} {v acc : Int} : stepQ 4 v o acc = if o = 0 then v else if acc < v then v else acc := rfl
theorem stepQ_5 {o : Nat} {v acc : Int} : stepQ 5 v o acc = if o = 0 then v else if v < acc then v else acc := rfl
theorem stepQ_45 {k o : Nat} {v acc : Int} (c : ¬ k < 4) : stepQ k v o acc = if k = 4 then (if o = 0 then v else if acc < v then v else acc) else (if o = 0 then v else if v < acc then v else acc) := by
  unfold stepQ
  rw [if_neg (by omega), if_neg (by omega), if_neg (by omega), if_neg (by omega)]
theorem stepQ_b {k o : Nat} {v acc : Int} (ho : o < 8) (hv : -1000000 ≤ v ∧ v ≤ 1000000) (h : -(1000000 * (o : Int) + 1) ≤ acc ∧ acc ≤ 1000000 * (o : Int) + 1) : -(1000000 * ((o + 1 : Nat) : Int) + 1) ≤ stepQ k v o acc ∧ stepQ k v o acc ≤ 1000000 * ((o + 1 : Nat) : Int) + 1 := by
  unfold stepQ
  (repeat' split) <;> omega
theorem valQ_vt {w : Nat → Int} {cs : List Int} {b : Bool} {D : Nat → Nat → Int} (hP : PLN P) (hW : WV P w) (ht : tyS 3 cs [] = some [b]) {o : Nat} (ho : o < nOf P) (hD : DST (EDG P w) o (D o)) : vt b (valQ P w D cs o) ∧ (-1000000 ≤ valQ P w D cs o ∧ valQ P w D cs o ≤ 1000000) := by
  have h8 : o < 8 := by have := hP.1; unfold nOf at ho; omega
  have h := (evC_of (pvq_ok hP hW h8) (flq_ok hP hW h8) (stq_ok hP hD) ht).2
  refine ⟨h, ?_⟩
  have h : vt b (valQ P w D cs o) := h
  cases b
  · exact h
  · have h : valQ P w D cs o = 0 ∨ valQ P w D cs o = 1 := h
    omega
theorem c_83 {k : Nat} (hk : k < 6) {o : Nat} (ho : o < 8) {v acc : Int} (hv : -1000000 ≤ v ∧ v ≤ 1000000) (hv3 : k < 3 → v = 0 ∨ v = 1) (ha : -(1000000 * (o : Int) + 1) ≤ acc ∧ acc ≤ 1000000 * (o : Int) + 1) (hk2 : k < 2 → v = 0) : As_answerOfAll_83 ((26 + k : Nat) : Int) acc o v S = As_answerOfAll_23 ((26 + k : Nat) : Int) (stepQ k v o acc) ((o + 1 : Nat) : Int) S := by
  rw [e_As_answerOfAll_83, wr_suc2 (show o < 8 from ho) (by decide), wlN (z := acc + v) (by omega) (by omega)]
  rcases (show k = 0 ∨ k = 1 ∨ k = 2 ∨ k = 3 ∨ k = 4 ∨ k = 5 by omega) with rfl | rfl | rfl | rfl | rfl | rfl
  · have := hk2 (by decide)
    unfold stepQ
    rw [if_neg (by decide), if_neg (by decide), if_neg (by decide), if_neg (by decide), if_pos rfl, if_neg (by omega)]
  · have := hk2 (by decide)
    unfold stepQ
    rw [if_neg (by decide), if_neg (by decide), if_neg (by decide), if_neg (by decide), if_neg (by decide), if_pos rfl, if_neg (by omega)]
  · unfold stepQ
    rw [if_pos (by decide), if_neg (by decide), if_neg (by decide), if_pos rfl]
    rcases hv3 (by decide) with rfl | rfl
    · rw [if_neg (by decide), Int.add_zero]
    · rw [if_pos rfl]
  · unfold stepQ
    rw [if_neg (by decide), if_pos (by decide), if_neg (by decide), if_neg (by decide), if_neg (by decide), if_pos rfl]
  · rw [if_neg (by decide), if_neg (by decide), if_pos (by decide), stepQ_4]
    by_cases c : o = 0
    · rw [if_pos (by omega), if_pos c]
    · rw [if_neg (by omega), if_neg c]
      by_cases c2 : acc < v
      · rw [if_pos c2, imx_le (by omega)]
      · rw [if_neg c2, imx_ge (by omega)]
  · rw [if_neg (by decide), if_neg (by decide), if_neg (by decide), if_pos (by decide), stepQ_5]
    by_cases c : o = 0
    · rw [if_pos (by omega), if_pos c]
    · rw [if_neg (by omega), if_neg c]
      by_cases c2 : v < acc
      · rw [if_pos c2, imn_ge (by omega)]
      · rw [if_neg c2, imn_le (by omega)]
theorem c_ansAll {k : Nat} {w : Nat → Int} {cs : List Int} {D : Nat → Nat → Int} (hk : k < 6) (hP : PLN P) (hW : WV P w) (hl : cs.length ≤ 1601) (ht : tyS 3 cs [] = some [decide (k < 3)]) (hD : ∀ o, o < nOf P → DST (EDG P w) o (D o)) : ∀ (j o : Nat) (acc : Int) (S : MS), o + j = nOf P → AQc P w cs S → (k = 0 → acc = -1) → (-(1000000 * (o : Int) + 1) ≤ acc ∧ acc ≤ 1000000 * (o : Int) + 1) → ∃ S', As_answerOfAll_23 ((26 + k : Nat) : Int) acc o S = some (ansQ k (valQ P w D cs) j o acc, S') ∧ FVa S S' := by
  have hn : nOf P ≤ 8 := by have := hP.1; unfold nOf; omega
  have h31 : ∀ {S}, AQc P w cs S → S 31 0 = ((nOf P : Nat) : Int) := fun {S} h => by rw [h.1.1.1]; have := hP.1; unfold nOf; omega
  intro j
  induction j with
  | zero =>
    intro o acc S e hA _ _
    rw [e_As_answerOfAll_23, h31 hA, if_neg (by omega)]
    exact ⟨S, rfl, FVa.rf S⟩
  | succ j ih =>
    intro o acc S e hA h0 hb
    obtain ⟨S1, r1, r2⟩ := c_valueOf hP hW hA hl ht (show o < nOf P by omega) (hD o (by omega))
    obtain ⟨v1, v2⟩ := valQ_vt hP hW ht (show o < nOf P by omega) (hD o (by omega))
    rw [e_As_answerOfAll_23, h31 hA, if_pos (by omega), r1, Option.bind_some]
    dsimp only
    show ∃ S', _ = some (ansQ k (valQ P w D cs) j (o + 1) (stepQ k (valQ P w D cs o) o acc), S') ∧ FVa S S'
    generalize valQ P w D cs o = v at v1 v2 ⊢
    have hv3 : k < 3 → v = 0 ∨ v = 1 := fun q => by rw [decide_eq_true q] at v1; exact v1
    have hb2 := stepQ_b (k := k) (v := v) (acc := acc) (show o < 8 by omega) v2 hb
    have go : (k < 2 → v = 0) → ∃ S', As_answerOfAll_83 ((26 + k : Nat) : Int) acc o v S1 = some (ansQ k (valQ P w D cs) j (o + 1) (stepQ k v o acc), S') ∧ FVa S S' := fun hk2 => by
      rw [c_83 hk (show o < 8 by omega) v2 hv3 hb hk2]
      obtain ⟨S2, q1, q2⟩ := ih (o + 1) (stepQ k v o acc) S1 (by omega) (hA.fr r2) (fun q => by have := h0 q; have := hk2 (by omega); unfold stepQ; rw [if_pos q, if_neg (by omega)]; omega) hb2
      exact ⟨S2, q1, r2.tr q2⟩
    by_cases c0 : k = 0
    · subst c0
      rw [if_pos (by decide)]
      rcases hv3 (by decide) with hv | hv
      · rw [if_pos (lcp_0.mpr hv), if_neg (by decide)]
        exact go (fun _ => hv)
      · rw [if_neg (fun q => by have := lcp_0.mp q; omega)]
        have hs : stepQ 0 v o acc = (o : Int) := by unfold stepQ; rw [if_pos rfl, if_pos ⟨hv, h0 rfl⟩]
        rw [hs, ansQ_0 _ _ _ (by omega)]
        exact ⟨S1, rfl, r2⟩
    · rw [if_neg (by omega)]
      by_cases c1 : k = 1
      · subst c1
        rw [if_pos (by decide)]
        rcases hv3 (by decide) with hv | hv
        · rw [if_pos (lcp_0.mpr hv)]
          exact go (fun _ => hv)
        · rw [if_neg (fun q => by have := lcp_0.mp q; omega), wr_suc2 (show o < 8 by omega) (by decide)]
          have hs : stepQ 1 v o acc = (o : Int) := by unfold stepQ; rw [if_neg (by decide), if_pos rfl, if_pos hv]
          rw [hs] at hb2 ⊢
          obtain ⟨S2, q1, q2⟩ := ih (o + 1) (o : Int) S1 (by omega) (hA.fr r2) (fun q => absurd q (by decide)) hb2
          exact ⟨S2, q1, r2.tr q2⟩
      · rw [if_neg (by omega)]
        exact go (fun q => by omega)
theorem c_ansOf {k : Nat} {w : Nat → Int} {cs : List Int} {D : Nat → Nat → Int} (hk : k < 6) (hP : PLN P) (hW : WV P w) (hl : cs.length ≤ 1601) (ht : tyS 3 cs [] = some [decide (k < 3)]) (hD : ∀ o, o < nOf P → DST (EDG P w) o (D o)) (hA : AQc P w cs S) : ∃ S', m_As_answerOfAll ((26 + k : Nat) : Int) S = some (ansQ k (valQ P w D cs) (nOf P) 0 (if k < 2 then -1 else 0), S') ∧ FVa S S' := by
  obtain ⟨S', r1, r2⟩ := c_ansAll hk hP hW hl ht hD (nOf P) 0 (if k < 2 then -1 else 0) S (Nat.zero_add _) hA (fun q => by rw [if_pos (by omega)]) (by split <;> omega)
  refine ⟨S', ?_, r2⟩
  rw [← r1, e_As_answerOfAll]
  by_cases c0 : k = 0
  · subst c0; rw [if_pos (by decide), if_pos (by decide)]; rfl
  · rw [if_neg (by omega)]
    by_cases c1 : k = 1
    · subst c1; rw [if_pos (by decide), if_pos (by decide)]; rfl
    · rw [if_neg (by omega), if_neg (by omega)]; rfl
/-! the reference -/
def FTk2 (T T' : MS) : Prop := (∀ c, c ≠ 401 → T' c = T c) ∧ ∀ j, j ≠ 104 → j ≠ 105 → T' 401 j = T 401 j
theorem m_takes90 {k : Nat} (hk : k < 6) {o : Nat} {v acc : Int} (h4 : T 401 104 = acc) (h5 : T 401 105 = if o = 0 then 1 else 0) : ∃ T', Mo_qTakes_90 k v T = some T' ∧ (T' 401 104 = if k < 4 then acc else stepQ k v o acc) ∧ T' 401 105 = 0 ∧ FTk2 T T' := by
  have f1 : FTk2 T (up T 401 105 0) := ⟨fun c hc => up_c hc, fun j _ a2 => up_k a2⟩
  have f2 : ∀ z, FTk2 T (up (up T 401 104 z) 401 105 0) := fun z => ⟨fun c hc => by rw [up_c hc, up_c hc], fun j a1 a2 => by rw [up_k a2, up_k a1]⟩
  rw [e_Mo_qTakes_90]
  by_cases c : k < 4
  · rw [if_neg (by omega), if_pos c]
    exact ⟨_, rfl, by rw [up_k (by decide)]; exact h4, up_s _ _ _ _, f1⟩
  · have hq := stepQ_45 (o := o) (v := v) (acc := acc) c
    rw [if_pos (show (3 : Int) < (k : Int) by omega), if_neg c]
    by_cases c0 : o = 0
    · rw [if_pos c0] at h5
      have hz : stepQ k v o acc = v := by rw [hq, if_pos c0, if_pos c0]; split <;> rfl
      rw [if_neg (show ¬ T 401 105 = 0 by rw [h5]; decide), hz]
      exact ⟨_, rfl, by rw [up_k (by decide), up_s], up_s _ _ _ _, f2 v⟩
    · rw [if_neg c0] at h5
      rw [if_neg c0, if_neg c0] at hq
      rw [if_pos (show T 401 105 = 0 from h5), hq]
      by_cases c4 : k = 4
      · rw [if_pos (show (k : Int) = 4 by omega), if_pos c4, h4]
        by_cases c5 : acc < v
        · rw [if_pos (lcp_pos.mpr c5), if_pos c5]
          exact ⟨_, rfl, by rw [up_k (by decide), up_s], up_s _ _ _ _, f2 v⟩
        · rw [if_neg (fun q => c5 (lcp_pos.mp q)), if_neg c5]
          exact ⟨_, rfl, by rw [up_k (by decide)]; exact h4, up_s _ _ _ _, f1⟩
      · rw [if_neg (show ¬ (k : Int) = 4 by omega), if_neg c4, h4]
        by_cases c5 : v < acc
        · rw [if_pos (lcp_neg.mpr c5), if_pos c5]
          exact ⟨_, rfl, by rw [up_k (by decide), up_s], up_s _ _ _ _, f2 v⟩
        · rw [if_neg (fun q => c5 (lcp_neg.mp q)), if_neg c5]
          exact ⟨_, rfl, by rw [up_k (by decide)]; exact h4, up_s _ _ _ _, f1⟩
theorem m_qTk {k : Nat} (hk : k < 6) {o : Nat} (ho : o < 8) {v acc : Int} (hv : -1000000 ≤ v ∧ v ≤ 1000000) (hv3 : k < 3 → v = 0 ∨ v = 1) (ha : -(1000000 * (o : Int) + 1) ≤ acc ∧ acc ≤ 1000000 * (o : Int) + 1) (h4 : T 401 104 = acc) (h5 : T 401 105 = if o = 0 then 1 else 0) : ∃ T', m_Mo_qTakes k v o T = some T' ∧ T' 401 104 = stepQ k v o acc ∧ T' 401 105 = 0 ∧ FTk2 T T' := by
  have hu : ∀ z, FTk2 T (up T 401 104 z) := fun z => ⟨fun c hc => up_c hc, fun j a1 _ => up_k a1⟩
  have h5u : ∀ z, up T 401 104 z 401 105 = if o = 0 then 1 else 0 := fun z => by rw [up_k (by decide)]; exact h5
  have tr : ∀ {A B C : MS}, FTk2 A B → FTk2 B C → FTk2 A C := fun f g => ⟨fun c hc => (g.1 c hc).trans (f.1 c hc), fun j a1 a2 => (g.2 j a1 a2).trans (f.2 j a1 a2)⟩
  have g0 := m_takes90 (v := v) hk h4 h5
  have gz : ∀ z, ∃ T', Mo_qTakes_90 k v (up T 401 104 z) = some T' ∧ (T' 401 104 = if k < 4 then z else stepQ k v o z) ∧ T' 401 105 = 0 ∧ FTk2 T T' := fun z => by
    obtain ⟨T', r1, r2, r3, r4⟩ := m_takes90 (v := v) hk (up_s _ _ _ _) (h5u z)
    exact ⟨T', r1, r2, r3, tr (hu z) r4⟩
  rw [e_Mo_qTakes]
  have i1 : lcp v 1 = 0 ↔ v = 1 := lcp_0
  rcases (show k = 0 ∨ k = 1 ∨ k = 2 ∨ k = 3 ∨ k = 4 ∨ k = 5 by omega) with rfl | rfl | rfl | rfl | rfl | rfl
  · rw [if_pos (by decide)]
    by_cases c : v = 1
    · rw [if_pos (i1.mpr c), e_Mo_qTakes_16, if_pos (by decide), if_neg (by decide), h4]
      by_cases c2 : acc = -1
      · rw [if_pos (lcp_0.mpr c2), e_Mo_qTakes_55, if_neg (by decide), if_neg (by decide)]
        obtain ⟨T', r1, r2, r3, r4⟩ := gz o
        exact ⟨T', r1, by rw [r2]; unfold stepQ; rw [if_pos (by decide), if_pos rfl, if_pos ⟨c, c2⟩], r3, r4⟩
      · rw [if_neg (fun q => c2 (lcp_0.mp q)), if_neg (by decide), e_Mo_qTakes_55, if_neg (by decide), if_neg (by decide)]
        obtain ⟨T', r1, r2, r3, r4⟩ := g0
        exact ⟨T', r1, by rw [r2]; unfold stepQ; rw [if_pos (by decide), if_pos rfl, if_neg (fun q => c2 q.2)], r3, r4⟩
    · rw [if_neg (fun q => c (i1.mp q)), e_Mo_qTakes_16, if_pos (by decide), if_pos rfl, if_neg (by decide), e_Mo_qTakes_55, if_neg (by decide), if_neg (by decide)]
      obtain ⟨T', r1, r2, r3, r4⟩ := g0
      exact ⟨T', r1, by rw [r2]; unfold stepQ; rw [if_pos (by decide), if_pos rfl, if_neg (fun q => c q.1)], r3, r4⟩
  · rw [if_pos (by decide)]
    by_cases c : v = 1
    · rw [if_pos (i1.mpr c), e_Mo_qTakes_16, if_neg (by decide), if_pos (by decide), if_neg (by decide), e_Mo_qTakes_55, if_neg (by decide), if_neg (by decide)]
      obtain ⟨T', r1, r2, r3, r4⟩ := gz o
      exact ⟨T', r1, by rw [r2]; unfold stepQ; rw [if_pos (by decide), if_neg (by decide), if_pos rfl, if_pos c], r3, r4⟩
    · rw [if_neg (fun q => c (i1.mp q)), e_Mo_qTakes_16, if_neg (by decide), if_pos (by decide), if_pos rfl, e_Mo_qTakes_55, if_neg (by decide), if_neg (by decide)]
      obtain ⟨T', r1, r2, r3, r4⟩ := g0
      exact ⟨T', r1, by rw [r2]; unfold stepQ; rw [if_pos (by decide), if_neg (by decide), if_pos rfl, if_neg c], r3, r4⟩
  · rw [if_pos (by decide)]
    by_cases c : v = 1
    · rw [if_pos (i1.mpr c), e_Mo_qTakes_16, if_neg (by decide), if_neg (by decide), e_Mo_qTakes_55, if_pos (by decide), if_neg (by decide), if_neg (by decide), h4, wlN (by omega) (by omega)]
      obtain ⟨T', r1, r2, r3, r4⟩ := gz (acc + 1)
      exact ⟨T', r1, by rw [r2]; unfold stepQ; rw [if_pos (by decide), if_neg (by decide), if_neg (by decide), if_pos rfl, if_pos c], r3, r4⟩
    · rw [if_neg (fun q => c (i1.mp q)), e_Mo_qTakes_16, if_neg (by decide), if_neg (by decide), e_Mo_qTakes_55, if_pos (by decide), if_pos rfl, if_neg (by decide)]
      obtain ⟨T', r1, r2, r3, r4⟩ := g0
      exact ⟨T', r1, by rw [r2]; unfold stepQ; rw [if_pos (by decide), if_neg (by decide), if_neg (by decide), if_pos rfl, if_neg c], r3, r4⟩
  · rw [if_neg (by decide), e_Mo_qTakes_16, if_neg (by decide), if_neg (by decide), e_Mo_qTakes_55, if_neg (by decide), if_pos (by decide), h4, wlN (by omega) (by omega)]
    obtain ⟨T', r1, r2, r3, r4⟩ := gz (acc + v)
    exact ⟨T', r1, by rw [r2]; unfold stepQ; rw [if_pos (by decide), if_neg (by decide), if_neg (by decide), if_neg (by decide), if_pos rfl], r3, r4⟩
  · rw [if_neg (by decide), e_Mo_qTakes_16, if_neg (by decide), if_neg (by decide), e_Mo_qTakes_55, if_neg (by decide), if_neg (by decide)]
    obtain ⟨T', r1, r2, r3, r4⟩ := g0
    exact ⟨T', r1, by rw [r2, if_neg (by decide)], r3, r4⟩
  · rw [if_neg (by decide), e_Mo_qTakes_16, if_neg (by decide), if_neg (by decide), e_Mo_qTakes_55, if_neg (by decide), if_neg (by decide)]
    obtain ⟨T', r1, r2, r3, r4⟩ := g0
    exact ⟨T', r1, by rw [r2, if_neg (by decide)], r3, r4⟩
end
