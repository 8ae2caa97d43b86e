/-! steps: the reference's queue -/
section
variable {n : Nat} {P S T : MS}
def BFQ (P : MS) (w : Nat → Int) (s : Nat) (d : Nat → Int) (q : Nat → Nat) (t h K : Nat) : Prop :=
  (d s = 0 ∧ (∀ x, x < 8 → -1 ≤ d x) ∧ (∀ x, x < 8 → d x = 0 → x = s) ∧ ∀ (x j : Nat), x < 8 → d x = (j : Int) + 1 → ∃ y, y < 8 ∧ EDG P w y x ∧ d y = j) ∧
  ((∀ i, i < t → q i < 8 ∧ 0 ≤ d (q i)) ∧ (∀ i j, i ≤ j → j < t → d (q i) ≤ d (q j)) ∧ (h < t → ∀ i, i < t → d (q i) ≤ d (q h) + 1) ∧ (∀ x, x < 8 → 0 ≤ d x → ∃ i, i < t ∧ q i = x) ∧ sumN (fun i => if 0 ≤ d i then 1 else 0) 8 = (t : Int) ∧ h ≤ t) ∧
  (∀ i, i < h → ∀ x, x < 8 → EDG P w (q i) x → 0 ≤ d x ∧ d x ≤ d (q i) + 1) ∧ (h < t → ∀ k, k < K → w (1 + 2 * k) = 1 → frN P w k = q h → 0 ≤ d (toN P w k) ∧ d (toN P w k) ≤ d (q h) + 1)
theorem BFQ.congr {w : Nat → Int} {s t h K : Nat} {d d' : Nat → Int} {q q' : Nat → Nat} (g : BFQ P w s d q t h K) (e : d = d') (e' : q = q') : BFQ P w s d' q' t h K := e ▸ e' ▸ g
theorem BFQ.t8 {w : Nat → Int} {s t h K : Nat} {d : Nat → Int} {q : Nat → Nat} (g : BFQ P w s d q t h K) : t ≤ 8 := by
  have h1 := g.2.1.2.2.2.2.1
  have h2 := (sumN_b (B := 1) (g := fun i => if 0 ≤ d i then 1 else 0) (n := 8) (fun k hk => by (try dsimp only); split <;> omega)).2
  omega
theorem BFQ.nxt {w : Nat → Int} {s t h : Nat} {d : Nat → Int} {q : Nat → Nat} (g : BFQ P w s d q t h (nCa P)) (hh : h < t) : BFQ P w s d q t (h + 1) 0 := by
  obtain ⟨a, ⟨b1, b2, b3, b4, b5, b6⟩, c, e⟩ := g
  refine ⟨a, ⟨b1, b2, fun h1 i hi => ?_, b4, b5, by omega⟩, fun i hi x hx ed => ?_, fun _ k hk => by omega⟩
  · have := b3 hh i hi
    have := b2 h (h + 1) (by omega) h1
    omega
  · by_cases ci : i = h
    · subst ci
      obtain ⟨k, k1, k2, k3, rfl⟩ := ed
      exact e hh k k1 k2 k3
    · exact c i (by omega) x hx ed
theorem BFQ.skip {w : Nat → Int} {s t h K : Nat} {d : Nat → Int} {q : Nat → Nat} (g : BFQ P w s d q t h K) (hh : h < t) (u : w (1 + 2 * K) = 1 → frN P w K = q h → 0 ≤ d (toN P w K) ∧ d (toN P w K) ≤ d (q h) + 1) : BFQ P w s d q t h (K + 1) := by
  obtain ⟨a, b, c, e⟩ := g
  refine ⟨a, b, c, fun _ k hk k1 k2 => ?_⟩
  by_cases ck : k = K
  · subst ck; exact u k1 k2
  · exact e hh k (by omega) k1 k2
theorem BFQ.old {w : Nat → Int} {s t h K : Nat} {d : Nat → Int} {q : Nat → Nat} (g : BFQ P w s d q t h K) (hh : h < t) {x : Nat} (hx : x < 8) (hd : 0 ≤ d x) : d x ≤ d (q h) + 1 := by
  obtain ⟨i, i1, rfl⟩ := g.2.1.2.2.2.1 x hx hd
  exact g.2.1.2.2.1 hh i i1
theorem BFQ.lt8 {w : Nat → Int} {s t h K : Nat} {d : Nat → Int} {q : Nat → Nat} (g : BFQ P w s d q t h K) {x : Nat} (hx : x < 8) (hd : d x = -1) : t < 8 := by
  have h1 := g.2.1.2.2.2.2.1
  have h2 := sumN_lt (g := fun i => if 0 ≤ d i then 1 else 0) (h := fun _ => 1) (x := x) 8 (fun k hk => by (try dsimp only); split <;> omega) hx (by (try dsimp only); rw [if_neg (by omega)]; omega)
  have h3 : sumN (fun _ => (1 : Int)) 8 = 8 := rfl
  omega
theorem BFQ.put {w : Nat → Int} {s t h K : Nat} {d : Nat → Int} {q : Nat → Nat} (hP : PLN P) (g : BFQ P w s d q t h K) (hs : s < 8) (hh : h < t) (hK : K < nCa P) (hi : w (1 + 2 * K) = 1) (ht : d (toN P w K) = -1) (hf : frN P w K = q h) :
    BFQ P w s (fun x => if x = toN P w K then d (q h) + 1 else d x) (fun i => if i = t then toN P w K else q i) (t + 1) h (K + 1) := by
  have t8 : toN P w K < 8 := (ft_b (w := w) hP hK).2.2
  have f8 : frN P w K < 8 := (ft_b (w := w) hP hK).1.2
  obtain ⟨⟨a1, a2, a3, a4⟩, ⟨b1, b2, b3, b4, b5, b6⟩, c, e⟩ := g
  generalize ex : toN P w K = x0 at *
  have hne : ∀ x, 0 ≤ d x → x ≠ x0 := fun x hx e => by rw [e, ht] at hx; omega
  have dh : 0 ≤ d (q h) := (b1 h hh).2
  have D : ∀ i, i < t → (if q i = x0 then d (q h) + 1 else d (q i)) = d (q i) := fun i hi => if_neg (hne _ (b1 i hi).2)
  refine ⟨⟨?_, fun x hx => ?_, fun x hx e1 => ?_, fun x j hx e1 => ?_⟩, ⟨fun i hi => ?_, fun i j hij hj => ?_, fun _ i hi => ?_, fun x hx e1 => ?_, ?_, by omega⟩, fun i hi' x hx ed => ?_, fun _ k hk k1 k2 => ?_⟩
  · (try dsimp only); rw [if_neg (hne s (by omega))]; exact a1
  · (try dsimp only)
    have := a2 x hx
    split <;> omega
  · (try dsimp only at e1)
    split at e1
    · omega
    · exact a3 x hx e1
  · (try dsimp only at e1 ⊢)
    by_cases cx : x = x0
    · rw [if_pos cx] at e1
      refine ⟨frN P w K, f8, ⟨K, hK, hi, rfl, by rw [ex, cx]⟩, ?_⟩
      rw [hf, if_neg (hne _ dh)]
      omega
    · rw [if_neg cx] at e1
      obtain ⟨y, y1, y2, y3⟩ := a4 x j hx e1
      exact ⟨y, y1, y2, by rw [if_neg (hne y (by omega))]; exact y3⟩
  · (try dsimp only)
    by_cases ci : i = t
    · rw [if_pos ci, if_pos rfl]; omega
    · rw [if_neg ci, D i (by omega)]; exact b1 i (by omega)
  · (try dsimp only)
    by_cases cj : j = t
    · rw [if_pos cj, if_pos rfl]
      by_cases ci : i = t
      · rw [if_pos ci, if_pos rfl]; omega
      · rw [if_neg ci, D i (by omega)]
        have := b3 hh i (by omega)
        omega
    · rw [if_neg cj, if_neg (show ¬ i = t by omega), D i (by omega), D j (by omega)]
      exact b2 i j hij (by omega)
  · (try dsimp only)
    rw [if_neg (show ¬ h = t by omega), D h hh]
    by_cases ci : i = t
    · rw [if_pos ci, if_pos rfl]; omega
    · rw [if_neg ci, D i (by omega)]; exact b3 hh i (by omega)
  · (try dsimp only at e1 ⊢)
    by_cases cx : x = x0
    · exact ⟨t, by omega, by rw [if_pos rfl, cx]⟩
    · rw [if_neg cx] at e1
      obtain ⟨i, i1, i2⟩ := b4 x hx e1
      exact ⟨i, by omega, by rw [if_neg (by omega)]; exact i2⟩
  · (try dsimp only)
    rw [sumN_up (g := fun i => if 0 ≤ d i then 1 else 0) (x := x0) 8 (fun k hk hkx => by simp only [if_neg hkx]) t8 (by simp only [if_true, ht]; rw [if_pos (by omega), if_neg (by decide)]; rfl), b5]
    rfl
  · (try dsimp only at ed ⊢)
    rw [if_neg (show ¬ i = t by omega)] at ed ⊢
    have := c i hi' x hx ed
    rw [D i (by omega), if_neg (hne x this.1)]
    exact this
  · (try dsimp only at k2 ⊢)
    rw [if_neg (show ¬ h = t by omega)] at k2 ⊢
    rw [D h hh]
    by_cases ck : k = K
    · subst ck; rw [ex, if_pos rfl]; omega
    · have := e hh k (by omega) k1 k2
      rw [if_neg (hne _ this.1)]
      exact this
theorem BFQ.d7 {w : Nat → Int} {s t h K : Nat} {d : Nat → Int} {q : Nat → Nat} (g : BFQ P w s d q t h K) {x : Nat} (hx : x < 8) : d x ≤ 7 :=
  no8 (fun x j hx e => by obtain ⟨y, y1, -, y3⟩ := g.1.2.2.2 x j hx e; exact ⟨y, y1, y3⟩) hx
theorem rw8 {s x : Nat} (hs : s < 8) (hx : x < 8) : wr ((wr (8 * (s : Int))) + (x : Int)) = ((8 * s + x : Nat) : Int) := by
  rw [wrN (z := 8 * (s : Int)) (by omega) (by omega), wrN (by omega) (by omega)]; omega
def BQT (P : MS) (w : Nat → Int) (s : Nat) (T : MS) (t h K : Nat) : Prop := BFQ P w s (fun x => T 442 (8 * s + x)) (fun i => (T 443 i).toNat) t h K ∧ ∀ i, i < t → 0 ≤ T 443 i
theorem m_bq {s : Nat} (hP : PLN P) (hs : s < 8) {w : Nat → Int} (hW : WV P w) {h : Nat} : ∀ (j K t : Nat) (T : MS), K + j = nCa P → RP P T → T 438 = w → h < t → BQT P w s T t h K → ∃ T' t', Mo_laysSteps_54 s t h K T = Mo_laysSteps_46 s (t' : Nat) ((h + 1 : Nat) : Int) T' ∧ BQT P w s T' t' h (nCa P) ∧ h < t' ∧ (∀ c, c ≠ 442 → c ≠ 443 → T' c = T c) ∧ ∀ i, i < 8 * s ∨ 8 * s + 8 ≤ i → T' 442 i = T 442 i := by
  have hc12 := nCa_le hP
  have h3 := hP.2.2.1
  intro j
  induction j with
  | zero =>
    intro K t T e hR hw hh hB
    have t8 := hB.1.t8
    refine ⟨T, t, ?_, by rw [show nCa P = K by omega]; exact hB, hh, fun _ _ _ => rfl, fun _ _ => rfl⟩
    rw [e_Mo_laysSteps_54, e_Mo_carbonMany, Option.bind_some]
    dsimp only
    rw [hR.n6, if_neg (by unfold nCa at e; omega), wr_succ (show h < 8 by omega) (by decide)]
  | succ j ih =>
    intro K t T e hR hw hh hB
    have hK : K < nCa P := by omega
    have t8 := hB.1.t8
    have hb : T 438 (2 + 2 * K) = 0 ∨ T 438 (2 + 2 * K) = 1 := by rw [hw]; have := hW.2.1 K (by omega); omega
    obtain ⟨⟨f1, f2⟩, t1, t2⟩ := ft_b (w := w) hP hK
    have hq := hB.2 h hh
    have hq8 := (hB.1.2.1.1 h hh).1
    obtain ⟨u, hu⟩ : ∃ u : Nat, T 443 h = (u : Int) := ⟨(T 443 h).toNat, by omega⟩
    have hu2 : (T 443 h).toNat = u := by omega
    have hu8 : u < 8 := by (try dsimp only at hq8); omega
    rw [e_Mo_laysSteps_54, e_Mo_carbonMany, Option.bind_some]
    dsimp only
    rw [hR.n6, if_pos (by unfold nCa at hK; omega), m_to hR (by omega) hb, Option.bind_some]
    dsimp only
    rw [m_inside (by omega), Option.bind_some]
    dsimp only
    rw [hw, t1, wr_succ (show K < 12 by omega) (by decide)]
    by_cases d1 : w (1 + 2 * K) = 1
    · rw [if_pos d1, if_neg n10, m_from hR (by omega) hb, Option.bind_some]
      dsimp only
      rw [hw, f1, if_pos (by omega), Int.toNat_natCast]
      simp only [hu]
      by_cases d2 : frN P w K = u
      · rw [if_pos (by omega), rw8 hs t2, if_pos (by omega), Int.toNat_natCast]
        by_cases d3 : T 442 (8 * s + toN P w K) = -1
        · have t9 := hB.1.lt8 t2 d3
          have q7 := hB.1.d7 hu8
          have q6 := hB.1.1.2.1 _ hu8
          (try dsimp only at q7 q6)
          rw [if_pos d3, if_pos (by omega), rw8 hs hu8, if_pos (by omega), if_pos (by omega), if_pos (by omega), Int.toNat_natCast, Int.toNat_natCast, wr_succ t9 (by decide), wrN (by omega) (by omega)]
          have hB2 := hB.1.put hP hs hh hK d1 d3 (by (try dsimp only); omega)
          (try dsimp only at hB2)
          rw [hu2] at hB2
          obtain ⟨T', t', r1, r2, r3, r4, r5⟩ := ih (K + 1) (t + 1) (up (up T 442 (8 * s + toN P w K) (T 442 (8 * s + u) + 1)) 443 t (toN P w K : Nat)) (by omega) (hR.fr (by rw [up_c (by decide), up_c (by decide)]) (by rw [up_c (by decide), up_c (by decide)]) (by rw [up_c (by decide), up_c (by decide)]) (by rw [up_c (by decide), up_c (by decide)]) (by rw [up_c (by decide), up_c (by decide)]) (by rw [up_c (by decide), up_c (by decide)]) (by rw [up_c (by decide), up_c (by decide)])) (by rw [up_c (by decide), up_c (by decide)]; exact hw) (by omega) ⟨hB2.congr (by
            funext x
            rw [up_c (by decide)]
            by_cases cx : x = toN P w K
            · rw [cx, if_pos rfl, up_s]
            · rw [if_neg cx, up_k (by omega)]) (by
            funext i
            by_cases ci : i = t
            · rw [ci, if_pos rfl, up_s]; rfl
            · rw [if_neg ci, up_k ci, up_c (by decide)]), fun i hi => by
            by_cases ci : i = t
            · rw [ci, up_s]; omega
            · rw [up_k ci, up_c (by decide)]; exact hB.2 i (by omega)⟩
          exact ⟨T', t', r1, r2, r3, fun c c1 c2 => by rw [r4 c c1 c2, up_c c2, up_c c1], fun i hi => by rw [r5 i hi, up_c (by decide), up_k (by omega)]⟩
        · rw [if_neg d3]
          have o1 := hB.1.1.2.1 _ t2
          dsimp only at o1
          exact ih (K + 1) t T (by omega) hR hw hh ⟨hB.1.skip hh (fun _ _ => ⟨by (try dsimp only); omega, hB.1.old hh t2 (by (try dsimp only); omega)⟩), hB.2⟩
      · rw [if_neg (by omega)]
        exact ih (K + 1) t T (by omega) hR hw hh ⟨hB.1.skip hh (fun _ q => absurd q (by (try dsimp only); omega)), hB.2⟩
    · rw [if_neg d1, if_pos rfl]
      exact ih (K + 1) t T (by omega) hR hw hh ⟨hB.1.skip hh (fun q => absurd q d1), hB.2⟩
theorem m_bqs {s : Nat} (hP : PLN P) (hs : s < 8) {w : Nat → Int} (hW : WV P w) : ∀ (j h t : Nat) (T : MS), h + j = 8 → RP P T → T 438 = w → BQT P w s T t h 0 → ∃ T', Mo_laysSteps_46 s t h T = some T' ∧ DST (EDG P w) s (fun x => T' 442 (8 * s + x)) ∧ (∀ c, c ≠ 442 → c ≠ 443 → T' c = T c) ∧ ∀ i, i < 8 * s ∨ 8 * s + 8 ≤ i → T' 442 i = T 442 i := by
  have fin : ∀ (h t : Nat) (T : MS), ¬ h < t → BQT P w s T t h 0 → DST (EDG P w) s (fun x => T 442 (8 * s + x)) := fun h t T c hB => by
    obtain ⟨⟨a1, a2, a3, a4⟩, ⟨b1, b2, b3, b4, b5, b6⟩, e1, e2⟩ := hB.1
    refine ⟨a1, a2, a3, a4, fun y x hy hx ed hd => ?_⟩
    obtain ⟨i, i1, rfl⟩ := b4 y hy hd
    exact e1 i (by omega) x hx ed
  intro j
  induction j with
  | zero =>
    intro h t T e hR hw hB
    have := hB.1.t8
    rw [e_Mo_laysSteps_46, if_neg (by omega)]
    exact ⟨T, rfl, fin h t T (by omega) hB, fun _ _ _ => rfl, fun _ _ => rfl⟩
  | succ j ih =>
    intro h t T e hR hw hB
    by_cases c : h < t
    · rw [e_Mo_laysSteps_46, if_pos (by omega)]
      obtain ⟨T1, t1, r1, r2, r3, r4, r5⟩ := m_bq hP hs hW (nCa P) 0 t T (by omega) hR hw c hB
      have r1 : Mo_laysSteps_54 s t h 0 T = _ := r1
      obtain ⟨T2, q1, q2, q3, q4⟩ := ih (h + 1) t1 T1 (by omega) (hR.fr (r4 _ (by decide) (by decide)) (r4 _ (by decide) (by decide)) (r4 _ (by decide) (by decide)) (r4 _ (by decide) (by decide)) (r4 _ (by decide) (by decide)) (r4 _ (by decide) (by decide)) (r4 _ (by decide) (by decide))) (by rw [r4 _ (by decide) (by decide)]; exact hw) ⟨r2.1.nxt r3, r2.2⟩
      rw [r1, q1]
      exact ⟨T2, rfl, q2, fun c c1 c2 => by rw [q3 c c1 c2, r4 c c1 c2], fun i hi => by rw [q4 i hi, r5 i hi]⟩
    · rw [e_Mo_laysSteps_46, if_neg (by omega)]
      exact ⟨T, rfl, fin h t T c hB, fun _ _ _ => rfl, fun _ _ => rfl⟩
theorem m_ls2 {s : Nat} (hs : s < 8) : ∀ (j v : Nat) (T : MS), v + j = 8 → ∃ T', Mo_laysSteps_2 s v T = Mo_laysSteps_46 s 1 0 (up T' 443 0 s) ∧ (∀ i, i < 8 → T' 442 (8 * s + i) = if v ≤ i then (if i = s then 0 else -1) else T 442 (8 * s + i)) ∧ (∀ c, c ≠ 442 → T' c = T c) ∧ ∀ i, i < 8 * s ∨ 8 * s + 8 ≤ i → T' 442 i = T 442 i := by
  intro j
  induction j with
  | zero =>
    intro v T e
    rw [e_Mo_laysSteps_2, if_neg (by omega)]
    exact ⟨T, rfl, fun i hi => by rw [if_neg (by omega)], fun _ _ => rfl, fun _ _ => rfl⟩
  | succ j ih =>
    intro v T e
    rw [e_Mo_laysSteps_2, if_pos (by omega), rw8 hs (show v < 8 by omega), wr_succ (show v < 8 by omega) (by decide), Int.toNat_natCast]
    have go : ∀ z : Int, z = (if v = s then 0 else -1) → ∃ T', Mo_laysSteps_2 s ((v + 1 : Nat) : Int) (up T 442 (8 * s + v) z) = Mo_laysSteps_46 s 1 0 (up T' 443 0 s) ∧ (∀ i, i < 8 → T' 442 (8 * s + i) = if v ≤ i then (if i = s then 0 else -1) else T 442 (8 * s + i)) ∧ (∀ c, c ≠ 442 → T' c = T c) ∧ ∀ i, i < 8 * s ∨ 8 * s + 8 ≤ i → T' 442 i = T 442 i := fun z hz => by
      obtain ⟨T', r1, r2, r3, r4⟩ := ih (v + 1) (up T 442 (8 * s + v) z) (by omega)
      refine ⟨T', r1, fun i hi => ?_, fun c hc => by rw [r3 c hc, up_c hc], fun i hi => by rw [r4 i hi, up_k (by omega)]⟩
      rw [r2 i hi]
      by_cases c : i = v
      · subst c; rw [if_neg (by omega), up_s, if_pos (Nat.le_refl _), hz]
      · rw [up_k (show 8 * s + i ≠ 8 * s + v by omega)]
        by_cases c2 : v + 1 ≤ i
        · rw [if_pos c2, if_pos (show v ≤ i by omega)]
        · rw [if_neg c2, if_neg (show ¬ v ≤ i by omega)]
    by_cases c : (v : Int) = (s : Int)
    · rw [if_pos c, if_pos (by omega)]
      exact go 0 (by rw [if_pos (by omega)])
    · rw [if_neg c, if_pos (by omega)]
      exact go (-1) (by rw [if_neg (by omega)])
theorem m_lays {s : Nat} (hP : PLN P) (hR : RP P T) (hW : WV P (T 438)) (hs : s < 8) : ∃ T', m_Mo_laysSteps s T = some T' ∧ DST (EDG P (T 438)) s (fun x => T' 442 (8 * s + x)) ∧ (∀ c, c ≠ 442 → c ≠ 443 → T' c = T c) ∧ ∀ i, i < 8 * s ∨ 8 * s + 8 ≤ i → T' 442 i = T 442 i := by
  obtain ⟨T1, r1, r2, r3, r4⟩ := m_ls2 hs 8 0 T (by omega)
  have hd : ∀ i, i < 8 → T1 442 (8 * s + i) = if i = s then 0 else -1 := fun i hi => by rw [r2 i hi, if_pos (Nat.zero_le _)]
  have fr : ∀ c, c ≠ 442 → c ≠ 443 → up T1 443 0 s c = T c := fun c c1 c2 => by rw [up_c c2, r3 c c1]
  have hB : BQT P (T 438) s (up T1 443 0 s) 1 0 0 := by
    have e442 : ∀ i, i < 8 → up T1 443 0 s 442 (8 * s + i) = if i = s then 0 else -1 := fun i hi => by rw [up_c (by decide)]; exact hd i hi
    have e443 : ∀ i, i < 1 → up T1 443 0 s 443 i = s := fun i hi => by rw [show i = 0 by omega, up_s]
    have z443 : ∀ i, i < 1 → (up T1 443 0 s 443 i).toNat = s := fun i hi => by rw [e443 i hi]; omega
    refine ⟨⟨⟨by (try dsimp only); rw [e442 s hs, if_pos rfl], fun x hx => by (try dsimp only); rw [e442 x hx]; split <;> omega, fun x hx e => ?_, fun x j hx e => ?_⟩, ⟨fun i hi => ?_, fun i j hij hj => ?_, fun _ i hi => ?_, fun x hx e => ?_, ?_, by omega⟩, fun i hi => by omega, fun _ k hk => by omega⟩, fun i hi => by rw [e443 i hi]; omega⟩
    · (try dsimp only at e); rw [e442 x hx] at e
      split at e
      · assumption
      · omega
    · (try dsimp only at e); rw [e442 x hx] at e
      split at e <;> omega
    · (try dsimp only); rw [z443 i hi, e442 s hs, if_pos rfl]; omega
    · (try dsimp only); rw [z443 i (by omega), z443 j hj]; omega
    · (try dsimp only); rw [z443 i hi, z443 0 (by omega)]; omega
    · (try dsimp only at e); rw [e442 x hx] at e
      by_cases c : x = s
      · exact ⟨0, by omega, by (try dsimp only); rw [z443 0 (by omega), c]⟩
      · rw [if_neg c] at e; omega
    · rw [sumN_up (g := fun _ => 0) (x := s) 8 (fun k hk hks => by simp only [e442 k hk, if_neg hks]; rw [if_neg (by decide)]) hs (by simp only [e442 s hs, if_true]; rw [if_pos (by decide)]; rfl)]
      rfl
  obtain ⟨T2, q1, q2, q3, q4⟩ := m_bqs hP hs hW 8 0 1 (up T1 443 0 s) (by omega) (hR.fr (fr _ (by decide) (by decide)) (fr _ (by decide) (by decide)) (fr _ (by decide) (by decide)) (fr _ (by decide) (by decide)) (fr _ (by decide) (by decide)) (fr _ (by decide) (by decide)) (fr _ (by decide) (by decide))) (fr _ (by decide) (by decide)) hB
  have r1 : Mo_laysSteps_2 s 0 T = _ := r1
  have q1 : Mo_laysSteps_46 s 1 0 (up T1 443 0 s) = _ := q1
  rw [e_Mo_laysSteps, r1, q1]
  exact ⟨T2, rfl, q2, fun c c1 c2 => by rw [q3 c c1 c2, fr c c1 c2], fun i hi => by rw [q4 i hi, up_c (by decide), r4 i hi]⟩
theorem op_steps (h : Inv n P S T) (a b : Int) : OK2 n P (m_Ma_steps a b S) (m_Mo_steps a b T) := by
  have hP := h.pln
  have h1 := hP.1
  rw [e_Ma_steps, e_Mo_steps]
  by_cases c : 0 ≤ a ∧ a < P 430 4
  · rw [c_isO1 h c rfl, m_isO1 hP h.rp c, Option.bind_some, Option.bind_some]
    dsimp only
    rw [if_neg n10, if_neg n10]
    by_cases d : 0 ≤ b ∧ b < P 430 4
    · obtain ⟨o, rfl⟩ : ∃ o : Nat, a = (o : Int) := ⟨a.toNat, by omega⟩
      obtain ⟨p, rfl⟩ : ∃ p : Nat, b = (p : Int) := ⟨b.toNat, by omega⟩
      rw [c_isO1 h d rfl, m_isO1 hP h.rp d, Option.bind_some, Option.bind_some]
      dsimp only
      obtain ⟨S1, r1, r2, r3⟩ := c_measure hP h.wd.1 h.en.1 h.wd.2.2.1 (s := o) (by omega)
      obtain ⟨T1, q1, q2, q3, -⟩ := m_lays (s := o) hP h.rp h.wd.1 (by omega)
      rw [if_neg n10, if_neg n10, r1, q1, Option.bind_some, Option.bind_some, if_pos (by omega), rw8 (by omega) (by omega), if_pos (by omega), Int.toNat_natCast, Int.toNat_natCast, r2.eq q2 (show p < 8 by omega)]
      exact ⟨_, S1, T1, rfl, rfl, h.look ⟨fun c hc => r3 c (by simp only [List.mem_cons, List.not_mem_nil, or_false, not_or] at hc; omega), fun k _ _ => by rw [r3 30 (by decide)]⟩ ⟨fun c hc => by simp only [List.mem_cons, List.not_mem_nil, or_false, not_or] at hc; exact q3 c (by omega) (by omega), fun k hk => by rw [q3 401 (by decide) (by decide)]⟩ (h.en.1.fr (fun c c1 c2 => r3 c (by omega))) (by rw [r3 30 (by decide)]; omega) (by rw [r3 27 (by decide)]; have := h.th.1; omega) (by rw [q3 401 (by decide) (by decide)]; have := h.th.2; omega)⟩
    · rw [c_isO0 h d rfl, m_isO0 hP h.rp d]
      exact ⟨_, S, T, rfl, rfl, h.same⟩
  · rw [c_isO0 h c rfl, m_isO0 hP h.rp c]
    exact ⟨_, S, T, rfl, rfl, h.same⟩
end
