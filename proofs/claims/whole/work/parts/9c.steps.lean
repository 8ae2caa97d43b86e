/-! steps -/
section
variable {n : Nat} {P S T : MS}
def DST (E : Nat → Nat → Prop) (s : Nat) (d : Nat → Int) : Prop := d s = 0 ∧ (∀ x, x < 8 → -1 ≤ d x) ∧ (∀ x, x < 8 → d x = 0 → x = s) ∧ (∀ (x j : Nat), x < 8 → d x = (j : Int) + 1 → ∃ y, y < 8 ∧ E y x ∧ d y = j) ∧ ∀ y x, y < 8 → x < 8 → E y x → 0 ≤ d y → 0 ≤ d x ∧ d x ≤ d y + 1
theorem DST.le {E : Nat → Nat → Prop} {s : Nat} {d d' : Nat → Int} (h : DST E s d) (h' : DST E s d') : ∀ (j x : Nat), x < 8 → d x = j → 0 ≤ d' x ∧ d' x ≤ j := by
  intro j
  induction j with
  | zero =>
    intro x hx e
    have := h.2.2.1 x hx e
    subst this
    have := h'.1
    omega
  | succ j ih =>
    intro x hx e
    obtain ⟨y, y1, y2, y3⟩ := h.2.2.2.1 x j hx (by omega)
    have i1 := ih y y1 y3
    have i2 := h'.2.2.2.2 y x y1 hx y2 i1.1
    omega
theorem DST.eq {E : Nat → Nat → Prop} {s : Nat} {d d' : Nat → Int} (h : DST E s d) (h' : DST E s d') {x : Nat} (hx : x < 8) : d x = d' x := by
  have a1 := h.2.1 x hx
  have a2 := h'.2.1 x hx
  by_cases c : d x = -1
  · by_cases c' : d' x = -1
    · omega
    · have := (h'.le h) (d' x).toNat x hx (by omega)
      omega
  · have b1 := (h.le h') (d x).toNat x hx (by omega)
    have b2 := (h'.le h) (d' x).toNat x hx (by omega)
    omega
theorem sumN_le {g h : Nat → Int} : ∀ n : Nat, (∀ k, k < n → g k ≤ h k) → sumN g n ≤ sumN h n := by
  intro n
  induction n with
  | zero => intro _; exact Int.le_refl _
  | succ n ih =>
    intro e
    have := ih (fun k hk => e k (by omega))
    have := e n (by omega)
    rw [sumN, sumN]
    omega
theorem sumN_lt {g h : Nat → Int} {x : Nat} : ∀ n : Nat, (∀ k, k < n → g k ≤ h k) → x < n → g x + 1 ≤ h x → sumN g n + 1 ≤ sumN h n := by
  intro n
  induction n with
  | zero => intro _ hx _; omega
  | succ n ih =>
    intro e hx hg
    rw [sumN, sumN]
    by_cases c : x = n
    · subst c
      have := sumN_le x (fun k hk => e k (by omega))
      omega
    · have := ih (fun k hk => e k (by omega)) (by omega) hg
      have := e n (by omega)
      omega
theorem sumN_up {g h : Nat → Int} {x : Nat} : ∀ n : Nat, (∀ k, k < n → k ≠ x → g k = h k) → x < n → h x = g x + 1 → sumN h n = sumN g n + 1 := by
  intro n
  induction n with
  | zero => intro _ hx _; omega
  | succ n ih =>
    intro e hx hg
    rw [sumN, sumN]
    by_cases c : x = n
    · subst c
      have := sumN_congr (n := x) (g := g) (h := h) (fun k hk => e k (by omega) (by omega))
      omega
    · have := ih (fun k hk hkx => e k (by omega) hkx) (by omega) hg
      have := e n (by omega) (by omega)
      omega
theorem no8 {d : Nat → Int} (hC : ∀ (x j : Nat), x < 8 → d x = (j : Int) + 1 → ∃ y, y < 8 ∧ d y = j) {x : Nat} (hx : x < 8) : d x ≤ 7 := by
  have key : ∀ j : Nat, (∃ x, x < 8 ∧ d x = j) → (j : Int) + 1 ≤ sumN (fun i => if 0 ≤ d i ∧ d i ≤ j then 1 else 0) 8 := by
    intro j
    induction j with
    | zero =>
      intro ⟨x, x1, x2⟩
      have := sumN_lt (g := fun _ => 0) (h := fun i => if 0 ≤ d i ∧ d i ≤ ((0 : Nat) : Int) then 1 else 0) (x := x) 8 (fun k hk => by (try dsimp only); split <;> omega) x1 (by (try dsimp only); rw [if_pos (by omega)]; omega)
      have z : sumN (fun _ => (0 : Int)) 8 = 0 := rfl
      omega
    | succ j ih =>
      intro ⟨x, x1, x2⟩
      obtain ⟨y, y1, y2⟩ := hC x j x1 (by omega)
      have i1 := ih ⟨y, y1, y2⟩
      have := sumN_lt (g := fun i => if 0 ≤ d i ∧ d i ≤ (j : Int) then 1 else 0) (h := fun i => if 0 ≤ d i ∧ d i ≤ ((j + 1 : Nat) : Int) then 1 else 0) (x := x) 8 (fun k hk => by
        (try dsimp only)
        by_cases c : 0 ≤ d k ∧ d k ≤ (j : Int)
        · rw [if_pos c, if_pos (by omega)]; omega
        · rw [if_neg c]; split <;> omega) x1 (by (try dsimp only); rw [if_neg (by omega), if_pos (by omega)]; omega)
      omega
  by_cases c : d x ≤ 7
  · exact c
  · have h1 := key (d x).toNat ⟨x, hx, by omega⟩
    have h2 := (sumN_b (B := 1) (g := fun i => if 0 ≤ d i ∧ d i ≤ ((d x).toNat : Int) then 1 else 0) (n := 8) (fun k hk => by (try dsimp only); split <;> omega)).2
    omega
def frN (P : MS) (w : Nat → Int) (k : Nat) : Nat := (frC P k (w (2 + 2 * k))).toNat
def toN (P : MS) (w : Nat → Int) (k : Nat) : Nat := (toC P k (w (2 + 2 * k))).toNat
theorem ft_b {w : Nat → Int} (hP : PLN P) {k : Nat} (hk : k < nCa P) : (frC P k (w (2 + 2 * k)) = (frN P w k : Nat) ∧ frN P w k < 8) ∧ toC P k (w (2 + 2 * k)) = (toN P w k : Nat) ∧ toN P w k < 8 := by
  obtain ⟨h1, h2⟩ := toC_b hP hk (w (2 + 2 * k))
  have := hP.1
  unfold frN toN
  omega
def EDG (P : MS) (w : Nat → Int) (y x : Nat) : Prop := ∃ k, k < nCa P ∧ w (1 + 2 * k) = 1 ∧ frN P w k = y ∧ toN P w k = x
/-! the class: layer by layer -/
def LAY (P : MS) (w : Nat → Int) (s : Nat) (d : Nat → Int) (v K : Nat) : Prop := d s = 0 ∧ (∀ x, x < 8 → -1 ≤ d x ∧ d x ≤ v + 1) ∧ (∀ x, x < 8 → d x = 0 → x = s) ∧ (∀ (x j : Nat), x < 8 → d x = (j : Int) + 1 → ∃ y, y < 8 ∧ EDG P w y x ∧ d y = j) ∧ (∀ y x, y < 8 → x < 8 → EDG P w y x → 0 ≤ d y → d y < v → 0 ≤ d x ∧ d x ≤ d y + 1) ∧ ∀ k, k < K → w (1 + 2 * k) = 1 → d (frN P w k) = v → 0 ≤ d (toN P w k)
theorem LAY.congr {w : Nat → Int} {s v K : Nat} {d d' : Nat → Int} (h : LAY P w s d v K) (e : d = d') : LAY P w s d' v K := e ▸ h
theorem LAY.nxt {w : Nat → Int} {s v : Nat} {d : Nat → Int} (h : LAY P w s d v (nCa P)) : LAY P w s d (v + 1) 0 := by
  obtain ⟨h1, h2, h3, h4, h5, h6⟩ := h
  refine ⟨h1, fun x hx => by have := h2 x hx; omega, h3, h4, fun y x hy hx e a1 a2 => ?_, fun k hk => by omega⟩
  by_cases c : d y < v
  · exact h5 y x hy hx e a1 c
  · obtain ⟨k, k1, k2, rfl, rfl⟩ := e
    have g := h6 k k1 k2 (by omega)
    have := h2 _ hx
    omega
theorem LAY.skip {w : Nat → Int} {s v K : Nat} {d : Nat → Int} (h : LAY P w s d v K) (e : w (1 + 2 * K) = 1 → d (frN P w K) = v → 0 ≤ d (toN P w K)) : LAY P w s d v (K + 1) := by
  obtain ⟨h1, h2, h3, h4, h5, h6⟩ := h
  refine ⟨h1, h2, h3, h4, h5, fun k hk a1 a2 => ?_⟩
  by_cases c : k = K
  · subst c; exact e a1 a2
  · exact h6 k (by omega) a1 a2
theorem LAY.put {w : Nat → Int} {s v K : Nat} {d : Nat → Int} (hP : PLN P) (h : LAY P w s d v K) (hs : s < 8) (hK : K < nCa P) (hi : w (1 + 2 * K) = 1) (ht : d (toN P w K) = -1) (hf : d (frN P w K) = v) : LAY P w s (fun x => if x = toN P w K then (v : Int) + 1 else d x) v (K + 1) := by
  obtain ⟨⟨-, bf⟩, -, bt⟩ := ft_b (w := w) hP hK
  obtain ⟨h1, h2, h3, h4, h5, h6⟩ := h
  have hne : ∀ x, 0 ≤ d x → x ≠ toN P w K := fun x hx e => by rw [e, ht] at hx; omega
  refine ⟨?_, fun x hx => ?_, fun x hx e => ?_, fun x j hx e => ?_, fun y x hy hx e a1 a2 => ?_, fun k hk a1 a2 => ?_⟩
  · dsimp only; rw [if_neg (hne s (by omega))]; exact h1
  · dsimp only
    have := h2 x hx
    split <;> omega
  · dsimp only at e
    split at e
    · omega
    · exact h3 x hx e
  · dsimp only at e ⊢
    by_cases c : x = toN P w K
    · rw [if_pos c] at e
      refine ⟨frN P w K, bf, ⟨K, hK, hi, rfl, c.symm⟩, ?_⟩
      rw [if_neg (hne _ (by omega))]
      omega
    · rw [if_neg c] at e
      obtain ⟨y, y1, y2, y3⟩ := h4 x j hx e
      exact ⟨y, y1, y2, by rw [if_neg (hne y (by omega))]; exact y3⟩
  · dsimp only at a1 a2 ⊢
    by_cases c : y = toN P w K
    · rw [if_pos c] at a2; omega
    · rw [if_neg c] at a1 a2 ⊢
      have g := h5 y x hy hx e a1 a2
      rw [if_neg (hne x g.1)]
      exact g
  · dsimp only at a2 ⊢
    by_cases c : toN P w k = toN P w K
    · rw [if_pos c]; omega
    · rw [if_neg c]
      by_cases c2 : frN P w k = toN P w K
      · rw [if_pos c2] at a2; omega
      · rw [if_neg c2] at a2
        by_cases c3 : k = K
        · subst c3; exact absurd rfl c
        · exact h6 k (by omega) a1 a2
theorem c_lay {w : Nat → Int} (hP : PLN P) (hW : WV P w) {s v : Nat} (hs : s < 8) (hv : v < 8) : ∀ (j K : Nat) (S : MS), K + j = nCa P → EM P S → SWn S 24 w → LAY P w s (S 114) v K → ∃ S', Ro_measure_40 v K S = Ro_measure_32 ((v + 1 : Nat) : Int) S' ∧ LAY P w s (S' 114) v (nCa P) ∧ ∀ c, c ≠ 114 → S' c = S c := by
  have h3 := hP.2.2.1
  have h12 := nCa_le hP
  intro j
  induction j with
  | zero =>
    intro K S e hE hS hL
    refine ⟨S, ?_, by rw [show nCa P = K by omega]; exact hL, fun _ _ => rfl⟩
    rw [e_Ro_measure_40, hE.1.2.2.1, if_neg (by unfold nCa at e; omega), wrN (by omega) (by omega)]
    rfl
  | succ j ih =>
    intro K S e hE hS hL
    have hK : K < nCa P := by omega
    obtain ⟨⟨f1, f2⟩, t1, t2⟩ := ft_b (w := w) hP hK
    obtain ⟨s1, s2, s3, s4, s5⟩ := id hS
    have hb := (s4 K (by omega)).2
    rw [e_Ro_measure_40, hE.1.2.2.1, if_pos (by unfold nCa at hK; omega), c_takerP hE.1 hK (by omega) (by omega), Option.bind_some]
    dsimp only
    rw [c_isIn hS (by omega), Option.bind_some]
    dsimp only
    rw [hb, t1, wr_succ (show K < 12 by omega) (by decide), Int.toNat_natCast]
    by_cases d1 : w (1 + 2 * K) = 1
    · rw [if_pos d1, if_neg n10, if_pos (by omega)]
      by_cases d2 : S 114 (toN P w K) = -1
      · rw [if_pos d2, c_giverP hE.1 hK (by omega) (by omega), Option.bind_some]
        dsimp only
        rw [hb, f1, if_pos (by omega), Int.toNat_natCast]
        by_cases d3 : S 114 (frN P w K) = v
        · rw [if_pos d3, if_pos (by omega), wr_succ (show v < 8 by omega) (by decide)]
          have hL2 := hL.put hP hs hK d1 d2 d3
          obtain ⟨S', r1, r2, r3⟩ := ih (K + 1) (up S 114 (toN P w K) ((v + 1 : Nat) : Int)) (by omega) (hE.fr (fun c c1 c2 => up_c (by omega))) (hS.fr (by rw [up_c (by decide)]) (by rw [up_c (by decide)]) (by rw [up_c (by decide)]) (up_c (by decide))) (hL2.congr (by
            funext x
            by_cases c : x = toN P w K
            · subst c; rw [up_s, if_pos rfl]; rfl
            · rw [up_k c, if_neg c]))
          exact ⟨S', r1, r2, fun c hc => by rw [r3 c hc, up_c hc]⟩
        · rw [if_neg d3]
          exact ih (K + 1) S (by omega) hE hS (hL.skip (fun _ q => absurd q d3))
      · rw [if_neg d2]
        exact ih (K + 1) S (by omega) hE hS (hL.skip (fun _ _ => by have := (hL.2.1 _ t2).1; omega))
    · rw [if_neg d1, if_pos rfl]
      exact ih (K + 1) S (by omega) hE hS (hL.skip (fun q => absurd q d1))
theorem c_lays {w : Nat → Int} (hP : PLN P) (hW : WV P w) {s : Nat} (hs : s < 8) : ∀ (j v : Nat) (S : MS), v + j = 8 → EM P S → SWn S 24 w → LAY P w s (S 114) v 0 → ∃ S', Ro_measure_32 v S = some S' ∧ LAY P w s (S' 114) 8 0 ∧ ∀ c, c ≠ 114 → S' c = S c := by
  intro j
  induction j with
  | zero =>
    intro v S e hE hS hL
    rw [e_Ro_measure_32, if_neg (by omega)]
    exact ⟨S, rfl, by rw [show 8 = v by omega]; exact hL, fun _ _ => rfl⟩
  | succ j ih =>
    intro v S e hE hS hL
    obtain ⟨S1, r1, r2, r3⟩ := c_lay hP hW hs (v := v) (by omega) (nCa P) 0 S (by omega) hE hS hL
    obtain ⟨S2, q1, q2, q3⟩ := ih (v + 1) S1 (by omega) (hE.fr (fun c c1 c2 => r3 c (by omega))) (hS.fr (by rw [r3 24 (by decide)]) (by rw [r3 24 (by decide)]) (by rw [r3 24 (by decide)]) (r3 25 (by decide))) r2.nxt
    have r1 : Ro_measure_40 v 0 S = _ := r1
    rw [e_Ro_measure_32, if_pos (by omega), r1, q1]
    exact ⟨S2, rfl, q2, fun c hc => by rw [q3 c hc, r3 c hc]⟩
theorem c_ms2 {s : Nat} : ∀ (j v : Nat) (S : MS), v + j = 8 → ∃ S', Ro_measure_2 s v S = Ro_measure_32 0 S' ∧ (∀ i, i < 8 → S' 114 i = if v ≤ i then (if i = s then 0 else -1) else S 114 i) ∧ ∀ c, c ≠ 114 → S' c = S c := by
  intro j
  induction j with
  | zero =>
    intro v S e
    rw [e_Ro_measure_2, if_neg (by omega)]
    exact ⟨S, rfl, fun i hi => by rw [if_neg (by omega)], fun _ _ => rfl⟩
  | succ j ih =>
    intro v S e
    rw [e_Ro_measure_2, if_pos (by omega), wr_succ (show v < 8 by omega) (by decide), Int.toNat_natCast]
    have go : ∀ z : Int, z = (if v = s then 0 else -1) → ∃ S', Ro_measure_2 s ((v + 1 : Nat) : Int) (up S 114 v z) = Ro_measure_32 0 S' ∧ (∀ i, i < 8 → S' 114 i = if v ≤ i then (if i = s then 0 else -1) else S 114 i) ∧ ∀ c, c ≠ 114 → S' c = S c := fun z hz => by
      obtain ⟨S', r1, r2, r3⟩ := ih (v + 1) (up S 114 v z) (by omega)
      refine ⟨S', r1, fun i hi => ?_, fun c hc => by rw [r3 c hc, up_c hc]⟩
      rw [r2 i hi]
      by_cases c : i = v
      · subst c; rw [if_neg (by omega), up_s, if_pos (Nat.le_refl _), hz]
      · rw [up_k c]
        by_cases c2 : v + 1 ≤ i
        · rw [if_pos c2, if_pos (show v ≤ i by omega)]
        · rw [if_neg c2, if_neg (show ¬ v ≤ i by omega)]
    by_cases c : (v : Int) = (s : Int)
    · rw [if_pos c, if_pos (by omega)]
      exact go 0 (by rw [if_pos (by omega)])
    · rw [if_neg c, if_pos (by omega)]
      exact go (-1) (by rw [if_neg (by omega)])
theorem c_measure {w : Nat → Int} (hP : PLN P) (hW : WV P w) (hE : EM P S) (hS : SWn S 24 w) {s : Nat} (hs : s < 8) : ∃ S', m_Ro_measure s S = some S' ∧ DST (EDG P w) s (S' 114) ∧ ∀ c, c ≠ 114 → S' c = S c := by
  obtain ⟨S1, r1, r2, r3⟩ := c_ms2 (s := s) 8 0 S (by omega)
  have hd : ∀ i, i < 8 → S1 114 i = if i = s then 0 else -1 := fun i hi => by rw [r2 i hi, if_pos (Nat.zero_le _)]
  have hL : LAY P w s (S1 114) 0 0 := by
    refine ⟨by rw [hd s hs, if_pos rfl], fun x hx => by rw [hd x hx]; split <;> omega, fun x hx e => ?_, fun x j hx e => ?_, fun y x hy hx e a1 a2 => by omega, fun k hk => by omega⟩
    · rw [hd x hx] at e
      split at e
      · assumption
      · omega
    · rw [hd x hx] at e
      split at e <;> omega
  obtain ⟨S2, q1, q2, q3⟩ := c_lays hP hW hs 8 0 S1 (by omega) (hE.fr (fun c c1 c2 => r3 c (by omega))) (hS.fr (by rw [r3 24 (by decide)]) (by rw [r3 24 (by decide)]) (by rw [r3 24 (by decide)]) (r3 25 (by decide))) hL
  have r1 : Ro_measure_2 s 0 S = _ := r1
  have q1 : Ro_measure_32 0 S1 = _ := q1
  rw [e_Ro_measure, r1, q1]
  obtain ⟨l1, l2, l3, l4, l5, -⟩ := q2
  refine ⟨S2, rfl, ⟨l1, fun x hx => (l2 x hx).1, l3, l4, fun y x hy hx e a1 => l5 y x hy hx e a1 ?_⟩, fun c hc => by rw [q3 c hc, r3 c hc]⟩
  have := no8 (d := S2 114) (fun x j hx e => by obtain ⟨y, y1, -, y3⟩ := l4 x j hx e; exact ⟨y, y1, y3⟩) hy
  omega
end
