/-! tells: the class weighs; the calls -/
section
variable {n : Nat} {P S T : MS}
theorem c_ml25 {w : Nat → Int} {d o : Nat} (ho : o < 8) : ∀ (R : List Nat) (i : Nat) (S : MS) (t : Int → Int) (b : Int), S 118 8 = ((i + R.length : Nat) : Int) → i + R.length ≤ 792 → (∀ a, a < R.length → FC (S 123 (i + a)) (colT P w d (srC (R.getD a 0)))) → (∀ x : Nat, x < 100 → S 124 x = t x) → (∀ x, 0 ≤ t x ∧ t x ≤ i) → (0 ≤ b ∧ b ≤ i) → ∃ S', Fi_mostLeft_25 o b i S = some (alkR (fun k => colT P w d (srC k) o) R t b, S') ∧ ∀ c, c ≠ 124 → S' c = S c := by
  intro R
  induction R with
  | nil =>
    intro i S t b h8 h792 h3 h4 ht hb
    rw [List.length_nil] at h8
    rw [e_Fi_mostLeft_25, h8, if_neg (by omega)]
    exact ⟨S, rfl, fun _ _ => rfl⟩
  | cons k R ih =>
    intro i S t b h8 h792 h3 h4 ht hb
    rw [List.length_cons] at h8 h792
    have hF := h3 0 (by rw [List.length_cons]; omega)
    rw [show (k :: R).getD 0 0 = k from rfl, Nat.add_zero] at hF
    have hc := colT_b (P := P) (w := w) (s := k) d o
    obtain ⟨x, hx⟩ : ∃ x : Nat, colT P w d (srC k) o = (x : Int) := ⟨(colT P w d (srC k) o).toNat, by omega⟩
    have htx := ht x
    rw [e_Fi_mostLeft_25, h8, if_pos (by omega), if_pos (by omega), Int.toNat_natCast, c_strengthIn hF.1.1 hF.1.2 (by omega), Option.bind_some, Int.toNat_natCast, hF.2 o ho, wr_suc2 (show i < 792 by omega) (by decide), hx, alkR]
    dsimp only
    rw [if_pos (by omega), if_pos (by omega), if_pos (by omega), if_pos (by omega), Int.toNat_natCast, up_s, h4 x (by omega), wrN (z := t x + 1) (by omega) (by omega), hx]
    have hmx : imx b (t x + 1) = if b < t x + 1 then t x + 1 else b := by
      by_cases c : b < t x + 1
      · rw [if_pos c, imx_le (by omega)]
      · rw [if_neg c, imx_ge (by omega)]
    rw [hmx]
    obtain ⟨S', r1, r2⟩ := ih (i + 1) (up S 124 x (t x + 1)) (fun v => if v = (x : Int) then t v + 1 else t v) (if b < t x + 1 then t x + 1 else b) (by rw [up_c (by decide), h8]; omega) (by omega) (fun a ha => by
      have := h3 (a + 1) (by rw [List.length_cons]; omega)
      rw [List.getD_cons_succ, show i + (a + 1) = i + 1 + a by omega] at this
      rw [up_c (by decide)]
      exact this) (fun y hy => by
      (try dsimp only)
      by_cases c : y = x
      · rw [c, up_s, if_pos rfl]
      · rw [up_k c, if_neg (by omega)]; exact h4 y hy) (fun y => by
      have := ht y
      (try dsimp only)
      split <;> omega) (by split <;> omega)
    exact ⟨S', r1, fun c hc => by rw [r2 c hc, up_c hc]⟩
theorem c_ml2 {o : Int} : ∀ (j v : Nat) (S : MS), v + j = 100 → ∃ S', Fi_mostLeft_2 o v S = Fi_mostLeft_25 o 0 0 S' ∧ (∀ x, x < 100 → S' 124 x = if v ≤ x then 0 else S 124 x) ∧ ∀ c, c ≠ 124 → S' c = S c := by
  intro j
  induction j with
  | zero =>
    intro v S e
    rw [e_Fi_mostLeft_2, if_neg (by omega)]
    exact ⟨S, rfl, fun x hx => by rw [if_neg (by omega)], fun _ _ => rfl⟩
  | succ j ih =>
    intro v S e
    rw [e_Fi_mostLeft_2, if_pos (by omega), if_pos (by omega), Int.toNat_natCast, wr_suc2 (show v < 100 by omega) (by decide)]
    obtain ⟨S', r1, r2, r3⟩ := ih (v + 1) (up S 124 v 0) (by omega)
    refine ⟨S', r1, fun x hx => ?_, fun c hc => by rw [r3 c hc, up_c hc]⟩
    rw [r2 x hx]
    by_cases c : x = v
    · subst c; rw [if_neg (by omega), up_s, if_pos (Nat.le_refl _)]
    · rw [up_k c]
      by_cases c2 : v + 1 ≤ x
      · rw [if_pos c2, if_pos (show v ≤ x by omega)]
      · rw [if_neg c2, if_neg (show ¬ v ≤ x by omega)]
theorem c_most {w : Nat → Int} {d o : Nat} (ho : o < 8) (hL : SRC P w S (srcL P T w) d) : ∃ S', m_Fi_mostLeft o S = some (mosT P T w d o, S') ∧ ∀ c, c ≠ 124 → S' c = S c := by
  obtain ⟨S1, r1, r2, r3⟩ := c_ml2 (o := o) 100 0 S (by omega)
  have r1 : Fi_mostLeft_2 o 0 S = _ := r1
  obtain ⟨l1, l2, l3, l4⟩ := hL
  obtain ⟨S2, q1, q2⟩ := c_ml25 (P := P) (w := w) (d := d) ho (srcL P T w) 0 S1 (fun _ => 0) 0 (by rw [r3 118 (by decide), l1, Nat.zero_add]) (by omega) (fun a ha => by rw [r3 123 (by decide), Nat.zero_add]; exact (l4 a ha).2) (fun x hx => by rw [r2 x hx, if_pos (Nat.zero_le _)]) (fun _ => by (try dsimp only); omega) (by omega)
  have q1 : Fi_mostLeft_25 o 0 0 S1 = _ := q1
  rw [e_Fi_mostLeft, r1, q1]
  exact ⟨S2, rfl, fun c hc => by rw [q2 c hc, r3 c hc]⟩
/-- the class's best so far -/
def RLB (b : Int × Int × Int) (S : MS) : Prop := (b.1 = -1 ∧ S 118 12 = 793) ∨ (b.1 ≠ -1 ∧ S 118 10 = b.1 ∧ S 118 11 = b.2.1 ∧ S 118 12 = b.2.2)
def FB2 (S S' : MS) : Prop := (∀ x, x ≠ 118 → x ≠ 124 → S' x = S x) ∧ ∀ k, k ≠ 10 → k ≠ 11 → k ≠ 12 → S' 118 k = S 118 k
theorem FB2.ff {S S' : MS} (h : FB2 S S') : FF S S' := ⟨fun x _ _ _ _ _ _ a7 _ _ a10 => h.1 x a7 a10, fun k _ a2 a3 a4 _ _ => h.2 k a2 a3 a4, fun k _ _ => by rw [h.1 30 (by decide) (by decide)]⟩
theorem FB2.src {S S' : MS} {w : Nat → Int} {L : List Nat} {d : Nat} (h : FB2 S S') (hL : SRC P w S L d) : SRC P w S' L d := by
  unfold SRC
  rw [h.2 8 (by decide) (by decide) (by decide), h.1 122 (by decide) (by decide), h.1 123 (by decide) (by decide)]
  exact hL
theorem c_wd2 {w : Nat → Int} {d : Nat} (hP : PLN P) (hd : d < 30) : ∀ (j o : Nat) (S : MS) (b : Int × Int × Int), o + j = nOf P → S 31 0 = P 430 4 → SRC P w S (srcL P T w) (d + 1) → RLB (telO (mosT P T w (d + 1)) ((d : Int) + 1) o b) S → ∃ S', Fi_weighDay_2 ((d + 1 : Nat) : Int) o S = some S' ∧ RLB (telO (mosT P T w (d + 1)) ((d : Int) + 1) (nOf P) b) S' ∧ FB2 S S' := by
  have hO := nOf_le hP
  have hO1 := hP.1
  have hO4 : P 430 4 = (nOf P : Int) := by unfold nOf; omega
  intro j
  induction j with
  | zero =>
    intro o S b e h31 hL hR
    rw [e_Fi_weighDay_2, h31, hO4, if_neg (by omega)]
    exact ⟨S, rfl, by rw [← show o = nOf P by omega]; exact hR, fun _ _ _ => rfl, fun _ _ _ _ => rfl⟩
  | succ j ih =>
    intro o S b e h31 hL hR
    obtain ⟨S1, r1, r2⟩ := c_most (T := T) (w := w) (d := d + 1) (o := o) (by omega) hL
    have hm := mosT_b (T := T) hP w (d + 1) o
    have hf1 : FB2 S S1 := ⟨fun x _ a2 => r2 x a2, fun k _ _ _ => by rw [r2 118 (by decide)]⟩
    have hR1 : RLB (telO (mosT P T w (d + 1)) ((d : Int) + 1) o b) S1 := by unfold RLB; rw [r2 118 (by decide)]; exact hR
    have hs : telO (mosT P T w (d + 1)) ((d : Int) + 1) (o + 1) b = if (telO (mosT P T w (d + 1)) ((d : Int) + 1) o b).1 ≠ -1 ∧ (telO (mosT P T w (d + 1)) ((d : Int) + 1) o b).2.2 ≤ mosT P T w (d + 1) o then telO (mosT P T w (d + 1)) ((d : Int) + 1) o b else ((d : Int) + 1, (o : Int), mosT P T w (d + 1) o) := rfl
    rw [e_Fi_weighDay_2, h31, hO4, if_pos (by omega), r1, Option.bind_some, wr_suc2 (show o < 8 by omega) (by decide)]
    dsimp only
    generalize hb : telO (mosT P T w (d + 1)) ((d : Int) + 1) o b = b0 at *
    have iff1 : mosT P T w (d + 1) o < S1 118 12 ↔ ¬ (b0.1 ≠ -1 ∧ b0.2.2 ≤ mosT P T w (d + 1) o) := by
      rcases hR1 with ⟨g1, g2⟩ | ⟨g1, g2, g3, g4⟩ <;> omega
    by_cases c : mosT P T w (d + 1) o < S1 118 12
    · rw [if_pos c]
      have hf2 : FB2 S1 (up (up (up S1 118 12 (mosT P T w (d + 1) o)) 118 10 ((d + 1 : Nat) : Int)) 118 11 o) := ⟨fun x a1 _ => by rw [up_c a1, up_c a1, up_c a1], fun k k1 k2 k3 => by rw [up_k k2, up_k k1, up_k k3]⟩
      obtain ⟨S', q1, q2, q3⟩ := ih (o + 1) (up (up (up S1 118 12 (mosT P T w (d + 1) o)) 118 10 ((d + 1 : Nat) : Int)) 118 11 o) b (by omega) (by rw [hf2.1 31 (by decide) (by decide), hf1.1 31 (by decide) (by decide)]; exact h31) (hf2.src (hf1.src hL)) (by
        rw [hs, if_neg (iff1.mp c)]
        right
        (try dsimp only)
        rw [up_k (show (10 : Nat) ≠ 11 by decide), up_s, up_s, up_k (show (12 : Nat) ≠ 11 by decide), up_k (show (12 : Nat) ≠ 10 by decide), up_s]
        exact ⟨by omega, by omega, rfl, rfl⟩)
      exact ⟨S', q1, q2, fun x a1 a2 => by rw [q3.1 x a1 a2, hf2.1 x a1 a2, hf1.1 x a1 a2], fun k k1 k2 k3 => by rw [q3.2 k k1 k2 k3, hf2.2 k k1 k2 k3, hf1.2 k k1 k2 k3]⟩
    · rw [if_neg c]
      obtain ⟨S', q1, q2, q3⟩ := ih (o + 1) S1 b (by omega) (by rw [hf1.1 31 (by decide) (by decide)]; exact h31) (hf1.src hL) (by
        rw [hs, if_pos (Classical.not_not.mp (fun q => c (iff1.mpr q)))]
        exact hR1)
      exact ⟨S', q1, q2, fun x a1 a2 => by rw [q3.1 x a1 a2, hf1.1 x a1 a2], fun k k1 k2 k3 => by rw [q3.2 k k1 k2 k3, hf1.2 k k1 k2 k3]⟩
theorem telO_stop {most : Nat → Int} {day : Int} {b : Int × Int × Int} (h1 : b.1 ≠ -1) (h2 : b.2.2 ≤ 1) (hm : ∀ o, 1 ≤ most o) : ∀ o, telO most day o b = b := by
  intro o
  induction o with
  | zero => rfl
  | succ o ih =>
    show (if (telO most day o b).1 ≠ -1 ∧ (telO most day o b).2.2 ≤ most o then telO most day o b else (day, (o : Int), most o)) = b
    rw [ih, if_pos ⟨h1, by have := hm o; omega⟩]
theorem telD_stop {w : Nat → Int} {d : Nat} (hne : srcL P T w ≠ []) (h1 : (telD P w (srcL P T w) d).1 ≠ -1) (h2 : (telD P w (srcL P T w) d).2.2 ≤ 1) : ∀ j, telD P w (srcL P T w) (d + j) = telD P w (srcL P T w) d := by
  intro j
  induction j with
  | zero => rfl
  | succ j ih =>
    rw [← Nat.add_assoc, telD_s, ih]
    exact telO_stop h1 h2 (fun o => alkR_1 hne) _
theorem telO_ne {most : Nat → Int} {day : Int} (hd : day ≠ -1) (b : Int × Int × Int) (o : Nat) : (telO most day (o + 1) b).1 ≠ -1 := by
  show (if (telO most day o b).1 ≠ -1 ∧ (telO most day o b).2.2 ≤ most o then telO most day o b else (day, (o : Int), most o)).1 ≠ -1
  split
  · rename_i h; exact h.1
  · exact hd
theorem c_w47 {w : Nat → Int} (hP : PLN P) (hW : WV P w) (hw : 0 ≤ w 0 ∧ w 0 ≤ 999) (hne : srcL P T w ≠ []) : ∀ (j d : Nat) (S : MS), d + j = telN w → EM P S → SWn S 24 w → SRC P w S (srcL P T w) d → RLB (telD P w (srcL P T w) d) S → S 30 3 + j < 15999999 → ∃ S', Fi_weigh_47 ((d + 1 : Nat) : Int) S = some (1, S') ∧ RLB (telD P w (srcL P T w) (telN w)) S' ∧ EM P S' ∧ FF S S' ∧ (∀ k, k ≠ 10 → k ≠ 11 → k ≠ 12 → S' 118 k = S 118 k) ∧ (∀ i, i < (srcL P T w).length → S' 122 i = encS ((srcL P T w).getD i 0)) ∧ S' 30 3 ≤ S 30 3 + j := by
  have htel : (telN w : Int) ≤ 30 ∧ w 0 + telN w ≤ 999 ∧ (telN w < 30 → w 0 + telN w = 999) := by unfold telN; split <;> omega
  intro j
  induction j with
  | zero =>
    intro d S e hE hS hL hR hB
    have : d = telN w := by omega
    subst this
    rw [e_Fi_weigh_47]
    refine ⟨S, ?_, hR, hE, FF.rf S, fun _ _ _ _ => rfl, fun i hi => (hL.2.2.2 i hi).1, by omega⟩
    by_cases c : telN w = 30
    · rw [if_pos (by omega)]
    · rw [if_neg (by omega), hS.1, wrN (by omega) (by omega), if_pos (by omega)]
  | succ j ih =>
    intro d S e hE hS hL hR hB
    rw [e_Fi_weigh_47, if_neg (by omega), hS.1, wrN (z := w 0 + ((d + 1 : Nat) : Int)) (by omega) (by omega), if_neg (by omega)]
    by_cases c : 1 < S 118 12
    · rw [if_pos c, wrN (by omega) (by omega), show w 0 + ((d + 1 : Nat) : Int) - 1 = w 0 + (d : Int) by omega]
      obtain ⟨S1, p1, p2, p3, p4, p5, p6⟩ := c_fpass hP hW (d := d) (by omega) hE hS hL (by omega)
      have hO4 : S1 31 0 = P 430 4 := p2.1.1
      obtain ⟨S2, q1, q2, q3⟩ := c_wd2 (T := T) (w := w) (d := d) hP (by omega) (nOf P) 0 S1 (telD P w (srcL P T w) d) (by omega) hO4 p3 (by unfold RLB; rw [p5]; exact hR)
      have q1 : Fi_weighDay_2 ((d + 1 : Nat) : Int) 0 S1 = _ := q1
      have hF2 := p4.tr q3.ff
      obtain ⟨S3, r1, r2, r3, r4, r5, r6, r7⟩ := ih (d + 1) S2 (by omega) (p2.fr (fun x x1 x2 => q3.1 x (by omega) (by omega))) (hF2.sw hS) (q3.src p3) q2 (by rw [q3.1 30 (by decide) (by decide)]; omega)
      rw [p1, Option.bind_some, e_Fi_weighDay, q1, Option.bind_some, wr_suc2 (show d + 1 < 31 by omega) (by decide), r1]
      refine ⟨S3, rfl, r2, r3, hF2.tr r4, fun k k1 k2 k3 => by rw [r5 k k1 k2 k3, q3.2 k k1 k2 k3, p5], r6, by rw [q3.1 30 (by decide) (by decide)] at r7; omega⟩
    · rw [if_neg c]
      have hb : (telD P w (srcL P T w) d).1 ≠ -1 ∧ (telD P w (srcL P T w) d).2.2 ≤ 1 := by
        rcases hR with ⟨g1, g2⟩ | ⟨g1, g2, g3, g4⟩
        · omega
        · exact ⟨g1, by omega⟩
      have hst := telD_stop hne hb.1 hb.2 (j + 1)
      rw [e] at hst
      exact ⟨S, rfl, by rw [hst]; exact hR, hE, FF.rf S, fun _ _ _ _ => rfl, fun i hi => (hL.2.2.2 i hi).1, by omega⟩
theorem c_weigh {w : Nat → Int} (hP : PLN P) (hW : WV P w) (hw : 0 ≤ w 0 ∧ w 0 ≤ 999) (hE : EM P S) (hS : SWn S 24 w) (hc : SCH P S T w) (hB : S 30 3 < 10000000) (h14 : (S 118 14 = 0) ∨ (S 118 14 = 1 ∧ S 118 10 = (telD P w (srcL P T w) (telN w)).1 ∧ S 118 11 = (telD P w (srcL P T w) (telN w)).2.1 ∧ S 118 12 = (telD P w (srcL P T w) (telN w)).2.2)) :
    (m_Fi_weigh S = some (0, S) ∧ (srcL P T w = [] ∨ telN w = 0)) ∨ ∃ S', m_Fi_weigh S = some (1, S') ∧ (srcL P T w ≠ [] ∧ telN w ≠ 0) ∧ (S' 118 14 = 1 ∧ S' 118 10 = (telD P w (srcL P T w) (telN w)).1 ∧ S' 118 11 = (telD P w (srcL P T w) (telN w)).2.1 ∧ S' 118 12 = (telD P w (srcL P T w) (telN w)).2.2) ∧ EM P S' ∧ FF S S' ∧ SCH P S' T w ∧ S' 30 3 ≤ S 30 3 + 30 := by
  have htel : (telN w : Int) ≤ 30 ∧ w 0 + telN w ≤ 999 ∧ (telN w < 30 → w 0 + telN w = 999) := by unfold telN; split <;> omega
  obtain ⟨c1, c2, c3⟩ := hc
  rw [e_Fi_weigh, c2]
  by_cases k1 : srcL P T w = []
  · left
    rw [if_pos (by rw [k1]; rfl)]
    exact ⟨rfl, Or.inl k1⟩
  · have hlen : 0 < (srcL P T w).length := List.length_pos_iff.mpr k1
    rw [if_neg (by omega), hS.1]
    by_cases k2 : w 0 < 999
    · right
      rw [if_pos k2]
      rcases h14 with h14 | h14
      · rw [if_pos h14]
        have hF0 : FF S (up (up S 118 14 1) 118 12 793) := (FF.u118 (by omega)).tr (FF.u118 (by omega))
        obtain ⟨S1, b1, b2, b3⟩ := c_fbeg (w := w) (L := srcL P T w) hP (fun s hs => srcL_mem hs) (srcL_len hP w) (srcL P T w).length 0 (up (up S 118 14 1) 118 12 793) (by omega) (by rw [up_k (by decide), up_k (by decide)]; exact c2) (fun i hi => by rw [up_c (by decide), up_c (by decide)]; exact c3 i hi) (fun i hi => absurd hi (Nat.not_lt_zero _))
        have b1 : Fi_begin_2 0 (up (up S 118 14 1) 118 12 793) = _ := b1
        have hF1 : FF S S1 := hF0.tr (FF.u (fun x _ a2 _ => b3 x a2))
        have f30 : S1 30 = S 30 := by rw [b3 30 (by decide), up_c (by decide), up_c (by decide)]
        have e118 : S1 118 = up (up S 118 14 1) 118 12 793 118 := b3 118 (by decide)
        obtain ⟨S2, q1, q2, q3, q4, q5, q6, q7⟩ := c_w47 (T := T) hP hW hw k1 (telN w) 0 S1 (by omega) (hE.fr (fun x x1 x2 => by rw [b3 x (by omega), up_c (by omega), up_c (by omega)])) (hF1.sw hS) b2 (Or.inl ⟨rfl, by rw [e118, up_s]⟩) (by rw [f30]; omega)
        have q1 : Fi_weigh_47 1 S1 = _ := q1
        rw [e_Fi_begin, b1, Option.bind_some, q1]
        have hne : (telD P w (srcL P T w) (telN w)).1 ≠ -1 := by
          obtain ⟨t, ht⟩ : ∃ t, telN w = t + 1 := ⟨telN w - 1, by omega⟩
          have ho : 0 < nOf P := by
            have := srcL_mem (List.head_mem k1)
            omega
          obtain ⟨o, ho⟩ : ∃ o, nOf P = o + 1 := ⟨nOf P - 1, by omega⟩
          rw [ht, telD_s, ho]
          exact telO_ne (by omega) _ _
        refine ⟨S2, rfl, ⟨k1, by omega⟩, ⟨by rw [q5 14 (by decide) (by decide) (by decide), e118, up_k (by decide), up_s], ?_⟩, q3, hF1.tr q4, ⟨by rw [q5 13 (by decide) (by decide) (by decide), e118, up_k (by decide), up_k (by decide)]; exact c1, by rw [q5 8 (by decide) (by decide) (by decide), e118, up_k (by decide), up_k (by decide)]; exact c2, q6⟩, by rw [f30] at q7; omega⟩
        rcases q2 with ⟨g1, -⟩ | ⟨-, g⟩
        · exact absurd g1 hne
        · exact g
      · rw [if_neg (by omega)]
        exact ⟨S, rfl, ⟨k1, by omega⟩, h14, hE, FF.rf S, ⟨c1, c2, c3⟩, by omega⟩
    · left
      rw [if_neg k2]
      exact ⟨rfl, Or.inr (by omega)⟩
/-- behind a call that searches -/
theorem Inv.seek (h : Inv n P S T) {S' T' : MS} (hc : FF S S') (hm : LKm T T') (hE : EM P S') (hB : S' 30 3 ≤ S 30 3 + 1000) (ha : 0 ≤ T' 401 57 ∧ T' 401 57 ≤ 4000 * ((n + 1 : Nat) : Int)) (hs : SCH P S' T (T 438)) (h14 : (S' 118 14 = 0) ∨ (S' 118 14 = 1 ∧ S' 118 10 = (telD P (T 438) (srcL P T (T 438)) (telN (T 438))).1 ∧ S' 118 11 = (telD P (T 438) (srcL P T (T 438)) (telN (T 438))).2.1 ∧ S' 118 12 = (telD P (T 438) (srcL P T (T 438)) (telN (T 438))).2.2)) : Inv (n + 1) P S' T' := by
  have s : ∀ x, x ∉ [30, 42, 45, 48, 49, 50, 118, 122, 123, 124] → S' x = S x := fun x hx => by
    simp only [List.mem_cons, List.not_mem_nil, or_false, not_or] at hx
    exact hc.1 x (by omega) (by omega) (by omega) (by omega) (by omega) (by omega) (by omega) (by omega) (by omega) (by omega)
  have t : ∀ c, c ∉ [401, 439, 440, 441, 442, 443, 444, 445, 447, 448, 449, 475] → T' c = T c := hm.1
  have u : ∀ k, k ∉ [48, 51, 52, 53, 54, 55, 57, 67, 103] → T' 401 k = T 401 k := hm.2
  refine Inv.mk1 h.pln (h.rp.fr (t 430 (by decide)) (t 431 (by decide)) (t 432 (by decide)) (t 433 (by decide)) (t 435 (by decide)) (t 436 (by decide)) (t 437 (by decide))) (h.nm.fr (s 32 (by decide)) (s 35 (by decide)))
    (h.tx.fr (by rw [s 2 (by decide)]) (s 3 (by decide)) (u 1 (by decide)) (t 402 (by decide))) (h.ft.fr (by rw [s 2 (by decide)]) (by rw [s 2 (by decide)]) (u 7 (by decide)) (u 8 (by decide))) (h.rf.fr (s 134 (by decide)) (t 403 (by decide)))
    (h.sd.fr (by rw [s 1 (by decide)]) (u 73 (by decide))) (h.im.fr (by rw [s 1 (by decide)]) (s 133 (by decide)) (u 107 (by decide)) (t 476 (by decide))) (h.mk0.fr (s 22 (by decide)) (by rw [s 23 (by decide)]) (by rw [s 132 (by decide)]) (s 17 (by decide)) (s 18 (by decide)) (fun c hx => t c (by simp only [List.mem_cons, List.not_mem_nil, or_false, not_or]; omega)))
    ?_ ⟨by rw [s 27 (by decide)]; have := h.th.1; omega, ha⟩ ⟨hE, by have := h.en.2; omega⟩
    (h.hi.fr (by rw [s 51 (by decide)]) (by rw [s 51 (by decide)]) (fun c h1 h2 => s c (by simp only [List.mem_cons, List.not_mem_nil, or_false, not_or]; omega)) (u 71 (by decide)) (u 72 (by decide)) (t 450 (by decide)))
    ?_
  · obtain ⟨w1, w2, w3, w4, w5, w6⟩ := h.wd
    refine ⟨by rw [t 438 (by decide)]; exact w1, by rw [t 438 (by decide)]; exact w2, ?_, by rw [s 24 (by decide), s 26 (by decide), t 438 (by decide)]; exact w4, by rw [s 24 (by decide)]; omega, by rw [u 56 (by decide)]; exact w6⟩
    rw [t 438 (by decide)]
    exact w3.fr (by rw [s 24 (by decide)]) (by rw [s 24 (by decide)]) (by rw [s 24 (by decide)]) (s 25 (by decide))
  · have e64 := u 64 (by decide)
    have e446 := t 446 (by decide)
    have hR : ROr P S' T' := by
      have := h.fd.1
      unfold ROr at this ⊢
      rw [hc.2.1 5 (by decide) (by decide) (by decide) (by decide) (by decide) (by decide), s 119 (by decide), s 120 (by decide), s 121 (by decide), e64, e446]
      exact this
    unfold FDr
    rw [srcL_congr e64 e446, t 438 (by decide)]
    obtain ⟨s1, s2, s3⟩ := hs
    refine ⟨hR, Or.inr s1, h14.imp id (fun g => g.1), fun _ => ⟨s2, s3⟩, fun g => ?_⟩
    rcases h14 with g' | ⟨-, g'⟩
    · omega
    · exact ⟨s1, g'⟩
theorem h14_of (h : Inv n P S T) {S' : MS} (hk : ∀ k, k ≠ 8 → k ≠ 13 → S' 118 k = S 118 k) : (S' 118 14 = 0) ∨ (S' 118 14 = 1 ∧ S' 118 10 = (telD P (T 438) (srcL P T (T 438)) (telN (T 438))).1 ∧ S' 118 11 = (telD P (T 438) (srcL P T (T 438)) (telN (T 438))).2.1 ∧ S' 118 12 = (telD P (T 438) (srcL P T (T 438)) (telN (T 438))).2.2) := by
  obtain ⟨f1, f2, f3, f4, f5⟩ := h.fd
  rw [hk 14 (by decide) (by decide), hk 10 (by decide) (by decide), hk 11 (by decide) (by decide), hk 12 (by decide) (by decide)]
  rcases f3 with f3 | f3
  · exact Or.inl f3
  · exact Or.inr ⟨f3, (f5 f3).2⟩
theorem op_sources (h : Inv n P S T) (hn : n < 1000) (a b : Int) : OK2 n P (m_Ma_sources a b S) (m_Mo_sources a b T) := by
  have hP := h.pln
  have h2 := hP.2.1
  have hO := nOf_le hP
  rw [e_Ma_sources, e_Mo_sources]
  by_cases c : 0 ≤ a ∧ a < P 430 5
  · rw [c_isF1 h c, m_isF1 hP h.rp c, Option.bind_some, Option.bind_some]
    dsimp only
    rw [if_neg n10, if_neg n10]
    obtain ⟨f, rfl⟩ : ∃ f : Nat, a = (f : Int) := ⟨a.toNat, by omega⟩
    obtain ⟨S1, r1, r2, r3, r4, r5, r6, r7⟩ := c_search h hn
    have h57 := h.th.2
    rw [r1, Option.bind_some]
    obtain ⟨s1, s2, s3⟩ := id r2
    have hl := srcL_len (T := T) hP (T 438)
    by_cases c1 : b < -1
    · rw [if_pos c1, if_neg (by omega), if_pos (by omega)]
      exact ⟨_, S1, T, rfl, rfl, h.seek r3 (LKm.rf T) r4 (by omega) (by omega) r2 (h14_of h r6)⟩
    · obtain ⟨T1, q1, q2, q3, q4⟩ := m_lay h (f := f) (by unfold nFe; omega)
      have hI := h.seek r3 q2 r4 (by omega) (by rw [q4]; omega) r2 (h14_of h r6)
      rw [if_neg c1, q1, Option.bind_some]
      by_cases c2 : b = -1
      · rw [if_pos c2, if_pos c2, s2, q3.2]
        exact ⟨_, S1, T1, rfl, rfl, hI⟩
      · obtain ⟨i, rfl⟩ : ∃ i : Nat, b = (i : Int) := ⟨b.toNat, by omega⟩
        have hm := m_src36 (w := T 438) hP hI.rp q3 (k := (i : Int)) (99 * nOf P) 0 0 i (by omega) (by omega) (Nat.le_refl _)
        have hm : Mo_sources_36 i 0 0 T1 = _ := hm
        rw [flt_0] at hm
        rw [if_neg c2, if_neg c2, if_neg (by omega), hm, s2]
        by_cases c3 : i < (srcL P T (T 438)).length
        · rw [if_pos (by omega), if_pos (by omega), if_pos c3, Int.toNat_natCast, s3 i c3]
          exact ⟨_, S1, T1, rfl, rfl, hI⟩
        · rw [if_neg (by omega), if_neg c3]
          exact ⟨_, S1, T1, rfl, rfl, hI⟩
  · rw [c_isF0 h c, m_isF0 hP h.rp c]
    exact ⟨_, S, T, rfl, rfl, h.same⟩
theorem op_tells (h : Inv n P S T) (hn : n < 1000) (a b : Int) : OK2 n P (m_Ma_tells a b S) (m_Mo_tells a b T) := by
  have hP := h.pln
  have h2 := hP.2.1
  have hw0 := h.w0
  rw [e_Ma_tells, e_Mo_tells]
  by_cases c : 0 ≤ a ∧ a < P 430 5
  · rw [c_isF1 h c, m_isF1 hP h.rp c, Option.bind_some, Option.bind_some]
    dsimp only
    rw [if_neg n10, if_neg n10]
    obtain ⟨f, rfl⟩ : ∃ f : Nat, a = (f : Int) := ⟨a.toNat, by omega⟩
    obtain ⟨S1, r1, r2, r3, r4, r5, r6, r7⟩ := c_search h hn
    have h57 := h.th.2
    have hen := h.en.2
    rw [r1, Option.bind_some]
    have hw := c_weigh (S := S1) (T := T) (w := T 438) hP h.wd.1 hw0 r4 (r3.sw h.wd.2.2.1) r2 (by omega) (h14_of h r6)
    have htel : (telN (T 438) : Int) ≤ 30 ∧ T 438 0 + telN (T 438) ≤ 999 ∧ (telN (T 438) < 30 → T 438 0 + telN (T 438) = 999) := by unfold telN; split <;> omega
    by_cases c1 : 0 ≤ b ∧ b ≤ 2
    · obtain ⟨T1, q1, q2, q3, q4⟩ := m_lay h (f := f) (by unfold nFe; omega)
      have e438 : T1 438 = T 438 := q2.1 438 (by decide)
      rw [m_in1 c1, Option.bind_some]
      dsimp only
      rw [if_neg n10, q1, Option.bind_some]
      rcases hw with ⟨g1, g2⟩ | ⟨S2, g1, ⟨g2, g3⟩, g4, g5, g6, g7, g8⟩
      · have hI := h.seek r3 q2 r4 (by omega) (by rw [q4]; omega) r2 (h14_of h r6)
        rw [g1, Option.bind_some, if_pos rfl]
        refine ⟨-1, S1, T1, rfl, ?_, hI⟩
        have h118 : Mo_tells_118 b (-1) (-1) 0 T1 = some (-1, T1) := by rw [e_Mo_tells_118, if_pos rfl]
        rw [e_Mo_tells_39, q3.2]
        rcases g2 with g2 | g2
        · rw [g2, if_neg (by decide)]; exact h118
        · by_cases c3 : 0 < (((srcL P T (T 438)).length : Nat) : Int)
          · rw [if_pos c3, m_ahead0 (by rw [e438]; exact hw0) (by decide) (by rw [e438]; omega), Option.bind_some, if_pos rfl]; exact h118
          · rw [if_neg c3]; exact h118
      · have hlen : 0 < (srcL P T (T 438)).length := List.length_pos_iff.mpr g2
        obtain ⟨T2, p1, p2⟩ := m_tel39 (T := T) (w := T 438) (a := b) hP hw0 (by omega) (telN (T 438)) 0 T1 (by omega) (h.rp.fr (q2.1 _ (by decide)) (q2.1 _ (by decide)) (q2.1 _ (by decide)) (q2.1 _ (by decide)) (q2.1 _ (by decide)) (q2.1 _ (by decide)) (q2.1 _ (by decide))) e438 q3
        have p1 : Mo_tells_39 b (-1) (-1) 0 1 T1 = _ := p1
        have hm2 : LKm T T2 := q2.tr ⟨fun c hc => by simp only [List.mem_cons, List.not_mem_nil, or_false, not_or] at hc; exact p2 c (by omega), fun k _ => by rw [p2 401 (by decide)]⟩
        have hI := h.seek (r3.tr g6) hm2 g5 (by omega) (by rw [p2 401 (by decide), q4]; omega) g7 (Or.inr g4)
        obtain ⟨y1, y2, y3, y4⟩ := g4
        have hne : (telD P (T 438) (srcL P T (T 438)) (telN (T 438))).1 ≠ -1 := by
          obtain ⟨t, ht⟩ : ∃ t, telN (T 438) = t + 1 := ⟨telN (T 438) - 1, by omega⟩
          have ho : 0 < nOf P := by
            have := srcL_mem (List.head_mem g2)
            omega
          obtain ⟨o, ho⟩ : ∃ o, nOf P = o + 1 := ⟨nOf P - 1, by omega⟩
          rw [ht, telD_s, ho]
          exact telO_ne (by omega) _ _
        rw [g1, Option.bind_some, p1, e_Mo_tells_118]
        dsimp only
        rw [if_neg n10, if_neg hne, y2, y3, y4]
        by_cases c4 : b = 0
        · rw [if_pos c4, if_pos c4]; exact ⟨_, S2, T2, rfl, rfl, hI⟩
        · rw [if_neg c4, if_neg c4]
          by_cases c5 : b = 1
          · rw [if_pos c5, if_pos c5]; exact ⟨_, S2, T2, rfl, rfl, hI⟩
          · rw [if_neg c5, if_neg c5, if_pos (by omega)]; exact ⟨_, S2, T2, rfl, rfl, hI⟩
    · rw [m_in0 c1, Option.bind_some, if_pos rfl]
      rcases hw with ⟨g1, g2⟩ | ⟨S2, g1, g3, g4, g5, g6, g7, g8⟩
      · have hI := h.seek r3 (LKm.rf T) r4 (by omega) (by omega) r2 (h14_of h r6)
        rw [g1, Option.bind_some, if_pos rfl]
        exact ⟨-1, S1, T, rfl, rfl, hI⟩
      · have hI := h.seek (r3.tr g6) (LKm.rf T) g5 (by omega) (by omega) g7 (Or.inr g4)
        rw [g1, Option.bind_some]
        dsimp only
        rw [if_neg n10, if_neg (by omega), if_neg (by omega), if_neg (by omega)]
        exact ⟨-1, S2, T, rfl, rfl, hI⟩
  · rw [c_isF0 h c, m_isF0 hP h.rp c]
    exact ⟨_, S, T, rfl, rfl, h.same⟩
end
