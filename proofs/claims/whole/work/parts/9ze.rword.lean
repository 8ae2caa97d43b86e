/-! the reference: words and numbers -/
section
variable {n : Nat} {P S T : MS} {g : Nat → Int} {E : Nat}
def WDT (T : MS) : Prop := ∀ q ∈ wdM, ∀ k, k < q.2.length → T q.1 k = q.2.getD k 0
/-- cell c holds word k -/
def HR (c k : Nat) : Prop := (c, WRD.getD k []) ∈ wdM ∧ kt c = 22 ∧ kl c = ((WRD.getD k []).length : Nat) ∧ k < 32 ∧ 1 ≤ (WRD.getD k []).length ∧ (WRD.getD k []).length ≤ 8 ∧ (404 ≤ c ∧ c ≤ 472)
theorem WDT.fr {T T' : MS} (h : WDT T) (f : ∀ c, c ≠ 401 → T' c = T c) : WDT T' := by
  intro q hq k hk
  have hr : ∀ q ∈ wdM, q.1 ≠ 401 := by decide
  rw [f q.1 (hr q hq)]
  exact h q hq k hk
theorem m_letq (x : Int) : m_Mo_isLetter x T = some ((if letB x = true then 1 else 0), T) := by
  unfold letB
  rw [e_Mo_isLetter]
  by_cases c : x < 97
  · rw [if_pos c, if_neg (by rw [decide_eq_true_iff]; omega)]
  · rw [if_neg c]
    by_cases c2 : 122 < x
    · rw [if_pos c2, if_neg (by rw [decide_eq_true_iff]; omega)]
    · rw [if_neg c2, if_pos (by rw [decide_eq_true_iff]; omega)]
theorem m_digq (x : Int) : m_Mo_isDigit x T = some ((if digB x = true then 1 else 0), T) := by
  unfold digB
  rw [e_Mo_isDigit]
  by_cases c : x < 48
  · rw [if_pos c, if_neg (by rw [decide_eq_true_iff]; omega)]
  · rw [if_neg c]
    by_cases c2 : 57 < x
    · rw [if_pos c2, if_neg (by rw [decide_eq_true_iff]; omega)]
    · rw [if_neg c2, if_pos (by rw [decide_eq_true_iff]; omega)]
theorem i01t {b : Bool} (h : b = true) : ¬ (if b = true then (1 : Int) else 0) = 0 := by rw [if_pos h]; decide
theorem i01f {b : Bool} (h : b = false) : (if b = true then (1 : Int) else 0) = 0 := by rw [h]; rfl
theorem bF {b : Bool} (h : ¬ b = true) : b = false := by cases b; rfl; exact absurd rfl h
theorem m_h76 {c k p e : Nat} (hc : HR c k) (hw : WDT T) (hE : E ≤ 1600) (hg : ∀ i, i < E → T 402 i = g i) (h2 : T 401 2 = (p : Int)) (he : e ≤ E) (hl : e = p + (WRD.getD k []).length) : ∀ (j i : Nat), i + j = (WRD.getD k []).length → (segL g (p + i) e = (WRD.getD k []).drop i → Mo_isHere_76 c i T = some (1, T)) ∧ (segL g (p + i) e ≠ (WRD.getD k []).drop i → Mo_isHere_76 c i T = some (0, T)) := by
  obtain ⟨c1, c2, c3, c4, c5, c6, c7⟩ := hc
  have hwd := hw _ c1
  dsimp only at hwd
  generalize WRD.getD k [] = W at *
  intro j
  induction j with
  | zero =>
    intro i e'
    have h0 : segL g (p + i) e = W.drop i := by
      rw [show e = p + i by omega, segL_0, List.drop_eq_nil_of_le (by omega)]
    rw [e_Mo_isHere_76, if_pos (by omega), if_neg (by omega)]
    exact ⟨fun _ => rfl, fun q => absurd h0 q⟩
  | succ j ih =>
    intro i e'
    have hd : W.drop i = W.getD i 0 :: W.drop (i + 1) := by
      rw [List.drop_eq_getElem_cons (by omega), List.getD_eq_getElem?_getD, List.getElem?_eq_getElem (by omega), Option.getD_some]
    have hs : segL g (p + i) e = g (p + i) :: segL g (p + (i + 1)) e := segL_s (by omega)
    obtain ⟨i1, i2⟩ := ih (i + 1) (by omega)
    rw [e_Mo_isHere_76, if_pos (by omega), if_pos (by omega), h2, wrA (by omega), if_pos (by omega), if_pos c2, if_pos (by omega), Int.toNat_natCast, Int.toNat_natCast, hg _ (by omega), hwd i (by omega), wr_suc2 (show i < 8 by omega) (by decide), hd, hs, List.cons.injEq, ne_eq, List.cons.injEq]
    by_cases q : g (p + i) = W.getD i 0
    · rw [if_pos q]
      exact ⟨fun h => i1 h.2, fun h => i2 (fun h' => h ⟨q, h'⟩)⟩
    · rw [if_neg q]
      exact ⟨fun h => absurd h.1 q, fun _ => rfl⟩
theorem m_h35 {c k p : Nat} (hc : HR c k) (hE : E ≤ 1600) (hg : ∀ i, i < E → T 402 i = g i) (h2 : T 401 2 = (p : Int)) (h3 : T 401 3 = (E : Int)) : ∀ (n v : Nat), E - v = n → p ≤ v → v ≤ E → Mo_isHere_35 c v T = if endL g E letB v = p + (WRD.getD k []).length then Mo_isHere_76 c 0 T else some (0, T) := by
  obtain ⟨c1, c2, c3, c4, c5, c6, c7⟩ := hc
  have fin : ∀ v : Nat, p ≤ v → v ≤ E → (if wr ((v : Int) - (p : Int)) = kl c then Mo_isHere_76 c 0 T else some (0, T)) = if v = p + (WRD.getD k []).length then Mo_isHere_76 c 0 T else some (0, T) := fun v h1 h2 => by
    rw [wrN (by omega) (by omega), c3]
    by_cases q : v = p + (WRD.getD k []).length
    · rw [if_pos q, if_pos (by omega)]
    · rw [if_neg q, if_neg (by omega)]
  intro n
  induction n with
  | zero =>
    intro v hn hp hv
    have he : endL g E letB v = v := by rw [endL_eq, if_neg (by omega)]
    rw [e_Mo_isHere_35, h3, if_neg (by omega), if_pos (by omega), he]
    simp only [h2]
    exact fin v hp hv
  | succ n ih =>
    intro v hn hp hv
    rw [e_Mo_isHere_35, h3, if_pos (by omega), if_pos (by omega), Int.toNat_natCast, hg v (by omega), m_letq, Option.bind_some, wr_suc2 (show v < 1600 by omega) (by decide)]
    dsimp only
    by_cases q : letB (g v) = true
    · have he : endL g E letB v = endL g E letB (v + 1) := by rw [endL_eq, if_pos ⟨by omega, q⟩]
      rw [if_neg (i01t q), he]
      exact ih (v + 1) (by omega) (by omega) (by omega)
    · have he : endL g E letB v = v := by rw [endL_eq, if_neg (fun h => q h.2)]
      rw [if_pos (i01f (bF q)), if_pos (by omega), he]
      simp only [h2]
      exact fin v hp hv
/-- only the place has moved to the token -/
def FRp (T T' : MS) : Prop := (∀ c, c ≠ 401 → T' c = T c) ∧ ∀ k, k ≠ 2 → T' 401 k = T 401 k
theorem FRp.t {T T' : MS} (h : FRp T T') : FRt T T' := ⟨h.1, fun k k2 _ _ _ _ => h.2 k k2⟩
theorem m_isHere {c k : Nat} {t : Tok} {L1 : List Tok} (hc : HR c k) (hw : WDT T) (h : RTK g E T (t :: L1)) : ∃ T', m_Mo_isHere c T = some ((if t.1 = k then 1 else 0), T') ∧ RTK g E T' (t :: L1) ∧ T' 401 2 = ((t.2.1 : Nat) : Int) ∧ FRp T T' ∧ (t.1 = k → t.2.2 = t.2.1 + (WRD.getD k []).length ∧ t.2.2 ≤ E ∧ L1 = LX g E t.2.2 true) := by
  obtain ⟨t', L', T1, e, r1, r2, r3, r4, r5, r6⟩ := m_look h
  cases e
  obtain ⟨hE, hg, h3, h5, p, hp, h2, h4, hL⟩ := id r2
  obtain ⟨k1, k2⟩ := r2.tks r3 r6
  have hw1 : WDT T1 := hw.fr r4
  have hc4 := hc.2.2.2.1
  rw [e_Mo_isHere, h.2.2.2.1, if_pos rfl, r1, Option.bind_some]
  dsimp only
  rw [m_letq, Option.bind_some]
  dsimp only
  have no : t.1 ≠ k → some ((0 : Int), T1) = some ((if t.1 = k then 1 else 0), T1) ∧ (t.1 = k → t.2.2 = t.2.1 + (WRD.getD k []).length ∧ t.2.2 ≤ E ∧ L1 = LX g E t.2.2 true) := fun hne => ⟨by rw [if_neg hne], fun q => absurd q hne⟩
  rcases k1 with ⟨e1, e2⟩ | ⟨hlt, ⟨e0, e1, e2⟩ | ⟨e0, e0', e1, e2⟩ | ⟨e0, e0', e1, e2⟩⟩
  · have h35 : t.1 = 35 := by rw [e1]
    have hlk : lkc g t = -1 := by unfold lkc; rw [if_pos h35]
    rw [hlk, if_pos (i01f (show letB (-1) = false by decide))]
    obtain ⟨n1, n2⟩ := no (by omega)
    exact ⟨T1, n1, r2, r3, ⟨r4, r5⟩, n2⟩
  · have ht1 : t.1 = if decide (T1 401 4 = ((t.2.1 : Nat) : Int)) = true then 34 else wnum (segL g t.2.1 (endL g E letB t.2.1)) := congrArg (fun x => x.1) e1
    have ht2 : t.2.2 = endL g E letB t.2.1 := congrArg (fun x => x.2.2) e1
    have hwl := wnum_le (segL g t.2.1 (endL g E letB t.2.1))
    have he := endL_lt hlt e0
    have hlk : lkc g t = g t.2.1 := by
      unfold lkc
      rw [if_neg]
      rw [ht1]
      split <;> omega
    rw [hlk, if_neg (i01t e0)]
    simp only [r3]
    by_cases q : T1 401 4 = ((t.2.1 : Nat) : Int)
    · rw [if_pos q.symm]
      rw [if_pos (decide_eq_true q)] at ht1
      obtain ⟨n1, n2⟩ := no (by omega)
      exact ⟨T1, n1, r2, r3, ⟨r4, r5⟩, n2⟩
    · rw [if_neg (fun x => q x.symm)]
      rw [decide_eq_false q, if_neg (by decide)] at ht1
      rw [m_h35 hc hE (fun i hi => (hg i hi).1) r3 h3 (E - t.2.1) t.2.1 rfl (Nat.le_refl _) k2]
      by_cases q2 : endL g E letB t.2.1 = t.2.1 + (WRD.getD k []).length
      · rw [if_pos q2]
        obtain ⟨m1, m2⟩ := m_h76 hc hw1 hE (fun i hi => (hg i hi).1) r3 he.2 q2 (WRD.getD k []).length 0 (by omega)
        have m1 : _ → Mo_isHere_76 c 0 T1 = _ := m1
        have m2 : _ → Mo_isHere_76 c 0 T1 = _ := m2
        rw [Nat.add_zero, List.drop_zero] at m1 m2
        by_cases q3 : segL g t.2.1 (endL g E letB t.2.1) = WRD.getD k []
        · have htk : t.1 = k := by rw [ht1]; exact (wnum_iff hc4).mpr q3
          rw [m1 q3, if_pos htk]
          exact ⟨T1, rfl, r2, r3, ⟨r4, r5⟩, fun _ => ⟨by rw [ht2, q2], by omega, by rw [ht2]; exact e2⟩⟩
        · have htk : t.1 ≠ k := fun x => q3 ((wnum_iff hc4).mp (by rw [← ht1]; exact x))
          rw [m2 q3]
          obtain ⟨n1, n2⟩ := no htk
          exact ⟨T1, n1, r2, r3, ⟨r4, r5⟩, n2⟩
      · have htk : t.1 ≠ k := fun x => q2 (by
          have := (wnum_iff hc4).mp (by rw [← ht1]; exact x)
          have hl := segL_len g t.2.1 (endL g E letB t.2.1)
          rw [this] at hl
          omega)
        rw [if_neg q2]
        obtain ⟨n1, n2⟩ := no htk
        exact ⟨T1, n1, r2, r3, ⟨r4, r5⟩, n2⟩
  · have ht1 : t.1 = if decide (T1 401 4 = ((t.2.1 : Nat) : Int)) = true then 34 else 33 := congrArg (fun x => x.1) e1
    have h33 : t.1 = 34 ∨ t.1 = 33 := by rw [ht1]; split; exact Or.inl rfl; exact Or.inr rfl
    have hlk : lkc g t = g t.2.1 := by unfold lkc; rw [if_neg (by omega)]
    rw [hlk, if_pos (i01f e0)]
    obtain ⟨n1, n2⟩ := no (by omega)
    exact ⟨T1, n1, r2, r3, ⟨r4, r5⟩, n2⟩
  · have ht1 : t.1 = 256 + (g t.2.1).toNat := congrArg (fun x => x.1) e1
    have hlk : lkc g t = g t.2.1 := by unfold lkc; rw [if_neg (by omega)]
    rw [hlk, if_pos (i01f e0)]
    obtain ⟨n1, n2⟩ := no (by omega)
    exact ⟨T1, n1, r2, r3, ⟨r4, r5⟩, n2⟩
theorem m_takes {c k : Nat} {t : Tok} {L1 : List Tok} (hc : HR c k) (hw : WDT T) (h : RTK g E T (t :: L1)) : (t.1 = k ∧ ∃ T', m_Mo_takes c T = some (1, T') ∧ RTK g E T' L1 ∧ FRt T T') ∨ (t.1 ≠ k ∧ ∃ T', m_Mo_takes c T = some (0, T') ∧ RTK g E T' (t :: L1) ∧ T' 401 2 = ((t.2.1 : Nat) : Int) ∧ FRp T T') := by
  obtain ⟨T1, r1, r2, r3, r4, r5⟩ := m_isHere hc hw h
  obtain ⟨hE, hg, h3, h5, p, hp, h2, h4, hL⟩ := id r2
  have hkl := hc.2.2.1
  have h8 := hc.2.2.2.2.2.1
  rw [e_Mo_takes, r1, Option.bind_some]
  dsimp only
  by_cases q : t.1 = k
  · left
    obtain ⟨a1, a2, a3⟩ := r5 q
    rw [if_pos q, if_neg n10, if_pos (by rw [hc.2.1]; decide), r3, hkl, wrA (by omega), ← a1]
    refine ⟨q, _, rfl, ⟨hE, fun i hi => by rw [up_c (by decide), up_c (by decide)]; exact hg i hi, by rw [up_k (by decide), up_k (by decide)]; exact h3, by rw [up_k (by decide), up_k (by decide)]; exact h5, t.2.2, a2, by rw [up_k (by decide), up_s], ⟨by rw [up_s]; exact Int.le_refl _, by rw [up_k (by decide), up_k (by decide)]; exact h4.2⟩, ?_⟩, r4.t.tr ((FRt.u (Or.inl rfl)).tr (FRt.u (Or.inr (Or.inl rfl))))⟩
    rw [up_s, decide_eq_true rfl]
    exact a3
  · right
    rw [if_neg q, if_pos rfl]
    exact ⟨q, T1, rfl, r2, r3, r4⟩
/-- something is wrong -/
def BDT (T : MS) (k : Int) (p : Nat) : Prop := T 401 5 = k ∧ T 401 6 = ((p : Nat) : Int)
theorem m_fail {k p : Int} (h : T 401 5 = 0) : m_Mo_fail k p T = some (up (up T 401 5 k) 401 6 p) := by rw [e_Mo_fail, if_pos h]
theorem FRt.fail (k p : Int) : FRt T (up (up T 401 5 k) 401 6 p) := (FRt.u (by omega)).tr (FRt.u (by omega))
theorem bdt_fail (k : Int) (p : Nat) : BDT (up (up T 401 5 k) 401 6 ((p : Nat) : Int)) k p := ⟨by rw [up_k (by decide), up_s], up_s _ _ _ _⟩
theorem m_asks {c k : Nat} {t : Tok} {L1 : List Tok} (hc : HR c k) (hw : WDT T) (h : RTK g E T (t :: L1)) : (t.1 = k ∧ ∃ T', m_Mo_asks c T = some T' ∧ RTK g E T' L1 ∧ FRt T T') ∨ (t.1 ≠ k ∧ ∃ T', m_Mo_asks c T = some T' ∧ BDT T' 1 t.2.1 ∧ FRt T T') := by
  rw [e_Mo_asks, h.2.2.2.1, if_pos rfl]
  rcases m_takes hc hw h with ⟨q, T1, r1, r2, r3⟩ | ⟨q, T1, r1, r2, r3, r4⟩
  · left
    rw [r1, Option.bind_some]
    dsimp only
    rw [if_neg n10]
    exact ⟨q, T1, rfl, r2, r3⟩
  · right
    rw [r1, Option.bind_some]
    dsimp only
    rw [if_pos rfl, m_fail r2.2.2.2.1, Option.bind_some, r3]
    exact ⟨q, _, rfl, bdt_fail 1 _, r4.t.tr (FRt.fail _ _)⟩
theorem m_askSg {t : Tok} {L1 : List Tok} (h : RTK g E T (t :: L1)) {a : Nat} (ha : sgB a) : (t.1 = 256 + a ∧ ∃ T', m_Mo_asksSign a T = some T' ∧ RTK g E T' L1 ∧ FRt T T') ∨ (t.1 ≠ 256 + a ∧ ∃ T', m_Mo_asksSign a T = some T' ∧ BDT T' 1 t.2.1 ∧ FRt T T') := by
  rw [e_Mo_asksSign, h.2.2.2.1, if_pos rfl]
  rcases m_tkSign h ha with ⟨q, T1, r1, r2, r3, -⟩ | ⟨q, T1, r1, r2, r3, r4⟩
  · left
    rw [r1, Option.bind_some]
    dsimp only
    rw [if_neg n10]
    exact ⟨q, T1, rfl, r2, r3⟩
  · right
    rw [r1, Option.bind_some]
    dsimp only
    rw [if_pos rfl, m_fail r2.2.2.2.1, Option.bind_some, r4]
    exact ⟨q, _, rfl, bdt_fail 1 _, r3.tr (FRt.fail _ _)⟩
/-! numbers -/
theorem m_n129 {v lo hi : Int} {b : Nat} {e : Nat} (h5 : T 401 5 = 0) : (lo ≤ v ∧ v ≤ hi → Mo_number_129 lo hi b v T = some (v, up (up T 401 4 (T 401 2)) 401 10 b)) ∧ (¬ (lo ≤ v ∧ v ≤ hi) → ∃ T', Mo_number_129 lo hi b v T = some (v, T') ∧ BDT T' 2 b ∧ FRt T T') := by
  rw [e_Mo_number_129]
  constructor
  · intro c
    rw [m_in1 c, Option.bind_some]
    dsimp only
    rw [if_neg n10]
  · intro c
    rw [m_in0 c, Option.bind_some]
    dsimp only
    rw [if_pos rfl, up_s, m_fail (by rw [up_k (by decide), up_k (by decide)]; exact h5), Option.bind_some]
    exact ⟨_, rfl, bdt_fail 2 b, ((FRt.u (by omega)).tr (FRt.u (by omega))).tr (FRt.fail _ _)⟩
theorem m_n49 {lo hi : Int} {b e : Nat} (hE : E ≤ 1600) (hge : ∀ i, b ≤ i → i < e → digB (g i) = true) (hend : e < E → digB (g e) = false) (he : e ≤ E) : ∀ (n p : Nat) (v : Int) (T : MS), p + n = e → b ≤ p → p ≤ b + 4 → (∀ i, i < E → T 402 i = g i) → T 401 3 = (E : Int) → T 401 5 = 0 → T 401 2 = (p : Int) → (0 ≤ v ∧ v < ((10 ^ (p - b) : Nat) : Int)) → ∃ T', FRt T T' ∧ T' 401 5 = 0 ∧ ((e ≤ b + 4 ∧ Mo_number_49 lo hi b v T = Mo_number_129 lo hi b (numF g n p v) T' ∧ T' 401 2 = (e : Int) ∧ T' 401 4 = T 401 4 ∧ T' 401 6 = T 401 6) ∨ (b + 4 < e ∧ Mo_number_49 lo hi b v T = some (0, up (up T' 401 5 1) 401 6 ((b + 4 : Nat) : Int)))) := by
  intro n
  induction n with
  | zero =>
    intro p v T hp hb hb4 hg h3 h5 h2 hv
    refine ⟨T, FRt.rf T, h5, Or.inl ⟨by omega, ?_, by rw [h2]; omega, rfl, rfl⟩⟩
    rw [e_Mo_number_49, h2, h3]
    by_cases c : p < E
    · rw [if_pos (by omega), if_pos (by omega), Int.toNat_natCast, hg p c, m_digq, Option.bind_some, if_pos (i01f (show digB (g p) = false by rw [show p = e by omega]; exact hend (by omega)))]
      rfl
    · rw [if_neg (by omega)]; rfl
  | succ n ih =>
    intro p v T hp hb hb4 hg h3 h5 h2 hv
    have hd := dig_b.mp (hge p hb (by omega))
    rw [e_Mo_number_49, h2, h3, if_pos (by omega), if_pos (by omega), Int.toNat_natCast, hg p (by omega), m_digq, Option.bind_some, if_neg (i01t (hge p hb (by omega)))]
    dsimp only
    simp only [h2]
    rw [wrN (z := (p : Int) - (b : Int)) (by omega) (by omega)]
    by_cases c : p = b + 4
    · rw [if_pos (by omega), m_fail h5, Option.bind_some, c]
      exact ⟨T, FRt.rf T, h5, Or.inr ⟨by omega, rfl⟩⟩
    · have hpow : (10 : Nat) ^ (p - b) ≤ 10 ^ 3 := Nat.pow_le_pow_right (by decide) (by omega)
      rw [show (10 : Nat) ^ 3 = 1000 from rfl] at hpow
      have e10 : (10 : Nat) ^ (p + 1 - b) = 10 * 10 ^ (p - b) := by rw [show p + 1 - b = (p - b) + 1 by omega, Nat.pow_succ, Nat.mul_comm]
      rw [if_neg (by omega), if_pos (by omega), Int.toNat_natCast, hg p (by omega), wr_suc2 (show p < 1600 by omega) (by decide)]
      have hv1 : v < 1000 := by
        have := hv.2
        omega
      rw [wrN (z := 10 * v) (by omega) (by omega), wrN (z := 10 * v + g p) (by omega) (by omega), wrN (z := 10 * v + g p - 48) (by omega) (by omega)]
      obtain ⟨T', r1, r2, r3⟩ := ih (p + 1) (10 * v + g p - 48) (up T 401 2 ((p + 1 : Nat) : Int)) (by omega) (by omega) (by omega) (fun i hi => by rw [up_c (by decide)]; exact hg i hi) (by rw [up_k (by decide)]; exact h3) (by rw [up_k (by decide)]; exact h5) (up_s _ _ _ _) ⟨by omega, by
        rw [e10, Int.natCast_mul]
        have := hv.2
        omega⟩
      refine ⟨T', (FRt.u (Or.inl rfl)).tr r1, r2, ?_⟩
      rcases r3 with ⟨a1, a2, a3, a4, a5⟩ | ⟨a1, a2⟩
      · exact Or.inl ⟨a1, a2, a3, by rw [a4, up_k (by decide)], by rw [a5, up_k (by decide)]⟩
      · exact Or.inr ⟨a1, a2⟩
theorem m_number {lo hi : Int} {t : Tok} {L1 : List Tok} (h : RTK g E T (t :: L1)) : (∃ v T', (∀ f, rdNum g lo hi t f = f v) ∧ (lo ≤ v ∧ v ≤ hi) ∧ t.1 = 33 ∧ m_Mo_number lo hi T = some (v, T') ∧ RTK g E T' L1 ∧ FRt T T' ∧ (0 ≤ v ∧ v ≤ 9999)) ∨ ∃ k q v T', (∀ f, rdNum g lo hi t f = PR.no k q) ∧ k ≠ 0 ∧ m_Mo_number lo hi T = some (v, T') ∧ BDT T' k q ∧ FRt T T' ∧ (0 ≤ v ∧ v ≤ 9999) := by
  obtain ⟨t', L', T1, e, r1, r2, r3, r4, r5, r6⟩ := m_look h
  cases e
  have hf : FRt T T1 := ⟨r4, fun k k2 _ _ _ _ => r5 k k2⟩
  obtain ⟨hE, hg, h3, h5, p, hp, h2, h4, hL⟩ := id r2
  obtain ⟨k1, k2⟩ := r2.tks r3 r6
  rw [e_Mo_number, h.2.2.2.1, if_pos rfl, r1, Option.bind_some]
  dsimp only
  rw [m_digq, Option.bind_some]
  dsimp only
  have bad : t.1 ≠ 33 → ∃ k q v T', (∀ f, rdNum g lo hi t f = PR.no k q) ∧ k ≠ 0 ∧ ((m_Mo_fail 1 (T1 401 2) T1).bind fun p3 => some ((0 : Int), p3)) = some (v, T') ∧ BDT T' k q ∧ FRt T T' ∧ (0 ≤ v ∧ v ≤ 9999) := fun hne => by
    refine ⟨1, t.2.1, 0, up (up T1 401 5 1) 401 6 ((t.2.1 : Nat) : Int), fun f => by unfold rdNum; rw [if_neg hne], by decide, ?_, bdt_fail 1 _, hf.tr (FRt.fail _ _), by decide⟩
    rw [m_fail h5, Option.bind_some, r3]
  rcases k1 with ⟨e1, e2⟩ | ⟨hlt, ⟨e0, e1, e2⟩ | ⟨e0, e0', e1, e2⟩ | ⟨e0, e0', e1, e2⟩⟩
  · have h35 : t.1 = 35 := by rw [e1]
    have hlk : lkc g t = -1 := by unfold lkc; rw [if_pos h35]
    rw [hlk, if_pos (i01f (show digB (-1) = false by decide))]
    exact Or.inr (bad (by omega))
  · have ht1 : t.1 = if decide (T1 401 4 = ((t.2.1 : Nat) : Int)) = true then 34 else wnum (segL g t.2.1 (endL g E letB t.2.1)) := congrArg (fun x => x.1) e1
    have hwl := wnum_le (segL g t.2.1 (endL g E letB t.2.1))
    have h33 : t.1 ≠ 33 ∧ t.1 ≠ 35 := by rw [ht1]; split <;> omega
    have hl := let_b.mp e0
    have hlk : lkc g t = g t.2.1 := by unfold lkc; rw [if_neg h33.2]
    rw [hlk, if_pos (i01f (bF (fun q => by have := dig_b.mp q; omega)))]
    exact Or.inr (bad h33.1)
  · have ht1 : t.1 = if decide (T1 401 4 = ((t.2.1 : Nat) : Int)) = true then 34 else 33 := congrArg (fun x => x.1) e1
    have ht2 : t.2.2 = endL g E digB t.2.1 := congrArg (fun x => x.2.2) e1
    have hne : t.1 ≠ 35 := by rw [ht1]; split <;> omega
    have hlk : lkc g t = g t.2.1 := by unfold lkc; rw [if_neg hne]
    rw [hlk, if_neg (i01t e0')]
    simp only [r3]
    by_cases q : T1 401 4 = ((t.2.1 : Nat) : Int)
    · rw [if_pos (decide_eq_true q)] at ht1
      rw [if_pos q.symm]
      rw [r3] at bad
      exact Or.inr (bad (by omega))
    · rw [decide_eq_false q, if_neg (by decide)] at ht1
      rw [if_neg (fun x => q x.symm)]
      obtain ⟨b1, b2, b3, b4⟩ := endL_b g E digB (E - t.2.1) t.2.1 rfl (by omega)
      have hpow0 : ((10 ^ (t.2.1 - t.2.1) : Nat) : Int) = 1 := by rw [Nat.sub_self]; rfl
      obtain ⟨T2, s1, s2, s3⟩ := m_n49 (lo := lo) (hi := hi) (b := t.2.1) (e := endL g E digB t.2.1) hE b3 b4 b2 (endL g E digB t.2.1 - t.2.1) t.2.1 0 T1 (by omega) (Nat.le_refl _) (by omega) (fun i hi => (hg i hi).1) h3 h5 r3 ⟨by decide, by rw [hpow0]; decide⟩
      rcases s3 with ⟨a1, a2, a3, a4, a5⟩ | ⟨a1, a2⟩
      · rw [a2]
        have hv : 0 ≤ numF g (endL g E digB t.2.1 - t.2.1) t.2.1 0 ∧ numF g (endL g E digB t.2.1 - t.2.1) t.2.1 0 ≤ 9999 := by
          have key : ∀ (n p : Nat) (v B : Int), (∀ i, p ≤ i → i < p + n → digB (g i) = true) → 0 ≤ v → v ≤ B → 0 ≤ numF g n p v ∧ numF g n p v ≤ ((10 ^ n : Nat) : Int) * B + (((10 ^ n : Nat) : Int) - 1) := by
            intro n
            induction n with
            | zero => intro p v B _ h0 hB; rw [numF, Nat.pow_zero]; exact ⟨h0, by omega⟩
            | succ n ih =>
              intro p v B hd h0 hB
              have hdp := dig_b.mp (hd p (Nat.le_refl _) (by omega))
              rw [numF]
              have := ih (p + 1) (10 * v + g p - 48) (10 * B + 9) (fun i h1 h2 => hd i (by omega) (by omega)) (by omega) (by omega)
              refine ⟨this.1, ?_⟩
              have h2 := this.2
              have e1 : ((10 ^ (n + 1) : Nat) : Int) = ((10 ^ n : Nat) : Int) * 10 := by rw [Nat.pow_succ, Int.natCast_mul]; rfl
              rw [e1, Int.mul_assoc]
              rw [Int.mul_add] at h2
              omega
          have h1 := key (endL g E digB t.2.1 - t.2.1) t.2.1 0 0 (fun i h1 h2 => b3 i h1 (by omega)) (Int.le_refl _) (Int.le_refl _)
          have hpow : (10 : Nat) ^ (endL g E digB t.2.1 - t.2.1) ≤ 10 ^ 4 := Nat.pow_le_pow_right (by decide) (by omega)
          rw [show (10 : Nat) ^ 4 = 10000 from rfl] at hpow
          rw [Int.mul_zero] at h1
          omega
        obtain ⟨m1, m2⟩ := m_n129 (v := numF g (endL g E digB t.2.1 - t.2.1) t.2.1 0) (lo := lo) (hi := hi) (b := t.2.1) (e := 0) s2
        by_cases c3 : lo ≤ numF g (endL g E digB t.2.1 - t.2.1) t.2.1 0 ∧ numF g (endL g E digB t.2.1 - t.2.1) t.2.1 0 ≤ hi
        · left
          rw [m1 c3]
          refine ⟨_, _, fun f => by unfold rdNum; rw [if_pos ht1, ht2, if_neg (by omega), if_neg (by omega)], c3, ht1, rfl, ⟨hE, fun i hi => by rw [up_c (by decide), up_c (by decide), s1.1 402 (by decide)]; exact hg i hi, by rw [up_k (by decide), up_k (by decide), s1.2 3 (by decide) (by decide) (by decide) (by decide) (by decide)]; exact h3, by rw [up_k (by decide), up_k (by decide)]; exact s2, endL g E digB t.2.1, b2, by rw [up_k (by decide), up_k (by decide)]; exact a3, ⟨by rw [up_k (by decide), up_s, a3]; exact Int.le_refl _, by rw [up_k (by decide), up_k (by decide), a5]; exact h4.2⟩, ?_⟩, (hf.tr s1).tr ((FRt.u (by omega)).tr (FRt.u (by omega))), hv⟩
          rw [up_k (by decide), up_s, a3, decide_eq_true rfl]
          exact e2
        · right
          obtain ⟨T3, y1, y2, y3⟩ := m2 c3
          rw [y1]
          exact ⟨2, t.2.1, _, T3, fun f => by unfold rdNum; rw [if_pos ht1, ht2, if_neg (by omega), if_pos (by omega)], by decide, rfl, y2, (hf.tr s1).tr y3, hv⟩
      · right
        rw [a2]
        exact ⟨1, t.2.1 + 4, 0, _, fun f => by unfold rdNum; rw [if_pos ht1, ht2, if_pos (by omega)], by decide, rfl, bdt_fail 1 _, (hf.tr s1).tr (FRt.fail _ _), by decide⟩
  · have ht1 : t.1 = 256 + (g t.2.1).toNat := congrArg (fun x => x.1) e1
    have hlk : lkc g t = g t.2.1 := by unfold lkc; rw [if_neg (by omega)]
    rw [hlk, if_pos (i01f e0')]
    exact Or.inr (bad (by omega))
end
