/-! ACTS -/
/-- a world with one number changed -/
def upW (w : Nat → Int) (j : Nat) (v : Int) (i : Nat) : Int := if i = j then v else w i
theorem upW_s (w : Nat → Int) (j : Nat) (v : Int) : upW w j v j = v := if_pos rfl
theorem upW_k {w : Nat → Int} {i j : Nat} {v : Int} (h : i ≠ j) : upW w j v i = w i := if_neg h
section
variable {n : Nat} {P S T : MS}
theorem KR.lo57 {e : Int} {r m m' : Nat → Int} (h : KR e r m) (he : ∀ k, 57 ≤ k → m' k = m k) : KR e r m' := by
  obtain ⟨h1, h2, h3⟩ := h
  refine ⟨h1, by rw [he 57 (by decide)]; exact h2, fun i hi => ?_⟩
  rw [he 57 (by decide)] at hi ⊢
  have := h3 i hi
  unfold rowK rngK at this ⊢
  rw [he _ (by omega), he _ (by omega), he _ (by omega), he _ (by omega)]
  exact this
theorem ref2 (h : Inv n P S T) (hn : n < 1000000) : (m_Ma_refused 2 S = some (0, up S 134 2 (S 134 2 + 1))) ∧ (up T 403 2 (wr (T 403 2 + 1)) = up T 403 2 (T 403 2 + 1)) := by
  have hr := h.rf 2 (by decide)
  exact ⟨c_refused (k := 2) h hn (by decide), by rw [wrN (by omega) (by omega)]⟩
/-- an act that changes one number of the world -/
theorem both_change (h : Inv n P S T) (hn : n < 600) {j : Nat} (hj : j < 57) {v : Int} (hne : T 438 j ≠ v) : ∃ S1 T1, m_Ma_beginAct S = some S1 ∧ m_Mo_isChanged 1 j v T = some (1, up T1 438 j v) ∧ (∀ c, c ≤ 50 → S1 c = S c) ∧
    ∀ (S2 : MS), FA S1 S2 → S2 1 = S1 1 → EM P S2 → S2 30 3 ≤ S 30 3 + 1000 → S2 24 5 = S 24 5 → S2 26 = S 26 → WV P (upW (T 438) j v) → (j = 0 → v ≤ 999) → SWn S2 24 (upW (T 438) j v) → Inv (n + 1) P S2 (up T1 438 j v) := by
  obtain ⟨S1, T1, b1, b2, b3, b4, b5, b6, b7, b8, b9⟩ := both_begin h
  obtain ⟨w1, w2, w3, w4, w5, w6⟩ := h.wd
  obtain ⟨g1, g2⟩ := h.th
  refine ⟨S1, T1, b1, ?_, fun c hc => b4 c (by omega) (by omega) (by omega), fun S2 hA h1 hE hst e5 e26 hWV hj0 hSW => ?_⟩
  · rw [e_Mo_isChanged, if_neg n10, if_pos (by omega), Int.toNat_natCast, if_neg hne, b2, Option.bind_some, if_pos (by omega)]
  · have hrow : (up T1 438 j v) 438 = upW (T 438) j v := by
      funext i
      by_cases e : i = j
      · subst e; rw [up_s, upW_s]
      · rw [up_k e, upW_k e, b9 438 (by decide) (by decide)]
    refine h.act b3 b4 b5 b6 b7 b8 b9 hA ⟨fun c _ c2 _ _ => up_c c2, fun k _ _ _ _ _ _ _ _ _ => by rw [up_c (by decide)]⟩ (h.sd.fr (by rw [h1, b4 1 (by decide) (by decide) (by decide)]) (by rw [up_c (by decide), b8 73 (by decide) (by decide)])) hE hst ?_ (by rw [up_c (by decide), b8 57 (by decide) (by decide)]; omega)
    refine ⟨by rw [hrow]; exact hWV, ?_, by rw [hrow]; exact hSW, ?_, by rw [e5]; omega, by rw [up_c (by decide), b8 56 (by decide) (by decide)]; exact w6⟩
    · rw [hrow]
      by_cases e : 0 = j
      · rw [← e, upW_s]; exact hj0 e.symm
      · rw [upW_k e]; exact w2
    · rw [hrow, e5, e26]
      exact w4.lo57 (fun k hk => by rw [upW_k (by omega)])
theorem EM.now {P S S' : MS} (h : EM P S) (e : ∀ c, 30 ≤ c → c < 50 → S' c = S c) : EM P S' := h.fr e
theorem c_setS {F : Int} {S : MS} {o f : Nat} {s : Int} (ho : o < 8) (hf : f < 4) (hF : S 25 f = F) : m_St_setStrength_now o f s S = some (up S 25 f (borL (bandL F (bxorL (shlL 127 (wr (7 * (o : Int)))) (-1))) (shlL s (wr (7 * (o : Int)))))) := by
  rw [e_St_setStrength_now, if_neg (by omega), if_pos (by omega), if_pos (by omega), e_Ma_packed, Option.bind_some]
  dsimp only
  rw [e_Ma_packed, Option.bind_some]
  dsimp only
  rw [if_pos (by omega), Int.toNat_natCast, hF]
theorem op_put (h : Inv n P S T) (hn : n < 600) (a b s : Int) : OK2 n P (m_Ma_put a b s S) (m_Mo_put a b s T) := by
  have hP := h.pln
  have h1 := hP.1
  have h2 := hP.2.1
  obtain ⟨rf1, rf2⟩ := ref2 h (by omega)
  have hno : ∀ x : Option (Int × MS), x = some (0, up S 134 2 (S 134 2 + 1)) → OK2 n P x (Mo_put_35 a b s 0 T) := fun x hx => by
    rw [hx, e_Mo_put_35, if_pos rfl, e_Mo_isChanged, if_pos rfl, Option.bind_some, if_pos (Or.inl rfl), rf2]
    exact ⟨_, _, _, rfl, rfl, h.refuse (by omega) (by decide)⟩
  have hb : (m_Ma_refused 2 S).bind (fun p1 => if p1.1 = 0 ∨ p1.1 = 1 then some (p1.1, p1.2) else none) = some (0, up S 134 2 (S 134 2 + 1)) := by rw [rf1, Option.bind_some, if_pos (Or.inl rfl)]
  rw [e_Ma_put, e_Mo_put]
  by_cases c : 0 ≤ a ∧ a < P 430 4
  · rw [c_isO1 h c rfl, m_isO1 hP h.rp c, Option.bind_some, Option.bind_some]
    dsimp only
    rw [if_neg n10, if_neg n10]
    by_cases d : 0 ≤ b ∧ b < P 430 5
    · rw [c_isF1 h d, m_isF1 hP h.rp d, Option.bind_some, Option.bind_some]
      dsimp only
      rw [if_neg n10, if_neg n10]
      by_cases g : 0 ≤ s ∧ s ≤ 99
      · obtain ⟨o, rfl⟩ : ∃ o : Nat, a = (o : Int) := ⟨a.toNat, by omega⟩
        obtain ⟨f, rfl⟩ : ∃ f : Nat, b = (f : Int) := ⟨b.toNat, by omega⟩
        rw [if_neg (by omega), if_neg (by omega), m_in1 g, Option.bind_some, c_strN h (by omega) (by omega), Option.bind_some]
        dsimp only
        rw [if_neg n10, e_Mo_put_35, if_neg n10, wrN (z := 4 * (o : Int)) (by omega) (by omega), wrN (z := 25 + 4 * (o : Int)) (by omega) (by omega), wrN (z := 25 + 4 * (o : Int) + (f : Int)) (by omega) (by omega), show 25 + 4 * (o : Int) + (f : Int) = ((25 + 4 * o + f : Nat) : Int) by omega]
        by_cases e : T 438 (25 + 4 * o + f) = s
        · rw [if_pos e, hb, e_Mo_isChanged, if_neg n10, if_pos (by omega), Int.toNat_natCast, if_pos e, Option.bind_some, if_pos (Or.inl rfl), rf2]
          exact ⟨_, _, _, rfl, rfl, h.refuse (by omega) (by decide)⟩
        · obtain ⟨S1, T1, b1, b2, hs, b6⟩ := both_change (j := 25 + 4 * o + f) h hn (by omega) e
          obtain ⟨w1, w2, w3, w4, w5, w6⟩ := h.wd
          obtain ⟨s1, s2, s3, s4, s5⟩ := w3
          obtain ⟨F1, F2⟩ := s5 f (by omega)
          obtain ⟨G1, G2⟩ := dg_set (F := S 25 f) (v := s) (o := o) F1.1 F1.2 g.1 (by omega) (by omega) (by omega)
          rw [if_neg e, b1, Option.bind_some, c_setS (o := o) (f := f) (F := S 25 f) (by omega) (by omega) (by rw [hs 25 (by decide)]), b2, Option.bind_some, Option.bind_some, if_pos (Or.inr rfl)]
          generalize borL (bandL (S 25 f) (bxorL (shlL 127 (wr (7 * (o : Int)))) (-1))) (shlL s (wr (7 * (o : Int)))) = G at G1 G2 ⊢
          refine ⟨_, _, _, rfl, rfl, b6 _ ⟨fun c _ _ c3 _ _ _ _ _ _ _ => up_c c3, fun k _ => by rw [up_c (by decide)]⟩ (up_c (by decide)) (h.en.1.fr (fun c h1 h2 => by rw [up_c (by omega), hs c (by omega)])) (by rw [up_c (by decide), hs 30 (by decide)]; omega) (by rw [up_c (by decide), hs 24 (by decide)]) (by rw [up_c (by decide), hs 26 (by decide)]) ?_ (fun h0 => by omega) ?_⟩
          · obtain ⟨v1, v2, v3, v4, v5⟩ := w1
            refine ⟨by rw [upW_k (by omega)]; exact v1, fun k hk => by rw [upW_k (by omega), upW_k (by omega)]; exact v2 k hk, fun i i1 i2 => ?_, fun o' f' ho' hf' hc => ?_, fun k k1 k2 => by rw [upW_k (by omega), upW_k (by omega)]; exact v5 k k1 k2⟩
            · unfold upW
              split
              · exact g
              · exact v3 i i1 i2
            · rw [upW_k (by unfold nOf nFe at hc; omega)]
              exact v4 o' f' ho' hf' hc
          · refine ⟨by rw [up_c (by decide), hs 24 (by decide), upW_k (by omega)]; exact s1, by rw [up_c (by decide), hs 24 (by decide)]; exact s2, by rw [up_c (by decide), hs 24 (by decide)]; exact s3, fun k hk => by rw [up_c (by decide), hs 24 (by decide), upW_k (by omega), upW_k (by omega)]; exact s4 k hk, fun f' hf' => ?_⟩
            show (0 ≤ up S1 25 f G 25 f' ∧ up S1 25 f G 25 f' < _) ∧ ∀ o', o' < 8 → dg (up S1 25 f G 25 f') o' = _
            by_cases ef : f' = f
            · subst ef
              rw [up_s]
              refine ⟨G1, fun o' ho' => ?_⟩
              rw [G2 o' ho']
              by_cases eo : o' = o
              · subst eo; rw [if_pos rfl, upW_s]
              · rw [if_neg (by omega), upW_k (by omega)]; exact F2 o' ho'
            · rw [up_k ef, hs 25 (by decide)]
              refine ⟨(s5 f' hf').1, fun o' ho' => ?_⟩
              rw [upW_k (by omega)]
              exact (s5 f' hf').2 o' ho'
      · by_cases g1 : s < 0
        · rw [if_pos g1, hb, m_in0 g, Option.bind_some, if_pos rfl]
          exact hno _ rfl
        · rw [if_neg g1, if_pos (by omega), hb, m_in0 g, Option.bind_some, if_pos rfl]
          exact hno _ rfl
    · rw [c_isF0 h d, m_isF0 hP h.rp d, Option.bind_some, Option.bind_some, if_pos rfl, if_pos rfl]
      exact hno _ hb
  · rw [c_isO0 h c rfl, m_isO0 hP h.rp c, Option.bind_some, Option.bind_some, if_pos rfl, if_pos rfl]
    exact hno _ hb
/-- the bits of a set, one of them turned over -/
theorem bt_flip {x : Int} (h : 0 ≤ x ∧ x < 4096) {k : Nat} (hk : k < 12) : (0 ≤ bxor x (shl 1 (k : Int)) ∧ bxor x (shl 1 (k : Int)) < 4096) ∧ ∀ j, j < 12 → bt (bxor x (shl 1 (k : Int))) j = if j = k then 1 - bt x k else bt x j := by
  have hp : ((2 ^ k : Nat) : Int) < ((2 ^ 12 : Nat) : Int) := pow_lt hk
  have h12 : ((2 ^ 12 : Nat) : Int) = 4096 := rfl
  have hp0 : 0 ≤ ((2 ^ k : Nat) : Int) := Int.natCast_nonneg _
  rw [shl_1 (by omega) (by omega), Int.toNat_natCast]
  have hb := bxor_lt (a := x) (b := ((2 ^ k : Nat) : Int)) 12 (by decide) h.1 (by omega) hp0 hp
  refine ⟨by omega, fun j hj => ?_⟩
  rw [bt_xor h.1 (by omega) hp0 (by omega), bt_pow]
  have := bt_01 x j
  by_cases e : j = k
  · subst e; rw [if_pos rfl, if_pos rfl]; omega
  · rw [if_neg (fun q => e q.symm), if_neg e]; omega
theorem op_turn (h : Inv n P S T) (hn : n < 600) (a b : Int) : OK2 n P (m_Ma_turn a b S) (m_Mo_turn a b T) := by
  have hP := h.pln
  have h3 := hP.2.2.1
  obtain ⟨rf1, rf2⟩ := ref2 h (by omega)
  have hno : ∀ x : Option (Int × MS), x = some (0, up S 134 2 (S 134 2 + 1)) → OK2 n P x (Mo_turn_23 a b 0 T) := fun x hx => by
    rw [hx, e_Mo_turn_23, if_pos rfl, e_Mo_isChanged, if_pos rfl, Option.bind_some, if_pos (Or.inl rfl), rf2]
    exact ⟨_, _, _, rfl, rfl, h.refuse (by omega) (by decide)⟩
  have hb : (m_Ma_refused 2 S).bind (fun p1 => if p1.1 = 0 ∨ p1.1 = 1 then some (p1.1, p1.2) else none) = some (0, up S 134 2 (S 134 2 + 1)) := by rw [rf1, Option.bind_some, if_pos (Or.inl rfl)]
  rw [e_Ma_turn, e_Mo_turn]
  by_cases c : 0 ≤ a ∧ a < P 430 6
  · obtain ⟨k, rfl⟩ : ∃ k : Nat, a = (k : Int) := ⟨a.toNat, by omega⟩
    have hk : k < nCa P := by unfold nCa; omega
    rw [c_isC1 h c, m_isC1 hP h.rp c, Option.bind_some, Option.bind_some]
    dsimp only
    rw [if_neg n10, if_neg n10]
    by_cases g : 0 ≤ b ∧ b ≤ 1
    · obtain ⟨w1, w2, w3, w4, w5, w6⟩ := h.wd
      obtain ⟨s1, s2, s3, s4, s5⟩ := w3
      rw [if_neg (by omega), if_neg (by omega), m_in1 g, Option.bind_some]
      dsimp only
      rw [if_neg n10, e_Mo_turn_23, if_neg n10, wrN (z := 2 * (k : Int)) (by omega) (by omega), wrN (z := 2 + 2 * (k : Int)) (by omega) (by omega), show 2 + 2 * (k : Int) = ((2 + 2 * k : Nat) : Int) by omega, bt_of (by omega) (by omega) (by omega) (by omega), Int.toNat_natCast]
      have hbit := s4 k (by omega)
      rw [hbit.2]
      by_cases e : T 438 (2 + 2 * k) = b
      · rw [if_pos e, hb, e_Mo_isChanged, if_neg n10, if_pos (by omega), Int.toNat_natCast, if_pos e, Option.bind_some, if_pos (Or.inl rfl), rf2]
        exact ⟨_, _, _, rfl, rfl, h.refuse (by omega) (by decide)⟩
      · obtain ⟨S1, T1, b1, b2, hs, b6⟩ := both_change (j := 2 + 2 * k) h hn (by omega) e
        obtain ⟨f1, f2⟩ := bt_flip (x := S 24 2) (k := k) s3 (by omega)
        obtain ⟨v1, v2, v3, v4, v5⟩ := w1
        rw [if_neg e, b1, Option.bind_some, b2, Option.bind_some, if_pos (Or.inr rfl), hs 24 (by decide)]
        refine ⟨_, _, _, rfl, rfl, b6 _ ⟨fun c _ c2 _ _ _ _ _ _ _ _ => up_c c2, fun k _ => by rw [up_c (by decide)]⟩ (up_c (by decide)) (h.en.1.fr (fun c h1 h2 => by rw [up_c (by omega), hs c (by omega)])) (by rw [up_c (by decide), hs 30 (by decide)]; omega) (by rw [up_k (by decide), hs 24 (by decide)]) (by rw [up_c (by decide), hs 26 (by decide)]) ?_ (fun h0 => by omega) ?_⟩
        · refine ⟨by rw [upW_k (by omega)]; exact v1, fun q hq => ⟨?_, ?_⟩, fun i i1 i2 => by rw [upW_k (by omega)]; exact v3 i i1 i2, fun o' f' ho' hf' hc => by rw [upW_k (by omega)]; exact v4 o' f' ho' hf' hc, fun q q1 q2 => by rw [upW_k (by omega), upW_k (by omega)]; exact v5 q q1 q2⟩
          · unfold upW
            split
            · omega
            · exact (v2 q hq).1
          · unfold upW
            split
            · omega
            · exact (v2 q hq).2
        · refine ⟨by rw [up_k (by decide), hs 24 (by decide), upW_k (by omega)]; exact s1, ?_, ?_, fun q hq => ⟨?_, ?_⟩, fun f' hf' => ?_⟩
          · rw [up_k (by decide), hs 24 (by decide)]; exact s2
          · rw [up_s]; exact f1
          · rw [up_k (by decide), hs 24 (by decide), upW_k (by omega)]; exact (s4 q hq).1
          · rw [up_s, f2 q hq]
            by_cases eq : q = k
            · subst eq; rw [if_pos rfl, upW_s, hbit.2]; have := (v2 q hq).2; omega
            · rw [if_neg eq, upW_k (by omega)]; exact (s4 q hq).2
          · show (0 ≤ up S1 24 2 _ 25 f' ∧ up S1 24 2 _ 25 f' < _) ∧ ∀ o', o' < 8 → dg (up S1 24 2 _ 25 f') o' = _
            rw [up_c (by decide), hs 25 (by decide)]
            refine ⟨(s5 f' hf').1, fun o' ho' => ?_⟩
            rw [upW_k (by omega)]
            exact (s5 f' hf').2 o' ho'
    · by_cases g1 : b < 0
      · rw [if_pos g1, hb, m_in0 g, Option.bind_some, if_pos rfl]
        exact hno _ rfl
      · rw [if_neg g1, if_pos (by omega), hb, m_in0 g, Option.bind_some, if_pos rfl]
        exact hno _ rfl
  · rw [c_isC0 h c, m_isC0 hP h.rp c, Option.bind_some, Option.bind_some, if_pos rfl, if_pos rfl]
    exact hno _ hb
theorem op_pull (h : Inv n P S T) (hn : n < 600) (a b : Int) : OK2 n P (m_Ma_pull a b S) (m_Mo_pull a b T) := by
  have hP := h.pln
  have h3 := hP.2.2.1
  obtain ⟨rf1, rf2⟩ := ref2 h (by omega)
  have hno : ∀ x : Option (Int × MS), x = some (0, up S 134 2 (S 134 2 + 1)) → OK2 n P x (Mo_pull_23 a b 0 T) := fun x hx => by
    rw [hx, e_Mo_pull_23, if_pos rfl, e_Mo_isChanged, if_pos rfl, Option.bind_some, if_pos (Or.inl rfl), rf2]
    exact ⟨_, _, _, rfl, rfl, h.refuse (by omega) (by decide)⟩
  have hb : (m_Ma_refused 2 S).bind (fun p1 => if p1.1 = 0 ∨ p1.1 = 1 then some (p1.1, p1.2) else none) = some (0, up S 134 2 (S 134 2 + 1)) := by rw [rf1, Option.bind_some, if_pos (Or.inl rfl)]
  rw [e_Ma_pull, e_Mo_pull]
  by_cases c : 0 ≤ a ∧ a < P 430 6
  · obtain ⟨k, rfl⟩ : ∃ k : Nat, a = (k : Int) := ⟨a.toNat, by omega⟩
    have hk : k < nCa P := by unfold nCa; omega
    rw [c_isC1 h c, m_isC1 hP h.rp c, Option.bind_some, Option.bind_some]
    dsimp only
    rw [if_neg n10, if_neg n10]
    by_cases g : 0 ≤ b ∧ b ≤ 1
    · obtain ⟨w1, w2, w3, w4, w5, w6⟩ := h.wd
      obtain ⟨s1, s2, s3, s4, s5⟩ := w3
      rw [if_neg (by omega), if_neg (by omega), m_in1 g, Option.bind_some]
      dsimp only
      rw [if_neg n10, e_Mo_pull_23, if_neg n10, wrN (z := 2 * (k : Int)) (by omega) (by omega), wrN (z := 1 + 2 * (k : Int)) (by omega) (by omega), show 1 + 2 * (k : Int) = ((1 + 2 * k : Nat) : Int) by omega, bt_of (by omega) (by omega) (by omega) (by omega), Int.toNat_natCast]
      have hbit := s4 k (by omega)
      rw [hbit.1]
      by_cases e : T 438 (1 + 2 * k) = b
      · rw [if_pos e, hb, e_Mo_isChanged, if_neg n10, if_pos (by omega), Int.toNat_natCast, if_pos e, Option.bind_some, if_pos (Or.inl rfl), rf2]
        exact ⟨_, _, _, rfl, rfl, h.refuse (by omega) (by decide)⟩
      · obtain ⟨S1, T1, b1, b2, hs, b6⟩ := both_change (j := 1 + 2 * k) h hn (by omega) e
        obtain ⟨f1, f2⟩ := bt_flip (x := S 24 1) (k := k) s2 (by omega)
        obtain ⟨v1, v2, v3, v4, v5⟩ := w1
        rw [if_neg e, b1, Option.bind_some, b2, Option.bind_some, if_pos (Or.inr rfl), hs 24 (by decide)]
        refine ⟨_, _, _, rfl, rfl, b6 _ ⟨fun c _ c2 _ _ _ _ _ _ _ _ => up_c c2, fun k _ => by rw [up_c (by decide)]⟩ (up_c (by decide)) (h.en.1.fr (fun c h1 h2 => by rw [up_c (by omega), hs c (by omega)])) (by rw [up_c (by decide), hs 30 (by decide)]; omega) (by rw [up_k (by decide), hs 24 (by decide)]) (by rw [up_c (by decide), hs 26 (by decide)]) ?_ (fun h0 => by omega) ?_⟩
        · refine ⟨by rw [upW_k (by omega)]; exact v1, fun q hq => ⟨?_, ?_⟩, fun i i1 i2 => by rw [upW_k (by omega)]; exact v3 i i1 i2, fun o' f' ho' hf' hc => by rw [upW_k (by omega)]; exact v4 o' f' ho' hf' hc, fun q q1 q2 => by rw [upW_k (by omega), upW_k (by omega)]; exact v5 q q1 q2⟩
          · unfold upW
            split
            · omega
            · exact (v2 q hq).1
          · unfold upW
            split
            · omega
            · exact (v2 q hq).2
        · refine ⟨by rw [up_k (by decide), hs 24 (by decide), upW_k (by omega)]; exact s1, ?_, ?_, fun q hq => ⟨?_, ?_⟩, fun f' hf' => ?_⟩
          · rw [up_s]; exact f1
          · rw [up_k (by decide), hs 24 (by decide)]; exact s3
          · rw [up_s, f2 q hq]
            by_cases eq : q = k
            · subst eq; rw [if_pos rfl, upW_s, hbit.1]; have := (v2 q hq).1; omega
            · rw [if_neg eq, upW_k (by omega)]; exact (s4 q hq).1
          · rw [up_k (by decide), hs 24 (by decide), upW_k (by omega)]; exact (s4 q hq).2
          · show (0 ≤ up S1 24 1 _ 25 f' ∧ up S1 24 1 _ 25 f' < _) ∧ ∀ o', o' < 8 → dg (up S1 24 1 _ 25 f') o' = _
            rw [up_c (by decide), hs 25 (by decide)]
            refine ⟨(s5 f' hf').1, fun o' ho' => ?_⟩
            rw [upW_k (by omega)]
            exact (s5 f' hf').2 o' ho'
    · by_cases g1 : b < 0
      · rw [if_pos g1, hb, m_in0 g, Option.bind_some, if_pos rfl]
        exact hno _ rfl
      · rw [if_neg g1, if_pos (by omega), hb, m_in0 g, Option.bind_some, if_pos rfl]
        exact hno _ rfl
  · rw [c_isC0 h c, m_isC0 hP h.rp c, Option.bind_some, Option.bind_some, if_pos rfl, if_pos rfl]
    exact hno _ hb
end
