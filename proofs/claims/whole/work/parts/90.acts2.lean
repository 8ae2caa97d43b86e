/-! ACTS -/
section
variable {n : Nat} {P S T : MS}
theorem KR.lo57 {e : Int} {r m m' : Nat → Int} (h : KR e r m) (he : ∀ k, 57 ≤ k → m' k = m k) : KR e r m' := by
  obtain ⟨h1, h2, h3⟩ := h
  refine ⟨h1, by rw [he 57 (by decide)]; exact h2, fun i hi => ?_⟩
  rw [he 57 (by decide)] at hi ⊢
  have := h3 i hi
  unfold rowK rngK at this ⊢
  rw [he _ (by omega), he _ (by omega), he _ (by omega), he _ (by omega)]
  exact this
theorem ref2 (h : Inv n P S T) (hn : n < 1000000) : (m_Ma_refused 2 S = some (0, up S 134 2 (S 134 2 + 1))) ∧ (up T 403 2 (wr (T 403 2 + 1)) = up T 403 2 (T 403 2 + 1)) := by
  have hr := h.rf 2 (by decide)
  exact ⟨c_refused (k := 2) h hn (by decide), by rw [wrN (by omega) (by omega)]⟩
/-- an act that changes one number of the world -/
theorem both_change (h : Inv n P S T) (hn : n < 500) {j : Nat} (hj : j < 57) {v : Int} (hne : T 438 j ≠ v) : ∃ S1 T1, m_Ma_beginAct S = some S1 ∧ m_Mo_isChanged 1 j v T = some (1, up T1 438 j v) ∧ S1 24 = S 24 ∧ S1 25 = S 25 ∧ S1 26 = S 26 ∧
    ∀ (S2 : MS), FA S1 S2 → S2 1 = S1 1 → EM P S2 → S2 30 3 ≤ S 30 3 + 1000 → S2 24 5 = S 24 5 → S2 26 = S 26 → WV P (fun i => if i = j then v else T 438 i) → (j = 0 → v ≤ 999) → SWn S2 24 (fun i => if i = j then v else T 438 i) → Inv (n + 1) P S2 (up T1 438 j v) := by
  obtain ⟨S1, T1, b1, b2, b3, b4, b5, b6, b7, b8, b9⟩ := both_begin h
  obtain ⟨w1, w2, w3, w4, w5, w6⟩ := h.wd
  obtain ⟨g1, g2⟩ := h.th
  refine ⟨S1, T1, b1, ?_, b4 24 (by decide) (by decide) (by decide), b4 25 (by decide) (by decide) (by decide), b4 26 (by decide) (by decide) (by decide), fun S2 hA h1 hE hst e5 e26 hWV hj0 hSW => ?_⟩
  · rw [e_Mo_isChanged, if_neg n10, if_pos (by omega), Int.toNat_natCast, if_neg hne, b2, Option.bind_some, if_pos (by omega)]
  · have hrow : (up T1 438 j v) 438 = fun i => if i = j then v else T 438 i := by
      funext i
      by_cases e : i = j
      · subst e; rw [up_s, if_pos rfl]
      · rw [up_k e, if_neg e, b9 438 (by decide) (by decide)]
    refine h.act b3 b4 b5 b6 b7 b8 b9 hA ⟨fun c _ c2 _ _ => up_c c2, fun k _ _ _ _ _ _ _ _ _ => by rw [up_c (by decide)]⟩ (h.sd.fr (by rw [h1, b4 1 (by decide) (by decide) (by decide)]) (by rw [up_c (by decide), b8 73 (by decide) (by decide)])) hE hst ?_ (by rw [up_c (by decide), b8 57 (by decide) (by decide)]; omega)
    refine ⟨by rw [hrow]; exact hWV, ?_, by rw [hrow]; exact hSW, ?_, by rw [e5]; omega, by rw [up_c (by decide), b8 56 (by decide) (by decide)]; exact w6⟩
    · rw [hrow]
      show (if 0 = j then v else T 438 0) ≤ 999
      by_cases e : 0 = j
      · rw [if_pos e]; exact hj0 e.symm
      · rw [if_neg e]; exact w2
    · rw [hrow, e5, e26]
      exact w4.lo57 (fun k hk => by rw [if_neg (by omega)])
theorem EM.now {P S S' : MS} (h : EM P S) (e : ∀ c, 30 ≤ c → c < 50 → S' c = S c) : EM P S' := h.fr e
theorem c_setS {F : Int} {S : MS} {o f : Nat} {s : Int} (ho : o < 8) (hf : f < 4) (hF : S 25 f = F) : m_St_setStrength_now o f s S = some (up S 25 f (borL (bandL F (bxorL (shlL 127 (wr (7 * (o : Int)))) (-1))) (shlL s (wr (7 * (o : Int)))))) := by
  rw [e_St_setStrength_now, if_neg (by omega), if_pos (by omega), if_pos (by omega), e_Ma_packed, Option.bind_some]
  dsimp only
  rw [e_Ma_packed, Option.bind_some]
  dsimp only
  rw [if_pos (by omega), Int.toNat_natCast, hF]
theorem op_put (h : Inv n P S T) (hn : n < 500) (a b s : Int) : OK2 n P (m_Ma_put a b s S) (m_Mo_put a b s T) := by
  have hP := h.pln
  have h1 := hP.1
  have h2 := hP.2.1
  obtain ⟨rf1, rf2⟩ := ref2 h (by omega)
  have hno : ∀ x : Option (Int × MS), x = some (0, up S 134 2 (S 134 2 + 1)) → OK2 n P x (Mo_put_35 a b s 0 T) := fun x hx => by
    rw [hx, e_Mo_put_35, if_pos rfl, e_Mo_isChanged, if_pos rfl, Option.bind_some, if_pos (Or.inl rfl), rf2]
    exact ⟨_, _, _, rfl, rfl, h.refuse (by omega) (by decide)⟩
  have hb : (m_Ma_refused 2 S).bind (fun p1 => if p1.1 = 0 ∨ p1.1 = 1 then some (p1.1, p1.2) else none) = some (0, up S 134 2 (S 134 2 + 1)) := by rw [rf1, Option.bind_some, if_pos (Or.inl rfl)]
  rw [e_Ma_put, e_Mo_put]
  by_cases c : 0 ≤ a ∧ a < P 430 4
  · rw [c_isO1 h c rfl, m_isO1 hP h.rp c, Option.bind_some, Option.bind_some]
    dsimp only
    rw [if_neg n10, if_neg n10]
    by_cases d : 0 ≤ b ∧ b < P 430 5
    · rw [c_isF1 h d, m_isF1 hP h.rp d, Option.bind_some, Option.bind_some]
      dsimp only
      rw [if_neg n10, if_neg n10]
      by_cases g : 0 ≤ s ∧ s ≤ 99
      · obtain ⟨o, rfl⟩ : ∃ o : Nat, a = (o : Int) := ⟨a.toNat, by omega⟩
        obtain ⟨f, rfl⟩ : ∃ f : Nat, b = (f : Int) := ⟨b.toNat, by omega⟩
        rw [if_neg (by omega), if_neg (by omega), m_in1 g, Option.bind_some, c_strN h (by omega) (by omega), Option.bind_some]
        dsimp only
        rw [if_neg n10, e_Mo_put_35, if_neg n10, wrN (z := 4 * (o : Int)) (by omega) (by omega), wrN (z := 25 + 4 * (o : Int)) (by omega) (by omega), wrN (z := 25 + 4 * (o : Int) + (f : Int)) (by omega) (by omega), show 25 + 4 * (o : Int) + (f : Int) = ((25 + 4 * o + f : Nat) : Int) by omega]
        by_cases e : T 438 (25 + 4 * o + f) = s
        · rw [if_pos e, hb, e_Mo_isChanged, if_neg n10, if_pos (by omega), Int.toNat_natCast, if_pos e, Option.bind_some, if_pos (Or.inl rfl), rf2]
          exact ⟨_, _, _, rfl, rfl, h.refuse (by omega) (by decide)⟩
        · obtain ⟨S1, T1, b1, b2, b3, b4, b5, b6⟩ := both_change (j := 25 + 4 * o + f) h hn (by omega) e
          obtain ⟨w1, w2, w3, w4, w5, w6⟩ := h.wd
          obtain ⟨s1, s2, s3, s4, s5⟩ := w3
          obtain ⟨F1, F2⟩ := s5 f (by omega)
          obtain ⟨G1, G2⟩ := dg_set (F := S 25 f) (v := s) (o := o) F1.1 F1.2 g.1 (by omega) (by omega) (by omega)
          rw [if_neg e, b1, Option.bind_some, c_setS (o := o) (f := f) (F := S 25 f) (by omega) (by omega) (by rw [b4]), b2, Option.bind_some, Option.bind_some, if_pos (Or.inr rfl)]
          refine ⟨_, _, _, rfl, rfl, b6 _ ⟨fun c _ _ c3 _ _ _ _ _ _ _ => up_c c3, fun k _ => by rw [up_c (by decide)]⟩ (up_c (by decide)) ?_ ?_ ?_ ?_ ?_ ?_ ?_⟩
          · obtain ⟨q1, q2, q3, q4, q5, q6, q7, q8, q9⟩ := b1.symm ▸ both_begin h |>.choose_spec.choose_spec
            sorry
          all_goals sorry
      · by_cases g1 : s < 0
        · rw [if_pos g1, hb, m_in0 g, Option.bind_some, if_pos rfl]
          exact hno _ rfl
        · rw [if_neg g1, if_pos (by omega), hb, m_in0 g, Option.bind_some, if_pos rfl]
          exact hno _ rfl
    · rw [c_isF0 h d, m_isF0 hP h.rp d, Option.bind_some, Option.bind_some, if_pos rfl, if_pos rfl]
      exact hno _ hb
  · rw [c_isO0 h c rfl, m_isO0 hP h.rp c, Option.bind_some, Option.bind_some, if_pos rfl, if_pos rfl]
    exact hno _ hb
end
