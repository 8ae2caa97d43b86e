/-! THE REFERENCE'S DAY -/
/-- the reference's memory tells the plan P -/
def RP (P T : MS) : Prop :=
  (∀ k, 4 ≤ k → k < 8 → T 430 k = P 430 k) ∧ (∀ k, 16 ≤ k → k < 32 → T 431 k = P 431 k) ∧ (∀ k, 16 ≤ k → k < 32 → T 432 k = P 432 k) ∧ (∀ k, 36 ≤ k → k < 72 → T 433 k = P 433 k) ∧
  (∀ k, 3 ≤ k → k < 6 → T 435 k = P 435 k ∧ T 436 k = P 436 k) ∧ ∀ k, 1600 ≤ k → k < 3200 → T 437 k = P 437 k
theorem RP.fr {P T T' : MS} (h : RP P T) (h0 : T' 430 = T 430) (h1 : T' 431 = T 431) (h2 : T' 432 = T 432) (h3 : T' 433 = T 433) (h5 : T' 435 = T 435) (h6 : T' 436 = T 436) (h7 : T' 437 = T 437) : RP P T' := by
  unfold RP at h ⊢
  rw [h0, h1, h2, h3, h5, h6, h7]
  exact h
/-- what a law's telling may change -/
def FL (T T' : MS) : Prop := (∀ c, c ≠ 401 → c ≠ 475 → T' c = T c) ∧ ∀ k, k ≠ 48 → k ≠ 51 → k ≠ 52 → k ≠ 53 → k ≠ 54 → k ≠ 55 → k ≠ 103 → T' 401 k = T 401 k
theorem FL.rf (T : MS) : FL T T := ⟨fun _ _ _ => rfl, fun _ _ _ _ _ _ _ _ => rfl⟩
theorem FL.tr {T T' T'' : MS} (h : FL T T') (g : FL T' T'') : FL T T'' := ⟨fun c h1 h2 => (g.1 c h1 h2).trans (h.1 c h1 h2), fun k a1 a2 a3 a4 a5 a6 a7 => (g.2 k a1 a2 a3 a4 a5 a6 a7).trans (h.2 k a1 a2 a3 a4 a5 a6 a7)⟩
theorem FQ.fl {T T' : MS} (h : FQ T T') : FL T T' := ⟨h.1, fun k _ _ _ _ _ _ a7 => h.2 k a7⟩
theorem FL_u {T : MS} {k : Nat} {z : Int} (hk : k = 48 ∨ k = 51 ∨ k = 52 ∨ k = 53 ∨ k = 54 ∨ k = 55 ∨ k = 103) : FL T (up T 401 k z) := ⟨fun c h1 _ => up_c h1, fun j a1 a2 a3 a4 a5 a6 a7 => up_k (by omega)⟩
theorem RP.fl {P T T' : MS} (h : RP P T) (f : FL T T') : RP P T' := h.fr (f.1 430 (by decide) (by decide)) (f.1 431 (by decide) (by decide)) (f.1 432 (by decide) (by decide)) (f.1 433 (by decide) (by decide)) (f.1 435 (by decide) (by decide)) (f.1 436 (by decide) (by decide)) (f.1 437 (by decide) (by decide))
section
variable {P T : MS}
theorem m_oMany : m_Mo_officerMany T = some (T 430 4, T) := e_Mo_officerMany T
theorem m_isTold {w : Nat} (hR : RP P T) (hw : w < 3) : m_Mo_isTold w T = some ((if P 435 (3 + w) = -1 then 0 else 1), T) := by
  rw [e_Mo_isTold, wrN (by omega) (by omega), if_pos (by omega), show (3 + (w : Int)).toNat = 3 + w by omega, (hR.2.2.2.2.1 (3 + w) (by omega) (by omega)).1]
  split <;> rfl
theorem lawC_told {w : Nat} (h : P 435 (3 + w) ≠ -1) : lawC P w = seg (P 437) (1600 + (P 435 (3 + w)).toNat) ((P 436 (3 + w)).toNat - (P 435 (3 + w)).toNat) := by unfold lawC; rw [if_neg h]
/-- a told law -/
theorem m_codes (hP : PLN P) (hR : RP P T) {w o : Nat} (hw : w < 3) (ho : o < 8) (hn : P 435 (3 + w) ≠ -1) {pv : Nat → Int} (hpv : ∀ j : Nat, j < 8 → alw w j = true → mpv (up (up (up T 401 51 o) 401 48 w) 401 103 0) o j = pv j) (hp : pvok w (mpv (up (up (up T 401 51 o) 401 48 w) 401 103 0) o)) :
    ∃ T', m_Mo_codesTell w o T = some (evC pv z0 z0 (lawC P w), T') ∧ FL T T' := by
  have hb := hP.2.2.2.2.2.2.2 w hw
  have hty := hP.2.2.2.2.2.2.1 w hw
  obtain ⟨r1, r2⟩ := hR.2.2.2.2.1 (3 + w) (by omega) (by omega)
  rcases hb with hb | ⟨b1, b2, b3⟩
  · exact absurd hb hn
  generalize hT0 : up (up (up T 401 51 o) 401 48 w) 401 103 0 = T0 at hpv hp
  have hF0 : FL T T0 := by rw [← hT0]; exact (FL_u (by omega)).tr ((FL_u (by omega)).tr (FL_u (by omega)))
  have hseg : seg (T0 437) (1600 + (P 435 (3 + w)).toNat) ((P 436 (3 + w)).toNat - (P 435 (3 + w)).toNat) = lawC P w := by
    rw [lawC_told hn, hF0.1 437 (by decide) (by decide)]
    exact seg_congr (fun k h1 h2 => hR.2.2.2.2.2 k (by omega) (by omega))
  obtain ⟨T', k', q1, q2, q3⟩ := m_cT (w := w) (o := o) (q := w) (by omega) (by omega) ho ((P 436 (3 + w)).toNat - (P 435 (3 + w)).toNat) (P 435 (3 + w)).toNat T0 0 [] [] [decide (w = 2)] (by rw [hF0.1 436 (by decide) (by decide), Int.toNat_natCast, r2]; omega) (by omega) (by rw [← hT0, up_s]; rfl) rfl trivial (by decide) (by rw [← hT0, up_k (by decide), up_k (by decide), up_s]) hp (by rw [hseg]; exact hty)
  rw [hseg] at q2
  obtain ⟨g1, g2⟩ := evC_of (fl := z0) (st := z0) hp z0_ok z0_ok hty
  have q2' : stk (T' 475) k' = evS (mpv T0 o) z0 z0 (lawC P w) [] := q2
  rw [g1] at q2'
  obtain ⟨n, rfl, h3, h4⟩ := stk_cons q2'
  cases n with
  | succ n => cases h4
  | zero =>
    refine ⟨T', ?_, hF0.tr q3.fl⟩
    have hev : evC pv z0 z0 (lawC P w) = evC (mpv T0 o) z0 z0 (lawC P w) := by
      unfold evC
      rw [evS_congr (q := w) (pv' := mpv T0 o) (fl' := z0) (st' := z0) (fun k h1 h2 => (hpv k h1 h2).symm) (fun _ => ⟨rfl, rfl⟩) hty rfl]
    rw [e_Mo_codesTell, wrN (z := 3 + (w : Int)) (by omega) (by omega), if_pos (by omega), show (3 + (w : Int)).toNat = 3 + w by omega, hT0, r1, show P 435 (3 + w) = (((P 435 (3 + w)).toNat : Nat) : Int) by omega, q1, hev, h3]
theorem m_cut (v : Int) (hv : -2147483648 ≤ v ∧ v < 2147483648) : m_Mo_cut v T = some (cutF v, T) := by
  rw [e_Mo_cut]
  unfold cutF
  by_cases h1 : v < 0
  · rw [if_pos (lcp_neg.mpr h1), if_pos h1]
  · rw [if_neg (fun h => h1 (lcp_neg.mp h)), if_neg h1]
    by_cases h2 : 99 < v
    · rw [if_pos (lcp_pos.mpr h2), if_pos h2]
    · rw [if_neg (fun h => h2 (lcp_pos.mp h)), if_neg h2, wrN hv.1 hv.2]
theorem m_inside {k : Nat} (hk : k < 12) : m_Mo_isInside k T = some ((if T 438 (1 + 2 * k) = 1 then 1 else 0), T) := by
  rw [e_Mo_isInside, wrN (z := 2 * (k : Int)) (by omega) (by omega), wrN (by omega) (by omega), if_pos (by omega), show (1 + 2 * (k : Int)).toNat = 1 + 2 * k by omega]
  split <;> rfl
theorem m_turned {k : Nat} (hk : k < 12) (ht : T 438 (2 + 2 * k) = 0 ∨ T 438 (2 + 2 * k) = 1) : m_Mo_isTurned k T = some (T 438 (2 + 2 * k), T) := by
  rw [e_Mo_isTurned, wrN (z := 2 * (k : Int)) (by omega) (by omega), wrN (by omega) (by omega), if_pos (by omega), show (2 + 2 * (k : Int)).toNat = 2 + 2 * k by omega]
  rcases ht with h | h
  · rw [h, if_neg (by decide)]
  · rw [h, if_pos rfl]
theorem m_to (hR : RP P T) {k : Nat} (hk : k < 12) (ht : T 438 (2 + 2 * k) = 0 ∨ T 438 (2 + 2 * k) = 1) : m_Mo_toOf k T = some (toC P k (T 438 (2 + 2 * k)), T) := by
  rw [e_Mo_toOf, m_turned hk ht, Option.bind_some]
  dsimp only
  rw [wrN (z := 3 * (k : Int)) (by omega) (by omega), wrN (z := 36 + 3 * (k : Int)) (by omega) (by omega), wrN (z := 36 + 3 * (k : Int) + 1) (by omega) (by omega), wrN (z := 36 + 3 * (k : Int) + 0) (by omega) (by omega), show (36 + 3 * (k : Int) + 1).toNat = 37 + 3 * k by omega, show (36 + 3 * (k : Int) + 0).toNat = 36 + 3 * k by omega, hR.2.2.2.1 (37 + 3 * k) (by omega) (by omega), hR.2.2.2.1 (36 + 3 * k) (by omega) (by omega)]
  unfold toC
  rcases ht with h | h
  · rw [h, if_pos rfl, if_pos (by omega), if_pos rfl]
  · rw [h, if_neg (by decide), if_pos (by omega), if_neg (by decide)]
theorem m_from (hR : RP P T) {k : Nat} (hk : k < 12) (ht : T 438 (2 + 2 * k) = 0 ∨ T 438 (2 + 2 * k) = 1) : m_Mo_fromOf k T = some (frC P k (T 438 (2 + 2 * k)), T) := by
  rw [e_Mo_fromOf, m_turned hk ht, Option.bind_some]
  dsimp only
  rw [wrN (z := 3 * (k : Int)) (by omega) (by omega), wrN (z := 36 + 3 * (k : Int)) (by omega) (by omega), wrN (z := 36 + 3 * (k : Int) + 1) (by omega) (by omega), wrN (z := 36 + 3 * (k : Int) + 0) (by omega) (by omega), show (36 + 3 * (k : Int) + 1).toNat = 37 + 3 * k by omega, show (36 + 3 * (k : Int) + 0).toNat = 36 + 3 * k by omega, hR.2.2.2.1 (37 + 3 * k) (by omega) (by omega), hR.2.2.2.1 (36 + 3 * k) (by omega) (by omega)]
  unfold frC
  rcases ht with h | h
  · rw [h, if_pos rfl, if_pos (by omega), if_pos rfl]
  · rw [h, if_neg (by decide), if_pos (by omega), if_neg (by decide)]
theorem m_str {o f : Nat} (ho : o < 8) (hf : f < 4) : m_Mo_strengthOf o f T = some (T 438 (25 + 4 * o + f), T) := by
  rw [e_Mo_strengthOf, wrN (z := 4 * (o : Int)) (by omega) (by omega), wrN (z := 25 + 4 * (o : Int)) (by omega) (by omega), wrN (by omega) (by omega), if_pos (by omega), show (25 + 4 * (o : Int) + (f : Int)).toNat = 25 + 4 * o + f by omega]
/-- how much comes through -/
theorem m_through (hP : PLN P) (hR : RP P T) (hW : WV P (T 438)) {k : Nat} (hk : k < nCa P) {s : Int} (hs : 0 ≤ s ∧ s ≤ 99) :
    ∃ T', m_Mo_through k s T = some ((if T 438 (1 + 2 * k) = 1 ∧ s ≠ 0 then passV P (T 438 0) k (T 438 (2 + 2 * k)) s else 0), T') ∧ FL T T' := by
  have hk12 : k < 12 := by have := nCa_le hP; omega
  have hw0 := hW.1
  obtain ⟨i1, i2⟩ := hW.2.1 k hk12
  rw [e_Mo_through, m_inside hk12, Option.bind_some]
  dsimp only
  by_cases c1 : T 438 (1 + 2 * k) = 1
  · rw [if_pos c1, if_neg (by decide)]
    by_cases c2 : s = 0
    · rw [if_pos c2, if_neg (fun h => h.2 c2)]; exact ⟨T, rfl, FL.rf T⟩
    · rw [if_neg c2, wrN (z := 3 * (k : Int)) (by omega) (by omega), wrN (z := 38 + 3 * (k : Int)) (by omega) (by omega), if_pos (by omega), if_pos (show T 438 (1 + 2 * k) = 1 ∧ s ≠ 0 from ⟨c1, c2⟩), show (38 + 3 * (k : Int)).toNat = 38 + 3 * k by omega, hR.2.2.2.1 (38 + 3 * k) (by omega) (by omega)]
      generalize hT1 : up (up T 401 52 s) 401 53 (P 433 (38 + 3 * k)) = T1
      have hF1 : FL T T1 := by rw [← hT1]; exact (FL_u (by omega)).tr (FL_u (by omega))
      have hR1 := hR.fl hF1
      have h438 : T1 438 = T 438 := hF1.1 438 (by decide) (by decide)
      obtain ⟨hto, -⟩ := toC_b hP hk (T 438 (2 + 2 * k))
      have hO8 : P 430 4 ≤ 8 := hP.1.2
      have hsh := (hP.2.2.2.2.2.1 k hk).2.2.1
      have e53 : T1 401 53 = P 433 (38 + 3 * k) := by rw [← hT1, up_s]
      have e52 : T1 401 52 = s := by rw [← hT1, up_k (by decide), up_s]
      have hT : m_Mo_isTold 0 T1 = some ((if P 435 (3 + 0) = -1 then 0 else 1), T1) := m_isTold (w := 0) hR1 (by decide)
      rw [hT, Option.bind_some]
      dsimp only
      by_cases c3 : P 435 (3 + 0) = -1
      · rw [if_pos c3, if_pos rfl, e53, wrN (by omega) (by omega), m_cut _ (by omega), Option.bind_some]
        refine ⟨T1, ?_, hF1⟩
        have : passV P (T 438 0) k (T 438 (2 + 2 * k)) s = cutF (s - P 433 (38 + 3 * k)) := by
          unfold passV lawC
          rw [if_pos c3]
          show cutF (hld (s - P 433 (38 + 3 * k))) = _
          unfold hld
          rw [if_neg (by omega), if_neg (by omega)]
        rw [this]
      · rw [if_neg c3, if_neg (by decide), m_to hR1 hk12 (by rw [h438]; exact i2), h438, Option.bind_some]
        dsimp only
        obtain ⟨t, ht⟩ : ∃ t : Nat, toC P k (T 438 (2 + 2 * k)) = (t : Int) := ⟨(toC P k (T 438 (2 + 2 * k))).toNat, by omega⟩
        rw [ht]
        have hpvq : ∀ j : Nat, j < 8 → alw (0 : Nat) j = true → mpv (up (up (up T1 401 51 t) 401 48 (0 : Nat)) 401 103 0) t j = pvP P (T 438 0) s k t j := by
          intro j hj ha
          have hj5 : j < 5 := by
            unfold alw at ha
            simp at ha
            omega
          have e432 : (up (up (up T1 401 51 t) 401 48 (0 : Nat)) 401 103 0) 432 = T 432 := by rw [up_c (by decide), up_c (by decide), up_c (by decide), hF1.1 432 (by decide) (by decide)]
          have e438 : (up (up (up T1 401 51 t) 401 48 (0 : Nat)) 401 103 0) 438 = T 438 := by rw [up_c (by decide), up_c (by decide), up_c (by decide), h438]
          unfold mpv pvP
          rw [e432, e438]
          rcases (show j = 0 ∨ j = 1 ∨ j = 2 ∨ j = 3 ∨ j = 4 by omega) with rfl | rfl | rfl | rfl | rfl
          · show T 432 _ = P 432 _; exact hR.2.2.1 _ (by omega) (by omega)
          · show T 432 _ = P 432 _; exact hR.2.2.1 _ (by omega) (by omega)
          · rfl
          · show (up (up (up T1 401 51 t) 401 48 (0 : Nat)) 401 103 0) 401 52 = s
            rw [up_k (by decide), up_k (by decide), up_k (by decide), e52]
          · show (up (up (up T1 401 51 t) 401 48 (0 : Nat)) 401 103 0) 401 53 = P 433 (38 + 3 * k)
            rw [up_k (by decide), up_k (by decide), up_k (by decide), e53]
        have hpo := pvP_ok hP (d := T 438 0) (s := s) (k := k) (o := t) hw0 hs hk (by omega)
        obtain ⟨T', q1, q2⟩ := m_codes (w := 0) (o := t) hP hR1 (by decide) (by omega) c3 hpvq (fun j hj ha => by rw [hpvq j hj ha]; exact hpo j hj ha)
        have q1 : m_Mo_codesTell 0 t T1 = _ := q1
        obtain ⟨-, hvt⟩ := evC_of (fl := z0) (st := z0) hpo z0_ok z0_ok (hP.2.2.2.2.2.2.1 0 (by decide))
        have hvt : -1000000 ≤ evC (pvP P (T 438 0) s k t) z0 z0 (lawC P 0) ∧ evC (pvP P (T 438 0) s k t) z0 z0 (lawC P 0) ≤ 1000000 := hvt
        rw [q1, Option.bind_some]
        dsimp only
        rw [m_cut _ (by omega), Option.bind_some]
        refine ⟨T', ?_, hF1.tr q2⟩
        unfold passV
        rw [ht, Int.toNat_natCast]
  · rw [if_neg c1, if_pos rfl, if_neg (fun h => c1 h.1)]
    exact ⟨T, rfl, FL.rf T⟩
/-- the values of an officer, when laws of staying, of acting are told -/
theorem mpv_F {T1 : MS} (hR : RP P T1) {w o : Nat} (ho : o < 8) (hw : w = 1 ∨ w = 2) {s f d : Int} (hd : T1 438 0 = d) (hs : T1 401 54 = s) (hf : w = 2 → T1 401 55 = f) : ∀ j : Nat, j < 8 → alw w j = true → mpv (up (up (up T1 401 51 o) 401 48 w) 401 103 0) o j = pvF P d s f o j := by
  intro j hj ha
  have hj5 : j < 3 ∨ j = 5 ∨ (w = 2 ∧ j = 6) := by
    unfold alw at ha
    rcases hw with rfl | rfl <;> simp at ha <;> omega
  have e432 : (up (up (up T1 401 51 o) 401 48 w) 401 103 0) 432 = T1 432 := by rw [up_c (by decide), up_c (by decide), up_c (by decide)]
  have e438 : (up (up (up T1 401 51 o) 401 48 w) 401 103 0) 438 = T1 438 := by rw [up_c (by decide), up_c (by decide), up_c (by decide)]
  unfold mpv pvF
  rw [e432, e438]
  rcases (show j = 0 ∨ j = 1 ∨ j = 2 ∨ j = 5 ∨ (w = 2 ∧ j = 6) by omega) with rfl | rfl | rfl | rfl | ⟨hw2, rfl⟩
  · show T1 432 _ = P 432 _; exact hR.2.2.1 _ (by omega) (by omega)
  · show T1 432 _ = P 432 _; exact hR.2.2.1 _ (by omega) (by omega)
  · exact hd
  · show (up (up (up T1 401 51 o) 401 48 w) 401 103 0) 401 54 = s
    rw [up_k (by decide), up_k (by decide), up_k (by decide), hs]
  · show (up (up (up T1 401 51 o) 401 48 w) 401 103 0) 401 55 = f
    rw [up_k (by decide), up_k (by decide), up_k (by decide), hf hw2]
theorem m_stays (hP : PLN P) (hR : RP P T) (hw0 : 0 ≤ T 438 0 ∧ T 438 0 ≤ 2000) {o : Nat} (ho : o < 8) {s : Int} (hs : 0 ≤ s ∧ s ≤ 99) :
    ∃ T', m_Mo_staysOf o s T = some ((if 0 < s then fadeV P (T 438 0) s o else 0), T') ∧ FL T T' := by
  rw [e_Mo_staysOf]
  by_cases c1 : s = 0
  · rw [if_pos c1, if_neg (by omega)]; exact ⟨T, rfl, FL.rf T⟩
  · have hT : m_Mo_isTold 1 T = some ((if P 435 (3 + 1) = -1 then 0 else 1), T) := m_isTold (w := 1) hR (by decide)
    rw [if_neg c1, if_pos (by omega), hT, Option.bind_some]
    dsimp only
    by_cases c3 : P 435 (3 + 1) = -1
    · rw [if_pos c3, if_pos rfl]
      refine ⟨T, ?_, FL.rf T⟩
      have : fadeV P (T 438 0) s o = 0 := by unfold fadeV lawC; rw [if_pos c3]; rfl
      rw [this]
    · rw [if_neg c3, if_neg (by decide)]
      generalize hT1 : up T 401 54 s = T1
      have hF1 : FL T T1 := by rw [← hT1]; exact FL_u (by omega)
      have hR1 := hR.fl hF1
      have h438 : T1 438 = T 438 := hF1.1 438 (by decide) (by decide)
      have hpvq := mpv_F (w := 1) (o := o) (d := T 438 0) (s := s) (f := 0) hR1 ho (Or.inl rfl) (by rw [h438]) (by rw [← hT1, up_s]) (fun h => absurd h (by decide))
      have hpo := pvF_ok (q := (1 : Nat)) hP (d := T 438 0) (s := s) (f := 0) (o := o) hw0 hs (by decide) ho
      obtain ⟨T', q1, q2⟩ := m_codes (w := 1) (o := o) hP hR1 (by decide) ho c3 hpvq (fun j hj ha => by rw [hpvq j hj ha]; exact hpo j hj ha)
      have q1 : m_Mo_codesTell 1 o T1 = _ := q1
      obtain ⟨-, hvt⟩ := evC_of (fl := z0) (st := z0) hpo z0_ok z0_ok (hP.2.2.2.2.2.2.1 1 (by decide))
      have hvt : -1000000 ≤ evC (pvF P (T 438 0) s 0 o) z0 z0 (lawC P 1) ∧ evC (pvF P (T 438 0) s 0 o) z0 z0 (lawC P 1) ≤ 1000000 := hvt
      rw [q1, Option.bind_some]
      dsimp only
      rw [m_cut _ (by omega), Option.bind_some]
      exact ⟨T', rfl, hF1.tr q2⟩
/-- whether one is acted on -/
def actB (P : MS) (w : Nat → Int) (o f : Nat) : Prop := 0 < w (25 + 4 * o + f) ∧ actV P (w 0) (w (25 + 4 * o + f)) f o ≠ 0
theorem actV_01 (hP : PLN P) {d s f : Int} {o : Nat} (hd : 0 ≤ d ∧ d ≤ 2000) (hs : 0 ≤ s ∧ s ≤ 99) (hf : 0 ≤ f ∧ f < 4) (ho : o < 8) : actV P d s f o = 0 ∨ actV P d s f o = 1 :=
  (evC_of (fl := z0) (st := z0) (pvF_ok (q := (2 : Nat)) hP hd hs hf ho) z0_ok z0_ok (hP.2.2.2.2.2.2.1 2 (by decide))).2
theorem m_acted (hP : PLN P) (hR : RP P T) (hW : WV P (T 438)) {o f : Nat} (ho : o < 8) (hf : f < 4) :
    ∃ z T', m_Mo_isActed o f T = some (z, T') ∧ (z = 0 ∨ z = 1) ∧ (z = 0 ↔ ¬ actB P (T 438) o f) ∧ FL T T' := by
  have hs := hW.2.2.1 (25 + 4 * o + f) (by omega) (by omega)
  rw [e_Mo_isActed, m_str ho hf, Option.bind_some]
  dsimp only
  generalize hse : T 438 (25 + 4 * o + f) = s at hs
  have hact : actB P (T 438) o f ↔ (0 < s ∧ actV P (T 438 0) s f o ≠ 0) := by unfold actB; rw [hse]
  rw [hact]
  by_cases c1 : s = 0
  · rw [if_pos c1]; exact ⟨0, T, rfl, Or.inl rfl, ⟨fun _ h => by omega, fun _ => rfl⟩, FL.rf T⟩
  · have hT : m_Mo_isTold 2 T = some ((if P 435 (3 + 2) = -1 then 0 else 1), T) := m_isTold (w := 2) hR (by decide)
    rw [if_neg c1, hT, Option.bind_some]
    dsimp only
    by_cases c3 : P 435 (3 + 2) = -1
    · rw [if_pos c3, if_pos rfl]
      have : actV P (T 438 0) s f o = if 50 < s then 1 else 0 := by
        unfold actV lawC
        rw [if_pos c3]
        rfl
      rw [this]
      by_cases c4 : 50 < s
      · rw [if_pos c4, if_pos c4]; exact ⟨1, T, rfl, Or.inr rfl, ⟨fun h => absurd h (by decide), fun h => absurd ⟨by omega, by decide⟩ h⟩, FL.rf T⟩
      · rw [if_neg c4, if_neg c4]; exact ⟨0, T, rfl, Or.inl rfl, ⟨fun _ h => h.2 rfl, fun _ => rfl⟩, FL.rf T⟩
    · rw [if_neg c3, if_neg (by decide)]
      generalize hT1 : up (up T 401 54 s) 401 55 (f : Int) = T1
      have hF1 : FL T T1 := by rw [← hT1]; exact (FL_u (by omega)).tr (FL_u (by omega))
      have hR1 := hR.fl hF1
      have h438 : T1 438 = T 438 := hF1.1 438 (by decide) (by decide)
      have hpvq := mpv_F (w := 2) (o := o) (d := T 438 0) (s := s) (f := f) hR1 ho (Or.inr rfl) (by rw [h438]) (by rw [← hT1, up_k (by decide), up_s]) (fun _ => by rw [← hT1, up_s])
      have hpo := pvF_ok (q := (2 : Nat)) hP (d := T 438 0) (s := s) (f := f) (o := o) hW.1 hs (by omega) ho
      obtain ⟨T', q1, q2⟩ := m_codes (w := 2) (o := o) hP hR1 (by decide) ho c3 hpvq (fun j hj ha => by rw [hpvq j hj ha]; exact hpo j hj ha)
      have q1 : m_Mo_codesTell 2 o T1 = _ := q1
      have h01 := actV_01 hP (d := T 438 0) (s := s) (f := f) (o := o) hW.1 hs (by omega) ho
      rw [q1, Option.bind_some]
      dsimp only
      have ha : evC (pvF P (T 438 0) s f o) z0 z0 (lawC P 2) = actV P (T 438 0) s f o := rfl
      rw [ha]
      rcases h01 with h | h
      · rw [h, if_neg (by rw [lcp_0]; decide)]
        exact ⟨0, T', rfl, Or.inl rfl, ⟨fun _ g => g.2 rfl, fun _ => rfl⟩, hF1.tr q2⟩
      · rw [h, if_pos (by rw [lcp_0])]
        exact ⟨1, T', rfl, Or.inr rfl, ⟨fun g => absurd g (by decide), fun g => absurd ⟨by omega, by decide⟩ g⟩, hF1.tr q2⟩
end
