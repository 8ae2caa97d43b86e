theorem shr_7 {a : Int} (h0 : 0 ≤ a) (h1 : a < 2147483648) : shr a 7 = a / 128 := by
  rw [shr_div (by omega) h1 (by decide) (by decide), show ((2 ^ (7 : Int).toNat : Nat) : Int) = 128 from rfl]
/-- the place of an answer, kept from arithmetic -/
def JXp (j k : Nat) (b s : Int) : Prop := j / 200 = k ∧ ((j / 100 % 2 : Nat) : Int) = b ∧ ((j % 100 : Nat) : Int) = s
theorem jx_p {k : Nat} (hk : k < 12) {b s : Int} (hb : b = 0 ∨ b = 1) (hs : 0 ≤ s ∧ s ≤ 99) : ∃ j : Nat, JXp j k b s ∧ j < 2400 ∧ wr ((wr ((wr ((wr (2 * (k : Int))) + b)) * 100)) + s) = (j : Int) := by
  have e : wr ((wr ((wr ((wr (2 * (k : Int))) + b)) * 100)) + s) = (2 * (k : Int) + b) * 100 + s := by
    rw [wrN (z := 2 * (k : Int)) (by omega) (by omega), wrN (z := 2 * (k : Int) + b) (by omega) (by omega), wrN (z := (2 * (k : Int) + b) * 100) (by omega) (by omega), wrN (by omega) (by omega)]
  rw [e]
  obtain ⟨n, rfl⟩ : ∃ n : Nat, s = (n : Int) := ⟨s.toNat, by omega⟩
  rcases hb with rfl | rfl
  · refine ⟨2 * k * 100 + n, ⟨by omega, by omega, by omega⟩, by omega, by omega⟩
  · refine ⟨(2 * k + 1) * 100 + n, ⟨by omega, by omega, by omega⟩, by omega, by omega⟩
def JXf (j o : Nat) (s : Int) : Prop := j / 100 = o ∧ ((j % 100 : Nat) : Int) = s
theorem jx_f {o : Nat} (ho : o < 8) {s : Int} (hs : 0 ≤ s ∧ s ≤ 99) : ∃ j : Nat, JXf j o s ∧ j < 800 ∧ wr ((wr ((o : Int) * 100)) + s) = (j : Int) := by
  obtain ⟨n, rfl⟩ : ∃ n : Nat, s = (n : Int) := ⟨s.toNat, by omega⟩
  refine ⟨o * 100 + n, ⟨by omega, by omega⟩, by omega, ?_⟩
  rw [wrN (z := (o : Int) * 100) (by omega) (by omega), wrN (by omega) (by omega)]
  omega
set_option maxHeartbeats 100000 in
theorem c_passed {P S : MS} (hP : PLN P) (hC : CP P S) (hK : CK P S) (hV : CV S) {k : Nat} (hk : k < nCa P) {b s d : Int} (hb : b = 0 ∨ b = 1) (hs : 0 ≤ s ∧ s ≤ 99) (hd : S 30 4 = d) (hd2 : 0 ≤ d ∧ d ≤ 2000) :
    ∃ S', m_En_passed k b s S = some (passV P d k b s, S') ∧ FS S S' ∧ CK P S' := by
  have hk12 : k < 12 := by have := nCa_le hP; omega
  obtain ⟨j, hJ, hjl, hw⟩ := jx_p hk12 hb hs
  obtain ⟨k1, k2, k3⟩ := hK
  obtain ⟨g1, g2, g3⟩ := k2 j hjl
  have hlt : S 48 j < 2147483648 := by omega
  rw [e_En_passed, hw, if_neg (by omega), if_pos (by omega), if_pos (by omega), Int.toNat_natCast, shr_7 (by omega) hlt]
  by_cases hc : S 48 j / 128 = S 30 3
  · rw [if_pos hc, if_pos (by omega), band_127]
    have := g3 hc (by rw [hJ.1]; exact hk) d hd2.1 hd2.2 (Or.inr hd.symm)
    rw [hJ.1, hJ.2.1, hJ.2.2] at this
    rw [this]
    exact ⟨S, rfl, FS.rf S, k1, k2, k3⟩
  · rw [if_neg hc]
    have hsh : shl b (k : Int) = b * ((2 ^ k : Nat) : Int) := by
      have hp : (2 : Nat) ^ k ≤ 2 ^ 11 := Nat.pow_le_pow_right (by decide) (by omega)
      rw [shl_mul (by omega) (by omega) (by omega) (by rw [Int.toNat_natCast]; rcases hb with rfl | rfl <;> simp only [Int.toNat_zero, Int.toNat_one] <;> omega), Int.toNat_natCast]
    have hp : (2 : Nat) ^ k ≤ 2 ^ 11 := Nat.pow_le_pow_right (by decide) (by omega)
    have hbt : bt (shl b (k : Int)) k = b := by
      rw [hsh]
      rcases hb with rfl | rfl
      · rw [Int.zero_mul]; unfold bt; simp
      · rw [Int.one_mul, bt_pow, if_pos rfl]
    have hto := (toC_b hP hk b).1
    have hO := nOf_le hP
    have hO8 : P 430 4 ≤ 8 := hP.1.2
    have hpI : 0 ≤ ((2 ^ k : Nat) : Int) ∧ ((2 ^ k : Nat) : Int) ≤ 2048 := ⟨Int.natCast_nonneg _, Int.ofNat_le.mpr hp⟩
    rw [c_takerP hC hk hk12 (by rw [hsh]; generalize ((2 ^ k : Nat) : Int) = x at hpI ⊢; rcases hb with rfl | rfl <;> omega), hbt, Option.bind_some]
    obtain ⟨t, ht⟩ : ∃ t : Nat, toC P k b = (t : Int) := ⟨(toC P k b).toNat, by omega⟩
    have htO : t < nOf P := by unfold nOf; omega
    obtain ⟨f1, f2⟩ := hC.2.2.2.2.1 t htO
    obtain ⟨f3, f4, f5⟩ := hC.2.2.2.2.2.1 k hk
    dsimp only
    rw [ht, if_pos (by omega), c_set (by omega), Option.bind_some, if_pos (by omega), c_set (by omega), Option.bind_some, c_set (by omega), Option.bind_some, c_set (by omega), Option.bind_some, if_pos (by omega), c_set (by omega), Option.bind_some]
    simp only [Int.toNat_natCast, show (-1 - (-1 : Int)).toNat = 0 from rfl, show (-1 - (-2 : Int)).toNat = 1 from rfl, show (-1 - (-3 : Int)).toNat = 2 from rfl, show (-1 - (-4 : Int)).toNat = 3 from rfl, show (-1 - (-5 : Int)).toNat = 4 from rfl]
    simp only [up_c (show (33 : Nat) ≠ 42 by decide), up_c (show (30 : Nat) ≠ 42 by decide), up_c (show (38 : Nat) ≠ 42 by decide), f1, f2, f5, hd]
    generalize hS6 : up (up (up (up (up S 42 0 (P 432 (17 + 2 * t))) 42 1 (P 432 (16 + 2 * t))) 42 2 d) 42 3 s) 42 4 (P 433 (38 + 3 * k)) = S6
    have hF : ∀ c, c ≠ 42 → S6 c = S c := fun c hc => by rw [← hS6, up_c hc, up_c hc, up_c hc, up_c hc, up_c hc]
    have hC6 : CP P S6 := hC.fr (hF 31 (by decide)) (hF 33 (by decide)) (hF 34 (by decide)) (hF 36 (by decide)) (hF 37 (by decide)) (hF 38 (by decide)) (hF 40 (by decide)) (hF 41 (by decide)) (hF 46 (by decide)) (hF 47 (by decide))
    have hV6 : CV S6 := by unfold CV; rw [hF 43 (by decide), hF 44 (by decide)]; exact hV
    have hpv : ∀ i : Nat, i < 8 → alw (0 : Nat) i = true → S6 42 i = pvP P d s k t i := by
      intro i hi ha
      have hi5 : i < 5 := by
        unfold alw at ha
        simp at ha
        omega
      rw [← hS6]
      rcases (show i = 0 ∨ i = 1 ∨ i = 2 ∨ i = 3 ∨ i = 4 by omega) with rfl | rfl | rfl | rfl | rfl <;> rfl
    obtain ⟨S7, r1, r2⟩ := c_law hP hC6 (w := 0) (by decide) (pvP_ok hP hd2 hs hk (by omega)) hpv hV6.ok
    rw [r1, Option.bind_some]
    dsimp only
    rw [c_cut, Option.bind_some]
    dsimp only
    rw [if_pos (by omega), if_pos (by omega), up_s]
    have hval : cutF (evC (pvP P d s k t) z0 z0 (lawC P 0)) = passV P d k b s := by unfold passV; rw [ht, Int.toNat_natCast]
    rw [hval]
    have hvb : 0 ≤ passV P d k b s ∧ passV P d k b s ≤ 99 := by rw [← hval]; exact cutF_b _
    rw [stamp_or (by omega) (by omega) (by omega) (by omega), (stamp_shr (by omega) (by omega) (by omega) (by omega)).2]
    refine ⟨_, rfl, fun c a1 a2 a3 a4 => by rw [up_c a3, r2 c a2, hF c a1], ?_, ?_, ?_⟩
    · rw [up_c (by decide), r2 30 (by decide), hF 30 (by decide)]; exact k1
    · intro i hi
      rw [up_c (c' := 30) (by decide), up_c (c' := 31) (by decide), r2 30 (by decide), r2 31 (by decide), hF 30 (by decide), hF 31 (by decide)]
      by_cases e : i = j
      · subst e
        rw [up_s]
        refine ⟨by omega, by omega, fun _ _ d' q1 q2 hdd => ?_⟩
        rw [hJ.1, hJ.2.1, hJ.2.2]
        have : passV P d' k b s = passV P d k b s := by
          rcases hdd with h | h
          · exact pass_day hC h _ _ _ _ _
          · rw [h, hd]
        rw [this]
        omega
      · rw [up_k e, r2 48 (by decide), hF 48 (by decide)]
        exact k2 i hi
    · intro i hi
      rw [up_c (c' := 49) (by decide), up_c (c' := 30) (by decide), up_c (c' := 31) (by decide), r2 30 (by decide), r2 31 (by decide), r2 49 (by decide), hF 30 (by decide), hF 31 (by decide), hF 49 (by decide)]
      exact k3 i hi
set_option maxHeartbeats 100000 in
theorem c_faded {P S : MS} (hP : PLN P) (hC : CP P S) (hK : CK P S) (hV : CV S) {o : Nat} (ho : o < nOf P) {s d : Int} (hs : 0 ≤ s ∧ s ≤ 99) (hd : S 30 4 = d) (hd2 : 0 ≤ d ∧ d ≤ 2000) :
    ∃ S', m_En_faded o s S = some (fadeV P d s o, S') ∧ FS S S' ∧ CK P S' := by
  have ho8 : o < 8 := by have := nOf_le hP; omega
  obtain ⟨j, hJ, hjl, hw⟩ := jx_f ho8 hs
  obtain ⟨k1, k2, k3⟩ := hK
  obtain ⟨g1, g2, g3⟩ := k3 j hjl
  have hlt : S 49 j < 2147483648 := by omega
  rw [e_En_faded, hw, if_neg (by omega), if_pos (by omega), if_pos (by omega), Int.toNat_natCast, shr_7 (by omega) hlt]
  by_cases hc : S 49 j / 128 = S 30 3
  · rw [if_pos hc, if_pos (by omega), band_127]
    have := g3 hc (by rw [hJ.1]; exact ho) d hd2.1 hd2.2 (Or.inr hd.symm)
    rw [hJ.1, hJ.2] at this
    rw [this]
    exact ⟨S, rfl, FS.rf S, k1, k2, k3⟩
  · rw [if_neg hc, hd]
    obtain ⟨S6, q1, hF, q2, q3, q4, q5⟩ := c_setO (d := d) (s := s) hC ho ho8
    rw [q1, Option.bind_some]
    have hC6 : CP P S6 := hC.fr (hF 31 (by decide)) (hF 33 (by decide)) (hF 34 (by decide)) (hF 36 (by decide)) (hF 37 (by decide)) (hF 38 (by decide)) (hF 40 (by decide)) (hF 41 (by decide)) (hF 46 (by decide)) (hF 47 (by decide))
    have hV6 : CV S6 := by unfold CV; rw [hF 43 (by decide), hF 44 (by decide)]; exact hV
    have hpv : ∀ i : Nat, i < 8 → alw (1 : Nat) i = true → S6 42 i = pvF P d s 0 o i := by
      intro i hi ha
      have hi5 : i < 3 ∨ i = 5 := by
        unfold alw at ha
        simp at ha
        omega
      rcases (show i = 0 ∨ i = 1 ∨ i = 2 ∨ i = 5 by omega) with rfl | rfl | rfl | rfl
      · exact q2
      · exact q3
      · exact q4
      · exact q5
    obtain ⟨S7, r1, r2⟩ := c_law hP hC6 (w := 1) (by decide) (pvF_ok (q := (1 : Nat)) hP hd2 hs (f := 0) (by omega) ho8) hpv hV6.ok
    rw [r1, Option.bind_some]
    dsimp only
    rw [c_cut, Option.bind_some]
    dsimp only
    rw [if_pos (by omega), if_pos (by omega), hF 30 (by decide), up_s]
    have hval : cutF (evC (pvF P d s 0 o) z0 z0 (lawC P 1)) = fadeV P d s o := rfl
    rw [hval]
    have hvb : 0 ≤ fadeV P d s o ∧ fadeV P d s o ≤ 99 := by rw [← hval]; exact cutF_b _
    rw [stamp_or (by omega) (by omega) (by omega) (by omega), (stamp_shr (by omega) (by omega) (by omega) (by omega)).2]
    refine ⟨_, rfl, fun c a1 a2 a3 a4 => by rw [up_c a4, r2 c a2, hF c a1], ?_, ?_, ?_⟩
    · rw [up_c (by decide), r2 30 (by decide), hF 30 (by decide)]; exact k1
    · intro i hi
      rw [up_c (c' := 48) (by decide), up_c (c' := 30) (by decide), up_c (c' := 31) (by decide), r2 30 (by decide), r2 31 (by decide), r2 48 (by decide), hF 30 (by decide), hF 31 (by decide), hF 48 (by decide)]
      exact k2 i hi
    · intro i hi
      rw [up_c (c' := 30) (by decide), up_c (c' := 31) (by decide), r2 30 (by decide), r2 31 (by decide), hF 30 (by decide), hF 31 (by decide)]
      by_cases e : i = j
      · subst e
        rw [up_s]
        refine ⟨by omega, by omega, fun _ _ d' q1 q2 hdd => ?_⟩
        rw [hJ.1, hJ.2]
        have : fadeV P d' s o = fadeV P d s o := by
          rcases hdd with h | h
          · exact fade_day hC h _ _ _ _
          · rw [h, hd]
        rw [this]
        omega
      · rw [up_k e, r2 49 (by decide), hF 49 (by decide)]
        exact k3 i hi
