/-! THE CLASS'S WHOLE DAY: what is acted on, what is kept -/
theorem SWn.lo {S : MS} {C : Nat} {w w' : Nat → Int} (h : SWn S C w) (e : ∀ i, i < 57 → w' i = w i) : SWn S C w' := by
  obtain ⟨h1, h2, h3, h4, h5⟩ := h
  exact ⟨by rw [e 0 (by decide)]; exact h1, h2, h3, fun k hk => by rw [e _ (by omega), e _ (by omega)]; exact h4 k hk, fun f hf => ⟨(h5 f hf).1, fun o ho => by rw [e _ (by omega)]; exact (h5 f hf).2 o ho⟩⟩
theorem SWn.fr {S S' : MS} {C : Nat} {w : Nat → Int} (h : SWn S C w) (e1 : S' C 0 = S C 0) (e2 : S' C 1 = S C 1) (e3 : S' C 2 = S C 2) (e4 : S' (C + 1) = S (C + 1)) : SWn S' C w := by
  unfold SWn at h ⊢
  rw [e1, e2, e3, e4]
  exact h
def rowK (m : Nat → Int) (i : Nat) : Int := ((m (58 + 4 * i) * 8 + m (59 + 4 * i)) * 4 + m (60 + 4 * i)) * 100 + m (61 + 4 * i)
def rngK (m : Nat → Int) (i : Nat) : Prop := (0 ≤ m (58 + 4 * i) ∧ m (58 + 4 * i) ≤ 2000) ∧ (0 ≤ m (59 + 4 * i) ∧ m (59 + 4 * i) < 8) ∧ (0 ≤ m (60 + 4 * i) ∧ m (60 + 4 * i) < 4) ∧ (0 ≤ m (61 + 4 * i) ∧ m (61 + 4 * i) ≤ 99)
/-- what the class keeps is what the reference keeps -/
def KR (e : Int) (row : Nat → Int) (m : Nat → Int) : Prop :=
  0 ≤ e ∧ m 57 = (if e < 40 then e else 40) ∧ ∀ i : Nat, (i : Int) < m 57 → row ((e - m 57 + i).toNat % 40) = rowK m i ∧ rngK m i
theorem KR.kn {e : Int} {row m : Nat → Int} (h : KR e row m) : KN m := by
  obtain ⟨h1, h2, -⟩ := h
  unfold KN
  rw [h2]
  split <;> omega
theorem KR_keep {e : Int} {row m : Nat → Int} (h : KR e row m) {o f : Nat} (ho : o < 8) (hf : f < 4) (h0 : 0 ≤ m 0 ∧ m 0 ≤ 2000) (hs : 0 ≤ m (25 + 4 * o + f) ∧ m (25 + 4 * o + f) ≤ 99) {row' : Nat → Int} (hr : ∀ j, j < 40 → row' j = if j = e.toNat % 40 then ((m 0 * 8 + o) * 4 + f) * 100 + m (25 + 4 * o + f) else row j) : KR (e + 1) row' (keepM m o f) := by
  obtain ⟨h1, h2, h3⟩ := h
  have k57 : keepM m o f 57 = if m 57 = 40 then 40 else m 57 + 1 := by unfold keepM; rw [if_pos rfl]
  refine ⟨by omega, ?_, fun i hi => ?_⟩
  · rw [k57, h2]
    by_cases c : e < 40
    · rw [if_pos c, if_neg (by omega)]
      by_cases c2 : e + 1 < 40
      · rw [if_pos c2]
      · rw [if_neg c2]; omega
    · rw [if_neg c, if_pos rfl, if_neg (by omega)]
  · rw [k57] at hi ⊢
    rw [hr _ (Nat.mod_lt _ (by decide))]
    by_cases c : m 57 = 40
    · rw [if_pos c] at hi ⊢
      have he : 40 ≤ e := by
        rw [h2] at c
        by_cases c2 : e < 40
        · rw [if_pos c2] at c; omega
        · omega
      by_cases e39 : i = 39
      · subst e39
        rw [if_pos (by omega)]
        have q0 : keepM m o f (58 + 4 * 39) = m 0 := by unfold keepM; rw [if_pos c]; rfl
        have q1 : keepM m o f (59 + 4 * 39) = o := by unfold keepM; rw [if_pos c]; rfl
        have q2 : keepM m o f (60 + 4 * 39) = f := by unfold keepM; rw [if_pos c]; rfl
        have q3 : keepM m o f (61 + 4 * 39) = m (25 + 4 * o + f) := by unfold keepM; rw [if_pos c]; rfl
        unfold rowK rngK
        rw [q0, q1, q2, q3]
        exact ⟨rfl, h0, by omega, by omega, hs⟩
      · rw [if_neg (by omega)]
        have hq : ∀ j, 58 ≤ j → j < 214 → keepM m o f j = m (j + 4) := by
          intro j h1 h2
          unfold keepM
          rw [if_neg (by omega), if_neg (by omega), if_pos c, if_neg (by simp; omega), if_neg (by simp; omega), if_neg (by simp; omega), if_neg (by simp; omega), if_pos ⟨c, h2⟩]
        have := h3 (i + 1) (by omega)
        rw [c] at this
        rw [show (e + 1 - 40 + (i : Int)).toNat = (e - 40 + ((i + 1 : Nat) : Int)).toNat by omega]
        unfold rowK rngK at this ⊢
        rw [hq _ (by omega) (by omega), hq _ (by omega) (by omega), hq _ (by omega) (by omega), hq _ (by omega) (by omega)]
        rw [show 58 + 4 * i + 4 = 58 + 4 * (i + 1) by omega, show 59 + 4 * i + 4 = 59 + 4 * (i + 1) by omega, show 60 + 4 * i + 4 = 60 + 4 * (i + 1) by omega, show 61 + 4 * i + 4 = 61 + 4 * (i + 1) by omega]
        exact this
    · rw [if_neg c] at hi ⊢
      have he : e < 40 ∧ m 57 = e := by
        rw [h2] at c ⊢
        by_cases c2 : e < 40
        · rw [if_pos c2]; exact ⟨c2, rfl⟩
        · rw [if_neg c2] at c; omega
      rw [he.2] at hi ⊢
      have hc : (m 57 + 1).toNat = e.toNat + 1 := by omega
      by_cases ei : i = e.toNat
      · rw [if_pos (by omega)]
        have q0 : keepM m o f (58 + 4 * i) = m 0 := by unfold keepM; rw [if_neg c, hc, if_neg (by omega), if_neg (by omega), if_pos (by omega)]
        have q1 : keepM m o f (59 + 4 * i) = o := by unfold keepM; rw [if_neg c, hc, if_neg (by omega), if_neg (by omega), if_neg (by omega), if_pos (by omega)]
        have q2 : keepM m o f (60 + 4 * i) = f := by unfold keepM; rw [if_neg c, hc, if_neg (by omega), if_neg (by omega), if_neg (by omega), if_neg (by omega), if_pos (by omega)]
        have q3 : keepM m o f (61 + 4 * i) = m (25 + 4 * o + f) := by unfold keepM; rw [if_neg c, hc, if_neg (by omega), if_neg (by omega), if_neg (by omega), if_neg (by omega), if_neg (by omega), if_pos (by omega)]
        unfold rowK rngK
        rw [q0, q1, q2, q3]
        exact ⟨rfl, h0, by omega, by omega, hs⟩
      · rw [if_neg (by omega)]
        have hq : ∀ j, 58 ≤ j → j < 58 + 4 * e.toNat → keepM m o f j = m j := by
          intro j h1 h2
          unfold keepM
          rw [if_neg c, hc, if_neg (by omega), if_neg (by omega), if_neg (by omega), if_neg (by omega), if_neg (by omega), if_neg (by omega), if_neg (fun h => c h.1)]
        have := h3 i (by omega)
        rw [he.2] at this
        rw [show (e + 1 - (e + 1) + (i : Int)).toNat = (e - e + (i : Int)).toNat by omega]
        unfold rowK rngK at this ⊢
        rw [hq _ (by omega) (by omega), hq _ (by omega) (by omega), hq _ (by omega) (by omega), hq _ (by omega) (by omega)]
        exact this
/-- what laws of acting tell, by the class -/
theorem c_acts {P S : MS} {d : Int} (hP : PLN P) (hE : EN P d S) {o f : Nat} (ho : o < nOf P) (hf : f < 4) {s : Int} (hs : 0 ≤ s ∧ s ≤ 99) (hd2 : 0 ≤ d ∧ d ≤ 2000) :
    ∃ S', m_En_actsOn o f s d S = some (actV P d s f o, S') ∧ ∀ c, c ≠ 42 → c ≠ 45 → S' c = S c := by
  have ho8 : o < 8 := by have := nOf_le hP; omega
  obtain ⟨S1, q1, hF, q2, q3, q4, q5⟩ := c_setO (d := d) (s := s) hE.1 ho ho8
  rw [e_En_actsOn, q1, Option.bind_some, c_set (by omega), Option.bind_some]
  generalize hS2 : up S1 42 (-1 - (-7 : Int)).toNat (f : Int) = S2
  have hF2 : ∀ c, c ≠ 42 → S2 c = S c := fun c hc => by rw [← hS2, up_c hc, hF c hc]
  have hC2 : CP P S2 := hE.1.fr (hF2 31 (by decide)) (hF2 33 (by decide)) (hF2 34 (by decide)) (hF2 36 (by decide)) (hF2 37 (by decide)) (hF2 38 (by decide)) (hF2 40 (by decide)) (hF2 41 (by decide)) (hF2 46 (by decide)) (hF2 47 (by decide))
  have hV2 : CV S2 := by unfold CV; rw [hF2 43 (by decide), hF2 44 (by decide)]; exact hE.2.2.1
  have hpv : ∀ i : Nat, i < 8 → alw (2 : Nat) i = true → S2 42 i = pvF P d s f o i := by
    intro i hi ha
    have hi5 : i < 3 ∨ i = 5 ∨ i = 6 := by
      unfold alw at ha
      simp at ha
      omega
    rw [← hS2, show (-1 - (-7 : Int)).toNat = 6 from rfl]
    rcases (show i = 0 ∨ i = 1 ∨ i = 2 ∨ i = 5 ∨ i = 6 by omega) with rfl | rfl | rfl | rfl | rfl
    · rw [up_k (by decide)]; exact q2
    · rw [up_k (by decide)]; exact q3
    · rw [up_k (by decide)]; exact q4
    · rw [up_k (by decide)]; exact q5
    · rw [up_s]; rfl
  obtain ⟨S3, r1, r2⟩ := c_law hP hC2 (w := 2) (by decide) (pvF_ok (q := (2 : Nat)) hP hd2 hs (f := f) (by omega) ho8) hpv hV2.ok
  rw [r1, Option.bind_some]
  dsimp only
  have h01 := actV_01 hP (d := d) (s := s) (f := f) (o := o) hd2 hs (by omega) ho8
  have ha : evC (pvF P d s f o) z0 z0 (lawC P 2) = actV P d s f o := rfl
  rw [ha]
  refine ⟨S3, ?_, fun c h1 h2 => by rw [r2 c h2, hF2 c h1]⟩
  rcases h01 with h | h
  · rw [h, if_pos rfl]
  · rw [h, if_neg (by decide)]
/-! whole days of the state now -/
theorem c_str_now {S : MS} {w : Nat → Int} (hS : SWn S 24 w) {o f : Nat} (ho : o < 8) (hf : f < 4) : m_St_strength_now o f S = some (w (25 + 4 * o + f), S) := by
  obtain ⟨h1, h2⟩ := hS.2.2.2.2 f hf
  rw [e_St_strength_now, if_neg (by omega), if_pos (by omega), if_pos (by omega), Int.toNat_natCast, c_strengthIn h1.1 h1.2 (by omega), Option.bind_some]
  dsimp only
  rw [Int.toNat_natCast, h2 o ho]
theorem c_keep_now {S : MS} {o f : Nat} {s d : Int} (ho : o < 8) (hf : f < 4) (hs : 0 ≤ s ∧ s ≤ 99) (hd : S 24 0 = d) (hd2 : 0 ≤ d ∧ d ≤ 2000) (he : 0 ≤ S 24 5 ∧ S 24 5 < 2000000000) :
    m_St_keep_now o f s S = some (up (up S 26 ((S 24 5).toNat % 40) (((d * 8 + o) * 4 + f) * 100 + s)) 24 5 (S 24 5 + 1)) := by
  have hm : (S 24 5).tmod 40 = (((S 24 5).toNat % 40 : Nat) : Int) := by rw [Int.tmod_eq_emod_of_nonneg he.1]; omega
  rw [e_St_keep_now, hm, if_neg (by omega), if_pos (by omega), Int.toNat_natCast, hd, wrN (z := d * 8) (by omega) (by omega), wrN (z := d * 8 + (o : Int)) (by omega) (by omega), wrN (z := (d * 8 + (o : Int)) * 4) (by omega) (by omega), wrN (z := (d * 8 + (o : Int)) * 4 + (f : Int)) (by omega) (by omega), wrN (z := ((d * 8 + (o : Int)) * 4 + (f : Int)) * 100) (by omega) (by omega), wrN (z := ((d * 8 + (o : Int)) * 4 + (f : Int)) * 100 + s) (by omega) (by omega), wrN (z := S 24 5 + 1) (by omega) (by omega)]
section
variable {P : MS} {g : Nat → Int} {th : Int}
theorem c_wd34_now (hP : PLN P) (hW : WV P g) {o : Nat} (ho : o < nOf P) : ∀ (n f : Nat) (S : MS) (A : Int), f + n = nFe P → EN P (g 0) S → SWn S 24 g → (0 ≤ S 24 5 ∧ S 24 5 + 4 - f < 1900000000) → (th = 0 → KR (S 24 5) (S 26) (kp1 P th o f (kp2 P th o g))) → (0 ≤ A ∧ A < 1000000) →
    ∃ S', En_wholeDay_now_34 (A + an1 P g o f) o f S = En_wholeDay_now_20 (A + an1 P g o (nFe P)) ((o : Int) + 1) S' ∧ EN P (g 0) S' ∧ SWn S' 24 g ∧ (0 ≤ S' 24 5 ∧ S' 24 5 ≤ S 24 5 + 4 - f) ∧ (th = 0 → KR (S' 24 5) (S' 26) (kp2 P th (o + 1) g)) ∧ FW_now S S' ∧ S' 30 = S 30 := by
  intro n
  have hF := nFe_le hP
  have hF1 := hP.2.1
  have hO := nOf_le hP
  induction n with
  | zero =>
    intro f S A hv hE hS he hk hA
    rw [e_En_wholeDay_now_34, hE.1.2.1, if_neg (by unfold nFe at hv; omega), wrN (by omega) (by omega), show f = nFe P by omega]
    exact ⟨S, rfl, hE, hS, by omega, fun h => by have := hk h; rw [show f = nFe P by omega] at this; exact this, FW_now.rf S, rfl⟩
  | succ n ih =>
    intro f S A hv hE hS he hk hA
    have hs := hW.2.2.1 (25 + 4 * o + f) (by omega) (by omega)
    have hab := an1_b P g o f
    have hd := hW.1
    rw [e_En_wholeDay_now_34, hE.1.2.1, if_pos (by unfold nFe at hv; omega), c_str_now hS (by omega) (by omega), Option.bind_some, wrN (z := (f : Int) + 1) (by omega) (by omega)]
    dsimp only
    by_cases c1 : 0 < g (25 + 4 * o + f)
    · rw [if_pos c1, hS.1]
      obtain ⟨S1, a1, a2⟩ := c_acts (o := o) (f := f) (s := g (25 + 4 * o + f)) hP hE ho (by omega) hs hd
      have hE1 : EN P (g 0) S1 := hE.fs (fun c h1 h2 _ _ => a2 c h1 h2) (hE.2.1.fr (a2 31 (by decide) (by decide)) (a2 30 (by decide) (by decide)) (a2 48 (by decide) (by decide)) (a2 49 (by decide) (by decide)))
      have e24 := a2 24 (by decide) (by decide)
      have e25 := a2 25 (by decide) (by decide)
      have e26 := a2 26 (by decide) (by decide)
      have hS1 : SWn S1 24 g := hS.fr (by rw [e24]) (by rw [e24]) (by rw [e24]) e25
      have hf1 : FW_now S S1 := ⟨fun c _ _ _ _ h1 h2 _ _ _ => a2 c h1 h2, fun k _ _ => by rw [a2 30 (by decide) (by decide)]⟩
      rw [a1, Option.bind_some]
      dsimp only
      have h01 := actV_01 hP (d := g 0) (s := g (25 + 4 * o + f)) (f := f) (o := o) hd hs (by omega) (by omega)
      have hgg : act01 P (kp2 P th o g) o f = act01 P g o f := act01_lo (fun i hi => kp2_lo hi o g) (by omega) (by omega)
      by_cases c2 : actV P (g 0) (g (25 + 4 * o + f)) f o = 0
      · have hz : act01 P g o f = 0 := by unfold act01; rw [if_neg (fun h => h.2 c2)]
        rw [if_pos c2]
        obtain ⟨S', b1, b2, b3, b4, b5, b6, b7⟩ := ih (f + 1) S1 A (by omega) hE1 hS1 (by rw [e24]; omega) (fun h => by
          rw [e24, e26, kp1, if_neg (fun q => by rw [hgg, hz] at q; exact absurd q.1 (by decide))]; exact hk h) hA
        refine ⟨S', ?_, b2, b3, by rw [e24] at b4; omega, b5, hf1.tr b6, by rw [b7, a2 30 (by decide) (by decide)]⟩
        rw [← b1, an1, hz, Int.add_zero]; rfl
      · have hz : act01 P g o f = 1 := by unfold act01; rw [if_pos ⟨c1, c2⟩]
        rw [if_neg c2, c_keep_now (d := g 0) (by omega) (by omega) hs hS1.1 hd (by rw [e24]; omega), Option.bind_some, wrN (z := A + an1 P g o f + 1) (by omega) (by omega), e24]
        obtain ⟨S', b1, b2, b3, b4, b5, b6, b7⟩ := ih (f + 1) (up (up S1 26 ((S 24 5).toNat % 40) (((g 0 * 8 + o) * 4 + f) * 100 + g (25 + 4 * o + f))) 24 5 (S 24 5 + 1)) A (by omega) hE1.up3_now.up1_now
          (hS1.fr (by rw [up_k (by decide), up_c (by decide)]) (by rw [up_k (by decide), up_c (by decide)]) (by rw [up_k (by decide), up_c (by decide)]) (by rw [up_c (by decide), up_c (by decide)])) (by rw [up_s]; omega) (fun h => by
            rw [up_s, up_c (by decide), kp1, if_pos ⟨by rw [hgg, hz], h⟩]
            have hk1 := hk h
            refine KR_keep (m := kp1 P th o f (kp2 P th o g)) hk1 (by omega) (by omega) (by rw [kp1_lo (by decide), kp2_lo (by decide)]; exact hd) (by rw [kp1_lo (by omega), kp2_lo (by omega)]; exact hs) (fun j hj => ?_)
            rw [kp1_lo (by decide), kp2_lo (by decide), kp1_lo (by omega), kp2_lo (by omega)]
            by_cases e : j = (S 24 5).toNat % 40
            · rw [if_pos e, e, up_s]
            · rw [if_neg e, up_k e, e26]) hA
        refine ⟨S', ?_, b2, b3, by rw [up_s] at b4; omega, b5, hf1.tr (FW_now.u3.tr (FW_now.u1.tr b6)), by rw [b7, up_c (by decide), up_c (by decide), a2 30 (by decide) (by decide)]⟩
        rw [← b1, an1, hz, show A + (an1 P g o f + 1) = A + an1 P g o f + 1 by omega]; rfl
    · have hz : act01 P g o f = 0 := by unfold act01; rw [if_neg (fun h => c1 h.1)]
      have hgg : act01 P (kp2 P th o g) o f = act01 P g o f := act01_lo (fun i hi => kp2_lo hi o g) (by omega) (by omega)
      rw [if_neg c1]
      obtain ⟨S', b1, b2, b3, b4, b5, b6, b7⟩ := ih (f + 1) S A (by omega) hE hS (by omega) (fun h => by
        rw [kp1, if_neg (fun q => by rw [hgg, hz] at q; exact absurd q.1 (by decide))]; exact hk h) hA
      refine ⟨S', ?_, b2, b3, by omega, b5, b6, b7⟩
      rw [← b1, an1, hz, Int.add_zero]; rfl
theorem c_wd20_now (hP : PLN P) (hW : WV P g) : ∀ (n o : Nat) (S : MS), o + n = nOf P → EN P (g 0) S → SWn S 24 g → (0 ≤ S 24 5 ∧ S 24 5 + 4 * n < 1800000000) → (th = 0 → KR (S 24 5) (S 26) (kp2 P th o g)) →
    ∃ S', En_wholeDay_now_20 (an2 P g o) o S = some (an2 P g (nOf P), S') ∧ EN P (g 0) S' ∧ SWn S' 24 (dayP g) ∧ (0 ≤ S' 24 5 ∧ S' 24 5 ≤ S 24 5 + 4 * n) ∧ (th = 0 → KR (S' 24 5) (S' 26) (kp2 P th (nOf P) g)) ∧ FW_now S S' ∧ S' 30 = S 30 := by
  intro n
  have hO := nOf_le hP
  have hO1 := hP.1
  induction n with
  | zero =>
    intro o S hv hE hS he hk
    have hd := hW.1
    obtain ⟨s1, s2, s3, s4, s5⟩ := hS
    rw [e_En_wholeDay_now_20, hE.1.1, if_neg (by unfold nOf at hv; omega), s1, wrN (by omega) (by omega), show o = nOf P by omega]
    refine ⟨_, rfl, hE.up1_now, ⟨?_, by rw [up_k (by decide)]; exact s2, by rw [up_k (by decide)]; exact s3, fun k hk => ?_, fun f hf => ?_⟩, by rw [up_k (by decide)]; omega, fun h => by rw [up_k (by decide), up_c (by decide)]; have := hk h; rw [show o = nOf P by omega] at this; exact this, FW_now.u1, by rw [up_c (by decide)]⟩
    · rw [up_s]; unfold dayP; rw [if_pos rfl]
    · rw [up_k (by decide), up_k (by decide)]; unfold dayP; rw [if_neg (by omega), if_neg (by omega)]; exact s4 k hk
    · show (0 ≤ up S 24 0 (g 0 + 1) 25 f ∧ _) ∧ _
      rw [up_c (by decide)]
      refine ⟨(s5 f hf).1, fun o ho => ?_⟩
      show dg (up S 24 0 (g 0 + 1) 25 f) o = _
      rw [up_c (by decide)]
      unfold dayP
      rw [if_neg (by omega)]
      exact (s5 f hf).2 o ho
  | succ n ih =>
    intro o S hv hE hS he hk
    have hab := an2_b hP g o
    rw [e_En_wholeDay_now_20, hE.1.1, if_pos (by unfold nOf at hv; omega)]
    obtain ⟨S1, a1, a2, a3, a4, a5, a6, a7⟩ := c_wd34_now (th := th) (o := o) hP hW (by omega) (nFe P) 0 S (an2 P g o) (by omega) hE hS (by omega) hk (by omega)
    have : an2 P g o + an1 P g o 0 = an2 P g o := by show _ + 0 = _; omega
    rw [this] at a1
    obtain ⟨S', b1, b2, b3, b4, b5, b6, b7⟩ := ih (o + 1) S1 (by omega) a2 a3 (by omega) a5
    exact ⟨S', a1.trans b1, b2, b3, by omega, b5, a6.tr b6, by rw [b7, a7]⟩
end
theorem c_wholeDay_now {P : MS} {th : Int} {m : Nat → Int} {S : MS} (hP : PLN P) (hW : WV P m) (hE : EM P S) (hB : S 30 3 < 15999999) (hS : SWn S 24 m) (he : 0 ≤ S 24 5 ∧ S 24 5 < 1700000000) (hk : th = 0 → KR (S 24 5) (S 26) m) :
    ∃ S', m_En_wholeDay_now S = some (an2 P (goW P m) (nOf P), S') ∧ EM P S' ∧ SWn S' 24 (dayP (kp2 P th (nOf P) (goW P m))) ∧ (0 ≤ S' 24 5 ∧ S' 24 5 ≤ S 24 5 + 32) ∧ (th = 0 → KR (S' 24 5) (S' 26) (dayP (kp2 P th (nOf P) (goW P m)))) ∧ FW_now S S' ∧ S' 30 3 ≤ S 30 3 + 1 := by
  have hO := nOf_le hP
  have hd := hW.1
  obtain ⟨z, S1, a1, a2, a3, a4, a5, a6, a7, a8, a9⟩ := c_flow_now hP hW hE hB hS
  have hg0 : goW P m 0 = m 0 := goW_o _ _ (Or.inl (by decide))
  have h10 : S1 24 0 = m 0 + 1 := by have := a4.1; unfold dayP at this; rw [if_pos rfl, hg0] at this; exact this
  rw [e_En_wholeDay_now, a1, Option.bind_some]
  dsimp only
  rw [h10, wrN (by omega) (by omega), show m 0 + 1 - 1 = m 0 by omega]
  obtain ⟨s1, s2, s3, s4, s5⟩ := a4
  have hS2 : SWn (up S1 24 0 (m 0)) 24 (goW P m) := by
    refine ⟨by rw [up_s, hg0], by rw [up_k (by decide)]; exact s2, by rw [up_k (by decide)]; exact s3, fun k hk => ?_, fun f hf => ?_⟩
    · rw [up_k (by decide), up_k (by decide)]; have := s4 k hk; unfold dayP at this; rw [if_neg (by omega), if_neg (by omega)] at this; exact this
    · show (0 ≤ up S1 24 0 (m 0) 25 f ∧ _) ∧ _
      rw [up_c (by decide)]
      refine ⟨(s5 f hf).1, fun o ho => ?_⟩
      show dg (up S1 24 0 (m 0) 25 f) o = _
      rw [up_c (by decide)]
      have := (s5 f hf).2 o ho
      unfold dayP at this
      rw [if_neg (by omega)] at this
      exact this
  have hKg : ∀ (e : Int) (row : Nat → Int), KR e row m → KR e row (goW P m) := by
    intro e row ⟨h1, h2, h3⟩
    refine ⟨h1, by rw [goW_o _ _ (Or.inr (by decide))]; exact h2, fun i hi => ?_⟩
    rw [goW_o _ _ (Or.inr (by decide))] at hi ⊢
    unfold rowK rngK
    rw [goW_o _ _ (Or.inr (by omega)), goW_o _ _ (Or.inr (by omega)), goW_o _ _ (Or.inr (by omega)), goW_o _ _ (Or.inr (by omega))]
    exact h3 i hi
  have hKd : ∀ (e : Int) (row : Nat → Int) (q : Nat → Int), KR e row q → KR e row (dayP q) := by
    intro e row q ⟨h1, h2, h3⟩
    have hx : ∀ i, i ≠ 0 → dayP q i = q i := fun i hi => by unfold dayP; rw [if_neg hi]
    refine ⟨h1, by rw [hx 57 (by decide)]; exact h2, fun i hi => ?_⟩
    rw [hx 57 (by decide)] at hi ⊢
    unfold rowK rngK
    rw [hx _ (by omega), hx _ (by omega), hx _ (by omega), hx _ (by omega)]
    exact h3 i hi
  obtain ⟨S', b1, b2, b3, b4, b5, b6, b7⟩ := c_wd20_now (th := th) hP (goW_WV hP hW) (nOf P) 0 (up S1 24 0 (m 0)) (by omega) (by rw [hg0]; exact a3.up1_now) hS2 (by rw [up_k (by decide), a8]; omega) (fun h => by rw [up_k (by decide), up_c (by decide), a8, a7]; exact hKg _ _ (hk h))
  refine ⟨S', b1, b2.em, ?_, by rw [up_k (by decide), a8] at b4; omega, fun h => hKd _ _ _ (b5 h), a5.tr (FW_now.u1.tr b6), by rw [b7, up_c (by decide)]; exact a6⟩
  refine b3.lo (fun i hi => ?_)
  unfold dayP
  by_cases e : i = 0
  · rw [if_pos e, if_pos e, kp2_lo (by decide)]
  · rw [if_neg e, if_neg e, kp2_lo hi]
/-! whole days of the state then -/
theorem c_str_then {S : MS} {w : Nat → Int} (hS : SWn S 27 w) {o f : Nat} (ho : o < 8) (hf : f < 4) : m_St_strength_then o f S = some (w (25 + 4 * o + f), S) := by
  obtain ⟨h1, h2⟩ := hS.2.2.2.2 f hf
  rw [e_St_strength_then, if_neg (by omega), if_pos (by omega), if_pos (by omega), Int.toNat_natCast, c_strengthIn h1.1 h1.2 (by omega), Option.bind_some]
  dsimp only
  rw [Int.toNat_natCast, h2 o ho]
theorem c_keep_then {S : MS} {o f : Nat} {s d : Int} (ho : o < 8) (hf : f < 4) (hs : 0 ≤ s ∧ s ≤ 99) (hd : S 27 0 = d) (hd2 : 0 ≤ d ∧ d ≤ 2000) (he : 0 ≤ S 27 5 ∧ S 27 5 < 2000000000) :
    m_St_keep_then o f s S = some (up (up S 29 ((S 27 5).toNat % 40) (((d * 8 + o) * 4 + f) * 100 + s)) 27 5 (S 27 5 + 1)) := by
  have hm : (S 27 5).tmod 40 = (((S 27 5).toNat % 40 : Nat) : Int) := by rw [Int.tmod_eq_emod_of_nonneg he.1]; omega
  rw [e_St_keep_then, hm, if_neg (by omega), if_pos (by omega), Int.toNat_natCast, hd, wrN (z := d * 8) (by omega) (by omega), wrN (z := d * 8 + (o : Int)) (by omega) (by omega), wrN (z := (d * 8 + (o : Int)) * 4) (by omega) (by omega), wrN (z := (d * 8 + (o : Int)) * 4 + (f : Int)) (by omega) (by omega), wrN (z := ((d * 8 + (o : Int)) * 4 + (f : Int)) * 100) (by omega) (by omega), wrN (z := ((d * 8 + (o : Int)) * 4 + (f : Int)) * 100 + s) (by omega) (by omega), wrN (z := S 27 5 + 1) (by omega) (by omega)]
section
variable {P : MS} {g : Nat → Int} {th : Int}
theorem c_wd34_then (hP : PLN P) (hW : WV P g) {o : Nat} (ho : o < nOf P) : ∀ (n f : Nat) (S : MS) (A : Int), f + n = nFe P → EN P (g 0) S → SWn S 27 g → (0 ≤ S 27 5 ∧ S 27 5 + 4 - f < 1900000000) → (th = 0 → KR (S 27 5) (S 29) (kp1 P th o f (kp2 P th o g))) → (0 ≤ A ∧ A < 1000000) →
    ∃ S', En_wholeDay_then_34 (A + an1 P g o f) o f S = En_wholeDay_then_20 (A + an1 P g o (nFe P)) ((o : Int) + 1) S' ∧ EN P (g 0) S' ∧ SWn S' 27 g ∧ (0 ≤ S' 27 5 ∧ S' 27 5 ≤ S 27 5 + 4 - f) ∧ (th = 0 → KR (S' 27 5) (S' 29) (kp2 P th (o + 1) g)) ∧ FW_then S S' ∧ S' 30 = S 30 := by
  intro n
  have hF := nFe_le hP
  have hF1 := hP.2.1
  have hO := nOf_le hP
  induction n with
  | zero =>
    intro f S A hv hE hS he hk hA
    rw [e_En_wholeDay_then_34, hE.1.2.1, if_neg (by unfold nFe at hv; omega), wrN (by omega) (by omega), show f = nFe P by omega]
    exact ⟨S, rfl, hE, hS, by omega, fun h => by have := hk h; rw [show f = nFe P by omega] at this; exact this, FW_then.rf S, rfl⟩
  | succ n ih =>
    intro f S A hv hE hS he hk hA
    have hs := hW.2.2.1 (25 + 4 * o + f) (by omega) (by omega)
    have hab := an1_b P g o f
    have hd := hW.1
    rw [e_En_wholeDay_then_34, hE.1.2.1, if_pos (by unfold nFe at hv; omega), c_str_then hS (by omega) (by omega), Option.bind_some, wrN (z := (f : Int) + 1) (by omega) (by omega)]
    dsimp only
    by_cases c1 : 0 < g (25 + 4 * o + f)
    · rw [if_pos c1, hS.1]
      obtain ⟨S1, a1, a2⟩ := c_acts (o := o) (f := f) (s := g (25 + 4 * o + f)) hP hE ho (by omega) hs hd
      have hE1 : EN P (g 0) S1 := hE.fs (fun c h1 h2 _ _ => a2 c h1 h2) (hE.2.1.fr (a2 31 (by decide) (by decide)) (a2 30 (by decide) (by decide)) (a2 48 (by decide) (by decide)) (a2 49 (by decide) (by decide)))
      have e24 := a2 27 (by decide) (by decide)
      have e25 := a2 28 (by decide) (by decide)
      have e26 := a2 29 (by decide) (by decide)
      have hS1 : SWn S1 27 g := hS.fr (by rw [e24]) (by rw [e24]) (by rw [e24]) e25
      have hf1 : FW_then S S1 := ⟨fun c _ _ _ _ h1 h2 _ _ _ => a2 c h1 h2, fun k _ _ => by rw [a2 30 (by decide) (by decide)]⟩
      rw [a1, Option.bind_some]
      dsimp only
      have h01 := actV_01 hP (d := g 0) (s := g (25 + 4 * o + f)) (f := f) (o := o) hd hs (by omega) (by omega)
      have hgg : act01 P (kp2 P th o g) o f = act01 P g o f := act01_lo (fun i hi => kp2_lo hi o g) (by omega) (by omega)
      by_cases c2 : actV P (g 0) (g (25 + 4 * o + f)) f o = 0
      · have hz : act01 P g o f = 0 := by unfold act01; rw [if_neg (fun h => h.2 c2)]
        rw [if_pos c2]
        obtain ⟨S', b1, b2, b3, b4, b5, b6, b7⟩ := ih (f + 1) S1 A (by omega) hE1 hS1 (by rw [e24]; omega) (fun h => by
          rw [e24, e26, kp1, if_neg (fun q => by rw [hgg, hz] at q; exact absurd q.1 (by decide))]; exact hk h) hA
        refine ⟨S', ?_, b2, b3, by rw [e24] at b4; omega, b5, hf1.tr b6, by rw [b7, a2 30 (by decide) (by decide)]⟩
        rw [← b1, an1, hz, Int.add_zero]; rfl
      · have hz : act01 P g o f = 1 := by unfold act01; rw [if_pos ⟨c1, c2⟩]
        rw [if_neg c2, c_keep_then (d := g 0) (by omega) (by omega) hs hS1.1 hd (by rw [e24]; omega), Option.bind_some, wrN (z := A + an1 P g o f + 1) (by omega) (by omega), e24]
        obtain ⟨S', b1, b2, b3, b4, b5, b6, b7⟩ := ih (f + 1) (up (up S1 29 ((S 27 5).toNat % 40) (((g 0 * 8 + o) * 4 + f) * 100 + g (25 + 4 * o + f))) 27 5 (S 27 5 + 1)) A (by omega) hE1.up3_then.up1_then
          (hS1.fr (by rw [up_k (by decide), up_c (by decide)]) (by rw [up_k (by decide), up_c (by decide)]) (by rw [up_k (by decide), up_c (by decide)]) (by rw [up_c (by decide), up_c (by decide)])) (by rw [up_s]; omega) (fun h => by
            rw [up_s, up_c (by decide), kp1, if_pos ⟨by rw [hgg, hz], h⟩]
            have hk1 := hk h
            refine KR_keep (m := kp1 P th o f (kp2 P th o g)) hk1 (by omega) (by omega) (by rw [kp1_lo (by decide), kp2_lo (by decide)]; exact hd) (by rw [kp1_lo (by omega), kp2_lo (by omega)]; exact hs) (fun j hj => ?_)
            rw [kp1_lo (by decide), kp2_lo (by decide), kp1_lo (by omega), kp2_lo (by omega)]
            by_cases e : j = (S 27 5).toNat % 40
            · rw [if_pos e, e, up_s]
            · rw [if_neg e, up_k e, e26]) hA
        refine ⟨S', ?_, b2, b3, by rw [up_s] at b4; omega, b5, hf1.tr (FW_then.u3.tr (FW_then.u1.tr b6)), by rw [b7, up_c (by decide), up_c (by decide), a2 30 (by decide) (by decide)]⟩
        rw [← b1, an1, hz, show A + (an1 P g o f + 1) = A + an1 P g o f + 1 by omega]; rfl
    · have hz : act01 P g o f = 0 := by unfold act01; rw [if_neg (fun h => c1 h.1)]
      have hgg : act01 P (kp2 P th o g) o f = act01 P g o f := act01_lo (fun i hi => kp2_lo hi o g) (by omega) (by omega)
      rw [if_neg c1]
      obtain ⟨S', b1, b2, b3, b4, b5, b6, b7⟩ := ih (f + 1) S A (by omega) hE hS (by omega) (fun h => by
        rw [kp1, if_neg (fun q => by rw [hgg, hz] at q; exact absurd q.1 (by decide))]; exact hk h) hA
      refine ⟨S', ?_, b2, b3, by omega, b5, b6, b7⟩
      rw [← b1, an1, hz, Int.add_zero]; rfl
theorem c_wd20_then (hP : PLN P) (hW : WV P g) : ∀ (n o : Nat) (S : MS), o + n = nOf P → EN P (g 0) S → SWn S 27 g → (0 ≤ S 27 5 ∧ S 27 5 + 4 * n < 1800000000) → (th = 0 → KR (S 27 5) (S 29) (kp2 P th o g)) →
    ∃ S', En_wholeDay_then_20 (an2 P g o) o S = some (an2 P g (nOf P), S') ∧ EN P (g 0) S' ∧ SWn S' 27 (dayP g) ∧ (0 ≤ S' 27 5 ∧ S' 27 5 ≤ S 27 5 + 4 * n) ∧ (th = 0 → KR (S' 27 5) (S' 29) (kp2 P th (nOf P) g)) ∧ FW_then S S' ∧ S' 30 = S 30 := by
  intro n
  have hO := nOf_le hP
  have hO1 := hP.1
  induction n with
  | zero =>
    intro o S hv hE hS he hk
    have hd := hW.1
    obtain ⟨s1, s2, s3, s4, s5⟩ := hS
    rw [e_En_wholeDay_then_20, hE.1.1, if_neg (by unfold nOf at hv; omega), s1, wrN (by omega) (by omega), show o = nOf P by omega]
    refine ⟨_, rfl, hE.up1_then, ⟨?_, by rw [up_k (by decide)]; exact s2, by rw [up_k (by decide)]; exact s3, fun k hk => ?_, fun f hf => ?_⟩, by rw [up_k (by decide)]; omega, fun h => by rw [up_k (by decide), up_c (by decide)]; have := hk h; rw [show o = nOf P by omega] at this; exact this, FW_then.u1, by rw [up_c (by decide)]⟩
    · rw [up_s]; unfold dayP; rw [if_pos rfl]
    · rw [up_k (by decide), up_k (by decide)]; unfold dayP; rw [if_neg (by omega), if_neg (by omega)]; exact s4 k hk
    · show (0 ≤ up S 27 0 (g 0 + 1) 28 f ∧ _) ∧ _
      rw [up_c (by decide)]
      refine ⟨(s5 f hf).1, fun o ho => ?_⟩
      show dg (up S 27 0 (g 0 + 1) 28 f) o = _
      rw [up_c (by decide)]
      unfold dayP
      rw [if_neg (by omega)]
      exact (s5 f hf).2 o ho
  | succ n ih =>
    intro o S hv hE hS he hk
    have hab := an2_b hP g o
    rw [e_En_wholeDay_then_20, hE.1.1, if_pos (by unfold nOf at hv; omega)]
    obtain ⟨S1, a1, a2, a3, a4, a5, a6, a7⟩ := c_wd34_then (th := th) (o := o) hP hW (by omega) (nFe P) 0 S (an2 P g o) (by omega) hE hS (by omega) hk (by omega)
    have : an2 P g o + an1 P g o 0 = an2 P g o := by show _ + 0 = _; omega
    rw [this] at a1
    obtain ⟨S', b1, b2, b3, b4, b5, b6, b7⟩ := ih (o + 1) S1 (by omega) a2 a3 (by omega) a5
    exact ⟨S', a1.trans b1, b2, b3, by omega, b5, a6.tr b6, by rw [b7, a7]⟩
end
theorem c_wholeDay_then {P : MS} {th : Int} {m : Nat → Int} {S : MS} (hP : PLN P) (hW : WV P m) (hE : EM P S) (hB : S 30 3 < 15999999) (hS : SWn S 27 m) (he : 0 ≤ S 27 5 ∧ S 27 5 < 1700000000) (hk : th = 0 → KR (S 27 5) (S 29) m) :
    ∃ S', m_En_wholeDay_then S = some (an2 P (goW P m) (nOf P), S') ∧ EM P S' ∧ SWn S' 27 (dayP (kp2 P th (nOf P) (goW P m))) ∧ (0 ≤ S' 27 5 ∧ S' 27 5 ≤ S 27 5 + 32) ∧ (th = 0 → KR (S' 27 5) (S' 29) (dayP (kp2 P th (nOf P) (goW P m)))) ∧ FW_then S S' ∧ S' 30 3 ≤ S 30 3 + 1 := by
  have hO := nOf_le hP
  have hd := hW.1
  obtain ⟨z, S1, a1, a2, a3, a4, a5, a6, a7, a8, a9⟩ := c_flow_then hP hW hE hB hS
  have hg0 : goW P m 0 = m 0 := goW_o _ _ (Or.inl (by decide))
  have h10 : S1 27 0 = m 0 + 1 := by have := a4.1; unfold dayP at this; rw [if_pos rfl, hg0] at this; exact this
  rw [e_En_wholeDay_then, a1, Option.bind_some]
  dsimp only
  rw [h10, wrN (by omega) (by omega), show m 0 + 1 - 1 = m 0 by omega]
  obtain ⟨s1, s2, s3, s4, s5⟩ := a4
  have hS2 : SWn (up S1 27 0 (m 0)) 27 (goW P m) := by
    refine ⟨by rw [up_s, hg0], by rw [up_k (by decide)]; exact s2, by rw [up_k (by decide)]; exact s3, fun k hk => ?_, fun f hf => ?_⟩
    · rw [up_k (by decide), up_k (by decide)]; have := s4 k hk; unfold dayP at this; rw [if_neg (by omega), if_neg (by omega)] at this; exact this
    · show (0 ≤ up S1 27 0 (m 0) 28 f ∧ _) ∧ _
      rw [up_c (by decide)]
      refine ⟨(s5 f hf).1, fun o ho => ?_⟩
      show dg (up S1 27 0 (m 0) 28 f) o = _
      rw [up_c (by decide)]
      have := (s5 f hf).2 o ho
      unfold dayP at this
      rw [if_neg (by omega)] at this
      exact this
  have hKg : ∀ (e : Int) (row : Nat → Int), KR e row m → KR e row (goW P m) := by
    intro e row ⟨h1, h2, h3⟩
    refine ⟨h1, by rw [goW_o _ _ (Or.inr (by decide))]; exact h2, fun i hi => ?_⟩
    rw [goW_o _ _ (Or.inr (by decide))] at hi ⊢
    unfold rowK rngK
    rw [goW_o _ _ (Or.inr (by omega)), goW_o _ _ (Or.inr (by omega)), goW_o _ _ (Or.inr (by omega)), goW_o _ _ (Or.inr (by omega))]
    exact h3 i hi
  have hKd : ∀ (e : Int) (row : Nat → Int) (q : Nat → Int), KR e row q → KR e row (dayP q) := by
    intro e row q ⟨h1, h2, h3⟩
    have hx : ∀ i, i ≠ 0 → dayP q i = q i := fun i hi => by unfold dayP; rw [if_neg hi]
    refine ⟨h1, by rw [hx 57 (by decide)]; exact h2, fun i hi => ?_⟩
    rw [hx 57 (by decide)] at hi ⊢
    unfold rowK rngK
    rw [hx _ (by omega), hx _ (by omega), hx _ (by omega), hx _ (by omega)]
    exact h3 i hi
  obtain ⟨S', b1, b2, b3, b4, b5, b6, b7⟩ := c_wd20_then (th := th) hP (goW_WV hP hW) (nOf P) 0 (up S1 27 0 (m 0)) (by omega) (by rw [hg0]; exact a3.up1_then) hS2 (by rw [up_k (by decide), a8]; omega) (fun h => by rw [up_k (by decide), up_c (by decide), a8, a7]; exact hKg _ _ (hk h))
  refine ⟨S', b1, b2.em, ?_, by rw [up_k (by decide), a8] at b4; omega, fun h => hKd _ _ _ (b5 h), a5.tr (FW_then.u1.tr b6), by rw [b7, up_c (by decide)]; exact a6⟩
  refine b3.lo (fun i hi => ?_)
  unfold dayP
  by_cases e : i = 0
  · rw [if_pos e, if_pos e, kp2_lo (by decide)]
  · rw [if_neg e, if_neg e, kp2_lo hi]
