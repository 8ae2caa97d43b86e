/-! MINISTRY: statements, both -/
section
variable {n : Nat} {P S T S' T' : MS} {g : Nat → Int} {E : Nat} {q : Int}
def FMc (S S' : MS) : Prop := (∀ c, c < 2 ∨ c = 3 ∨ c = 17 ∨ c = 18 ∨ 23 < c → S' c = S c) ∧ (∀ k, k < 4 ∨ 9 < k → S' 2 k = S 2 k) ∧ S' 22 2 = S 22 2 ∧ okk (S' 23 1) = okk (S 23 1)
def FMm (T T' : MS) : Prop := (∀ c, c < 401 ∨ (401 < c ∧ c < 430) ∨ (437 < c ∧ c ≠ 473 ∧ c ≠ 474) → T' c = T c) ∧ (∀ k, 4 ≤ k → T' 430 k = T 430 k) ∧ (∀ k, 16 ≤ k → T' 431 k = T 431 k ∧ T' 432 k = T 432 k) ∧ (∀ k, 36 ≤ k → T' 433 k = T 433 k) ∧ (∀ k, 3 ≤ k → T' 435 k = T 435 k ∧ T' 436 k = T 436 k) ∧ (∀ k, 1600 ≤ k → T' 437 k = T 437 k) ∧ (∀ k, k ≠ 2 → k ≠ 4 → k ≠ 5 → k ≠ 6 → k ≠ 10 → k ≠ 37 → k ≠ 46 → k ≠ 47 → k ≠ 48 → k ≠ 97 → k ≠ 99 → k ≠ 100 → k ≠ 101 → T' 401 k = T 401 k) ∧ ((∀ k, k < 16 → 0 ≤ T 432 k ∧ T 432 k ≤ 9) → ∀ k, k < 16 → 0 ≤ T' 432 k ∧ T' 432 k ≤ 9)
theorem FMc.tr {S'' : MS} (h : FMc S S') (k : FMc S' S'') : FMc S S'' := ⟨fun c hc => (k.1 c hc).trans (h.1 c hc), fun j hj => (k.2.1 j hj).trans (h.2.1 j hj), k.2.2.1.trans h.2.2.1, k.2.2.2.trans h.2.2.2⟩
theorem FMm.tr {T'' : MS} (h : FMm T T') (k : FMm T' T'') : FMm T T'' := by
  obtain ⟨a1, a2, a3, a4, a5, a6, a7, a8⟩ := h
  obtain ⟨b1, b2, b3, b4, b5, b6, b7, b8⟩ := k
  exact ⟨fun c hc => (b1 c hc).trans (a1 c hc), fun j hj => (b2 j hj).trans (a2 j hj), fun j hj => ⟨(b3 j hj).1.trans (a3 j hj).1, (b3 j hj).2.trans (a3 j hj).2⟩, fun j hj => (b4 j hj).trans (a4 j hj), fun j hj => ⟨(b5 j hj).1.trans (a5 j hj).1, (b5 j hj).2.trans (a5 j hj).2⟩, fun j hj => (b6 j hj).trans (a6 j hj), fun j c1 c2 c3 c4 c5 c6 c7 c8 c9 d1 d2 d3 d4 => (b7 j c1 c2 c3 c4 c5 c6 c7 c8 c9 d1 d2 d3 d4).trans (a7 j c1 c2 c3 c4 c5 c6 c7 c8 c9 d1 d2 d3 d4), fun z => b8 (a8 z)⟩
theorem FTx.mc (h : FTx S S') : FMc S S' := ⟨fun c hc => h.1 c (by omega), h.2, by rw [h.1 22 (by decide)], by rw [h.1 23 (by decide)]⟩
theorem FTk.mc (h : FTk S S') : FMc S S' := h.x.mc
theorem FRn.mm (h : FRn T T') : FMm T T' := ⟨fun c hc => h.1 c (by omega), fun k _ => by rw [h.1 430 (by decide)], fun k _ => by rw [h.1 431 (by decide), h.1 432 (by decide)]; exact ⟨rfl, rfl⟩, fun k _ => by rw [h.1 433 (by decide)], fun k _ => by rw [h.1 435 (by decide), h.1 436 (by decide)]; exact ⟨rfl, rfl⟩, fun k _ => by rw [h.1 437 (by decide)], fun k a1 a2 a3 a4 a5 a6 _ _ _ _ _ _ _ => h.2 k a1 a2 a3 a4 a5 a6, fun z k hk => by rw [h.1 432 (by decide)]; exact z k hk⟩
theorem LK2.ne {L : List Tok} (h : LK2 g E S T L) : L ≠ [] := by
  obtain ⟨-, -, ⟨p, h3⟩, -⟩ := h
  exact h3.ne
/-- what a statement comes to: both go on, or both have the same fault -/
def RST (g : Nat → Int) (E : Nat) (S T : MS) (m : Int) (x : Option (Int × MS)) (y : Option MS) : Prop := (∃ S' T' L', x = some (1, S') ∧ y = some T' ∧ LK2 g E S' T' L' ∧ T' 401 46 + ((L'.length : Nat) : Int) ≤ m ∧ PT S' T' ∧ T' 401 47 = T 401 47 ∧ FMc S S' ∧ FMm T T') ∨ ∃ S' T', x = some (0, S') ∧ y = some T' ∧ BAD S' T' ∧ FMc S S' ∧ FMm T T'
theorem two_kind {a b : Int} {t : Tok} {L1 : List Tok} {T1 : MS} (h : LK2 g E S T (t :: L1)) (ht : t.1 ≠ 35) (hT : RTK g E T1 L1) (f1 : FRt T T1) : (a < b → ∃ S1, m_Cl_takeKind a b S = some (1, S1) ∧ LK2 g E S1 T1 L1 ∧ FTk S S1) ∧ (¬ a < b → m_Cl_takeKind a b S = some (0, up (up S 2 8 5) 2 9 ((t.2.1 : Nat) : Int))) := by
  rw [e_Cl_takeKind]
  refine ⟨fun c => ?_, fun c => ?_⟩
  · obtain ⟨S1, s1, s2, s3⟩ := c_adv h.1 (h.ne1 ht)
    rw [if_pos c, s1, Option.bind_some]
    exact ⟨S1, rfl, h.go ht s2 s3 hT f1.1, s3⟩
  · rw [if_neg c, h.1.hd.2.1, c_refuseAt, Option.bind_some]
    dsimp only
    rw [if_pos (Or.inl rfl)]
theorem m_full {kd : Nat} {room b : Int} {m : Int} (hk : kd < 8) (hT : T 430 kd = m) (h5 : T 401 5 = 0) : (m ≠ room → m_Mo_isFull kd room b T = some (0, T)) ∧ (m = room → m_Mo_isFull kd room b T = some (1, up (up T 401 5 5) 401 6 b)) := by
  refine ⟨fun c => ?_, fun c => ?_⟩
  · rw [e_Mo_isFull, if_pos h5, if_pos (by omega), Int.toNat_natCast, hT, if_neg c, if_pos h5]
  · rw [e_Mo_isFull, if_pos h5, if_pos (by omega), Int.toNat_natCast, hT, if_pos c, m_fail h5, Option.bind_some, if_neg (by rw [up_k (by decide), up_s]; decide)]
theorem told_full {t : Tok} {L1 : List Tok} {T1 : MS} (f1 : FRt T T1) : BAD (up (up S 2 8 5) 2 9 ((t.2.1 : Nat) : Int)) (up (up T1 401 5 5) 401 6 ((t.2.1 : Nat) : Int)) ∧ FMc S (up (up S 2 8 5) 2 9 ((t.2.1 : Nat) : Int)) ∧ FMm T (up (up T1 401 5 5) 401 6 ((t.2.1 : Nat) : Int)) :=
  ⟨BAD.mk2 5 t.2.1 (by decide) (bdt_fail 5 _), (FTx.ref _ _).mc, (f1.nq.tr (FRt.fail _ _).nq).mm⟩
theorem two_slip {t : Tok} {L1 : List Tok} {T1 : MS} (h : LK2 g E S T (t :: L1)) (ht : t.1 ≠ 35) (hT : RTK g E T1 L1) (f1 : FRt T T1) (hp : PT S T) : RST g E S T (T 401 46 + (((t :: L1).length : Nat) : Int)) (m_Cl_readSlip S) ((m_Mo_number 0 100 T1).bind fun p9 => some (up p9.2 430 3 p9.1)) := by
  obtain ⟨S1, s1, s2, s3⟩ := c_adv h.1 (h.ne1 ht)
  have h1 := h.go ht s2 s3 hT f1.1
  have hp1 := hp.rn s3 f1.nq
  rw [e_Cl_readSlip, s1, Option.bind_some]
  obtain ⟨t1, L2, rfl⟩ : ∃ t1 L2, L1 = t1 :: L2 := by
    cases L1 with
    | nil => exact absurd rfl h1.ne
    | cons a b => exact ⟨a, b, rfl⟩
  have e22 : ∀ {S2}, FTx S1 S2 → S2 22 2 = 1 := fun {S2} f => by rw [f.1 22 (by decide), s3.1 22 (by decide)]; exact hp.2.2.2.2.2.2.2.1
  have fm : ∀ (z : Int) (T2 : MS), FMm T2 (up T2 430 3 z) := fun z T2 => ⟨fun c hc => up_c (by omega), fun k hk => up_k (by omega), fun k _ => by rw [up_c (by decide), up_c (by decide)]; exact ⟨rfl, rfl⟩, fun k _ => by rw [up_c (by decide)], fun k _ => by rw [up_c (by decide), up_c (by decide)]; exact ⟨rfl, rfl⟩, fun k _ => by rw [up_c (by decide)], fun k _ _ _ _ _ _ _ _ _ _ _ _ _ => by rw [up_c (by decide)], fun w k hk => by rw [up_c (by decide)]; exact w k hk⟩
  have fc : ∀ (z : Int) (S2 : MS), FMc S2 (up S2 5 4 z) := fun z S2 => ⟨fun c hc => up_c (by omega), fun k _ => by rw [up_c (by decide)], by rw [up_c (by decide)], by rw [up_c (by decide)]⟩
  rcases two_num (lo := 0) (hi := 100) h1 with ⟨v, S2, T2, a1, a2, a3, a4, a5, a6, a7⟩ | ⟨v, S2, T2, a1, a2, a3, a4, a5, a6⟩
  · rw [a3, a4, Option.bind_some, Option.bind_some]
    dsimp only
    rw [if_pos (e22 a6.x), if_neg (by omega)]
    have hp2 := hp1.rn a6 a7.nq
    obtain ⟨b1, b2, b3, b4, b5, b6, b7, b8, b9⟩ := hp2
    have uS : ∀ c, c ≠ 5 → up S2 5 4 v c = S2 c := fun c hc => up_c hc
    have uT : ∀ c, c ≠ 430 → up T2 430 3 v c = T2 c := fun c hc => up_c hc
    have e46 : T2 401 46 = T 401 46 := by rw [a7.2 46 (by decide) (by decide) (by decide) (by decide) (by decide), f1.2 46 (by decide) (by decide) (by decide) (by decide) (by decide)]
    have e47 : T2 401 47 = T 401 47 := by rw [a7.2 47 (by decide) (by decide) (by decide) (by decide) (by decide), f1.2 47 (by decide) (by decide) (by decide) (by decide) (by decide)]
    refine Or.inl ⟨_, _, L2, rfl, rfl, a5.stay (fun k _ _ => by rw [uS 2 (by decide)]) (uS 3 (by decide)) (uS 4 (by decide)) (fun k _ _ => by rw [uT 401 (by decide)]) (fun x hx => uT x (by omega)), ?_, ?_, ?_, (s3.mc.tr a6.mc).tr (fc _ _), ((f1.nq.tr a7.nq).mm).tr (fm _ _)⟩
    · rw [uT 401 (by decide), e46]; simp only [List.length_cons]; omega
    · exact ⟨b1.fr (up_k (by decide)) (uS 6 (by decide)) (uS 7 (by decide)) (uS 8 (by decide)) (up_k (by decide)) (fun k _ => by rw [uT 431 (by decide)]) (uT 432 (by decide)), b2.fr (up_k (by decide)) (uS 9 (by decide)) (up_k (by decide)) (fun k _ _ => by rw [uT 431 (by decide)]), b3.fr (up_k (by decide)) (by rw [up_k (by decide)]; exact Int.le_refl _) (uS 10 (by decide)) (uS 11 (by decide)) (uS 12 (by decide)) (up_k (by decide)) (uT 433 (by decide)), ⟨by rw [up_s, up_s], by rw [up_s]; exact a1.1, by rw [up_s]; exact a1.2⟩, b5.fr (by rw [up_k (by decide)]; exact Int.le_refl _) (by rw [up_k (by decide)]; exact Int.le_refl _) (uS 13 (by decide)) (uT 434 (by decide)), b6.fr (by rw [uS 14 (by decide)]) (by rw [uS 22 (by decide)]) (uS 20 (by decide)) (uS 21 (by decide)) (uS 15 (by decide)) (up_k (by decide)) (by rw [uT 401 (by decide)]) (uT 435 (by decide)) (uT 436 (by decide)) (uT 437 (by decide)), by rw [up_k (by decide), uT 401 (by decide)]; exact b7, by rw [uS 22 (by decide)]; exact b8, by rw [uS 23 (by decide)]; exact b9⟩
    · rw [uT 401 (by decide), e47]
  · rw [a1, a2, Option.bind_some, Option.bind_some]
    dsimp only
    rw [if_pos (e22 a5), if_pos rfl]
    obtain ⟨k, p, k0, k1, k2⟩ := a4
    exact Or.inr ⟨_, _, rfl, rfl, ⟨k, p, k0, by rw [up_c (by decide)]; exact k1, by unfold BDT at k2 ⊢; rw [up_c (by decide)]; exact k2⟩, (s3.mc.tr a5.mc).tr (fc _ _), ((f1.nq.tr a6.nq).mm).tr (fm _ _)⟩
theorem two_feeling {t : Tok} {L1 : List Tok} {T1 : MS} (h : LK2 g E S T (t :: L1)) (ht : t.1 ≠ 35) (hT : RTK g E T1 L1) (f1 : FRt T T1) (hp : PT S T) : RST g E S T (T 401 46 + (((t :: L1).length : Nat) : Int)) (m_Cl_readFeeling S) (m_Mo_feelingTold ((t.2.1 : Nat) : Int) T1) := by
  obtain ⟨g1, g2, g3⟩ := hp.2.1
  have e22 := hp.2.2.2.2.2.2.2.1
  obtain ⟨m, hm⟩ : ∃ m : Nat, S 5 1 = (m : Int) := ⟨(S 5 1).toNat, by omega⟩
  have hm1 : T1 430 1 = (m : Int) := by rw [f1.1 430 (by decide), ← g1, hm]
  obtain ⟨q1, q2⟩ := two_kind (a := (m : Int)) (b := 4) h ht hT f1
  have hF := fun b => m_full (kd := 1) (room := 4) (b := b) (T := T1) (by decide) hm1 hT.2.2.2.1
  rw [e_Cl_readFeeling, e_Mo_feelingTold, if_pos e22, hm]
  by_cases c : m < 4
  · obtain ⟨S1, s1, s2, s3⟩ := q1 (by omega)
    have hF0 := (hF ((t.2.1 : Nat) : Int)).1 (by omega)
    have hF0 : m_Mo_isFull 1 4 ((t.2.1 : Nat) : Int) T1 = _ := hF0
    rw [s1, hF0, Option.bind_some, Option.bind_some]
    dsimp only
    rw [if_neg n10, if_pos rfl]
    have hp1 := hp.rn s3 f1.nq
    obtain ⟨t1, L2, rfl⟩ : ∃ t1 L2, L1 = t1 :: L2 := by
      cases L1 with
      | nil => exact absurd rfl s2.ne
      | cons a b => exact ⟨a, b, rfl⟩
    rcases two_new s2 hp1 with ⟨ht1, cn, v, S2, T2, a1, a2, a3, a4, a5, a6, a7, a8⟩ | ⟨v, S2, T2, a1, a2, a3, a4, a5⟩
    · rw [a1, a3, Option.bind_some, Option.bind_some]
      dsimp only
      have e22' : S2 22 2 = 1 := by rw [a6.1 22 (by decide), s3.1 22 (by decide)]; exact e22
      have hm2 : T2 430 1 = (m : Int) := by rw [a7.1 430 (by decide), hm1]
      have hm3 : S2 5 1 = (m : Int) := by rw [a6.1 5 (by decide), s3.1 5 (by decide), hm]
      rw [if_neg a2, if_pos e22', if_pos (by omega), if_pos e22', if_pos a5.2.1.2.2.2.1]
      simp only [hm2]
      rw [wrN (z := 8 + (m : Int)) (by omega) (by omega), if_pos (by omega), wr_suc2 (show m < 4 from c) (by decide), Int.toNat_natCast, show (8 + (m : Int)).toNat = 8 + m by omega]
      have hp2 := hp1.rn a6 a7
      obtain ⟨b1, b2, b3, b4, b5, b6, b7, b8, b9⟩ := hp2
      have uS : ∀ x, x ≠ 5 → x ≠ 9 → up (up S2 9 m cn) 5 1 ((m + 1 : Nat) : Int) x = S2 x := fun x h1 h2 => by rw [up_c h1, up_c h2]
      have uS5 : ∀ k, k ≠ 1 → up (up S2 9 m cn) 5 1 ((m + 1 : Nat) : Int) 5 k = S2 5 k := fun k hk => by rw [up_k hk, up_c (by decide)]
      have uT : ∀ x, x ≠ 430 → x ≠ 431 → up (up T2 431 (8 + m) v) 430 1 ((m + 1 : Nat) : Int) x = T2 x := fun x h1 h2 => by rw [up_c h1, up_c h2]
      have uT0 : ∀ k, k ≠ 1 → up (up T2 431 (8 + m) v) 430 1 ((m + 1 : Nat) : Int) 430 k = T2 430 k := fun k hk => by rw [up_k hk, up_c (by decide)]
      have uT1 : ∀ k, k ≠ 8 + m → up (up T2 431 (8 + m) v) 430 1 ((m + 1 : Nat) : Int) 431 k = T2 431 k := fun k hk => by rw [up_c (by decide), up_k hk]
      have e46 : T2 401 46 = T 401 46 := by rw [a7.2 46 (by decide) (by decide) (by decide) (by decide) (by decide) (by decide), f1.2 46 (by decide) (by decide) (by decide) (by decide) (by decide)]
      have e47 : T2 401 47 = T 401 47 := by rw [a7.2 47 (by decide) (by decide) (by decide) (by decide) (by decide) (by decide), f1.2 47 (by decide) (by decide) (by decide) (by decide) (by decide)]
      refine Or.inl ⟨_, _, L2, rfl, rfl, a5.stay (fun k _ _ => by rw [uS 2 (by decide) (by decide)]) (uS 3 (by decide) (by decide)) (uS 4 (by decide) (by decide)) (fun k _ _ => by rw [uT 401 (by decide) (by decide)]) (fun x hx => uT x (by omega) (by omega)), ?_, ?_, ?_, (s3.mc.tr a6.mc).tr ?_, ((f1.nq.tr a7).mm).tr ?_⟩
      · rw [uT 401 (by decide) (by decide), e46]; simp only [List.length_cons]; omega
      · refine ⟨b1.fr (uS5 0 (by decide)) (uS 6 (by decide) (by decide)) (uS 7 (by decide) (by decide)) (uS 8 (by decide) (by decide)) (uT0 0 (by decide)) (fun k hk => uT1 k (by omega)) (uT 432 (by decide) (by decide)), ⟨by rw [up_s, up_s], by rw [up_s]; omega, fun k hk => ?_⟩, b3.fr (uS5 2 (by decide)) (by rw [uS5 0 (by decide)]; exact Int.le_refl _) (uS 10 (by decide) (by decide)) (uS 11 (by decide) (by decide)) (uS 12 (by decide) (by decide)) (uT0 2 (by decide)) (uT 433 (by decide) (by decide)), b4.fr (uS5 4 (by decide)) (uT0 3 (by decide)), b5.fr (by rw [uS5 0 (by decide)]; exact Int.le_refl _) (by rw [up_s, hm3]; omega) (uS 13 (by decide) (by decide)) (uT 434 (by decide) (by decide)), b6.fr (by rw [uS 14 (by decide) (by decide)]) (by rw [uS 22 (by decide) (by decide)]) (uS 20 (by decide) (by decide)) (uS 21 (by decide) (by decide)) (uS 15 (by decide) (by decide)) (uS5 5 (by decide)) (by rw [uT 401 (by decide) (by decide)]) (uT 435 (by decide) (by decide)) (uT 436 (by decide) (by decide)) (uT 437 (by decide) (by decide)), by rw [uS5 3 (by decide), uT 401 (by decide) (by decide)]; exact b7, by rw [uS 22 (by decide) (by decide)]; exact b8, by rw [uS 23 (by decide) (by decide)]; exact b9⟩
        rw [up_s] at hk
        by_cases e : k = m
        · rw [e, up_c (by decide), up_s, up_c (by decide), up_s]; exact a4
        · rw [up_c (by decide), up_k e, uT1 (8 + k) (by omega)]
          exact b2.2.2 k (by rw [hm3]; omega)
      · rw [uT 401 (by decide) (by decide), e47]
      · exact ⟨fun x hx => uS x (by omega) (by omega), fun k _ => by rw [uS 2 (by decide) (by decide)], by rw [uS 22 (by decide) (by decide)], by rw [uS 23 (by decide) (by decide)]⟩
      · exact ⟨fun x hx => uT x (by omega) (by omega), fun k hk => uT0 k (by omega), fun k hk => ⟨uT1 k (by omega), by rw [uT 432 (by decide) (by decide)]⟩, fun k _ => by rw [uT 433 (by decide) (by decide)], fun k _ => by rw [uT 435 (by decide) (by decide), uT 436 (by decide) (by decide)]; exact ⟨rfl, rfl⟩, fun k _ => by rw [uT 437 (by decide) (by decide)], fun k _ _ _ _ _ _ _ _ _ _ _ _ _ => by rw [uT 401 (by decide) (by decide)], fun w k hk => by rw [uT 432 (by decide) (by decide)]; exact w k hk⟩
    · rw [a1, a2, Option.bind_some, Option.bind_some]
      dsimp only
      rw [if_pos rfl, if_neg a3.ne]
      exact Or.inr ⟨_, _, rfl, rfl, a3, s3.mc.tr a4.mc, (f1.nq.tr a5).mm⟩
  · have hF0 := (hF ((t.2.1 : Nat) : Int)).2 (by omega)
    have hF0 : m_Mo_isFull 1 4 ((t.2.1 : Nat) : Int) T1 = _ := hF0
    rw [q2 (by omega), hF0, Option.bind_some, Option.bind_some]
    dsimp only
    rw [if_pos rfl, if_neg n10]
    obtain ⟨z1, z2, z3⟩ := told_full (S := S) (t := t) (L1 := L1) f1
    exact Or.inr ⟨_, _, rfl, rfl, z1, z2, z3⟩
end
