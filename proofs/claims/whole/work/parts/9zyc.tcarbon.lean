/-! MINISTRY: a carbon told, both -/
section
variable {n : Nat} {P S T S' T' : MS} {g : Nat → Int} {E : Nat} {q : Int}
theorem bad_named {kd m : Nat} {but : Int} (hk : kd < 2) (hm : m ≤ 8) (hT : T 430 kd = (m : Int)) (hb : T 401 5 ≠ 0) : ∃ y, m_Mo_named kd but T = some (y, T) := by
  rw [e_Mo_named, bad_name hb, Option.bind_some]
  have h := m_nm8 (T := T) (v := 0) (but := but) hk hm hT m 0 (Nat.zero_add _)
  have h : Mo_named_8 kd but 0 0 T = _ := h
  rw [h, if_neg hb]
  split
  · exact ⟨_, rfl⟩
  · exact ⟨_, rfl⟩
/-- a name among the officers, or the feelings -/
def nmI (kd : Nat) (S : MS) : Nat → Int := if kd = 0 then S 6 else S 9
noncomputable def nmA (kd : Nat) (m : Int) (S : MS) : Option (Int × MS) := if kd = 0 then m_Cl_nameAmong_officerName m S else m_Cl_nameAmong_feelingName m S
theorem nmA_eq {kd m : Nat} {c : Int} (hk : kd < 2) (hm : m ≤ (if kd = 0 then 8 else 4)) (h : m_Te_nameHere S = some (c, S)) (hc : c ≠ -1) : nmA kd m S = if fixN (nmI kd S) c (-1) m 0 = -1 then some (-1, up (up S 2 8 3) 2 9 (S 2 6)) else some (fixN (nmI kd S) c (-1) m 0, S) := by
  unfold nmA nmI
  by_cases k0 : kd = 0
  · rw [if_pos k0] at hm
    rw [if_pos k0, if_pos k0, e_Cl_nameAmong_officerName, h, Option.bind_some]
    dsimp only
    have i0 := c_idxO (S := S) (c := c) (m := m) hm m 0 (Nat.zero_add _)
    have i0 : Cl_indexOf_officerName_2 c m 0 S = _ := i0
    rw [if_neg hc, e_Cl_indexOf_officerName, i0, Option.bind_some]
    dsimp only
    by_cases d : fixN (S 6) c (-1) m 0 = -1
    · rw [if_pos d, if_pos d, c_refuseAt, Option.bind_some, d]
    · rw [if_neg d, if_neg d]
  · rw [if_neg k0] at hm
    rw [if_neg k0, if_neg k0, e_Cl_nameAmong_feelingName, h, Option.bind_some]
    dsimp only
    have i0 := c_idxF (S := S) (c := c) (m := m) hm m 0 (Nat.zero_add _)
    have i0 : Cl_indexOf_feelingName_2 c m 0 S = _ := i0
    rw [if_neg hc, e_Cl_indexOf_feelingName, i0, Option.bind_some]
    dsimp only
    by_cases d : fixN (S 9) c (-1) m 0 = -1
    · rw [if_pos d, if_pos d, c_refuseAt, Option.bind_some, d]
    · rw [if_neg d, if_neg d]
theorem nmA_bad {kd : Nat} {m : Int} (h : m_Te_nameHere S = some (-1, S')) : nmA kd m S = some (-1, S') := by
  unfold nmA
  by_cases k0 : kd = 0
  · rw [if_pos k0, e_Cl_nameAmong_officerName, h, Option.bind_some]; rfl
  · rw [if_neg k0, e_Cl_nameAmong_feelingName, h, Option.bind_some]; rfl
theorem two_named {kd m : Nat} {but : Int} {t : Tok} {L1 : List Tok} (hk : kd < 2) (hm : m ≤ (if kd = 0 then 8 else 4)) (h : LK2 g E S T (t :: L1)) (hT : T 430 kd = (m : Int)) (hn : ∀ k, k < m → NMR (nmI kd S k) (T 431 (8 * kd + k))) : (t.1 ≠ 35 ∧ ∃ (c : Int) (k : Nat) (T' : MS), k < m ∧ nmI kd S k = c ∧ nmA kd m S = some ((k : Int), S) ∧ (m_Te_nameHere S = some (c, S) ∧ fixN (nmI kd S) c (-1) m 0 = (k : Int)) ∧ m_Mo_named kd but T = (if fixN (nmI kd S) c but m 0 = -1 then some (0, up (up T' 401 5 3) 401 6 ((t.2.1 : Nat) : Int)) else some (fixN (nmI kd S) c but m 0, T')) ∧ RTK g E T' L1 ∧ T' 401 37 = ((t.2.1 : Nat) : Int) ∧ FRn T T') ∨ ∃ v S' T', nmA kd m S = some (-1, S') ∧ m_Mo_named kd but T = some (v, T') ∧ BAD S' T' ∧ FTx S S' ∧ FRn T T' := by
  have hm8 : m ≤ 8 := by split at hm <;> omega
  rcases two_name h with ⟨ht, c, v, T1, a1, a2, a3, a4, a5, a6, a7⟩ | ⟨v, S1, T1, a1, a4, a5, a6, a7⟩
  · have hT1 : T1 430 kd = (m : Int) := by rw [a7.1 430 (by decide)]; exact hT
    have hx := nmA_eq (kd := kd) (m := m) hk hm a1 a2
    have hy := fun b => m_nm8 (T := T1) (v := v) (but := b) hk hm8 hT1 m 0 (Nat.zero_add _)
    have hy : ∀ b, Mo_named_8 kd b v 0 T1 = _ := hy
    have hq : ∀ b, fixN (nmI kd S) c b m 0 = fixN (fun k => T1 431 (8 * kd + k)) v b m 0 := fun b => fixN_eq m 0 (fun k _ hk => by rw [a7.1 431 (by decide)]; exact (hn k (by omega)).iff a3)
    have hN : m_Mo_named kd but T = (if fixN (nmI kd S) c but m 0 = -1 then some (0, up (up T1 401 5 3) 401 6 ((t.2.1 : Nat) : Int)) else some (fixN (nmI kd S) c but m 0, T1)) := by
      rw [e_Mo_named, a4, Option.bind_some]
      dsimp only
      rw [hy but, ← hq but, if_pos a5.2.2.2.1, m_fail a5.2.2.2.1, Option.bind_some, a6]
    rcases fixN_b (f := nmI kd S) (c := c) (but := -1) m 0 with ⟨d1, d2⟩ | ⟨k, d1, d2, d3, d4, d5⟩
    · rw [if_pos d1, h.1.hd.2.1] at hx
      have d3 : fixN (nmI kd S) c but m 0 = -1 := by
        rcases fixN_b (f := nmI kd S) (c := c) (but := but) m 0 with ⟨z, -⟩ | ⟨k, z1, z2, z3, z4, z5⟩
        · exact z
        · exact absurd z4 (d2 k (by omega) (by omega) (by omega))
      rw [if_pos d3] at hN
      exact Or.inr ⟨_, _, _, hx, hN, BAD.mk2 3 t.2.1 (by decide) (bdt_fail 3 _), FTx.ref _ _, a7.tr (FRt.fail _ _).nq⟩
    · rw [if_neg (by omega), d1] at hx
      exact Or.inl ⟨ht, c, k, T1, by omega, d4, hx, ⟨a1, d1⟩, hN, a5, a6, a7⟩
  · have hT1 : T1 430 kd = (m : Int) := by rw [a7.1 430 (by decide)]; exact hT
    have hy := m_nm8 (T := T1) (v := v) (but := but) hk hm8 hT1 m 0 (Nat.zero_add _)
    have hy : Mo_named_8 kd but v 0 T1 = _ := hy
    have hz : ∃ y, m_Mo_named kd but T = some (y, T1) := by
      rw [e_Mo_named, a4, Option.bind_some]
      dsimp only
      rw [hy, if_neg a5.ne]
      split
      · exact ⟨_, rfl⟩
      · exact ⟨_, rfl⟩
    obtain ⟨y, hz⟩ := hz
    exact Or.inr ⟨y, S1, T1, nmA_bad a1, hz, a5, a6, a7⟩
/-- the carbon's end -/
def carEnd (a b d : Int) (T : MS) : Option MS := if T 401 5 = 0 then (if 0 ≤ wr (3 * (T 430 2)) ∧ wr (3 * (T 430 2)) < 72 then (if 0 ≤ wr ((wr (3 * (T 430 2))) + 1) ∧ wr ((wr (3 * (T 430 2))) + 1) < 72 then (if 0 ≤ wr ((wr (3 * (T 430 2))) + 2) ∧ wr ((wr (3 * (T 430 2))) + 2) < 72 then some (up (up (up (up T 433 ((wr (3 * (T 430 2))).toNat) a) 433 ((wr ((wr (3 * (T 430 2))) + 1)).toNat) b) 433 ((wr ((wr (3 * (T 430 2))) + 2)).toNat) d) 430 2 (wr ((T 430 2) + 1))) else none) else none) else none) else some T
theorem carEnd_bad {v a b : Int} (h : T 401 5 ≠ 0) : carEnd v a b T = some T := by unfold carEnd; rw [if_neg h]
theorem carEnd_ok {a b d : Int} {m : Nat} (h : T 401 5 = 0) (hm : T 430 2 = (m : Int)) (h12 : m < 12) : carEnd a b d T = some (up (up (up (up T 433 (3 * m) a) 433 (3 * m + 1) b) 433 (3 * m + 2) d) 430 2 ((m + 1 : Nat) : Int)) := by
  unfold carEnd
  simp only [hm]
  have e1 : wr (3 * (m : Int)) = ((3 * m : Nat) : Int) := by rw [wrN (by omega) (by omega)]; omega
  have e2 : wr (((3 * m : Nat) : Int) + 1) = ((3 * m + 1 : Nat) : Int) := wr_suc2 (show 3 * m < 36 by omega) (by decide)
  have e3 : wr (((3 * m : Nat) : Int) + 2) = ((3 * m + 2 : Nat) : Int) := by rw [wrN (by omega) (by omega)]; omega
  simp only [e1, e2, e3, wr_suc2 (show m < 12 from h12) (by decide : (12 : Nat) ≤ 100000), Int.toNat_natCast]
  rw [if_pos h, if_pos (by omega), if_pos (by omega), if_pos (by omega)]
theorem two_carbon {t : Tok} {L1 : List Tok} {T1 : MS} (h : LK2 g E S T (t :: L1)) (ht : t.1 ≠ 35) (hT : RTK g E T1 L1) (f1 : FRt T T1) (hp : PT S T) : RST g E S T (T 401 46 + (((t :: L1).length : Nat) : Int)) (m_Cl_readCarbon S) (m_Mo_carbonTold ((t.2.1 : Nat) : Int) T1) := by
  obtain ⟨o1, o2, o3, o4, -⟩ := hp.1
  obtain ⟨g1, g2, g3⟩ := hp.2.2.1
  have e22 := hp.2.2.2.2.2.2.2.1
  obtain ⟨m, hm⟩ : ∃ m : Nat, S 5 2 = (m : Int) := ⟨(S 5 2).toNat, by omega⟩
  obtain ⟨m0, hm0⟩ : ∃ m : Nat, S 5 0 = (m : Int) := ⟨(S 5 0).toNat, by omega⟩
  have hm1 : T1 430 2 = (m : Int) := by rw [f1.1 430 (by decide), ← g1, hm]
  have h0 : ∀ {T'}, FRn T T' → T' 430 0 = (m0 : Int) := fun {T'} f => by rw [f.1 430 (by decide), ← o1, hm0]
  obtain ⟨q1, q2⟩ := two_kind (a := (m : Int)) (b := 12) h ht hT f1
  have hF := fun b => m_full (kd := 2) (room := 12) (b := b) (T := T1) (by decide) hm1 hT.2.2.2.1
  have hM : m_Mo_carbonTold ((t.2.1 : Nat) : Int) T1 = (m_Mo_isFull 2 12 ((t.2.1 : Nat) : Int) T1).bind fun p1 => if p1.1 = 0 then ((m_Mo_named 0 (-1) p1.2).bind fun p2 => (m_Mo_asks 409 p2.2).bind fun p3 => (m_Mo_named 0 p2.1 p3).bind fun p4 => (m_Mo_asks 410 p4.2).bind fun p5 => (m_Mo_number 1 9 p5).bind fun p6 => carEnd p2.1 p4.1 p6.1 p6.2) else some p1.2 := e_Mo_carbonTold _ _
  rw [e_Cl_readCarbon, if_pos e22, hm, hM]
  by_cases c : m < 12
  · obtain ⟨S1, s1, s2, s3⟩ := q1 (by omega)
    have hF0 := (hF ((t.2.1 : Nat) : Int)).1 (by omega)
    have hF0 : m_Mo_isFull 2 12 ((t.2.1 : Nat) : Int) T1 = _ := hF0
    rw [s1, hF0, Option.bind_some, Option.bind_some]
    dsimp only
    have e22a : S1 22 2 = 1 := by rw [s3.1 22 (by decide)]; exact e22
    have e50 : S1 5 0 = (m0 : Int) := by rw [s3.1 5 (by decide), hm0]
    rw [if_neg n10, if_pos rfl, if_pos e22a, if_pos e22a, e50]
    obtain ⟨t1, L2, rfl⟩ := s2.cons
    have hn : ∀ {S' T'}, S' 6 = S 6 → FRn T T' → ∀ k, k < m0 → NMR (nmI 0 S' k) (T' 431 (8 * 0 + k)) := fun {S' T'} e f k hk => by
      rw [f.1 431 (by decide), show 8 * 0 + k = k by omega, show nmI 0 S' = S' 6 from rfl, e]
      exact (o3 k (by omega)).1
    have kt0 : ∀ (z : MS), m_Cl_nameAmong_officerName (m0 : Int) z = nmA 0 m0 z := fun z => rfl
    have bn : ∀ (z : Int) (T2 : MS), FRn T T2 → T2 401 5 ≠ 0 → ∃ y, m_Mo_named 0 z T2 = some (y, T2) := fun z T2 f hb => bad_named (kd := 0) (m := m0) (by decide) (by omega) (h0 f) hb
    rw [kt0]
    rcases two_named (kd := 0) (m := m0) (but := -1) (by decide) (by rw [if_pos rfl]; omega) s2 (h0 f1.nq) (hn (s3.1 6 (by decide)) f1.nq) with ⟨ht1, c1, k1, T2, a1, a2, a3, a4, a5, a6, a7, a8⟩ | ⟨v, S2, T2, a3, a4, a5, a6, a7⟩
    · rw [a4.2, if_neg (show ¬ ((k1 : Int) = -1) by omega)] at a5
      have a5 : m_Mo_named 0 (-1) T1 = _ := a5
      rw [a3, a5, Option.bind_some, Option.bind_some]
      dsimp only
      rw [if_neg (show ¬ ((k1 : Int) = -1) by omega)]
      obtain ⟨S3, b1, b2, b3⟩ := c_adv s2.1 (s2.ne1 ht1)
      have l3 := s2.go ht1 b2 b3 a6 a8.1
      rw [b1, Option.bind_some]
      have c3 := s3.mc.tr b3.mc
      have r2 := f1.nq.tr a8
      obtain ⟨t2, L3, rfl⟩ := l3.cons
      rcases two_word hr_409 l3 with ⟨-, S4, T4, d1, d2, d3, d4, d5⟩ | ⟨-, S4, T4, d1, d2, d3, d4, d5⟩
      · have d1 : m_Te_takeWord 5 S3 = _ := d1
        rw [d1, d2, Option.bind_some, Option.bind_some]
        dsimp only
        have fS4 : ∀ x, x ≠ 2 → S4 x = S x := fun x hx => by rw [d4.1 x hx, b3.1 x hx, s3.1 x hx]
        have c4 := c3.tr d4.mc
        have r4 := r2.tr d5.nq
        have e22b : S4 22 2 = 1 := by rw [fS4 22 (by decide)]; exact e22
        have e50b : S4 5 0 = (m0 : Int) := by rw [fS4 5 (by decide), hm0]
        rw [if_neg n10, if_pos e22b, if_pos e22b, e50b, kt0]
        obtain ⟨t3, L4, rfl⟩ := d3.cons
        rcases two_named (kd := 0) (m := m0) (but := (k1 : Int)) (by decide) (by rw [if_pos rfl]; omega) d3 (h0 r4) (hn (fS4 6 (by decide)) r4) with ⟨ht3, c2, k2, T5, i1, i2, i3, i4, i5, i6, i7, i8⟩ | ⟨v, S5, T5, i3, i4, i5, i6, i7⟩
        · have i5 : m_Mo_named 0 (k1 : Int) T4 = _ := i5
          have r5 := r4.tr i8
          rw [i3, i5, Option.bind_some, e_Cl_readCarbon_86, if_neg (show ¬ ((k2 : Int) = -1) by omega)]
          have hn6 : nmI 0 S4 = S 6 := by rw [show nmI 0 S4 = S4 6 from rfl, fS4 6 (by decide)]
          rw [hn6] at i2 i4 i5 ⊢
          by_cases ek : k2 = k1
          · -- the same officer
            have hfx : fixN (S 6) c2 (k1 : Int) m0 0 = -1 := by
              rcases fixN_b (f := S 6) (c := c2) (but := (k1 : Int)) m0 0 with ⟨z, -⟩ | ⟨k, z1, z2, z3, z4, z5⟩
              · exact z
              · have := o4 k k2 (by omega) (by omega) (by rw [z4, i2])
                omega
            rw [if_pos (show (k2 : Int) = (k1 : Int) by omega), if_pos hfx]
            dsimp only
            rw [d3.1.hd.2.1, c_refuseAt, Option.bind_some, Option.bind_some]
            dsimp only
            have b5 : up (up T5 401 5 3) 401 6 ((t3.2.1 : Nat) : Int) 401 5 ≠ 0 := by rw [up_k (by decide), up_s]; decide
            rw [if_pos (Or.inl rfl), bad_asks b5, Option.bind_some, bad_number b5, Option.bind_some, carEnd_bad b5]
            exact Or.inr ⟨_, _, rfl, rfl, BAD.mk2 3 t3.2.1 (by decide) (bdt_fail 3 _), c4.tr (FTx.ref _ _).mc, (r5.tr (FRt.fail _ _).nq).mm⟩
          · have hfx : fixN (S 6) c2 (k1 : Int) m0 0 = (k2 : Int) := by
              rcases fixN_b (f := S 6) (c := c2) (but := (k1 : Int)) m0 0 with ⟨z, z2⟩ | ⟨k, z1, z2, z3, z4, z5⟩
              · exact absurd i2 (z2 k2 (by omega) (by omega) (by omega))
              · have := o4 k k2 (by omega) (by omega) (by rw [z4, i2])
                rw [z1, this]
            rw [if_neg (show ¬ (k2 : Int) = (k1 : Int) by omega), hfx, if_neg (show ¬ ((k2 : Int) = -1) by omega)]
            obtain ⟨S6, j1, j2, j3⟩ := c_adv d3.1 (d3.ne1 ht3)
            have l6 := d3.go ht3 j2 j3 i6 i8.1
            rw [j1, Option.bind_some, Option.bind_some]
            dsimp only
            have c6 := c4.tr j3.mc
            obtain ⟨t4, L5, rfl⟩ := l6.cons
            rcases two_word hr_410 l6 with ⟨-, S7, T7, w1, w2, w3, w4, w5⟩ | ⟨-, S7, T7, w1, w2, w3, w4, w5⟩
            · have w1 : m_Te_takeWord 6 S6 = _ := w1
              rw [w1, w2, Option.bind_some, Option.bind_some]
              dsimp only
              rw [if_neg n10]
              have c7 := c6.tr w4.mc
              have r7 := r5.tr w5.nq
              obtain ⟨t5, L6, rfl⟩ := w3.cons
              rcases two_num (lo := 1) (hi := 9) w3 with ⟨v, S8, T8, x0, -, x1, x2, x3, x4, x5⟩ | ⟨v, S8, T8, x1, x2, -, x3, x4, x5⟩
              · rw [x1, x2, Option.bind_some, Option.bind_some]
                dsimp only
                have c8 := c7.tr x4.mc
                have r8 := r7.tr x5.nq
                have fS : ∀ x, x ≠ 2 → S8 x = S x := fun x hx => by rw [x4.1 x hx, w4.1 x hx, j3.1 x hx, fS4 x hx]
                have e22c : S8 22 2 = 1 := by rw [fS 22 (by decide)]; exact e22
                have hm2 : T8 430 2 = (m : Int) := by rw [r8.1 430 (by decide), ← g1, hm]
                have hm3 : S8 5 2 = (m : Int) := by rw [fS 5 (by decide), hm]
                have hm4 : S8 5 0 = (m0 : Int) := by rw [fS 5 (by decide), hm0]
                have hmm : (0 : Int) ≤ (m : Int) ∧ (m : Int) < 12 := by omega
                rw [e_Cl_readCarbon_148, if_neg (show ¬ v = -1 by omega), if_pos e22c, if_pos hmm, if_pos e22c, if_pos hmm, if_pos e22c, if_pos hmm, if_pos e22c, carEnd_ok x3.2.1.2.2.2.1 hm2 c, wr_suc2 (show m < 12 from c) (by decide), Int.toNat_natCast]
                obtain ⟨b1, b2, b3, b4, b5, b6, b7, b8, b9⟩ := hp.rd (S' := S8) (T' := T8) fS r8.1 r8.u46.1 r8.u46.2
                have uS : ∀ x, x ≠ 5 → x ≠ 10 → x ≠ 11 → x ≠ 12 → up (up (up (up S8 10 m (k1 : Int)) 11 m (k2 : Int)) 12 m v) 5 2 ((m + 1 : Nat) : Int) x = S8 x := fun x h1 h2 h3 h4 => by rw [up_c h1, up_c h4, up_c h3, up_c h2]
                have uS5 : ∀ k, k ≠ 2 → up (up (up (up S8 10 m (k1 : Int)) 11 m (k2 : Int)) 12 m v) 5 2 ((m + 1 : Nat) : Int) 5 k = S8 5 k := fun k hk => by rw [up_k hk, up_c (by decide), up_c (by decide), up_c (by decide)]
                have uS6 : ∀ k, up (up (up (up S8 10 m (k1 : Int)) 11 m (k2 : Int)) 12 m v) 5 2 ((m + 1 : Nat) : Int) 10 k = if k = m then (k1 : Int) else S8 10 k := fun k => by
                  rw [up_c (by decide), up_c (by decide), up_c (by decide)]
                  by_cases e : k = m
                  · rw [e, up_s, if_pos rfl]
                  · rw [up_k e, if_neg e]
                have uS7 : ∀ k, up (up (up (up S8 10 m (k1 : Int)) 11 m (k2 : Int)) 12 m v) 5 2 ((m + 1 : Nat) : Int) 11 k = if k = m then (k2 : Int) else S8 11 k := fun k => by
                  rw [up_c (by decide), up_c (by decide)]
                  by_cases e : k = m
                  · rw [e, up_s, if_pos rfl]
                  · rw [up_k e, if_neg e, up_c (by decide)]
                have uS8 : ∀ k, up (up (up (up S8 10 m (k1 : Int)) 11 m (k2 : Int)) 12 m v) 5 2 ((m + 1 : Nat) : Int) 12 k = if k = m then v else S8 12 k := fun k => by
                  rw [up_c (by decide)]
                  by_cases e : k = m
                  · rw [e, up_s, if_pos rfl]
                  · rw [up_k e, if_neg e, up_c (by decide), up_c (by decide)]
                have uT : ∀ x, x ≠ 430 → x ≠ 433 → up (up (up (up T8 433 (3 * m) (k1 : Int)) 433 (3 * m + 1) (k2 : Int)) 433 (3 * m + 2) v) 430 2 ((m + 1 : Nat) : Int) x = T8 x := fun x h1 h2 => by rw [up_c h1, up_c h2, up_c h2, up_c h2]
                have uT0 : ∀ k, k ≠ 2 → up (up (up (up T8 433 (3 * m) (k1 : Int)) 433 (3 * m + 1) (k2 : Int)) 433 (3 * m + 2) v) 430 2 ((m + 1 : Nat) : Int) 430 k = T8 430 k := fun k hk => by rw [up_k hk, up_c (by decide), up_c (by decide), up_c (by decide)]
                have uT3 : ∀ k, up (up (up (up T8 433 (3 * m) (k1 : Int)) 433 (3 * m + 1) (k2 : Int)) 433 (3 * m + 2) v) 430 2 ((m + 1 : Nat) : Int) 433 k = if k = 3 * m + 2 then v else if k = 3 * m + 1 then (k2 : Int) else if k = 3 * m then (k1 : Int) else T8 433 k := fun k => by
                  rw [up_c (by decide)]
                  by_cases e : k = 3 * m + 2
                  · rw [e, up_s, if_pos rfl]
                  · rw [up_k e, if_neg e]
                    by_cases e2 : k = 3 * m + 1
                    · rw [e2, up_s, if_pos rfl]
                    · rw [up_k e2, if_neg e2]
                      by_cases e3 : k = 3 * m
                      · rw [e3, up_s, if_pos rfl]
                      · rw [up_k e3, if_neg e3]
                have u52 : up (up (up (up S8 10 m (k1 : Int)) 11 m (k2 : Int)) 12 m v) 5 2 ((m + 1 : Nat) : Int) 5 2 = ((m + 1 : Nat) : Int) := up_s _ _ _ _
                have u430 : up (up (up (up T8 433 (3 * m) (k1 : Int)) 433 (3 * m + 1) (k2 : Int)) 433 (3 * m + 2) v) 430 2 ((m + 1 : Nat) : Int) 430 2 = ((m + 1 : Nat) : Int) := up_s _ _ _ _
                generalize up (up (up (up S8 10 m (k1 : Int)) 11 m (k2 : Int)) 12 m v) 5 2 ((m + 1 : Nat) : Int) = S9 at *
                generalize up (up (up (up T8 433 (3 * m) (k1 : Int)) 433 (3 * m + 1) (k2 : Int)) 433 (3 * m + 2) v) 430 2 ((m + 1 : Nat) : Int) = T9 at *
                refine Or.inl ⟨S9, T9, L6, rfl, rfl, x3.stay (fun k _ _ => by rw [uS 2 (by decide) (by decide) (by decide) (by decide)]) (uS 3 (by decide) (by decide) (by decide) (by decide)) (uS 4 (by decide) (by decide) (by decide) (by decide)) (fun k _ _ => by rw [uT 401 (by decide) (by decide)]) (fun x hx => uT x (by omega) (by omega)), ?_, ?_, ?_, c8.tr ?_, r8.mm.tr ?_⟩
                · rw [uT 401 (by decide) (by decide), r8.u46.1]; simp only [List.length_cons]; omega
                · refine ⟨b1.fr (uS5 0 (by decide)) (uS 6 (by decide) (by decide) (by decide) (by decide)) (uS 7 (by decide) (by decide) (by decide) (by decide)) (uS 8 (by decide) (by decide) (by decide) (by decide)) (uT0 0 (by decide)) (fun k _ => by rw [uT 431 (by decide) (by decide)]) (uT 432 (by decide) (by decide)), b2.fr (uS5 1 (by decide)) (uS 9 (by decide) (by decide) (by decide) (by decide)) (uT0 1 (by decide)) (fun k _ _ => by rw [uT 431 (by decide) (by decide)]), ⟨by rw [u52, u430], by rw [u52]; omega, fun k hk => ?_⟩, b4.fr (uS5 4 (by decide)) (uT0 3 (by decide)), b5.fr (by rw [uS5 0 (by decide)]; exact Int.le_refl _) (by rw [uS5 1 (by decide)]; exact Int.le_refl _) (uS 13 (by decide) (by decide) (by decide) (by decide)) (uT 434 (by decide) (by decide)), b6.fr (by rw [uS 14 (by decide) (by decide) (by decide) (by decide)]) (by rw [uS 22 (by decide) (by decide) (by decide) (by decide)]) (uS 20 (by decide) (by decide) (by decide) (by decide)) (uS 21 (by decide) (by decide) (by decide) (by decide)) (uS 15 (by decide) (by decide) (by decide) (by decide)) (uS5 5 (by decide)) (by rw [uT 401 (by decide) (by decide)]) (uT 435 (by decide) (by decide)) (uT 436 (by decide) (by decide)) (uT 437 (by decide) (by decide)), by rw [uS5 3 (by decide), uT 401 (by decide) (by decide)]; exact b7, by rw [uS 22 (by decide) (by decide) (by decide) (by decide)]; exact b8, by rw [uS 23 (by decide) (by decide) (by decide) (by decide)]; exact b9⟩
                  rw [u52] at hk
                  rw [uS6 k, uS7 k, uS8 k, uT3 (3 * k), uT3 (3 * k + 1), uT3 (3 * k + 2), uS5 0 (by decide), hm4]
                  by_cases e : k = m
                  · rw [if_pos e, if_pos e, if_pos e, if_neg (by omega), if_neg (by omega), if_pos (by omega), if_neg (by omega), if_pos (by omega), if_pos (by omega)]
                    exact ⟨⟨rfl, rfl, rfl⟩, by omega, by omega, x0, by omega⟩
                  · rw [if_neg e, if_neg e, if_neg e, if_neg (by omega), if_neg (by omega), if_neg (by omega), if_neg (by omega), if_neg (by omega), if_neg (by omega), if_neg (by omega), if_neg (by omega), if_neg (by omega)]
                    have := b3.2.2 k (by rw [hm3]; omega)
                    rw [hm4] at this
                    exact this
                · rw [uT 401 (by decide) (by decide), r8.u46.2]
                · exact ⟨fun x hx => uS x (by omega) (by omega) (by omega) (by omega), fun k _ => by rw [uS 2 (by decide) (by decide) (by decide) (by decide)], by rw [uS 22 (by decide) (by decide) (by decide) (by decide)], by rw [uS 23 (by decide) (by decide) (by decide) (by decide)]⟩
                · exact ⟨fun x hx => uT x (by omega) (by omega), fun k hk => uT0 k (by omega), fun k hk => by rw [uT 431 (by decide) (by decide), uT 432 (by decide) (by decide)]; exact ⟨rfl, rfl⟩, fun k hk => by rw [uT3 k, if_neg (by omega), if_neg (by omega), if_neg (by omega)], fun k _ => by rw [uT 435 (by decide) (by decide), uT 436 (by decide) (by decide)]; exact ⟨rfl, rfl⟩, fun k _ => by rw [uT 437 (by decide) (by decide)], fun k _ _ _ _ _ _ _ _ _ _ _ _ _ => by rw [uT 401 (by decide) (by decide)], fun w k hk => by rw [uT 432 (by decide) (by decide)]; exact w k hk⟩
              · rw [x1, x2, Option.bind_some, Option.bind_some]
                dsimp only
                rw [e_Cl_readCarbon_148, if_pos rfl, carEnd_bad x3.ne]
                exact Or.inr ⟨_, _, rfl, rfl, x3, c7.tr x4.mc, (r7.tr x5.nq).mm⟩
            · have w1 : m_Te_takeWord 6 S6 = _ := w1
              rw [w1, w2, Option.bind_some, Option.bind_some]
              dsimp only
              rw [if_pos rfl, e_Cl_readCarbon_148, if_pos rfl, bad_number w3.ne, Option.bind_some, carEnd_bad w3.ne]
              exact Or.inr ⟨_, _, rfl, rfl, w3, c6.tr w4.mc, (r5.tr w5.nq).mm⟩
        · have i4 : m_Mo_named 0 (k1 : Int) T4 = _ := i4
          rw [i3, i4, Option.bind_some, Option.bind_some]
          dsimp only
          rw [e_Cl_readCarbon_86, if_pos rfl, bad_asks i5.ne, Option.bind_some, bad_number i5.ne, Option.bind_some, carEnd_bad i5.ne]
          exact Or.inr ⟨_, _, rfl, rfl, i5, c4.tr i6.mc, (r4.tr i7).mm⟩
      · have d1 : m_Te_takeWord 5 S3 = _ := d1
        rw [d1, d2, Option.bind_some, Option.bind_some]
        dsimp only
        obtain ⟨y, hy⟩ := bn (k1 : Int) T4 (r2.tr d5.nq) d3.ne
        rw [if_pos rfl, e_Cl_readCarbon_86, if_pos rfl, hy, Option.bind_some, bad_asks d3.ne, Option.bind_some, bad_number d3.ne, Option.bind_some, carEnd_bad d3.ne]
        exact Or.inr ⟨_, _, rfl, rfl, d3, c3.tr d4.mc, (r2.tr d5.nq).mm⟩
    · have a4 : m_Mo_named 0 (-1) T1 = _ := a4
      rw [a3, a4, Option.bind_some, Option.bind_some]
      dsimp only
      obtain ⟨y, hy⟩ := bn v T2 (f1.nq.tr a7) a5.ne
      rw [if_pos rfl, bad_asks a5.ne, Option.bind_some, hy, Option.bind_some, bad_asks a5.ne, Option.bind_some, bad_number a5.ne, Option.bind_some, carEnd_bad a5.ne]
      exact Or.inr ⟨_, _, rfl, rfl, a5, s3.mc.tr a6.mc, (f1.nq.tr a7).mm⟩
  · have hF0 := (hF ((t.2.1 : Nat) : Int)).2 (by omega)
    have hF0 : m_Mo_isFull 2 12 ((t.2.1 : Nat) : Int) T1 = _ := hF0
    rw [q2 (by omega), hF0, Option.bind_some, Option.bind_some]
    dsimp only
    rw [if_pos rfl, if_neg n10]
    obtain ⟨z1, z2, z3⟩ := told_full (S := S) (t := t) (L1 := L1) f1
    exact Or.inr ⟨_, _, rfl, rfl, z1, z2, z3⟩
end
