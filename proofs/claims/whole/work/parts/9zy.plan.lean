/-! MINISTRY: the plan that is told, both -/
section
variable {n : Nat} {P S T S' T' : MS} {g : Nat → Int} {E : Nat} {q : Int}
def PTo (S T : MS) : Prop := S 5 0 = T 430 0 ∧ (0 ≤ S 5 0 ∧ S 5 0 ≤ 8) ∧ (∀ k : Nat, (k : Int) < S 5 0 → NMR (S 6 k) (T 431 k) ∧ S 7 k = T 432 (2 * k) ∧ S 8 k = T 432 (2 * k + 1)) ∧ (∀ i k : Nat, (i : Int) < S 5 0 → (k : Int) < S 5 0 → S 6 i = S 6 k → i = k) ∧ ∀ k, k < 16 → 0 ≤ T 432 k ∧ T 432 k ≤ 9
def PTf (S T : MS) : Prop := S 5 1 = T 430 1 ∧ (0 ≤ S 5 1 ∧ S 5 1 ≤ 4) ∧ ∀ k : Nat, (k : Int) < S 5 1 → NMR (S 9 k) (T 431 (8 + k))
def PTc (S T : MS) : Prop := S 5 2 = T 430 2 ∧ (0 ≤ S 5 2 ∧ S 5 2 ≤ 12) ∧ ∀ k : Nat, (k : Int) < S 5 2 → (S 10 k = T 433 (3 * k) ∧ S 11 k = T 433 (3 * k + 1) ∧ S 12 k = T 433 (3 * k + 2)) ∧ (0 ≤ S 10 k ∧ S 10 k < S 5 0) ∧ (0 ≤ S 11 k ∧ S 11 k < S 5 0) ∧ (1 ≤ S 12 k ∧ S 12 k ≤ 9) ∧ S 10 k ≠ S 11 k
def PTp (S T : MS) : Prop := S 5 4 = T 430 3 ∧ 0 ≤ S 5 4 ∧ S 5 4 ≤ 100
def PTd (S T : MS) : Prop := (∀ f, f < 4 → (0 ≤ S 13 f ∧ S 13 f < ((2 ^ 56 : Nat) : Int)) ∧ ∀ o, o < 8 → dg (S 13 f) o = T 434 (4 * o + f)) ∧ (∀ i, i < 32 → 0 ≤ T 434 i ∧ T 434 i ≤ 99) ∧ ∀ o f : Nat, o < 8 → f < 4 → (S 5 0 ≤ o ∨ S 5 1 ≤ f) → T 434 (4 * o + f) = 0
def lawT (T : MS) (w : Nat) : List Int := if T 435 w = -1 then (if w = 0 then [43, 44, 2] else if w = 1 then [1000] else [45, 1050, 8]) else seg (T 437) (T 435 w).toNat ((T 436 w).toNat - (T 435 w).toNat)
def PTl (S T : MS) : Prop := (0 ≤ T 401 46 ∧ T 401 46 ≤ 1600) ∧ S 14 1 = 7 + T 401 46 ∧ (0 ≤ S 22 3 ∧ S 22 3 < 8) ∧
  (∀ w, w < 3 → (bt (S 22 3) w = if T 435 w = -1 then 0 else 1) ∧ (T 435 w = -1 ∨ (0 ≤ T 435 w ∧ T 435 w ≤ T 436 w ∧ T 436 w ≤ T 401 46)) ∧ tyS w (lawT T w) [] = some [decide (w = 2)] ∧
    ∃ a : Nat, S 20 w = (a : Int) ∧ S 21 w = ((a + (lawT T w).length : Nat) : Int) ∧ ((a + (lawT T w).length : Nat) : Int) ≤ S 14 1 ∧ ∀ i, i < (lawT T w).length → S 15 (a + i) = mc ((lawT T w).getD i 0)) ∧
  (S 5 5 = 0 ∨ S 5 5 = 1) ∧ (S 5 5 = 0 → ∀ w, w < 2 → ∀ c ∈ lawT T w, c ≠ 42) ∧
  ∃ C0 : List Int, S 14 1 = ((C0.length : Nat) : Int) ∧ ∀ i, i < C0.length → S 15 i = mc (C0.getD i 0)
def PT (S T : MS) : Prop := PTo S T ∧ PTf S T ∧ PTc S T ∧ PTp S T ∧ PTd S T ∧ PTl S T ∧ (S 5 3 = T 401 47 ∧ 0 ≤ S 5 3 ∧ S 5 3 ≤ 60) ∧ S 22 2 = 1 ∧ okk (S 23 1) = 0
theorem PTo.fr (h : PTo S T) (a : S' 5 0 = S 5 0) (b : S' 6 = S 6) (c : S' 7 = S 7) (d : S' 8 = S 8) (e : T' 430 0 = T 430 0) (f : ∀ k, k < 8 → T' 431 k = T 431 k) (i : T' 432 = T 432) : PTo S' T' := by
  obtain ⟨h1, h2, h3, h4, h5⟩ := h
  refine ⟨by rw [a, e]; exact h1, by rw [a]; exact h2, fun k hk => ?_, by rw [a, b]; exact h4, by rw [i]; exact h5⟩
  rw [a] at hk
  rw [b, c, d, i, f k (by omega)]
  exact h3 k hk
theorem PTf.fr (h : PTf S T) (a : S' 5 1 = S 5 1) (b : S' 9 = S 9) (e : T' 430 1 = T 430 1) (f : ∀ k, 8 ≤ k → k < 16 → T' 431 k = T 431 k) : PTf S' T' := by
  obtain ⟨h1, h2, h3⟩ := h
  refine ⟨by rw [a, e]; exact h1, by rw [a]; exact h2, fun k hk => ?_⟩
  rw [a] at hk
  rw [b, f (8 + k) (by omega) (by omega)]
  exact h3 k hk
theorem PTc.fr (h : PTc S T) (a : S' 5 2 = S 5 2) (a0 : S 5 0 ≤ S' 5 0) (b : S' 10 = S 10) (c : S' 11 = S 11) (d : S' 12 = S 12) (e : T' 430 2 = T 430 2) (f : T' 433 = T 433) : PTc S' T' := by
  obtain ⟨h1, h2, h3⟩ := h
  refine ⟨by rw [a, e]; exact h1, by rw [a]; exact h2, fun k hk => ?_⟩
  rw [a] at hk
  rw [b, c, d, f]
  have := h3 k hk
  omega
theorem PTp.fr (h : PTp S T) (a : S' 5 4 = S 5 4) (e : T' 430 3 = T 430 3) : PTp S' T' := by unfold PTp at h ⊢; rw [a, e]; exact h
theorem PTd.fr (h : PTd S T) (a0 : S 5 0 ≤ S' 5 0) (a1 : S 5 1 ≤ S' 5 1) (b : S' 13 = S 13) (e : T' 434 = T 434) : PTd S' T' := by
  obtain ⟨h1, h2, h3⟩ := h
  exact ⟨by rw [b, e]; exact h1, by rw [e]; exact h2, fun o f ho hf hq => by rw [e]; exact h3 o f ho hf (by omega)⟩
theorem PTl.fr (h : PTl S T) (a : S' 14 1 = S 14 1) (b : S' 22 3 = S 22 3) (c : S' 20 = S 20) (d : S' 21 = S 21) (e : S' 15 = S 15) (f : S' 5 5 = S 5 5) (i : T' 401 46 = T 401 46) (j : T' 435 = T 435) (k : T' 436 = T 436) (l : T' 437 = T 437) : PTl S' T' := by
  have hl : ∀ w, lawT T' w = lawT T w := fun w => by unfold lawT; rw [j, k, l]
  unfold PTl at h ⊢
  rw [a, b, c, d, e, f, i, j, k]
  simp only [hl]
  exact h
/-- reading alone -/
theorem PT.rd (h : PT S T) (fS : ∀ c, c ≠ 2 → S' c = S c) (fT : ∀ c, c ≠ 401 → T' c = T c) (f46 : T' 401 46 = T 401 46) (f47 : T' 401 47 = T 401 47) : PT S' T' := by
  obtain ⟨h1, h2, h3, h4, h5, h6, h7, h8, h9⟩ := h
  have e5 := fS 5 (by decide)
  exact ⟨h1.fr (by rw [e5]) (fS 6 (by decide)) (fS 7 (by decide)) (fS 8 (by decide)) (by rw [fT 430 (by decide)]) (fun k _ => by rw [fT 431 (by decide)]) (fT 432 (by decide)), h2.fr (by rw [e5]) (fS 9 (by decide)) (by rw [fT 430 (by decide)]) (fun k _ _ => by rw [fT 431 (by decide)]), h3.fr (by rw [e5]) (by rw [e5]; exact Int.le_refl _) (fS 10 (by decide)) (fS 11 (by decide)) (fS 12 (by decide)) (by rw [fT 430 (by decide)]) (fT 433 (by decide)), h4.fr (by rw [e5]) (by rw [fT 430 (by decide)]), h5.fr (by rw [e5]; exact Int.le_refl _) (by rw [e5]; exact Int.le_refl _) (fS 13 (by decide)) (fT 434 (by decide)), h6.fr (by rw [fS 14 (by decide)]) (by rw [fS 22 (by decide)]) (fS 20 (by decide)) (fS 21 (by decide)) (fS 15 (by decide)) (by rw [e5]) f46 (fT 435 (by decide)) (fT 436 (by decide)) (fT 437 (by decide)), by rw [e5, f47]; exact h7, by rw [fS 22 (by decide)]; exact h8, by rw [fS 23 (by decide)]; exact h9⟩
theorem PT.rn (h : PT S T) (f : FTk S S') (r : FRn T T') : PT S' T' := h.rd f.1 r.1 (r.2 46 (by decide) (by decide) (by decide) (by decide) (by decide) (by decide)) (r.2 47 (by decide) (by decide) (by decide) (by decide) (by decide) (by decide))
theorem two_new {t : Tok} {L1 : List Tok} (h : LK2 g E S T (t :: L1)) (hp : PT S T) : (t.1 ≠ 35 ∧ ∃ c v S' T', m_Cl_takeNewName S = some (c, S') ∧ c ≠ -1 ∧ m_Mo_newName T = some (v, T') ∧ NMR c v ∧ LK2 g E S' T' L1 ∧ FTk S S' ∧ FRn T T' ∧ ∀ k : Nat, (k : Int) < S 5 0 → S 6 k ≠ c) ∨ ∃ v S' T', m_Cl_takeNewName S = some (-1, S') ∧ m_Mo_newName T = some (v, T') ∧ BAD S' T' ∧ FTx S S' ∧ FRn T T' := by
  obtain ⟨o1, o2, o3, -⟩ := hp.1
  obtain ⟨f1, f2, f3⟩ := hp.2.1
  have e22 := hp.2.2.2.2.2.2.2.1
  obtain ⟨m0, hm0⟩ : ∃ m : Nat, S 5 0 = (m : Int) := ⟨(S 5 0).toNat, by omega⟩
  obtain ⟨m1, hm1⟩ : ∃ m : Nat, S 5 1 = (m : Int) := ⟨(S 5 1).toNat, by omega⟩
  rw [e_Cl_takeNewName, e_Mo_newName]
  rcases two_name h with ⟨ht, c, v, T1, a1, a2, a3, a4, a5, a6, a7⟩ | ⟨v, S1, T1, a1, a4, a5, a6, a7⟩
  · rw [a1, a4, Option.bind_some, Option.bind_some]
    dsimp only
    rw [if_neg a2, if_pos e22, if_pos e22, hm0, e_Cl_indexOf_officerName]
    have hT0 : T1 430 0 = (m0 : Int) := by rw [a7.1 430 (by decide), ← o1, hm0]
    have hT1 : T1 430 1 = (m1 : Int) := by rw [a7.1 430 (by decide), ← f1, hm1]
    have i0 := c_idxO (S := S) (c := c) (m := m0) (by omega) m0 0 (Nat.zero_add _)
    have i0 : Cl_indexOf_officerName_2 c m0 0 S = _ := i0
    rw [i0, Option.bind_some]
    have q0 : fixN (S 6) c (-1) m0 0 = fixN (fun k => T1 431 (8 * 0 + k)) v (-1) m0 0 := fixN_eq m0 0 (fun k _ hk => by rw [a7.1 431 (by decide), show 8 * 0 + k = k by omega]; exact (o3 k (by omega)).1.iff a3)
    have n0 := m_new15 (T := T1) (v := v) (kd := 0) (m := m0) (by decide) (by omega) hT0 a5.2.2.2.1 m0 0 (Nat.zero_add _)
    rw [← q0] at n0
    have n0' : Mo_newName_7 v 0 T1 = Mo_newName_15 v 0 0 T1 := by rw [e_Mo_newName_7, if_pos (by decide)]
    have hd := h.1.hd
    have hbad : ∀ z : Int, z = 0 ∨ z = 1 → (Mo_newName_7 v 0 T1 = Mo_newName_7 v ((z.toNat + 1 : Nat) : Int) (up (up T1 401 5 3) 401 6 (T1 401 37))) → ∃ v' S' T', ((m_Te_refuseAt 3 (S 2 6) S).bind fun p3 => some ((-1 : Int), p3.2)) = some (-1, S') ∧ Mo_newName_7 v 0 T1 = some (v', T') ∧ BAD S' T' ∧ FTx S S' ∧ FRn T T' := fun z hz e => by
      have b5 : up (up T1 401 5 3) 401 6 (T1 401 37) 401 5 ≠ 0 := by rw [up_k (by decide), up_s]; decide
      obtain ⟨z0, z1⟩ := bad_new7 (T := up (up T1 401 5 3) 401 6 (T1 401 37)) (v := v) (m0 := m0) (m1 := m1) (by omega) (by omega) (by rw [up_c (by decide), up_c (by decide)]; exact hT0) (by rw [up_c (by decide), up_c (by decide)]; exact hT1) b5
      have z2 : Mo_newName_7 v 2 (up (up T1 401 5 3) 401 6 (T1 401 37)) = some (v, up (up T1 401 5 3) 401 6 (T1 401 37)) := by rw [e_Mo_newName_7, if_neg (by decide)]
      refine ⟨v, up (up S 2 8 3) 2 9 ((t.2.1 : Nat) : Int), up (up T1 401 5 3) 401 6 (T1 401 37), by rw [c_refuseAt, Option.bind_some, hd.2.1], ?_, BAD.mk2 3 t.2.1 (by decide) (by rw [a6]; exact bdt_fail 3 _), FTx.ref _ _, a7.tr (FRt.fail _ _).nq⟩
      rw [e]
      rcases hz with rfl | rfl
      · exact z1
      · exact z2
    by_cases c0 : fixN (S 6) c (-1) m0 0 = -1
    · have n0 : Mo_newName_15 v 0 0 T1 = Mo_newName_7 v 1 T1 := n0.1 c0
      dsimp only
      rw [if_pos c0, if_pos e22, if_pos e22, hm1, e_Cl_indexOf_feelingName]
      have i1 := c_idxF (S := S) (c := c) (m := m1) (by omega) m1 0 (Nat.zero_add _)
      have i1 : Cl_indexOf_feelingName_2 c m1 0 S = _ := i1
      rw [i1, Option.bind_some]
      have q1 : fixN (S 9) c (-1) m1 0 = fixN (fun k => T1 431 (8 * 1 + k)) v (-1) m1 0 := fixN_eq m1 0 (fun k _ hk => by rw [a7.1 431 (by decide)]; exact (f3 k (by omega)).iff a3)
      have n1 := m_new15 (T := T1) (v := v) (kd := 1) (m := m1) (by decide) (by omega) hT1 a5.2.2.2.1 m1 0 (Nat.zero_add _)
      rw [← q1] at n1
      have n1' : Mo_newName_7 v 1 T1 = Mo_newName_15 v 1 0 T1 := by rw [e_Mo_newName_7, if_pos (by decide)]
      dsimp only
      by_cases c1 : fixN (S 9) c (-1) m1 0 = -1
      · have n1 : Mo_newName_15 v 1 0 T1 = Mo_newName_7 v 2 T1 := n1.1 c1
        rw [if_pos c1]
        obtain ⟨S1, s1, s2, s3⟩ := c_adv h.1 (h.ne1 ht)
        rw [s1, Option.bind_some, n0', n0, n1', n1, e_Mo_newName_7, if_neg (by decide)]
        refine Or.inl ⟨ht, c, v, S1, T1, rfl, a2, rfl, a3, h.go ht s2 s3 a5 a7.1, s3, a7, fun k hk e => ?_⟩
        rcases fixN_b (f := S 6) (c := c) (but := -1) m0 0 with ⟨-, d⟩ | ⟨k', d, -⟩
        · exact d k (Nat.zero_le _) (by omega) (by omega) e
        · omega
      · rw [if_neg c1]
        exact Or.inr (hbad 1 (Or.inr rfl) (by rw [n0', n0, n1']; exact n1.2 c1))
    · dsimp only
      rw [if_neg c0]
      exact Or.inr (hbad 0 (Or.inl rfl) (by rw [n0']; exact n0.2 c0))
  · rw [a1, a4, Option.bind_some, Option.bind_some]
    dsimp only
    rw [if_pos rfl]
    obtain ⟨z0, -⟩ := bad_new7 (T := T1) (v := v) (m0 := m0) (m1 := m1) (by omega) (by omega) (by rw [a7.1 430 (by decide), ← o1, hm0]) (by rw [a7.1 430 (by decide), ← f1, hm1]) a5.ne
    exact Or.inr ⟨v, S1, T1, rfl, z0, a5, a6, a7⟩
end
