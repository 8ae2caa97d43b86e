/-! MINISTRY: a law told, both -/
section
variable {n : Nat} {P S T S' T' : MS} {g : Nat → Int} {E : Nat} {q : Int}
theorem cp92 {w a : Nat} {cs : List Int} (hw : w < 3) (ha : a + cs.length ≤ 1600) : ∀ (j i : Nat) (T : MS), i + j = cs.length → T 401 97 = ((cs.length : Nat) : Int) → T 401 46 = ((a + i : Nat) : Int) → (∀ k, k < cs.length → T 473 k = cs.getD k 0) → ∃ T', Mo_codesTold_92 w i T = some T' ∧ T' 401 46 = ((a + cs.length : Nat) : Int) ∧ T' 436 w = ((a + cs.length : Nat) : Int) ∧ (∀ k, k ≠ w → T' 436 k = T 436 k) ∧ (∀ k, a + i ≤ k → k < a + cs.length → T' 437 k = cs.getD (k - a) 0) ∧ (∀ k, k < a + i ∨ a + cs.length ≤ k → T' 437 k = T 437 k) ∧ (∀ x, x ≠ 401 → x ≠ 436 → x ≠ 437 → T' x = T x) ∧ ∀ k, k ≠ 46 → T' 401 k = T 401 k := by
  intro j
  induction j with
  | zero =>
    intro i T e h97 h46 h473
    rw [e_Mo_codesTold_92, h97, if_neg (by omega), if_pos (by omega), Int.toNat_natCast]
    have e2 : a + cs.length = a + i := by omega
    refine ⟨_, rfl, by rw [up_c (by decide), h46, e2], by rw [up_s, h46, e2], fun k hk => up_k hk, fun k h1 h2 => by omega, fun k _ => by rw [up_c (by decide)], fun x _ h2 _ => up_c h2, fun k _ => by rw [up_c (by decide)]⟩
  | succ j ih =>
    intro i T e h97 h46 h473
    rw [e_Mo_codesTold_92, h97, if_pos (by omega), if_pos (by omega), h46, if_pos (by omega), Int.toNat_natCast, Int.toNat_natCast, h473 i (by omega), wr_suc2 (show i < 1700 by omega) (by decide), wr_suc2 (show a + i < 1600 by omega) (by decide)]
    obtain ⟨T', r1, r2, r3, r4, r5, r6, r7, r8⟩ := ih (i + 1) (up (up T 437 (a + i) (cs.getD i 0)) 401 46 ((a + i + 1 : Nat) : Int)) (by omega) (by rw [up_k (by decide), up_c (by decide)]; exact h97) (by rw [up_s]; rfl) (fun k hk => by rw [up_c (by decide), up_c (by decide)]; exact h473 k hk)
    refine ⟨T', r1, r2, r3, fun k hk => by rw [r4 k hk, up_c (by decide), up_c (by decide)], fun k h1 h2 => ?_, fun k hk => by rw [r6 k (by omega), up_c (by decide), up_k (by omega)], fun x h1 h2 h3 => by rw [r7 x h1 h2 h3, up_c h1, up_c h3], fun k hk => by rw [r8 k hk, up_k hk, up_c (by decide)]⟩
    by_cases c : k = a + i
    · rw [c, r6 (a + i) (by omega), up_c (by decide), up_s, show a + i - a = i by omega]
    · exact r5 k (by omega) h2
theorem c_77 {w : Nat} {z : Int} (hw : w < 3) (hz : z = 0 ∨ z = 1) (h22 : S 22 2 = 1) (h5 : S 5 5 = 0 ∨ S 5 5 = 1) : Cl_readLaw_77 w z S = some (z, up (up S 21 w (S 14 1)) 5 5 (if w < 2 ∧ S 23 3 ≠ 0 then 1 else S 5 5)) := by
  have u22 : up S 21 w (S 14 1) 22 2 = 1 := by rw [up_c (by decide)]; exact h22
  have u23 : up S 21 w (S 14 1) 23 3 = S 23 3 := by rw [up_c (by decide)]
  have u5 : up S 21 w (S 14 1) 5 5 = S 5 5 := by rw [up_c (by decide)]
  have b0 : bor (S 5 5) 0 = S 5 5 := by rcases h5 with h | h <;> (rw [h, bor_nn (by decide) (by decide) (by decide) (by decide)]; rfl)
  have b1 : bor (S 5 5) 1 = 1 := by rcases h5 with h | h <;> (rw [h, bor_nn (by decide) (by decide) (by decide) (by decide)]; rfl)
  rw [e_Cl_readLaw_77, if_pos h22, e_Pl_endLaw_s, if_neg (by omega), if_pos (by omega), if_pos (by omega), Option.bind_some]
  simp only [Int.toNat_natCast]
  rw [if_pos u22]
  simp only [u23, u5, b0, b1]
  by_cases c : w = 2
  · rw [if_pos (by omega), if_pos h5, if_pos hz, if_neg (show ¬ (w < 2 ∧ S 23 3 ≠ 0) by omega)]
  · rw [if_neg (by omega)]
    by_cases d : S 23 3 = 0
    · rw [if_pos d, if_pos h5, if_pos hz, if_neg (show ¬ (w < 2 ∧ S 23 3 ≠ 0) by omega)]
    · rw [if_neg d, if_pos (Or.inr trivial), if_pos hz, if_pos (show w < 2 ∧ S 23 3 ≠ 0 by omega)]
def rdLaw (g : Nat → Int) (w : Nat) : RDR := fun L => if w = 2 then rdTestP (rdFact g w 6) L else rdSumP (rdPart g w 6) L
theorem rdLaw_k {w : Nat} : SUBK (rdLaw g w) := by
  unfold rdLaw
  by_cases c : w = 2
  · simp only [if_pos c]; exact rdTestP_k (rdFact_k g w 6)
  · simp only [if_neg c]; exact rdSumP_k (rdPart_k g w 6)
theorem rdLaw_ty {w : Nat} {L L' : List Tok} {cs : List Int} (h : rdLaw g w L = PR.ok L' cs) : tyS w cs [] = some [decide (w = 2)] := by
  unfold rdLaw at h
  by_cases c : w = 2
  · rw [if_pos c] at h; rw [test_ty _ _ _ h [] (by decide), decide_eq_true c]
  · rw [if_neg c] at h; rw [sum_ty _ _ _ h [] (by decide), decide_eq_false c]
/-- the reference's law -/
theorem m_law {w a : Nat} {L1 : List Tok} (hw : w < 3) (hT : RTK g E T L1) (hd : WDT T) (hTk : ∃ p, TOK E p L1) (h46 : T 401 46 = (a : Int)) (ha : a + L1.length ≤ 1600) : (∃ L' cs T', rdLaw g w L1 = PR.ok L' cs ∧ Mo_codesTold_23 w T = some T' ∧ RTK g E T' L' ∧ T' 401 46 = ((a + cs.length : Nat) : Int) ∧ T' 435 w = (a : Int) ∧ T' 436 w = ((a + cs.length : Nat) : Int) ∧ (∀ k, k ≠ w → T' 435 k = T 435 k ∧ T' 436 k = T 436 k) ∧ (∀ k, a ≤ k → k < a + cs.length → T' 437 k = cs.getD (k - a) 0) ∧ (∀ k, k < a ∨ a + cs.length ≤ k → T' 437 k = T 437 k) ∧ (∀ x, x ≠ 401 → x ≠ 435 → x ≠ 436 → x ≠ 437 → x ≠ 473 → x ≠ 474 → T' x = T x) ∧ T' 401 47 = T 401 47 ∧ FMm T T') ∨ ∃ k p T', rdLaw g w L1 = PR.no k p ∧ k ≠ 0 ∧ Mo_codesTold_23 w T = some T' ∧ BDT T' k p ∧ FMm T T' := by
  obtain ⟨p, hTk⟩ := hTk
  have hlen := hTk.len.2
  have hE := hT.1
  generalize hT2 : up (up (up (up (up T 401 48 w) 401 97 0) 401 99 0) 401 100 0) 401 101 0 = T2
  have uc : ∀ c, c ≠ 401 → T2 c = T c := fun c hc => by rw [← hT2, up_c hc, up_c hc, up_c hc, up_c hc, up_c hc]
  have u : ∀ k, k ≠ 48 → k ≠ 97 → k ≠ 99 → k ≠ 100 → k ≠ 101 → T2 401 k = T 401 k := fun k a1 a2 a3 a4 a5 => by rw [← hT2, up_k a5, up_k a4, up_k a3, up_k a2, up_k a1]
  have v : T2 401 48 = w ∧ T2 401 97 = 0 ∧ T2 401 99 = 0 ∧ T2 401 100 = 0 ∧ T2 401 101 = 0 := by rw [← hT2]; exact ⟨rfl, rfl, rfl, rfl, rfl⟩
  have hQ : QS g E w T2 L1 [] [] 0 0 := ⟨hT.fr (uc 402 (by decide)) (fun k h1 h2 => u k (by omega) (by omega) (by omega) (by omega) (by omega)), hd.fr uc, v.1, ⟨v.2.1, fun i hi => absurd hi (Nat.not_lt_zero _)⟩, ⟨v.2.2.1, fun i hi => absurd hi (Nat.not_lt_zero _)⟩, v.2.2.2.1, v.2.2.2.2⟩
  have mmq : ∀ {T3}, FQt T2 T3 → FMm T T3 := fun {T3} f => ⟨fun c hc => by rw [f.1 c (by omega) (by omega) (by omega), uc c (by omega)], fun k _ => by rw [f.1 430 (by decide) (by decide) (by decide), uc 430 (by decide)], fun k _ => by rw [f.1 431 (by decide) (by decide) (by decide), uc 431 (by decide), f.1 432 (by decide) (by decide) (by decide), uc 432 (by decide)]; exact ⟨rfl, rfl⟩, fun k _ => by rw [f.1 433 (by decide) (by decide) (by decide), uc 433 (by decide)], fun k _ => by rw [f.1 435 (by decide) (by decide) (by decide), uc 435 (by decide), f.1 436 (by decide) (by decide) (by decide), uc 436 (by decide)]; exact ⟨rfl, rfl⟩, fun k _ => by rw [f.1 437 (by decide) (by decide) (by decide), uc 437 (by decide)], fun k a1 a2 a3 a4 a5 a6 a7 a8 a9 b1 b2 b3 b4 => by rw [f.2 k a1 a2 a3 a4 a5 b1 b2 b3 b4, u k a9 b1 b2 b3 b4], fun z k hk => by rw [f.1 432 (by decide) (by decide) (by decide), uc 432 (by decide)]; exact z k hk⟩
  have key : ∀ x : Option MS, (∃ L' cs T', rdLaw g w L1 = PR.ok L' cs ∧ x = some T' ∧ QS g E w T' L' ([] ++ cs) [] 0 0 ∧ FQt T2 T') ∨ (∃ k p T', rdLaw g w L1 = PR.no k p ∧ k ≠ 0 ∧ x = some T' ∧ BDT T' k p ∧ FQt T2 T') → (∃ L' cs T', rdLaw g w L1 = PR.ok L' cs ∧ (x.bind fun p1 => if p1 401 5 = 0 then (if 0 ≤ (w : Int) ∧ (w : Int) < 6 then Mo_codesTold_92 w 0 (up p1 435 (w : Int).toNat (p1 401 46)) else none) else some p1) = some T' ∧ RTK g E T' L' ∧ T' 401 46 = ((a + cs.length : Nat) : Int) ∧ T' 435 w = (a : Int) ∧ T' 436 w = ((a + cs.length : Nat) : Int) ∧ (∀ k, k ≠ w → T' 435 k = T 435 k ∧ T' 436 k = T 436 k) ∧ (∀ k, a ≤ k → k < a + cs.length → T' 437 k = cs.getD (k - a) 0) ∧ (∀ k, k < a ∨ a + cs.length ≤ k → T' 437 k = T 437 k) ∧ (∀ x, x ≠ 401 → x ≠ 435 → x ≠ 436 → x ≠ 437 → x ≠ 473 → x ≠ 474 → T' x = T x) ∧ T' 401 47 = T 401 47 ∧ FMm T T') ∨ ∃ k p T', rdLaw g w L1 = PR.no k p ∧ k ≠ 0 ∧ (x.bind fun p1 => if p1 401 5 = 0 then (if 0 ≤ (w : Int) ∧ (w : Int) < 6 then Mo_codesTold_92 w 0 (up p1 435 (w : Int).toNat (p1 401 46)) else none) else some p1) = some T' ∧ BDT T' k p ∧ FMm T T' := by
    intro x hx
    rcases hx with ⟨L', cs, T3, a1, rfl, a2, a3⟩ | ⟨k, p', T3, a1, a0, rfl, a2, a3⟩
    · left
      obtain ⟨p2, b1, b2, b3, b4⟩ := rdLaw_k E p L1 L' cs hTk a1
      have e46 : T3 401 46 = (a : Int) := by rw [a3.2 46 (by decide) (by decide) (by decide) (by decide) (by decide) (by decide) (by decide) (by decide) (by decide), u 46 (by decide) (by decide) (by decide) (by decide) (by decide)]; exact h46
      have f3 : ∀ x, x ≠ 401 → x ≠ 473 → x ≠ 474 → T3 x = T x := fun x h1 h2 h3 => by rw [a3.1 x h1 h2 h3, uc x h1]
      obtain ⟨T4, r1, r2, r3, r4, r5, r6, r7, r8⟩ := cp92 (w := w) (a := a) (cs := cs) hw (by omega) cs.length 0 (up T3 435 w a) (Nat.zero_add _) (by rw [up_c (by decide)]; exact a2.2.2.2.1.1) (by rw [up_c (by decide)]; exact e46) (fun k hk => by rw [up_c (by decide)]; exact a2.2.2.2.1.2 k hk)
      have r1 : Mo_codesTold_92 w 0 (up T3 435 w a) = _ := r1
      rw [Option.bind_some, if_pos a2.1.2.2.2.1, if_pos (by omega), Int.toNat_natCast, e46, r1]
      have m3 := mmq a3
      refine ⟨L', cs, T4, a1, rfl, a2.1.fr (by rw [r7 402 (by decide) (by decide) (by decide), up_c (by decide)]) (fun k h1 h2 => by rw [r8 k (by omega), up_c (by decide)]), r2, by rw [r7 435 (by decide) (by decide) (by decide), up_s], r3, fun k hk => ⟨by rw [r7 435 (by decide) (by decide) (by decide), up_k hk, f3 435 (by decide) (by decide) (by decide)], by rw [r4 k hk, up_c (by decide), f3 436 (by decide) (by decide) (by decide)]⟩, r5, fun k hk => by rw [r6 k hk, up_c (by decide), f3 437 (by decide) (by decide) (by decide)], fun x h1 h2 h3 h4 h5 h6 => by rw [r7 x h1 h3 h4, up_c h2, f3 x h1 h5 h6], by rw [r8 47 (by decide), up_c (by decide), a3.2 47 (by decide) (by decide) (by decide) (by decide) (by decide) (by decide) (by decide) (by decide) (by decide), u 47 (by decide) (by decide) (by decide) (by decide) (by decide)], m3.tr ?_⟩
      exact ⟨fun c hc => by rw [r7 c (by omega) (by omega) (by omega), up_c (by omega)], fun k _ => by rw [r7 430 (by decide) (by decide) (by decide), up_c (by decide)], fun k _ => by rw [r7 431 (by decide) (by decide) (by decide), up_c (by decide), r7 432 (by decide) (by decide) (by decide), up_c (by decide)]; exact ⟨rfl, rfl⟩, fun k _ => by rw [r7 433 (by decide) (by decide) (by decide), up_c (by decide)], fun k hk => ⟨by rw [r7 435 (by decide) (by decide) (by decide), up_k (by omega)], by rw [r4 k (by omega), up_c (by decide)]⟩, fun k hk => by rw [r6 k (by omega), up_c (by decide)], fun k a1 a2 a3 a4 a5 a6 a7 a8 a9 b1 b2 b3 b4 => by rw [r8 k a7, up_c (by decide)], fun z k hk => by rw [r7 432 (by decide) (by decide) (by decide), up_c (by decide)]; exact z k hk⟩
    · right
      rw [Option.bind_some, if_neg (by rw [a2.1]; exact a0)]
      exact ⟨k, p', T3, a1, a0, rfl, a2, mmq a3⟩
  rw [e_Mo_codesTold_23, if_pos hT.2.2.2.1, hT2]
  by_cases c : w = 2
  · rw [if_pos (by omega)]
    apply key
    have hl : ∀ L, rdLaw g w L = rdTestP (rdFact g w 6) L := fun L => by unfold rdLaw; rw [if_pos c]
    simp only [hl]
    exact m_qTest (by omega) hTk hQ (by show 0 + L1.length ≤ 1650; omega)
  · rw [if_neg (by omega)]
    apply key
    have hl : ∀ L, rdLaw g w L = rdSumP (rdPart g w 6) L := fun L => by unfold rdLaw; rw [if_neg c]
    simp only [hl]
    rcases m_qSums (m := 6) (W := []) (by omega) (by decide) (fun V' x h => absurd h (by simp)) hTk hQ (by show 0 + 0 + L1.length ≤ 1650; omega) with h | ⟨k', p', T', b1, b2, b3, b4, b5⟩
    · exact Or.inl h
    · exact Or.inr ⟨k', p', T', b1, b2, b3, b4.1, b5⟩
end
