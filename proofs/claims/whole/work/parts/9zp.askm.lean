/-! ASK: how the reference reads a question -/
section
variable {n : Nat} {P S T : MS} {g : Nat → Int} {E : Nat} {q : Int}
theorem hr_451 : HR 451 26 := by unfold HR; decide
theorem hr_452 : HR 452 27 := by unfold HR; decide
theorem hr_453 : HR 453 28 := by unfold HR; decide
theorem hr_454 : HR 454 29 := by unfold HR; decide
theorem hr_455 : HR 455 30 := by unfold HR; decide
theorem hr_456 : HR 456 31 := by unfold HR; decide
theorem m_qKind {t : Tok} {L1 : List Tok} (hw : WDT T) (h : RTK g E T (t :: L1)) : (∃ (k : Nat) (T' : MS), t.1 = 26 + k ∧ k < 6 ∧ m_Mo_qKind T = some ((k : Int), T') ∧ RTK g E T' L1 ∧ FRt T T') ∨ ((t.1 < 26 ∨ 31 < t.1) ∧ ∃ T', m_Mo_qKind T = some (5, T') ∧ BDT T' 1 t.2.1 ∧ FRt T T') := by
  rw [e_Mo_qKind]
  rcases m_takes hr_451 hw h with ⟨e0, T0, a0, b0, f0⟩ | ⟨e0, T0, a0, b0, -, f0⟩
  · rw [a0, Option.bind_some]
    dsimp only
    rw [if_neg n10, e_Mo_qKind_76, if_neg (by decide)]
    exact Or.inl ⟨0, T0, e0, by decide, rfl, b0, f0⟩
  rw [a0, Option.bind_some]
  dsimp only
  rw [if_pos rfl]
  have w0 := hw.fr f0.1
  have f0 := f0.t
  rcases m_takes hr_452 w0 b0 with ⟨e1, T1, a1, b1, f1⟩ | ⟨e1, T1, a1, b1, -, f1⟩
  · rw [a1, Option.bind_some]
    dsimp only
    rw [if_neg n10, e_Mo_qKind_76, if_neg (by decide)]
    exact Or.inl ⟨1, T1, e1, by decide, rfl, b1, f0.tr f1⟩
  rw [a1, Option.bind_some]
  dsimp only
  rw [if_pos rfl]
  have w1 := w0.fr f1.1
  have f1 := f0.tr f1.t
  rcases m_takes hr_453 w1 b1 with ⟨e2, T2, a2, b2, f2⟩ | ⟨e2, T2, a2, b2, -, f2⟩
  · rw [a2, Option.bind_some]
    dsimp only
    rw [if_neg n10, e_Mo_qKind_76, if_neg (by decide)]
    exact Or.inl ⟨2, T2, e2, by decide, rfl, b2, f1.tr f2⟩
  rw [a2, Option.bind_some]
  dsimp only
  rw [if_pos rfl]
  have w2 := w1.fr f2.1
  have f2 := f1.tr f2.t
  rcases m_takes hr_454 w2 b2 with ⟨e3, T3, a3, b3, f3⟩ | ⟨e3, T3, a3, b3, -, f3⟩
  · rw [a3, Option.bind_some]
    dsimp only
    rw [if_neg n10, e_Mo_qKind_76, if_neg (by decide)]
    exact Or.inl ⟨3, T3, e3, by decide, rfl, b3, f2.tr f3⟩
  rw [a3, Option.bind_some]
  dsimp only
  rw [if_pos rfl]
  have w3 := w2.fr f3.1
  have f3 := f2.tr f3.t
  rcases m_takes hr_455 w3 b3 with ⟨e4, T4, a4, b4, f4⟩ | ⟨e4, T4, a4, b4, -, f4⟩
  · rw [a4, Option.bind_some]
    dsimp only
    rw [if_neg n10, e_Mo_qKind_76, if_neg (by decide)]
    exact Or.inl ⟨4, T4, e4, by decide, rfl, b4, f3.tr f4⟩
  rw [a4, Option.bind_some]
  dsimp only
  rw [if_pos rfl, e_Mo_qKind_76, if_pos rfl]
  have w4 := w3.fr f4.1
  have f4 := f3.tr f4.t
  rcases m_asks hr_456 w4 b4 with ⟨e5, T5, a5, b5, f5⟩ | ⟨e5, T5, a5, b5, f5⟩
  · rw [a5, Option.bind_some]
    exact Or.inl ⟨5, T5, e5, by decide, rfl, b5, f4.tr f5⟩
  · rw [a5, Option.bind_some]
    exact Or.inr ⟨by omega, T5, rfl, b5, f4.tr f5⟩
/-- what reading may change: the places 1..8, 10, 48, 97..101, the codes and what waits -/
def FKm (T T' : MS) : Prop := (∀ c, c ≠ 401 → c ≠ 473 → c ≠ 474 → T' c = T c) ∧ (∀ k, (k = 0 ∨ 10 < k) → k ≠ 48 → k ≠ 97 → k ≠ 99 → k ≠ 100 → k ≠ 101 → T' 401 k = T 401 k) ∧ T' 401 1 = 0
theorem FRt.qt {T T' : MS} (h : FRt T T') : FQt T T' := ⟨fun c a1 _ _ => h.1 c a1, fun k a1 a2 a3 a4 a5 _ _ _ _ => h.2 k a1 a2 a3 a4 a5⟩
theorem lkc_end {t : Tok} {L1 : List Tok} {p : Nat} (hT : TOK E p (t :: L1)) (hg : ∀ i, i < E → 0 ≤ g i ∧ g i ≤ 255) : lkc g t = -1 ↔ t.1 = 35 := by
  unfold lkc
  by_cases c : t.1 = 35
  · rw [if_pos c]; exact ⟨fun _ => c, fun _ => rfl⟩
  · rw [if_neg c]
    obtain ⟨-, -, -, h1, h2⟩ := hT.tl c
    have := hg t.2.1 (by omega)
    exact ⟨fun h => by omega, fun h => absurd h c⟩
def ASKm (g : Nat → Int) (L : List Tok) (T : MS) (x : Option (Int × MS)) : Prop := (∃ (k : Nat) (cs : List Int) (T' : MS), rdAsk g L = PR.ok [] ((k : Int) :: cs) ∧ x = Mo_ask_117 (k : Int) T' ∧ (T' 401 5 = 0 ∧ T' 401 6 = -1) ∧ (T' 401 97 = ((cs.length : Nat) : Int) ∧ ∀ i, i < cs.length → T' 473 i = cs.getD i 0) ∧ FKm T T') ∨ ∃ k p T', rdAsk g L = PR.no k p ∧ x = some (-1000000000000000, T') ∧ (T' 401 7 = k ∧ T' 401 8 = ((p : Nat) : Int)) ∧ FKm T T'
theorem m_ask0 (hE : E ≤ 1600) (hg : ∀ i, i < E → T 402 i = g i ∧ 0 ≤ g i ∧ g i ≤ 255) (h1 : T 401 1 = (E : Int)) (hw : WDT T) : ASKm g (LX g E 0 false) T (m_Mo_ask T) := by
  have hT := LX_tok (fun i hi => (hg i hi).2) E 0 false (by omega) (Nat.zero_le _)
  have hlen := hT.len.2
  rw [e_Mo_ask]
  have u : ∀ k, k ≠ 3 → k ≠ 1 → k ≠ 2 → k ≠ 4 → k ≠ 5 → k ≠ 6 → k ≠ 48 → k ≠ 97 → k ≠ 99 → k ≠ 100 → k ≠ 101 → (up (up (up (up (up (up (up (up (up (up (up T 401 3 (T 401 1)) 401 1 0) 401 2 0) 401 4 (-1)) 401 5 0) 401 6 (-1)) 401 48 3) 401 97 0) 401 99 0) 401 100 0) 401 101 0) 401 k = T 401 k := fun k a1 a2 a3 a4 a5 a6 a7 a8 a9 b1 b2 => by
    rw [up_k b2, up_k b1, up_k a9, up_k a8, up_k a7, up_k a6, up_k a5, up_k a4, up_k a3, up_k a2, up_k a1]
  have uc : ∀ c, c ≠ 401 → (up (up (up (up (up (up (up (up (up (up (up T 401 3 (T 401 1)) 401 1 0) 401 2 0) 401 4 (-1)) 401 5 0) 401 6 (-1)) 401 48 3) 401 97 0) 401 99 0) 401 100 0) 401 101 0) c = T c := fun c hc => by
    simp only [up_c hc]
  have v : ∀ k z, (k = 3 ∧ z = T 401 1) ∨ (k = 1 ∧ z = 0) ∨ (k = 2 ∧ z = 0) ∨ (k = 4 ∧ z = -1) ∨ (k = 5 ∧ z = 0) ∨ (k = 6 ∧ z = -1) ∨ (k = 48 ∧ z = 3) ∨ (k = 97 ∧ z = 0) ∨ (k = 99 ∧ z = 0) ∨ (k = 100 ∧ z = 0) ∨ (k = 101 ∧ z = 0) → (up (up (up (up (up (up (up (up (up (up (up T 401 3 (T 401 1)) 401 1 0) 401 2 0) 401 4 (-1)) 401 5 0) 401 6 (-1)) 401 48 3) 401 97 0) 401 99 0) 401 100 0) 401 101 0) 401 k = z := fun k z hk => by
    rcases hk with ⟨rfl, rfl⟩ | ⟨rfl, rfl⟩ | ⟨rfl, rfl⟩ | ⟨rfl, rfl⟩ | ⟨rfl, rfl⟩ | ⟨rfl, rfl⟩ | ⟨rfl, rfl⟩ | ⟨rfl, rfl⟩ | ⟨rfl, rfl⟩ | ⟨rfl, rfl⟩ | ⟨rfl, rfl⟩ <;> rfl
  generalize (up (up (up (up (up (up (up (up (up (up (up T 401 3 (T 401 1)) 401 1 0) 401 2 0) 401 4 (-1)) 401 5 0) 401 6 (-1)) 401 48 3) 401 97 0) 401 99 0) 401 100 0) 401 101 0) = T0 at u uc v ⊢
  have hR : RTK g E T0 (LX g E 0 false) := ⟨hE, fun i hi => by rw [uc 402 (by decide)]; exact hg i hi, by rw [v 3 (T 401 1) (Or.inl ⟨rfl, rfl⟩)]; exact h1, v 5 0 (by omega), 0, Nat.zero_le _, v 2 0 (by omega), ⟨by rw [v 4 (-1) (by omega)]; decide, v 6 (-1) (by omega)⟩, by rw [v 4 (-1) (by omega)]; rfl⟩
  have hw0 : WDT T0 := hw.fr uc
  have hK : ∀ {T'}, FQt T0 T' → FKm T T' := fun {T'} f => ⟨fun c a1 a2 a3 => by rw [f.1 c a1 a2 a3, uc c a1], fun k a1 a2 a3 a4 a5 a6 => by rw [f.2 k (by omega) (by omega) (by omega) (by omega) (by omega) a3 a4 a5 a6, u k (by omega) (by omega) (by omega) (by omega) (by omega) (by omega) a2 a3 a4 a5 a6], by rw [f.2 1 (by decide) (by decide) (by decide) (by decide) (by decide) (by decide) (by decide) (by decide) (by decide)]; exact v 1 0 (by omega)⟩
  generalize LX g E 0 false = L at hT hlen hR
  -- a fault that is known ends it
  have bad : ∀ (z : Int) (T' : MS) (k : Int) (p : Nat), k ≠ 0 → BDT T' k p → FQt T0 T' → ∃ T'', Mo_ask_93 z T' = some (-1000000000000000, T'') ∧ (T'' 401 7 = k ∧ T'' 401 8 = ((p : Nat) : Int)) ∧ FKm T T'' := fun z T' k p hk hb hf => by
    rw [e_Mo_ask_93, if_neg (by rw [hb.1]; exact hk), e_Mo_ask_117, if_neg (by rw [hb.1]; exact hk)]
    refine ⟨_, rfl, ⟨by rw [up_k (by decide), up_s]; exact hb.1, by rw [up_s]; exact hb.2⟩, ?_⟩
    have f := hK hf
    exact ⟨fun c a1 a2 a3 => by rw [up_c a1, up_c a1]; exact f.1 c a1 a2 a3, fun j a1 a2 a3 a4 a5 a6 => by rw [up_k (by omega), up_k (by omega)]; exact f.2.1 j a1 a2 a3 a4 a5 a6, by rw [up_k (by decide), up_k (by decide)]; exact f.2.2⟩
  cases L with
  | nil => exact hT.elim
  | cons t L1 =>
    rw [List.length_cons] at hlen
    rcases m_qKind hw0 hR with ⟨k, T1, ht, hk, r1, r2, r3⟩ | ⟨ht, T1, r1, r2, r3⟩
    · rw [r1, Option.bind_some]
      dsimp only
      rw [if_pos r2.2.2.2.1]
      obtain ⟨k1, -⟩ := hT.tl (by omega)
      have f1 := r3.2
      have hQ : QS g E 3 T1 L1 [] [] 0 0 := ⟨r2, hw0.fr r3.1, by rw [f1 48 (by decide) (by decide) (by decide) (by decide) (by decide)]; exact v 48 3 (by omega), ⟨by rw [f1 97 (by decide) (by decide) (by decide) (by decide) (by decide)]; exact v 97 0 (by omega), fun i hi => absurd hi (Nat.not_lt_zero _)⟩, ⟨by rw [f1 99 (by decide) (by decide) (by decide) (by decide) (by decide)]; exact v 99 0 (by omega), fun i hi => absurd hi (Nat.not_lt_zero _)⟩, by rw [f1 100 (by decide) (by decide) (by decide) (by decide) (by decide)]; exact v 100 0 (by omega), by rw [f1 101 (by decide) (by decide) (by decide) (by decide) (by decide)]; exact v 101 0 (by omega)⟩
      have key : ∀ x : Option MS, (∃ L' cs T', (if 28 < t.1 then rdSumP (rdPart g 3 6) L1 else rdTestP (rdFact g 3 6) L1) = PR.ok L' cs ∧ x = some T' ∧ QS g E 3 T' L' ([] ++ cs) [] 0 0 ∧ FQt T1 T') ∨ (∃ k p T', (if 28 < t.1 then rdSumP (rdPart g 3 6) L1 else rdTestP (rdFact g 3 6) L1) = PR.no k p ∧ k ≠ 0 ∧ x = some T' ∧ BDT T' k p ∧ FQt T1 T') → ASKm g (t :: L1) T (x.bind fun p2 => Mo_ask_93 (k : Int) p2) := by
        intro x hx
        rcases hx with ⟨L', cs, T2, a1, rfl, a2, a3⟩ | ⟨k', p, T2, a1, a0, rfl, a2, a3⟩
        · rw [Option.bind_some]
          obtain ⟨p', b1, b2, -, -⟩ := (ask_k (k := t.1)) E t.2.2 L1 L' cs k1 a1
          cases L' with
          | nil => exact b2.elim
          | cons t' L2 =>
            have hk' := rdAsk_ok (g := g) (by omega) a1
            obtain ⟨T3, s1, s2, s3, s4, -⟩ := m_lookq a2.1
            have hf3 : FQt T0 T3 := (r3.qt.tr a3).tr s4.t.qt
            have hle := lkc_end (g := g) b2 (fun i hi => (hg i hi).2)
            rw [e_Mo_ask_93, if_pos a2.1.2.2.2.1, s1, Option.bind_some]
            dsimp only
            by_cases c3 : t'.1 = 35
            · rw [if_pos (hle.mpr c3)]
              rw [if_pos c3] at hk'
              obtain ⟨-, -, -, q5, pp, -, -, q6, -⟩ := id s2
              refine Or.inl ⟨k, cs, T3, by rw [hk', show t.1 - 26 = k by omega], rfl, ⟨q5, q6.2⟩, ⟨by rw [s4.2 97 (by decide)]; exact a2.2.2.2.1.1, fun i hi => by rw [s4.1 473 (by decide)]; exact a2.2.2.2.1.2 i hi⟩, hK hf3⟩
            · rw [if_neg (fun h => c3 (hle.mp h)), m_fail s2.2.2.2.1, Option.bind_some, s3]
              rw [if_neg c3] at hk'
              obtain ⟨T4, y1, y2, y3⟩ := bad (k : Int) _ 1 t'.2.1 (by decide) (bdt_fail (T := T3) 1 t'.2.1) (hf3.tr (FRt.fail _ _).qt)
              rw [e_Mo_ask_93, if_neg (by rw [up_k (by decide), up_s]; decide)] at y1
              exact Or.inr ⟨1, t'.2.1, T4, hk', y1, y2, y3⟩
        · rw [Option.bind_some]
          obtain ⟨T4, y1, y2, y3⟩ := bad (k : Int) T2 k' p a0 a2 (r3.qt.tr a3)
          exact Or.inr ⟨k', p, T4, rdAsk_no (by omega) a1, y1, y2, y3⟩
      by_cases c3 : k < 3
      · rw [if_pos (by omega)]
        apply key
        rw [if_neg (by omega)]
        exact m_qTest (by omega) k1 hQ (by show 0 + L1.length ≤ 1650; omega)
      · rw [if_neg (by omega), if_pos r2.2.2.2.1]
        apply key
        rw [if_pos (by omega)]
        rcases m_qSums (m := 6) (W := []) (by omega) (by decide) (fun V' x h => absurd h (by simp)) k1 hQ (by show 0 + 0 + L1.length ≤ 1650; omega) with h | ⟨k', p, T', b1, b2, b3, b4, b5⟩
        · exact Or.inl h
        · exact Or.inr ⟨k', p, T', b1, b2, b3, b4.1, b5⟩
    · rw [r1, Option.bind_some]
      dsimp only
      have h5 : T1 401 5 ≠ 0 := by rw [r2.1]; decide
      rw [if_neg h5, if_neg h5]
      obtain ⟨T4, y1, y2, y3⟩ := bad 5 T1 1 t.2.1 (by decide) r2 r3.qt
      exact Or.inr ⟨1, t.2.1, T4, rdAsk_0 ht, y1, y2, y3⟩
end
