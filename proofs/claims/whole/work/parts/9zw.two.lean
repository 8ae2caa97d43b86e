/-! MINISTRY: both read, step by step -/
section
variable {n : Nat} {P S T : MS} {g : Nat → Int} {E : Nat} {q : Int}
/-- both stand ahead of the same tokens -/
def LK2 (g : Nat → Int) (E : Nat) (S T : MS) (L : List Tok) : Prop := CTK S L ∧ RTK g E T L ∧ (∃ p, TOK E p L) ∧ (S 2 1 = (E : Int) ∧ S 3 = g) ∧ WDT T
/-- both have the same fault -/
def BAD (S T : MS) : Prop := ∃ (k : Int) (p : Nat), k ≠ 0 ∧ (S 2 8 = k ∧ S 2 9 = ((p : Nat) : Int)) ∧ BDT T k p
theorem BAD.mk2 (k : Int) (p : Nat) (hk : k ≠ 0) (h : BDT T k p) : BAD (up (up S 2 8 k) 2 9 ((p : Nat) : Int)) T := ⟨k, p, hk, ref_89 _ _, h⟩
theorem BAD.ne (h : BAD S T) : T 401 5 ≠ 0 := by obtain ⟨k, p, hk, -, h5, -⟩ := h; rw [h5]; exact hk
theorem LK2.hE {L : List Tok} (h : LK2 g E S T L) : E ≤ 1600 ∧ ∀ i, i < E → 0 ≤ g i ∧ g i ≤ 255 := ⟨h.2.1.1, fun i hi => (h.2.1.2.1 i hi).2⟩
theorem LK2.go {t : Tok} {L1 : List Tok} {S' T' : MS} (h : LK2 g E S T (t :: L1)) (ht : t.1 ≠ 35) (c : CTK S' L1) (f : FTk S S') (r : RTK g E T' L1) (w : ∀ x, x ≠ 401 → T' x = T x) : LK2 g E S' T' L1 := by
  obtain ⟨h1, h2, ⟨p, h3⟩, ⟨h4, h5⟩, h6⟩ := h
  exact ⟨c, r, ⟨_, (h3.tl ht).1⟩, ⟨by rw [f.2 1 (by omega)]; exact h4, by rw [f.1 3 (by decide)]; exact h5⟩, h6.fr w⟩
theorem LK2.ne1 {t : Tok} {L1 : List Tok} (h : LK2 g E S T (t :: L1)) (ht : t.1 ≠ 35) : L1 ≠ [] := by
  obtain ⟨h1, h2, ⟨p, h3⟩, -⟩ := h
  exact (h3.tl ht).1.ne
theorem LK2.stay {L : List Tok} {S' T' : MS} (h : LK2 g E S T L) (e2 : ∀ k, 1 ≤ k → k ≤ 9 → S' 2 k = S 2 k) (e3 : S' 3 = S 3) (e4 : S' 4 = S 4) (f1 : ∀ k, 2 ≤ k → k ≤ 6 → T' 401 k = T 401 k) (w : ∀ x, x = 402 ∨ (404 ≤ x ∧ x ≤ 429) ∨ (451 ≤ x ∧ x ≤ 472) → T' x = T x) : LK2 g E S' T' L := by
  obtain ⟨h1, h2, h3, ⟨h4, h5⟩, h6⟩ := h
  refine ⟨h1.fr e4 (fun k a b => e2 k (by omega) b), h2.fr (w 402 (by omega)) f1, h3, ⟨by rw [e2 1 (by omega) (by omega)]; exact h4, by rw [e3]; exact h5⟩, ?_⟩
  intro q hq k hk
  have hr : ∀ q ∈ wdM, (404 ≤ q.1 ∧ q.1 ≤ 429) ∨ (451 ≤ q.1 ∧ q.1 ≤ 472) := by decide
  rw [w q.1 (Or.inr (hr q hq))]
  exact h6 q hq k hk
theorem two_word {c k : Nat} {t : Tok} {L1 : List Tok} (hc : HR c k) (h : LK2 g E S T (t :: L1)) : (t.1 = k ∧ ∃ S' T', m_Te_takeWord k S = some (1, S') ∧ m_Mo_asks c T = some T' ∧ LK2 g E S' T' L1 ∧ FTk S S' ∧ FRt T T') ∨ (t.1 ≠ k ∧ ∃ S' T', m_Te_takeWord k S = some (0, S') ∧ m_Mo_asks c T = some T' ∧ BAD S' T' ∧ FTx S S' ∧ FRt T T') := by
  have hk := hc.2.2.2.1
  have hd := h.1.hd
  rw [e_Te_takeWord, hd.1]
  rcases m_asks hc h.2.2.2.2 h.2.1 with ⟨e, T1, r1, r2, r3⟩ | ⟨e, T1, r1, r2, r3⟩
  · obtain ⟨S1, s1, s2, s3⟩ := c_adv h.1 (h.ne1 (by omega))
    rw [if_pos (by omega), s1, Option.bind_some]
    exact Or.inl ⟨e, S1, T1, rfl, r1, h.go (by omega) s2 s3 r2 r3.1, s3, r3⟩
  · rw [if_neg (by omega), c_unfit h.1, Option.bind_some]
    dsimp only
    rw [if_pos (Or.inl rfl)]
    exact Or.inr ⟨e, _, T1, rfl, r1, BAD.mk2 1 t.2.1 (by decide) r2, FTx.ref _ _, r3⟩
theorem two_sign {a : Nat} {t : Tok} {L1 : List Tok} (ha : sgB a) (h : LK2 g E S T (t :: L1)) : (t.1 = 256 + a ∧ ∃ S' T', m_Te_takeSign a S = some (1, S') ∧ m_Mo_asksSign a T = some T' ∧ LK2 g E S' T' L1 ∧ FTk S S' ∧ FRt T T') ∨ (t.1 ≠ 256 + a ∧ ∃ S' T', m_Te_takeSign a S = some (0, S') ∧ m_Mo_asksSign a T = some T' ∧ BAD S' T' ∧ FTx S S' ∧ FRt T T') := by
  have ha1 := ha.1
  have hd := h.1.hd
  rw [e_Te_takeSign, hd.1, wrN (z := 256 + (a : Int)) (by omega) (by omega)]
  rcases m_askSg h.2.1 ha with ⟨e, T1, r1, r2, r3⟩ | ⟨e, T1, r1, r2, r3⟩
  · obtain ⟨S1, s1, s2, s3⟩ := c_adv h.1 (h.ne1 (by omega))
    rw [if_pos (by omega), s1, Option.bind_some]
    exact Or.inl ⟨e, S1, T1, rfl, r1, h.go (by omega) s2 s3 r2 r3.1, s3, r3⟩
  · rw [if_neg (by omega), c_unfit h.1, Option.bind_some]
    dsimp only
    rw [if_pos (Or.inl rfl)]
    exact Or.inr ⟨e, _, T1, rfl, r1, BAD.mk2 1 t.2.1 (by decide) r2, FTx.ref _ _, r3⟩
theorem two_num {lo hi : Int} {t : Tok} {L1 : List Tok} (h : LK2 g E S T (t :: L1)) : (∃ v S' T', (lo ≤ v ∧ v ≤ hi) ∧ (0 ≤ v ∧ v ≤ 9999) ∧ m_Te_takeNumber lo hi S = some (v, S') ∧ m_Mo_number lo hi T = some (v, T') ∧ LK2 g E S' T' L1 ∧ FTk S S' ∧ FRt T T') ∨ ∃ v S' T', m_Te_takeNumber lo hi S = some (-1, S') ∧ m_Mo_number lo hi T = some (v, T') ∧ (0 ≤ v ∧ v ≤ 9999) ∧ BAD S' T' ∧ FTx S S' ∧ FRt T T' := by
  obtain ⟨hE, hg⟩ := h.hE
  obtain ⟨h1, h2, ⟨p, h3⟩, ⟨h4, h5⟩, h6⟩ := id h
  rcases m_number (lo := lo) (hi := hi) h2 with ⟨v, T1, a1, a2, a3, a4, a5, a6, a7⟩ | ⟨k, q, v, T1, a1, a2, a3, a4, a5, a6⟩
  · rcases c_takeNum (lo := lo) (hi := hi) hE hg h4 h5 h3 h1 with ⟨v', S1, b1, b2, b3, b4, b5, b6⟩ | ⟨k', q', b1, b2⟩
    · have : v' = v := by
        have e1 := a1 (fun v => PR.ok [] [v])
        have e2 := b1 (fun v => PR.ok [] [v])
        rw [e1] at e2
        injection e2 with e2
        injection e2 with _ e2
        injection e2 with e2
        exact e2.symm
      subst this
      exact Or.inl ⟨v', S1, T1, a2, a7, b4, a4, h.go (by omega) b5 b6 a5 a6.1, b6, a6⟩
    · have e1 := a1 (fun v => PR.ok [] [v])
      rw [b1] at e1
      cases e1
  · rcases c_takeNum (lo := lo) (hi := hi) hE hg h4 h5 h3 h1 with ⟨v', S1, b1, b2, b3, b4, b5, b6⟩ | ⟨k', q', b1, b2⟩
    · have e1 := a1 (fun v => PR.ok [] [v])
      rw [b1] at e1
      cases e1
    · have e1 := a1 (fun v => PR.ok [] [v])
      rw [b1] at e1
      injection e1 with e1
      injection e1 with e1 e2
      subst e1
      subst e2
      exact Or.inr ⟨v, _, T1, b2, a3, a6, BAD.mk2 _ _ a2 a4, FTx.ref _ _, a5⟩
theorem nm5_nn {L : List Int} (h : ∀ x ∈ L, 1 ≤ x ∧ x ≤ 26) : 0 ≤ nm5 L ∧ nm5 L < 1073741824 := by
  unfold nm5
  have a0 := getD_dig h 0; have a1 := getD_dig h 1; have a2 := getD_dig h 2; have a3 := getD_dig h 3; have a4 := getD_dig h 4; have a5 := getD_dig h 5
  omega
theorem two_name {t : Tok} {L1 : List Tok} (h : LK2 g E S T (t :: L1)) : (t.1 ≠ 35 ∧ ∃ c v T', m_Te_nameHere S = some (c, S) ∧ c ≠ -1 ∧ NMR c v ∧ m_Mo_name T = some (v, T') ∧ RTK g E T' L1 ∧ T' 401 37 = ((t.2.1 : Nat) : Int) ∧ FRn T T') ∨ ∃ v S' T', m_Te_nameHere S = some (-1, S') ∧ m_Mo_name T = some (v, T') ∧ BAD S' T' ∧ FTx S S' ∧ FRn T T' := by
  obtain ⟨hE, hg⟩ := h.hE
  obtain ⟨h1, h2, ⟨p, h3⟩, ⟨h4, h5⟩, h6⟩ := id h
  obtain ⟨c1, c2, c3⟩ := c_nameHere hE h1 h4 h5 (fun ht => h2.isw ht)
  rcases m_name h6 h2 with ⟨a1, a2, a3, T1, b1, b2, b3, b4⟩ | ⟨a1, a2, a3, v, T1, b1, b2, b3⟩ | ⟨a1, v, T1, b1, b2, b3⟩
  · have hw := h2.isw ⟨a1, a2⟩
    exact Or.inl ⟨by omega, _, _, T1, c1 ⟨a1, a2, a3⟩, by have := nm5_nn (nmL_ok hw); omega, nmL_R hw a3, b1, b2, b3, b4⟩
  · exact Or.inr ⟨v, _, T1, c2 ⟨a1, a2, a3⟩, b1, BAD.mk2 1 _ (by decide) b2, FTx.ref _ _, b3⟩
  · exact Or.inr ⟨v, _, T1, c3 a1, b1, BAD.mk2 1 _ (by decide) b2, FTx.ref _ _, b3⟩
end
