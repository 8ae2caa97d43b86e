/-! the class goes over tokens -/
section
variable {n : Nat} {P S T : MS}
def CTK (S : MS) (L : List Tok) : Prop := ∃ (A : List Tok) (i : Nat), ITM S A ∧ A.length ≤ 1601 ∧ (∀ t ∈ A, t.1 < 1024 ∧ t.2.1 < 2048 ∧ t.2.2 < 2048) ∧ L = A.drop i ∧ i < A.length ∧ S 2 4 = (i : Int) ∧ S 2 5 = (((A.getD i tok0).1 : Nat) : Int) ∧ S 2 6 = (((A.getD i tok0).2.1 : Nat) : Int) ∧ S 2 7 = (((A.getD i tok0).2.2 : Nat) : Int) ∧ S 2 8 = 0 ∧ S 2 9 = -1
def FTk (S S' : MS) : Prop := (∀ c, c ≠ 2 → S' c = S c) ∧ ∀ k, k < 4 ∨ 7 < k → S' 2 k = S 2 k
def FTx (S S' : MS) : Prop := (∀ c, c ≠ 2 → S' c = S c) ∧ ∀ k, k < 4 ∨ 9 < k → S' 2 k = S 2 k
theorem FTk.x {S S' : MS} (h : FTk S S') : FTx S S' := ⟨h.1, fun k hk => h.2 k (by omega)⟩
theorem getD_tmem {A : List Tok} {i : Nat} (h : i < A.length) : A.getD i tok0 ∈ A := by
  rw [List.getD_eq_getElem?_getD, List.getElem?_eq_getElem h, Option.getD_some]
  exact List.getElem_mem h
theorem drop_cons_getD {A L : List Tok} {i : Nat} {t : Tok} (h : t :: L = A.drop i) : A.getD i tok0 = t ∧ L = A.drop (i + 1) ∧ i < A.length := by
  have hi : i < A.length := by
    by_cases c : i < A.length
    · exact c
    · rw [List.drop_eq_nil_of_le (by omega)] at h; cases h
  rw [List.drop_eq_getElem_cons hi, List.cons.injEq] at h
  refine ⟨?_, h.2, hi⟩
  rw [List.getD_eq_getElem?_getD, List.getElem?_eq_getElem hi, Option.getD_some]
  exact h.1.symm
theorem CTK.hd {t : Tok} {L : List Tok} (h : CTK S (t :: L)) : S 2 5 = ((t.1 : Nat) : Int) ∧ S 2 6 = ((t.2.1 : Nat) : Int) ∧ S 2 7 = ((t.2.2 : Nat) : Int) ∧ t.1 < 1024 ∧ t.2.1 < 2048 ∧ t.2.2 < 2048 := by
  obtain ⟨A, i, h1, h2, h3, h4, h5, h6, h7, h8, h9, g8⟩ := h
  obtain ⟨e, -, -⟩ := drop_cons_getD h4
  have hb := h3 _ (getD_tmem h5)
  rw [e] at h7 h8 h9 hb
  exact ⟨h7, h8, h9, hb⟩
theorem adv_at {A : List Tok} {j : Nat} (h1 : ITM S A) (h2 : A.length ≤ 1601) (h3 : ∀ t ∈ A, t.1 < 1024 ∧ t.2.1 < 2048 ∧ t.2.2 < 2048) (h4 : S 2 4 = (j : Int) - 1) (g8 : S 2 8 = 0 ∧ S 2 9 = -1) (hj : j < A.length) : ∃ S', m_Te_advance S = some S' ∧ CTK S' (A.drop j) ∧ FTk S S' := by
  obtain ⟨i1, i2⟩ := h1
  obtain ⟨b1, b2, b3⟩ := h3 _ (getD_tmem hj)
  obtain ⟨u1, u2, u3⟩ := pk_dec b1 b2 b3
  have hw : wr (S 2 4 + 1) = (j : Int) := by rw [h4, wrN (by omega) (by omega)]; omega
  rw [e_Te_advance, hw, i1, if_pos (by omega), if_pos (by omega), if_pos (by omega), if_pos (by omega), Int.toNat_natCast, i2 j hj]
  unfold tpk
  rw [u1, u2, u3]
  refine ⟨_, rfl, ⟨A, j, ⟨?_, fun i hi => ?_⟩, h2, h3, rfl, hj, ?_, ?_, ?_, ?_, ?_⟩, fun c hc => by rw [up_c hc, up_c hc, up_c hc, up_c hc], fun k hk => by rw [up_k (by omega), up_k (by omega), up_k (by omega), up_k (by omega)]⟩
  · rw [up_k (by decide), up_k (by decide), up_k (by decide), up_k (by decide)]; exact i1
  · rw [up_c (by decide), up_c (by decide), up_c (by decide), up_c (by decide)]; exact i2 i hi
  · rw [up_k (by decide), up_k (by decide), up_k (by decide), up_s]
  · rw [up_k (by decide), up_k (by decide), up_s]
  · rw [up_k (by decide), up_s]
  · rw [up_s]
  · rw [up_k (by decide), up_k (by decide), up_k (by decide), up_k (by decide), up_k (by decide), up_k (by decide), up_k (by decide), up_k (by decide)]; exact g8
theorem c_adv {t : Tok} {L : List Tok} (h : CTK S (t :: L)) (hL : L ≠ []) : ∃ S', m_Te_advance S = some S' ∧ CTK S' L ∧ FTk S S' := by
  obtain ⟨A, i, h1, h2, h3, h4, h5, h6, h7, h8, h9, g8⟩ := h
  obtain ⟨-, e2, -⟩ := drop_cons_getD h4
  have hi : i + 1 < A.length := by
    by_cases c : i + 1 < A.length
    · exact c
    · rw [List.drop_eq_nil_of_le (by omega)] at e2; exact absurd e2 hL
  rw [e2]
  exact adv_at h1 h2 h3 (by rw [h6]; omega) g8 hi
theorem TOK.ne {E p : Nat} {L : List Tok} (h : TOK E p L) : L ≠ [] := fun e => by rw [e] at h; exact h.elim
theorem TOK.bnd {E : Nat} : ∀ {L : List Tok} {p : Nat}, TOK E p L → ∀ t ∈ L, t.1 < 512 ∧ t.2.1 ≤ E ∧ t.2.2 ≤ E := by
  intro L
  induction L with
  | nil => intro p h; exact h.elim
  | cons t L ih =>
    intro p h t' ht'
    obtain ⟨h1, h2, h3, ⟨rfl, h4⟩ | ⟨h4, h5, h6, h7⟩⟩ := h
    · rw [List.mem_singleton] at ht'
      rw [ht', h4]
      exact ⟨(by decide : 35 < 512), Nat.le_refl _, Nat.le_refl _⟩
    · rcases List.mem_cons.mp ht' with rfl | q
      · exact ⟨h5, by omega, h3⟩
      · exact ih h7 t' q
theorem CTK.fr {S S' : MS} {L : List Tok} (h : CTK S L) (e4 : S' 4 = S 4) (e2 : ∀ k, 3 ≤ k → k ≤ 9 → S' 2 k = S 2 k) : CTK S' L := by
  obtain ⟨A, i, ⟨h0, h1⟩, h2, h3, h4, h5, h6, h7, h8, h9, g8⟩ := h
  exact ⟨A, i, ⟨by rw [e2 3 (by decide) (by decide)]; exact h0, by rw [e4]; exact h1⟩, h2, h3, h4, h5, by rw [e2 4 (by decide) (by decide)]; exact h6, by rw [e2 5 (by decide) (by decide)]; exact h7, by rw [e2 6 (by decide) (by decide)]; exact h8, by rw [e2 7 (by decide) (by decide)]; exact h9, by rw [e2 8 (by decide) (by decide), e2 9 (by decide) (by decide)]; exact g8⟩
/-- the whole tape -/
theorem c_beginRd {g : Nat → Int} {E : Nat} (hE : E ≤ 1600) (hg : ∀ i, i < E → 0 ≤ g i ∧ g i ≤ 255) (h1 : S 2 1 = (E : Int)) (h3 : S 3 = g) : ∃ S', m_Te_beginReading S = some S' ∧ CTK S' (LX g E 0 false) ∧ (∀ c, c ≠ 2 → c ≠ 4 → S' c = S c) ∧ (S' 2 8 = 0 ∧ S' 2 9 = -1) ∧ ∀ k, k < 3 ∨ 9 < k → S' 2 k = S 2 k := by
  have e2 : ∀ k, k < 3 ∨ 9 < k → up (up (up S 2 8 0) 2 9 (-1)) 2 3 0 2 k = S 2 k := fun k hk => by rw [up_k (by omega), up_k (by omega), up_k (by omega)]
  have ec : ∀ c, c ≠ 2 → up (up (up S 2 8 0) 2 9 (-1)) 2 3 0 c = S c := fun c hc => by rw [up_c hc, up_c hc, up_c hc]
  obtain ⟨S1, r1, r2, r3, r4⟩ := c_rd hE hg E 0 0 false [] (up (up (up S 2 8 0) 2 9 (-1)) 2 3 0) (by omega) (Nat.zero_le _) (Nat.le_refl _) (Nat.zero_le _) (by rw [e2 1 (by omega)]; exact h1) (by rw [ec 3 (by decide)]; exact h3) ⟨by rw [up_s]; rfl, fun i hi => absurd hi (Nat.not_lt_zero _)⟩
  have r1 : Te_beginReading_21 0 0 0 (up (up (up S 2 8 0) 2 9 (-1)) 2 3 0) = _ := r1
  rw [List.nil_append] at r2
  have hT := LX_tok hg E 0 false (by omega) (Nat.zero_le _)
  have hl := hT.len.2
  have hpos : 0 < (LX g E 0 false).length := List.length_pos_iff.mpr hT.ne
  have hi : ITM (up S1 2 4 (-1)) (LX g E 0 false) := ⟨by rw [up_k (by decide)]; exact r2.1, fun i hi => by rw [up_c (by decide)]; exact r2.2 i hi⟩
  obtain ⟨S2, q1, q2, q3⟩ := adv_at hi (by omega) (fun t ht => by have := hT.bnd t ht; omega) (by rw [up_s]; rfl) ⟨by rw [up_k (by decide), r4 8 (by decide), up_k (by decide), up_k (by decide), up_s], by rw [up_k (by decide), r4 9 (by decide), up_k (by decide), up_s]⟩ hpos
  rw [e_Te_beginReading, r1, q1, Option.bind_some]
  refine ⟨S2, rfl, q2, fun c c1 c2 => by rw [q3.1 c c1, up_c c1, r3 c c1 c2, ec c c1], ⟨by rw [q3.2 8 (by omega), up_k (by decide), r4 8 (by decide), up_k (by decide), up_k (by decide), up_s], by rw [q3.2 9 (by omega), up_k (by decide), r4 9 (by decide), up_k (by decide), up_s]⟩, fun k hk => by rw [q3.2 k (by omega), up_k (by omega), r4 k (by omega), e2 k hk]⟩
theorem c_unfit {t : Tok} {L : List Tok} (h : CTK S (t :: L)) : m_Te_unfit S = some (0, up (up S 2 8 1) 2 9 ((t.2.1 : Nat) : Int)) := by rw [e_Te_unfit, h.hd.2.1]
theorem c_refuseAt (k p : Int) : m_Te_refuseAt k p S = some (0, up (up S 2 8 k) 2 9 p) := e_Te_refuseAt k p S
theorem FTx.ref (k p : Int) : FTx S (up (up S 2 8 k) 2 9 p) := ⟨fun c hc => by rw [up_c hc, up_c hc], fun j hj => by rw [up_k (by omega), up_k (by omega)]⟩
theorem ref_89 (k p : Int) : up (up S 2 8 k) 2 9 p 2 8 = k ∧ up (up S 2 8 k) 2 9 p 2 9 = p := ⟨by rw [up_k (by decide), up_s], up_s _ _ _ _⟩
theorem c_isSign {t : Tok} {L : List Tok} (h : CTK S (t :: L)) {a : Nat} (ha : a < 256) : m_Te_isSign a S = some ((if t.1 = 256 + a then 1 else 0), S) := by
  rw [e_Te_isSign, h.hd.1, wrN (by omega) (by omega)]
  by_cases c : t.1 = 256 + a
  · rw [if_pos c, if_pos (by omega)]
  · rw [if_neg c, if_neg (by omega)]
theorem c_num51 {g : Nat → Int} {E s e : Nat} {lo hi : Int} (hE : E ≤ 1600) (hg : ∀ i, i < E → 0 ≤ g i ∧ g i ≤ 255) (h1 : S 2 1 = (E : Int)) (h3 : S 3 = g) (h6 : S 2 6 = (s : Int)) (h7 : S 2 7 = (e : Int)) (he : e ≤ E) : ∀ (n p : Nat) (v B : Int), p + n = e → (-B ≤ v ∧ v ≤ B) → 0 ≤ B → B * ((11 ^ n : Nat) : Int) + 300 * ((11 ^ n : Nat) : Int) ≤ 100000000 → Te_takeNumber_51 lo hi v p S = if numF g n p v < lo ∨ hi < numF g n p v then some (-1, up (up S 2 8 2) 2 9 s) else (m_Te_advance S).bind fun p1 => some (numF g n p v, p1) := by
  intro n
  induction n with
  | zero =>
    intro p v B hp hv hB _
    rw [e_Te_takeNumber_51, h7, if_neg (by omega), c_refuseAt, h6, Option.bind_some, numF]
    by_cases c1 : v < lo
    · rw [if_pos c1, if_pos (Or.inl c1)]
    · rw [if_neg c1]
      by_cases c2 : hi < v
      · rw [if_pos c2, if_pos (Or.inr c2)]
      · rw [if_neg c2, if_neg (fun q => q.elim c1 c2)]
  | succ n ih =>
    intro p v B hp hv hB hb
    have hp1 : 1 ≤ (11 : Nat) ^ n := Nat.one_le_pow n 11 (by decide)
    have e11 : ((11 ^ (n + 1) : Nat) : Int) = 11 * ((11 ^ n : Nat) : Int) := by rw [Nat.pow_succ, Int.natCast_mul]; omega
    rw [e11] at hb
    have hgp := hg p (by omega)
    have hX1 : (1 : Int) ≤ ((11 ^ n : Nat) : Int) := by omega
    generalize hX : ((11 ^ n : Nat) : Int) = X at hb hX1 ih
    have hBX : B ≤ B * X := by
      have := Int.mul_le_mul_of_nonneg_left hX1 hB
      rw [Int.mul_one] at this
      exact this
    have e1 : B * (11 * X) = 11 * (B * X) := by rw [← Int.mul_assoc, Int.mul_comm B 11, Int.mul_assoc]
    rw [e1] at hb
    rw [e_Te_takeNumber_51, h7, if_pos (by omega), c_octet (by omega), Option.bind_some, h3, wr_suc2 (show p < 1600 by omega) (by decide)]
    dsimp only
    rw [wrN (z := 10 * v) (by omega) (by omega), wrN (z := 10 * v + g p) (by omega) (by omega), wrN (z := 10 * v + g p - 48) (by omega) (by omega), numF]
    refine ih (p + 1) (10 * v + g p - 48) (10 * B + 255) (by omega) (by omega) (by omega) ?_
    have e2 : (10 * B + 255) * X = 10 * (B * X) + 255 * X := by rw [Int.add_mul, Int.mul_assoc]
    rw [e2]
    omega
theorem c_takeNum {g : Nat → Int} {E p : Nat} {lo hi : Int} {t : Tok} {L : List Tok} (hE : E ≤ 1600) (hg : ∀ i, i < E → 0 ≤ g i ∧ g i ≤ 255) (h1 : S 2 1 = (E : Int)) (h3 : S 3 = g) (hT : TOK E p (t :: L)) (h : CTK S (t :: L)) : (∃ v S', (∀ f, rdNum g lo hi t f = f v) ∧ lo ≤ v ∧ v ≤ hi ∧ m_Te_takeNumber lo hi S = some (v, S') ∧ CTK S' L ∧ FTk S S') ∨ ∃ k q, (∀ f, rdNum g lo hi t f = PR.no k q) ∧ m_Te_takeNumber lo hi S = some (-1, up (up S 2 8 k) 2 9 ((q : Nat) : Int)) := by
  obtain ⟨d1, d2, d3, d4, d5, d6⟩ := h.hd
  rw [e_Te_takeNumber, d1, d2, d3]
  by_cases c1 : t.1 = 33
  · obtain ⟨k1, k2, k3, k4, k5⟩ := hT.tl (by omega)
    rw [if_pos (show ((t.1 : Nat) : Int) = 33 by omega), wrN (z := (t.2.2 : Int) - t.2.1) (by omega) (by omega)]
    by_cases c2 : 4 < t.2.2 - t.2.1
    · right
      refine ⟨1, t.2.1 + 4, fun f => by unfold rdNum; rw [if_pos c1, if_pos c2], ?_⟩
      rw [if_pos (by omega), c_refuseAt, Option.bind_some, wrN (by omega) (by omega)]
      rfl
    · rw [if_neg (by omega)]
      have hpow : (11 : Nat) ^ (t.2.2 - t.2.1) ≤ 11 ^ 4 := Nat.pow_le_pow_right (by decide) (by omega)
      rw [show (11 : Nat) ^ 4 = 14641 from rfl] at hpow
      have hx := c_num51 (S := S) (lo := lo) (hi := hi) hE hg h1 h3 d2 d3 k5 (t.2.2 - t.2.1) t.2.1 0 0 (by omega) (by decide) (by decide) (by omega)
      rw [hx]
      by_cases c3 : numF g (t.2.2 - t.2.1) t.2.1 0 < lo ∨ hi < numF g (t.2.2 - t.2.1) t.2.1 0
      · right
        rw [if_pos c3]
        exact ⟨2, t.2.1, fun f => by unfold rdNum; rw [if_pos c1, if_neg c2, if_pos c3], rfl⟩
      · left
        rw [if_neg c3]
        obtain ⟨S', r1, r2, r3⟩ := c_adv h k1.ne
        rw [r1, Option.bind_some]
        exact ⟨_, S', fun f => by unfold rdNum; rw [if_pos c1, if_neg c2, if_neg c3], by omega, by omega, rfl, r2, r3⟩
  · right
    rw [if_neg (show ¬ ((t.1 : Nat) : Int) = 33 by omega), c_unfit h, Option.bind_some]
    exact ⟨1, t.2.1, fun f => by unfold rdNum; rw [if_neg c1], rfl⟩
end
