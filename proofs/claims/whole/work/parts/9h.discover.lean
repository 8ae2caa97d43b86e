/-! discover -/
section
variable {n : Nat} {P S T : MS}
def okR (P : MS) (g : Nat → Int) (i : Nat) : Prop := g (3 * i) ≤ 30 ∧ g (3 * i + 1) < P 430 4 ∧ g (3 * i + 2) ≤ 99
theorem wr3 {i : Nat} (h : i ≤ 600) : wr (3 * (i : Int)) = ((3 * i : Nat) : Int) := by rw [wrN (by omega) (by omega)]; omega
theorem wrA {z : Nat} {a : Nat} (h : z + a ≤ 100000) : wr ((z : Int) + (a : Int)) = ((z + a : Nat) : Int) := by rw [wrN (by omega) (by omega)]; omega
theorem wA1 {v : Nat} (h : v ≤ 1000) : wr (((3 * v : Nat) : Int) + 1) = ((3 * v + 1 : Nat) : Int) := wrA (a := 1) (by omega)
theorem wA2 {v : Nat} (h : v ≤ 1000) : wr (((3 * v : Nat) : Int) + 2) = ((3 * v + 2 : Nat) : Int) := wrA (a := 2) (by omega)
theorem wA3 {v : Nat} (h : v ≤ 1000) : wr (((3 * v : Nat) : Int) + 3) = ((3 * (v + 1) : Nat) : Int) := wrA (a := 3) (by omega)
theorem dv3 {N r : Nat} (hr : r < 3) (h : N ≤ 1000) : wr (((3 * N + r : Nat) : Int).tdiv 3) = (N : Int) := by
  rw [Int.tdiv_eq_ediv_of_nonneg (by omega), show ((3 * N + r : Nat) : Int) / 3 = (N : Int) by omega]
  exact wrN (by omega) (by omega)
theorem md3 {N r : Nat} (hr : r < 3) : ((3 * N + r : Nat) : Int).tmod 3 = (r : Int) := by
  rw [Int.tmod_eq_emod_of_nonneg (by omega)]; omega
theorem c_oct3 {i a : Nat} (hi : i ≤ 600) (ha : a ≤ 2) (h : ((3 * i + a : Nat) : Int) < S 2 1 ∧ S 2 1 ≤ 1600) : m_Te_octetAt (wr ((wr (3 * (i : Int))) + (a : Int))) S = some (S 3 (3 * i + a), S) := by
  rw [wr3 hi, wrA (by omega)]
  exact c_octet h
theorem c_lrn32 {N : Nat} (hN : N ≤ 16) (hS : S 2 1 = ((3 * N : Nat) : Int)) (hO : S 31 0 = P 430 4) : ∀ (j v : Nat), v + j = N → ((∀ i, v ≤ i → i < N → okR P (S 3) i) → Fi_learn_text_32 N v S = Fi_learn_text_95 N 0 S) ∧ ((¬ ∀ i, v ≤ i → i < N → okR P (S 3) i) → Fi_learn_text_32 N v S = some (0, S)) := by
  intro j
  induction j with
  | zero =>
    intro v e
    rw [e_Fi_learn_text_32, if_neg (by omega)]
    exact ⟨fun _ => rfl, fun q => absurd (fun i i1 i2 => by omega) q⟩
  | succ j ih =>
    intro v e
    have o0 : m_Te_octetAt (wr (3 * (v : Int))) S = some (S 3 (3 * v), S) := by rw [wr3 (by omega)]; exact c_octet ⟨by omega, by omega⟩
    have o1 : m_Te_octetAt (wr ((wr (3 * (v : Int))) + 1)) S = some (S 3 (3 * v + 1), S) := c_oct3 (a := 1) (by omega) (by decide) ⟨by omega, by omega⟩
    have o2 : m_Te_octetAt (wr ((wr (3 * (v : Int))) + 2)) S = some (S 3 (3 * v + 2), S) := c_oct3 (a := 2) (by omega) (by decide) ⟨by omega, by omega⟩
    obtain ⟨i1, i2⟩ := ih (v + 1) (by omega)
    rw [e_Fi_learn_text_32, if_pos (by omega), o0, Option.bind_some]
    dsimp only
    rw [o1, Option.bind_some]
    dsimp only
    rw [o2, Option.bind_some, wr_succ (show v < 600 by omega) (by decide)]
    dsimp only
    simp only [hO]
    have split : okR P (S 3) v → ((∀ i, v ≤ i → i < N → okR P (S 3) i) ↔ (∀ i, v + 1 ≤ i → i < N → okR P (S 3) i)) := fun h => ⟨fun q i a b => q i (by omega) b, fun q i a b => by
      by_cases c : i = v
      · rw [c]; exact h
      · exact q i (by omega) b⟩
    by_cases c : okR P (S 3) v
    · rw [if_neg (by have := c.1; omega), if_pos c.2.1, if_neg (by have := c.2.2; omega)]
      exact ⟨fun q => i1 ((split c).mp q), fun q => i2 (fun q' => q ((split c).mpr q'))⟩
    · refine ⟨fun q => absurd (q v (Nat.le_refl _) (by omega)) c, fun _ => ?_⟩
      unfold okR at c
      by_cases d1 : 30 < S 3 (3 * v)
      · rw [if_pos d1]
      · rw [if_neg d1]
        by_cases d2 : S 3 (3 * v + 1) < P 430 4
        · rw [if_pos d2, if_pos (by omega)]
        · rw [if_neg d2]
theorem c_lrn95 {N : Nat} (hN : N ≤ 16) {g : Nat → Int} : ∀ (j v : Nat) (S : MS), v + j = N → S 2 1 = ((3 * N : Nat) : Int) → S 3 = g → ∃ S', Fi_learn_text_95 N v S = some (1, up (up (up S' 118 5 N) 118 13 0) 118 14 0) ∧ (∀ i, v ≤ i → i < N → S' 119 i = g (3 * i) ∧ S' 120 i = g (3 * i + 1) ∧ S' 121 i = g (3 * i + 2)) ∧ (∀ i, i < v → S' 119 i = S 119 i ∧ S' 120 i = S 120 i ∧ S' 121 i = S 121 i) ∧ ∀ c, c ≠ 119 → c ≠ 120 → c ≠ 121 → S' c = S c := by
  intro j
  induction j with
  | zero =>
    intro v S e h1 h2
    rw [e_Fi_learn_text_95, if_neg (by omega), e_Fi_forget, Option.bind_some]
    exact ⟨S, rfl, fun i i1 i2 => by omega, fun i _ => ⟨rfl, rfl, rfl⟩, fun _ _ _ _ => rfl⟩
  | succ j ih =>
    intro v S e h1 h2
    have o0 : m_Te_octetAt (wr (3 * (v : Int))) S = some (S 3 (3 * v), S) := by rw [wr3 (by omega)]; exact c_octet ⟨by omega, by omega⟩
    have o1 : ∀ S : MS, S 2 1 = ((3 * N : Nat) : Int) → m_Te_octetAt (wr ((wr (3 * (v : Int))) + 1)) S = some (S 3 (3 * v + 1), S) := fun S h1 => c_oct3 (a := 1) (by omega) (by decide) ⟨by omega, by omega⟩
    have o2 : ∀ S : MS, S 2 1 = ((3 * N : Nat) : Int) → m_Te_octetAt (wr ((wr (3 * (v : Int))) + 2)) S = some (S 3 (3 * v + 2), S) := fun S h1 => c_oct3 (a := 2) (by omega) (by decide) ⟨by omega, by omega⟩
    rw [e_Fi_learn_text_95, if_pos (by omega), o0, Option.bind_some]
    dsimp only
    rw [if_pos (by omega), Int.toNat_natCast, o1 _ (by rw [up_c (by decide)]; exact h1), Option.bind_some]
    dsimp only
    rw [if_pos (by omega), o2 _ (by rw [up_c (by decide), up_c (by decide)]; exact h1), Option.bind_some]
    dsimp only
    rw [if_pos (by omega), wr_succ (show v < 600 by omega) (by decide), up_c (show (3 : Nat) ≠ 120 by decide), up_c (show (3 : Nat) ≠ 119 by decide), h2]
    obtain ⟨S', r1, r2, r3, r4⟩ := ih (v + 1) (up (up (up S 119 v (g (3 * v))) 120 v (g (3 * v + 1))) 121 v (g (3 * v + 2))) (by omega) (by rw [up_c (by decide), up_c (by decide), up_c (by decide)]; exact h1) (by rw [up_c (by decide), up_c (by decide), up_c (by decide)]; exact h2)
    have e119 : ∀ i, up (up (up S 119 v (g (3 * v))) 120 v (g (3 * v + 1))) 121 v (g (3 * v + 2)) 119 i = up S 119 v (g (3 * v)) 119 i := fun i => by rw [up_c (by decide), up_c (by decide)]
    have e120 : ∀ i, up (up (up S 119 v (g (3 * v))) 120 v (g (3 * v + 1))) 121 v (g (3 * v + 2)) 120 i = if i = v then g (3 * v + 1) else S 120 i := fun i => by
      rw [up_c (by decide)]
      by_cases c : i = v
      · rw [c, up_s, if_pos rfl]
      · rw [up_k c, if_neg c, up_c (by decide)]
    have e121 : ∀ i, up (up (up S 119 v (g (3 * v))) 120 v (g (3 * v + 1))) 121 v (g (3 * v + 2)) 121 i = if i = v then g (3 * v + 2) else S 121 i := fun i => by
      by_cases c : i = v
      · rw [c, up_s, if_pos rfl]
      · rw [up_k c, if_neg c, up_c (by decide), up_c (by decide)]
    refine ⟨S', r1, fun i i1 i2 => ?_, fun i i1 => ?_, fun c c1 c2 c3 => by rw [r4 c c1 c2 c3, up_c c3, up_c c2, up_c c1]⟩
    · by_cases c : i = v
      · subst c
        obtain ⟨q1, q2, q3⟩ := r3 i (by omega)
        rw [q1, q2, q3, e119, e120, e121, up_s, if_pos rfl, if_pos rfl]
        exact ⟨rfl, rfl, rfl⟩
      · exact r2 i (by omega) i2
    · obtain ⟨q1, q2, q3⟩ := r3 i (by omega)
      rw [q1, q2, q3, e119, e120, e121, up_k (by omega), if_neg (by omega), if_neg (by omega)]
      exact ⟨rfl, rfl, rfl⟩
theorem m_dis36 {N : Nat} (hN : N ≤ 16) (hP : PLN P) (hR : RP P T) (h0 : ∀ i : Nat, i < 3 * N → 0 ≤ T 402 i) {x : Option (Int × MS)} (hx : ((m_Mo_refuses 1 T).bind fun p1 => some (p1.1, p1.2)) = x) : ∀ (j v : Nat), v + j = N → ((∀ i, v ≤ i → i < N → okR P (T 402) i) → Mo_discover_36 ((3 * N : Nat) : Int) 1 ((3 * v : Nat) : Int) T = Mo_discover_109 ((3 * N : Nat) : Int) 0 T) ∧ ((¬ ∀ i, v ≤ i → i < N → okR P (T 402) i) → Mo_discover_36 ((3 * N : Nat) : Int) 1 ((3 * v : Nat) : Int) T = x) := by
  have zero : ∀ v : Nat, Mo_discover_36 ((3 * N : Nat) : Int) 0 (v : Int) T = x := fun v => by
    rw [e_Mo_discover_36, if_pos (rfl : (0 : Int) = 0), if_pos (rfl : (0 : Int) = 0), hx]
    split <;> rfl
  intro j
  induction j with
  | zero =>
    intro v e
    rw [e_Mo_discover_36, if_neg (by omega), if_neg n10]
    exact ⟨fun _ => rfl, fun q => absurd (fun i i1 i2 => by omega) q⟩
  | succ j ih =>
    intro v e
    obtain ⟨i1, i2⟩ := ih (v + 1) (by omega)
    have p1 := h0 (3 * v + 1) (by omega)
    rw [e_Mo_discover_36, if_pos (by omega), if_neg n10, if_pos (by omega), wA1 (by omega), wA2 (by omega), wA3 (by omega), Int.toNat_natCast, Int.toNat_natCast, Int.toNat_natCast]
    have split : okR P (T 402) v → ((∀ i, v ≤ i → i < N → okR P (T 402) i) ↔ (∀ i, v + 1 ≤ i → i < N → okR P (T 402) i)) := fun h => ⟨fun q i a b => q i (by omega) b, fun q i a b => by
      by_cases c : i = v
      · rw [c]; exact h
      · exact q i (by omega) b⟩
    by_cases c : okR P (T 402) v
    · rw [if_neg (by have := c.1; omega), if_pos (by omega), m_isO1 hP hR ⟨p1, c.2.1⟩, Option.bind_some, if_neg n10, if_pos (by omega)]
      dsimp only
      rw [if_neg (by have := c.2.2; omega)]
      exact ⟨fun q => i1 ((split c).mp q), fun q => i2 (fun q' => q ((split c).mpr q'))⟩
    · refine ⟨fun q => absurd (q v (Nat.le_refl _) (by omega)) c, fun _ => ?_⟩
      unfold okR at c
      by_cases d1 : 30 < T 402 (3 * v)
      · rw [if_pos d1]; exact zero _
      · rw [if_neg d1, if_pos (by omega)]
        by_cases d2 : T 402 (3 * v + 1) < P 430 4
        · rw [m_isO1 hP hR ⟨p1, d2⟩, Option.bind_some, if_neg n10, if_pos (by omega)]
          dsimp only
          rw [if_pos (by omega)]; exact zero _
        · rw [m_isO0 hP hR (by omega), Option.bind_some, if_pos rfl]; exact zero _
theorem m_dis0 {v1 : Int} {x : Option (Int × MS)} (hx : ((m_Mo_refuses 1 T).bind fun p1 => some (p1.1, p1.2)) = x) : Mo_discover_36 v1 0 0 T = x := by
  rw [e_Mo_discover_36, if_pos (rfl : (0 : Int) = 0), if_pos (rfl : (0 : Int) = 0), hx]
  split <;> rfl
theorem m_dis109 {D : Nat} (hD : D ≤ 48) {N : Nat} (hN : D = 3 * N) : ∀ (j v : Nat) (T : MS), v + j = D → ∃ T', Mo_discover_109 D v T = some ((N : Int), up T' 401 64 N) ∧ (∀ i, T' 446 i = if v ≤ i ∧ i < D then T 402 i else T 446 i) ∧ ∀ c, c ≠ 446 → T' c = T c := by
  intro j
  induction j with
  | zero =>
    intro v T e
    rw [e_Mo_discover_109, if_neg (by omega), show (D : Int).tdiv 3 = (N : Int) by rw [Int.tdiv_eq_ediv_of_nonneg (by omega)]; omega, wrN (by omega) (by omega)]
    exact ⟨T, rfl, fun i => by rw [if_neg (by omega)], fun _ _ => rfl⟩
  | succ j ih =>
    intro v T e
    rw [e_Mo_discover_109, if_pos (by omega), if_pos (by omega), if_pos (by omega), wr_succ (show v < 48 by omega) (by decide), Int.toNat_natCast]
    obtain ⟨T', r1, r2, r3⟩ := ih (v + 1) (up T 446 v (T 402 v)) (by omega)
    refine ⟨T', r1, fun i => ?_, fun c hc => by rw [r3 c hc, up_c hc]⟩
    rw [r2 i, up_c (by decide)]
    by_cases c : i = v
    · subst c; rw [if_neg (by omega), up_s, if_pos (by omega)]
    · rw [up_k c]
      by_cases c2 : v + 1 ≤ i ∧ i < D
      · rw [if_pos c2, if_pos (by omega)]
      · rw [if_neg c2, if_neg (by omega)]
theorem Inv.found (h : Inv n P S T) {S' T' : MS} (s : ∀ x, x ≠ 2 → x ≠ 118 → x ≠ 119 → x ≠ 120 → x ≠ 121 → S' x = S x) (s1 : ∀ k, k ≠ 1 → S' 2 k = S 2 k) (t : ∀ x, x ≠ 401 → x ≠ 446 → T' x = T x) (t1 : ∀ k, k ≠ 1 → k ≠ 64 → T' 401 k = T 401 k) (hx : TXr S' T') (hf : ROr P S' T') (h13 : S' 118 13 = 0) (h14 : S' 118 14 = 0) : Inv (n + 1) P S' T' := by
  have h' := h.same
  obtain ⟨w1, w2, w3, w4, w5, w6⟩ := h'.wd
  exact Inv.mk1 h'.pln (h'.rp.fr (t 430 (by decide) (by decide)) (t 431 (by decide) (by decide)) (t 432 (by decide) (by decide)) (t 433 (by decide) (by decide)) (t 435 (by decide) (by decide)) (t 436 (by decide) (by decide)) (t 437 (by decide) (by decide))) (h'.nm.fr (s 32 (by decide) (by decide) (by decide) (by decide) (by decide)) (s 35 (by decide) (by decide) (by decide) (by decide) (by decide)))
    hx (h'.ft.fr (s1 8 (by decide)) (s1 9 (by decide)) (t1 7 (by decide) (by decide)) (t1 8 (by decide) (by decide))) (h.rf.fr (s 134 (by decide) (by decide) (by decide) (by decide) (by decide)) (t 403 (by decide) (by decide)))
    (h'.sd.fr (by rw [s 1 (by decide) (by decide) (by decide) (by decide) (by decide)]) (t1 73 (by decide) (by decide))) (h'.im.fr (by rw [s 1 (by decide) (by decide) (by decide) (by decide) (by decide)]) (s 133 (by decide) (by decide) (by decide) (by decide) (by decide)) (t1 107 (by decide) (by decide)) (t 476 (by decide) (by decide)))
    (h'.mk0.fr (s 22 (by decide) (by decide) (by decide) (by decide) (by decide)) (by rw [s 23 (by decide) (by decide) (by decide) (by decide) (by decide)]) (by rw [s 132 (by decide) (by decide) (by decide) (by decide) (by decide)]) (s 17 (by decide) (by decide) (by decide) (by decide) (by decide)) (s 18 (by decide) (by decide) (by decide) (by decide) (by decide)) (fun x hx => t x (by omega) (by omega)))
    ⟨by rw [t 438 (by decide) (by decide)]; exact w1, by rw [t 438 (by decide) (by decide)]; exact w2, by rw [t 438 (by decide) (by decide)]; exact w3.fr (by rw [s 24 (by decide) (by decide) (by decide) (by decide) (by decide)]) (by rw [s 24 (by decide) (by decide) (by decide) (by decide) (by decide)]) (by rw [s 24 (by decide) (by decide) (by decide) (by decide) (by decide)]) (s 25 (by decide) (by decide) (by decide) (by decide) (by decide)), by rw [s 24 (by decide) (by decide) (by decide) (by decide) (by decide), s 26 (by decide) (by decide) (by decide) (by decide) (by decide), t 438 (by decide) (by decide)]; exact w4, by rw [s 24 (by decide) (by decide) (by decide) (by decide) (by decide)]; exact w5, by rw [t1 56 (by decide) (by decide)]; exact w6⟩
    ⟨by rw [s 27 (by decide) (by decide) (by decide) (by decide) (by decide)]; exact h'.th.1, by rw [t1 57 (by decide) (by decide)]; exact h'.th.2⟩ ⟨h'.en.1.fr (fun x h1 h2 => s x (by omega) (by omega) (by omega) (by omega) (by omega)), by rw [s 30 (by decide) (by decide) (by decide) (by decide) (by decide)]; exact h'.en.2⟩
    (h.hi.fr (by rw [s 51 (by decide) (by decide) (by decide) (by decide) (by decide)]) (by rw [s 51 (by decide) (by decide) (by decide) (by decide) (by decide)]) (fun x h1 h2 => s x (by omega) (by omega) (by omega) (by omega) (by omega)) (t1 71 (by decide) (by decide)) (t1 72 (by decide) (by decide)) (t 450 (by decide) (by decide)))
    ⟨hf, Or.inl h13, Or.inl h14, fun q => by rw [h13] at q; exact absurd q (by decide), fun q => by rw [h14] at q; exact absurd q (by decide)⟩
theorem found_inv (h : Inv n P S T) {N : Nat} (hN : N ≤ 16) (hL : S 2 1 = ((3 * N + 0 : Nat) : Int)) {S' T' : MS} (r2 : ∀ i, 0 ≤ i → i < N → S' 119 i = S 3 (3 * i) ∧ S' 120 i = S 3 (3 * i + 1) ∧ S' 121 i = S 3 (3 * i + 2)) (r4 : ∀ c, c ≠ 119 → c ≠ 120 → c ≠ 121 → S' c = S c)
    (q2 : ∀ i, T' 446 i = if 0 ≤ i ∧ i < 3 * N then up T 401 1 0 402 i else up T 401 1 0 446 i) (q3 : ∀ c, c ≠ 446 → T' c = up T 401 1 0 c) (ok : ∀ i, 0 ≤ i → i < N → okR P (S 3) i) : Inv (n + 1) P (up (up (up (up S' 118 5 N) 118 13 0) 118 14 0) 2 1 0) (up T' 401 64 N) := by
  obtain ⟨x1, x2, x3⟩ := h.tx
  have f5 : up (up (up (up S' 118 5 N) 118 13 0) 118 14 0) 2 1 0 118 5 = (N : Int) := by rw [up_c (by decide), up_k (by decide), up_k (by decide), up_s]
  have fS : ∀ x, x ≠ 2 → x ≠ 118 → x ≠ 119 → x ≠ 120 → x ≠ 121 → up (up (up (up S' 118 5 N) 118 13 0) 118 14 0) 2 1 0 x = S x := fun x a1 a2 a3 a4 a5 => by rw [up_c a1, up_c a2, up_c a2, up_c a2, r4 x a3 a4 a5]
  have gS : ∀ x, x ≠ 2 → x ≠ 118 → up (up (up (up S' 118 5 N) 118 13 0) 118 14 0) 2 1 0 x = S' x := fun x a1 a2 => by rw [up_c a1, up_c a2, up_c a2, up_c a2]
  have gT : ∀ x, x ≠ 401 → up T' 401 64 N x = T' x := fun x a1 => up_c a1
  refine h.found fS (fun k hk => by rw [up_k hk, up_c (by decide), up_c (by decide), up_c (by decide), r4 2 (by decide) (by decide) (by decide)]) (fun x a1 a2 => by rw [up_c a1, q3 x a2, up_c a1]) (fun k k1 k2 => by rw [up_k k2, q3 401 (by decide), up_k k1]) ⟨by rw [up_s, up_k (by decide), q3 401 (by decide), up_s], by rw [up_s]; omega, fun k hk => by rw [up_s] at hk; omega⟩ ?_ (by rw [up_c (by decide), up_k (by decide), up_s]) (by rw [up_c (by decide), up_s])
  unfold ROr
  rw [f5]
  refine ⟨by rw [up_s], by omega, fun i hi => ?_⟩
  obtain ⟨g1, g2, g3⟩ := r2 i (by omega) (by omega)
  obtain ⟨k1, k2, k3⟩ := ok i (by omega) (by omega)
  have y0 := x3 (3 * i) (by omega)
  have y1 := x3 (3 * i + 1) (by omega)
  have y2 := x3 (3 * i + 2) (by omega)
  have z : ∀ j : Nat, j < 3 * N → up T' 401 64 N 446 j = T 402 j := fun j hj => by rw [gT _ (by decide), q2 j, if_pos (by omega), up_c (by decide)]
  rw [gS 119 (by decide) (by decide), gS 120 (by decide) (by decide), gS 121 (by decide) (by decide), g1, g2, g3, z (3 * i) (by omega), z (3 * i + 1) (by omega), z (3 * i + 2) (by omega)]
  refine ⟨⟨y0.1, by omega⟩, ⟨y1.1, by omega⟩, y2.1, by omega⟩
set_option maxHeartbeats 400000 in
theorem op_discover (h : Inv n P S T) (hn : n < 1000) : OK2 n P (m_Ma_discover S) (m_Mo_discover T) := by
  have hP := h.pln
  have h1 := hP.1
  obtain ⟨x1, x2, x3⟩ := h.tx
  have hr := h.rf 1 (by decide)
  have hO : S 31 0 = P 430 4 := h.en.1.1.1
  have ht : Inv (n + 1) P (up S 2 1 0) (up T 401 1 0) := h.tape (fun x a1 _ => up_c a1) (fun k hk => up_k hk) (fun x a1 _ => up_c a1) (fun k hk => up_k hk) ⟨by rw [up_s, up_s], by rw [up_s]; omega, fun k hk => by rw [up_s] at hk; omega⟩
  have hRt : RP P (up T 401 1 0) := ht.rp
  have eS : ((m_Ma_refuse 1 (up S 2 1 0)).bind fun p2 => some (p2.1, p2.2)) = some (-1, up (up S 2 1 0) 134 1 (S 134 1 + 1)) := by
    have q : m_Ma_refuse 1 (up S 2 1 0) = _ := c_refuse (k := 1) ht (by omega) (by decide)
    rw [q, Option.bind_some, up_c (show (134 : Nat) ≠ 2 by decide)]
  have eT : ((m_Mo_refuses 1 (up T 401 1 0)).bind fun p2 => some (p2.1, p2.2)) = some (-1, up (up T 401 1 0) 403 1 (T 403 1 + 1)) := by
    have q : m_Mo_refuses 1 (up T 401 1 0) = _ := m_refuses (k := 1) ht (by omega) (by decide)
    rw [q, Option.bind_some, up_c (show (403 : Nat) ≠ 401 by decide)]
  have bad : Inv (n + 1) P (up (up S 2 1 0) 134 1 (S 134 1 + 1)) (up (up T 401 1 0) 403 1 (T 403 1 + 1)) := by
    have u2 : up (up S 2 1 0) 134 1 (S 134 1 + 1) 2 1 = 0 := by rw [up_c (show (2 : Nat) ≠ 134 by decide), up_s]
    have u401 : up (up T 401 1 0) 403 1 (T 403 1 + 1) 401 1 = 0 := by rw [up_c (show (401 : Nat) ≠ 403 by decide), up_s]
    refine h.tape2 (fun x a1 a2 a3 => by rw [up_c a3, up_c a1]) (fun k hk => by rw [up_c (show (2 : Nat) ≠ 134 by decide), up_k hk]) (fun x a1 a2 a3 => by rw [up_c a3, up_c a1]) (fun k hk => by rw [up_c (show (401 : Nat) ≠ 403 by decide), up_k hk]) ⟨by rw [u2, u401], by rw [u2]; omega, fun k hk => by rw [u2] at hk; omega⟩ (fun k hk => ?_)
    by_cases c : k = 1
    · subst c; rw [up_s, up_s]; omega
    · rw [up_k c, up_k c, up_c (by decide), up_c (by decide)]
      have := h.rf k hk
      omega
  obtain ⟨N, r, hr3, hL⟩ : ∃ N r : Nat, r < 3 ∧ S 2 1 = ((3 * N + r : Nat) : Int) := ⟨(S 2 1).toNat / 3, (S 2 1).toNat % 3, by omega, by omega⟩
  have hN5 : N ≤ 533 := by omega
  rw [e_Ma_discover, e_Mo_discover, e_Fi_learn_text, ← x1, hL, dv3 hr3 (by omega), md3 hr3, wr3 (by omega)]
  by_cases c1 : N < 1
  · rw [if_pos (by omega), Option.bind_some, if_pos rfl]
    dsimp only
    rw [eS]
    refine ⟨-1, _, _, rfl, ?_, bad⟩
    by_cases c2 : 0 < r
    · rw [if_pos (by omega), if_neg (by omega)]; exact m_dis0 eT
    · rw [if_neg (by omega)]; exact m_dis0 eT
  · rw [if_neg (by omega), if_pos (show 0 < ((3 * N + r : Nat) : Int) by omega)]
    by_cases c2 : 16 < N
    · rw [if_pos (by omega), Option.bind_some, if_pos rfl]
      dsimp only
      rw [eS]
      refine ⟨-1, _, _, rfl, ?_, bad⟩
      by_cases c3 : r = 0
      · rw [if_pos (by omega), if_pos (by omega)]; exact m_dis0 eT
      · rw [if_neg (by omega)]; exact m_dis0 eT
    · rw [if_neg (by omega)]
      by_cases c3 : r = 0
      · subst c3
        rw [if_pos (by omega), if_pos (by omega), if_neg (by omega)]
        obtain ⟨a1, a2⟩ := c_lrn32 (P := P) (N := N) (S := S) (by omega) hL hO N 0 (by omega)
        obtain ⟨b1, b2⟩ := m_dis36 (N := N) (T := up T 401 1 0) (by omega) hP hRt (fun i hi => by rw [up_c (by decide)]; have := x3 i (by omega); omega) eT N 0 (by omega)
        have a1 : _ → Fi_learn_text_32 N 0 S = _ := a1
        have a2 : _ → Fi_learn_text_32 N 0 S = _ := a2
        have b1 : _ → Mo_discover_36 ((3 * N : Nat) : Int) 1 0 (up T 401 1 0) = _ := b1
        have b2 : _ → Mo_discover_36 ((3 * N : Nat) : Int) 1 0 (up T 401 1 0) = _ := b2
        have same : ∀ i, i < N → (okR P (S 3) i ↔ okR P (up T 401 1 0 402) i) := fun i hi => by
          unfold okR
          rw [up_c (by decide), (x3 (3 * i) (by omega)).1, (x3 (3 * i + 1) (by omega)).1, (x3 (3 * i + 2) (by omega)).1]
        by_cases ok : ∀ i, 0 ≤ i → i < N → okR P (S 3) i
        · have ok' : ∀ i, 0 ≤ i → i < N → okR P (up T 401 1 0 402) i := fun i i1 i2 => (same i i2).mp (ok i i1 i2)
          obtain ⟨S', r1, r2, -, r4⟩ := c_lrn95 (N := N) (g := S 3) (by omega) N 0 S (by omega) hL rfl
          obtain ⟨T', q1, q2, q3⟩ := m_dis109 (D := 3 * N) (N := N) (by omega) rfl (3 * N) 0 (up T 401 1 0) (by omega)
          have r1 : Fi_learn_text_95 N 0 S = _ := r1
          have q1 : Mo_discover_109 ((3 * N : Nat) : Int) 0 (up T 401 1 0) = _ := q1
          rw [a1 ok, r1, Option.bind_some, if_neg n10, Nat.add_zero, b1 ok', q1]
          dsimp only
          rw [up_k (show (5 : Nat) ≠ 14 by decide), up_k (show (5 : Nat) ≠ 13 by decide), up_s]
          refine ⟨_, _, _, rfl, rfl, ?_⟩
          exact found_inv h (by omega) hL r2 r4 q2 q3 ok
        · have ok' : ¬ ∀ i, 0 ≤ i → i < N → okR P (up T 401 1 0 402) i := fun q => ok (fun i i1 i2 => (same i i2).mpr (q i i1 i2))
          rw [a2 ok, Option.bind_some, if_pos rfl, Nat.add_zero, b2 ok']
          dsimp only
          rw [eS]
          exact ⟨-1, _, _, rfl, rfl, bad⟩
      · rw [if_neg (by omega), Option.bind_some, if_pos rfl, if_neg (by omega)]
        dsimp only
        rw [eS]
        exact ⟨-1, _, _, rfl, m_dis0 eT, bad⟩
end
