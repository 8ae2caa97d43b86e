/-! THE CALLS, one by one: class and reference answer alike, what holds between calls holds again -/
def OK2 (n : Nat) (P : MS) (x y : Option (Int × MS)) : Prop := ∃ z S' T', x = some (z, S') ∧ y = some (z, T') ∧ Inv (n + 1) P S' T'
section
variable {n : Nat} {P S T : MS}
theorem c_isO1 (h : Inv n P S T) {a : Int} (c : 0 ≤ a ∧ a < P 430 4) {S' : MS} (e : S' 31 0 = S 31 0) : m_Ma_isOfficer a S' = some (1, S') := by
  rw [e_Ma_isOfficer, if_neg (by omega), e, h.en.1.1.1, if_pos c.2]
theorem c_isO0 (h : Inv n P S T) {a : Int} (c : ¬ (0 ≤ a ∧ a < P 430 4)) {S' : MS} (e : S' 31 0 = S 31 0) : m_Ma_isOfficer a S' = some (0, S') := by
  rw [e_Ma_isOfficer, e, h.en.1.1.1]
  by_cases c1 : a < 0
  · rw [if_pos c1]
  · rw [if_neg c1, if_neg (by omega)]
theorem c_isF1 (h : Inv n P S T) {a : Int} (c : 0 ≤ a ∧ a < P 430 5) : m_Ma_isFeeling a S = some (1, S) := by
  rw [e_Ma_isFeeling, if_neg (by omega), h.en.1.1.2.1, if_pos c.2]
theorem c_isF0 (h : Inv n P S T) {a : Int} (c : ¬ (0 ≤ a ∧ a < P 430 5)) : m_Ma_isFeeling a S = some (0, S) := by
  rw [e_Ma_isFeeling, h.en.1.1.2.1]
  by_cases c1 : a < 0
  · rw [if_pos c1]
  · rw [if_neg c1, if_neg (by omega)]
theorem c_isC1 (h : Inv n P S T) {a : Int} (c : 0 ≤ a ∧ a < P 430 6) : m_Ma_isCarbon a S = some (1, S) := by
  rw [e_Ma_isCarbon, if_neg (by omega), h.en.1.1.2.2.1, if_pos c.2]
theorem c_isC0 (h : Inv n P S T) {a : Int} (c : ¬ (0 ≤ a ∧ a < P 430 6)) : m_Ma_isCarbon a S = some (0, S) := by
  rw [e_Ma_isCarbon, h.en.1.1.2.2.1]
  by_cases c1 : a < 0
  · rw [if_pos c1]
  · rw [if_neg c1, if_neg (by omega)]
theorem m_in1 {a lo hi : Int} (c : lo ≤ a ∧ a ≤ hi) (T : MS) : m_Mo_isIn a lo hi T = some (1, T) := by
  rw [e_Mo_isIn, if_neg (fun h => by have := lcp_neg.mp h; omega), if_neg (fun h => by have := lcp_pos.mp h; omega)]
theorem m_in0 {a lo hi : Int} (c : ¬ (lo ≤ a ∧ a ≤ hi)) (T : MS) : m_Mo_isIn a lo hi T = some (0, T) := by
  rw [e_Mo_isIn]
  by_cases c1 : a < lo
  · rw [if_pos (lcp_neg.mpr c1)]
  · rw [if_neg (fun h => c1 (lcp_neg.mp h)), if_pos (lcp_pos.mpr (by omega))]
theorem m_isO1 (hP : PLN P) (hR : RP P T) {a : Int} (c : 0 ≤ a ∧ a < P 430 4) : m_Mo_isOfficer a T = some (1, T) := by
  have := hP.1
  rw [e_Mo_isOfficer, m_oMany, Option.bind_some]
  dsimp only
  rw [hR.n4, wrN (by omega) (by omega), m_in1 (by omega), Option.bind_some, if_pos (Or.inr rfl)]
theorem m_isO0 (hP : PLN P) (hR : RP P T) {a : Int} (c : ¬ (0 ≤ a ∧ a < P 430 4)) : m_Mo_isOfficer a T = some (0, T) := by
  have := hP.1
  rw [e_Mo_isOfficer, m_oMany, Option.bind_some]
  dsimp only
  rw [hR.n4, wrN (by omega) (by omega), m_in0 (by omega), Option.bind_some, if_pos (Or.inl rfl)]
theorem m_isF1 (hP : PLN P) (hR : RP P T) {a : Int} (c : 0 ≤ a ∧ a < P 430 5) : m_Mo_isFeeling a T = some (1, T) := by
  have := hP.2.1
  rw [e_Mo_isFeeling, e_Mo_feelingMany, Option.bind_some]
  dsimp only
  rw [hR.n5, wrN (by omega) (by omega), m_in1 (by omega), Option.bind_some, if_pos (Or.inr rfl)]
theorem m_isF0 (hP : PLN P) (hR : RP P T) {a : Int} (c : ¬ (0 ≤ a ∧ a < P 430 5)) : m_Mo_isFeeling a T = some (0, T) := by
  have := hP.2.1
  rw [e_Mo_isFeeling, e_Mo_feelingMany, Option.bind_some]
  dsimp only
  rw [hR.n5, wrN (by omega) (by omega), m_in0 (by omega), Option.bind_some, if_pos (Or.inl rfl)]
theorem m_isC1 (hP : PLN P) (hR : RP P T) {a : Int} (c : 0 ≤ a ∧ a < P 430 6) : m_Mo_isCarbon a T = some (1, T) := by
  have := hP.2.2.1
  rw [e_Mo_isCarbon, e_Mo_carbonMany, Option.bind_some]
  dsimp only
  rw [hR.n6, wrN (by omega) (by omega), m_in1 (by omega), Option.bind_some, if_pos (Or.inr rfl)]
theorem m_isC0 (hP : PLN P) (hR : RP P T) {a : Int} (c : ¬ (0 ≤ a ∧ a < P 430 6)) : m_Mo_isCarbon a T = some (0, T) := by
  have := hP.2.2.1
  rw [e_Mo_isCarbon, e_Mo_carbonMany, Option.bind_some]
  dsimp only
  rw [hR.n6, wrN (by omega) (by omega), m_in0 (by omega), Option.bind_some, if_pos (Or.inl rfl)]
theorem op_fault (h : Inv n P S T) (a : Int) : OK2 n P (m_Ma_fault a S) (m_Mo_fault a T) := by
  obtain ⟨h1, h2⟩ := h.ft
  rw [e_Ma_fault, e_Mo_fault, h1, h2]
  by_cases c0 : a = 0
  · rw [if_pos c0, if_pos c0]; exact ⟨_, S, T, rfl, rfl, h.same⟩
  · rw [if_neg c0, if_neg c0]
    by_cases c1 : a = 1
    · rw [if_pos c1, if_pos c1]; exact ⟨_, S, T, rfl, rfl, h.same⟩
    · rw [if_neg c1, if_neg c1]; exact ⟨_, S, T, rfl, rfl, h.same⟩
theorem op_octet (h : Inv n P S T) (a : Int) : OK2 n P (m_Ma_octet a S) (m_Mo_octet a T) := by
  obtain ⟨h1, h2, h3⟩ := h.im
  rw [e_Ma_octet, e_Mo_octet, ← h1]
  by_cases c0 : a < 0
  · rw [if_pos c0, if_pos c0]; exact ⟨_, S, T, rfl, rfl, h.same⟩
  · rw [if_neg c0, if_neg c0]
    by_cases c1 : a < S 1 11
    · rw [if_pos c1, if_pos c1, if_pos (by omega), if_pos (by omega), h3 a.toNat (by omega)]; exact ⟨_, S, T, rfl, rfl, h.same⟩
    · rw [if_neg c1, if_neg c1]; exact ⟨_, S, T, rfl, rfl, h.same⟩
theorem op_status (h : Inv n P S T) (a : Int) : OK2 n P (m_Ma_status a S) (m_Mo_status a T) := by
  rw [e_Ma_status, e_Mo_status]
  by_cases c : 0 ≤ a ∧ a ≤ 5
  · rw [m_in1 c, Option.bind_some]
    dsimp only
    rw [if_neg (by omega), if_pos (by omega), if_pos (by omega), if_neg (by decide), if_pos (by omega), (h.rf a.toNat (by omega)).1]
    exact ⟨_, S, T, rfl, rfl, h.same⟩
  · rw [m_in0 c, Option.bind_some, if_pos rfl]
    by_cases c1 : a < 0
    · rw [if_pos c1]; exact ⟨_, S, T, rfl, rfl, h.same⟩
    · rw [if_neg c1, if_neg (by omega)]; exact ⟨_, S, T, rfl, rfl, h.same⟩
/-- a refusal is counted by both -/
theorem Inv.refuse (h : Inv n P S T) (hn : n < 1000000) {k : Nat} (hk : k < 6) : Inv (n + 1) P (up S 134 k (S 134 k + 1)) (up T 403 k (T 403 k + 1)) := by
  have s : ∀ c, c ≠ 134 → up S 134 k (S 134 k + 1) c = S c := fun c hc => up_c hc
  have t : ∀ c, c ≠ 403 → up T 403 k (T 403 k + 1) c = T c := fun c hc => up_c hc
  refine Inv.mk1 h.pln (h.rp.fr (t 430 (by decide)) (t 431 (by decide)) (t 432 (by decide)) (t 433 (by decide)) (t 435 (by decide)) (t 436 (by decide)) (t 437 (by decide))) (h.nm.fr (s 32 (by decide)) (s 35 (by decide)))
    (h.tx.fr (by rw [s 2 (by decide)]) (s 3 (by decide)) (by rw [t 401 (by decide)]) (t 402 (by decide))) (h.ft.fr (by rw [s 2 (by decide)]) (by rw [s 2 (by decide)]) (by rw [t 401 (by decide)]) (by rw [t 401 (by decide)])) (fun j hj => ?_)
    (h.sd.fr (by rw [s 1 (by decide)]) (by rw [t 401 (by decide)])) (h.im.fr (by rw [s 1 (by decide)]) (s 133 (by decide)) (by rw [t 401 (by decide)]) (t 476 (by decide))) (h.mk0.fr (s 22 (by decide)) (by rw [s 23 (by decide)]) (by rw [s 132 (by decide)]) (s 17 (by decide)) (s 18 (by decide)) (fun c hx => t c (by omega)))
    ?_ ?_ ⟨h.en.1.fr (fun c h1 h2 => s c (by omega)), by rw [s 30 (by decide)]; have := h.en.2; omega⟩
    (h.hi.fr (by rw [s 51 (by decide)]) (by rw [s 51 (by decide)]) (fun c h1 h2 => s c (by omega)) (by rw [t 401 (by decide)]) (by rw [t 401 (by decide)]) (t 450 (by decide)))
    (h.fd.fr (s 118 (by decide)) (s 119 (by decide)) (s 120 (by decide)) (s 121 (by decide)) (s 122 (by decide)) (by rw [t 401 (by decide)]) (t 446 (by decide)) (t 438 (by decide)))
  · have := h.rf j hj
    by_cases e : j = k
    · subst e; rw [up_s, up_s, this.1]; omega
    · rw [up_k e, up_k e]; omega
  · obtain ⟨w1, w2, w3, w4, w5, w6⟩ := h.wd
    exact ⟨by rw [t 438 (by decide)]; exact w1, by rw [t 438 (by decide)]; exact w2, by rw [t 438 (by decide)]; exact w3.fr (by rw [s 24 (by decide)]) (by rw [s 24 (by decide)]) (by rw [s 24 (by decide)]) (s 25 (by decide)), by rw [s 24 (by decide), s 26 (by decide), t 438 (by decide)]; exact w4, by rw [s 24 (by decide)]; omega, by rw [t 401 (by decide)]; exact w6⟩
  · obtain ⟨q1, q2⟩ := h.th
    exact ⟨by rw [s 27 (by decide)]; omega, by rw [t 401 (by decide)]; omega⟩
theorem c_refuse (h : Inv n P S T) (hn : n < 1000000) {k : Nat} (hk : k < 6) : m_Ma_refuse k S = some (-1, up S 134 k (S 134 k + 1)) := by
  have := h.rf k hk
  rw [e_Ma_refuse, if_neg (by omega), if_pos (by omega), if_pos (by omega), if_pos (by omega), Int.toNat_natCast, wrN (by omega) (by omega)]
theorem c_refused (h : Inv n P S T) (hn : n < 1000000) {k : Nat} (hk : k < 6) : m_Ma_refused k S = some (0, up S 134 k (S 134 k + 1)) := by
  rw [e_Ma_refused, c_refuse h hn hk, Option.bind_some]
theorem m_refuses (h : Inv n P S T) (hn : n < 1000000) {k : Nat} (hk : k < 6) : m_Mo_refuses k T = some (-1, up T 403 k (T 403 k + 1)) := by
  have := h.rf k hk
  rw [e_Mo_refuses, if_pos (by omega), if_pos (by omega), Int.toNat_natCast, wrN (by omega) (by omega)]
theorem op_seed (h : Inv n P S T) (hn : n < 1000000) {a : Int} (ha : a < 2147483648) : OK2 n P (m_Ma_seed a S) (m_Mo_seed a T) := by
  have hr := h.rf 5 (by decide)
  have e1 : m_Ma_refused 5 S = some (0, up S 134 5 (S 134 5 + 1)) := c_refused (k := 5) h hn (by decide)
  rw [e_Ma_seed, e_Mo_seed]
  by_cases c : a < 0
  · rw [if_pos c, if_pos c, e1, Option.bind_some, if_pos (Or.inl rfl), wrN (by omega) (by omega)]
    exact ⟨_, _, _, rfl, rfl, h.refuse hn (by decide)⟩
  · rw [if_neg c, if_neg c]
    refine ⟨_, _, _, rfl, rfl, ?_⟩
    have h' := h.same
    have s : ∀ x, x ≠ 1 → up S 1 13 a x = S x := fun x hx => up_c hx
    have t : ∀ x, x ≠ 401 → up T 401 73 a x = T x := fun x hx => up_c hx
    have t1 : ∀ k, k ≠ 73 → up T 401 73 a 401 k = T 401 k := fun k hk => up_k hk
    obtain ⟨w1, w2, w3, w4, w5, w6⟩ := h'.wd
    refine Inv.mk1 h'.pln (h'.rp.fr (t 430 (by decide)) (t 431 (by decide)) (t 432 (by decide)) (t 433 (by decide)) (t 435 (by decide)) (t 436 (by decide)) (t 437 (by decide))) (h'.nm.fr (s 32 (by decide)) (s 35 (by decide)))
      (h'.tx.fr (by rw [s 2 (by decide)]) (s 3 (by decide)) (t1 1 (by decide)) (t 402 (by decide))) (h'.ft.fr (by rw [s 2 (by decide)]) (by rw [s 2 (by decide)]) (t1 7 (by decide)) (t1 8 (by decide))) (h.rf.fr (s 134 (by decide)) (t 403 (by decide)))
      ⟨by rw [up_s, up_s], by rw [up_s]; omega, by rw [up_s]; omega⟩ (h'.im.fr (by rw [up_k (by decide)]) (s 133 (by decide)) (t1 107 (by decide)) (t 476 (by decide))) (h'.mk0.fr (s 22 (by decide)) (by rw [s 23 (by decide)]) (by rw [s 132 (by decide)]) (s 17 (by decide)) (s 18 (by decide)) (fun x hx => t x (by omega)))
      ⟨by rw [t 438 (by decide)]; exact w1, by rw [t 438 (by decide)]; exact w2, by rw [t 438 (by decide)]; exact w3.fr (by rw [s 24 (by decide)]) (by rw [s 24 (by decide)]) (by rw [s 24 (by decide)]) (s 25 (by decide)), by rw [s 24 (by decide), s 26 (by decide), t 438 (by decide)]; exact w4, by rw [s 24 (by decide)]; exact w5, by rw [t1 56 (by decide)]; exact w6⟩
      ⟨by rw [s 27 (by decide)]; exact h'.th.1, by rw [t1 57 (by decide)]; exact h'.th.2⟩ ⟨h'.en.1.fr (fun x h1 h2 => s x (by omega)), by rw [s 30 (by decide)]; exact h'.en.2⟩
      (h.hi.fr (by rw [s 51 (by decide)]) (by rw [s 51 (by decide)]) (fun x h1 h2 => s x (by omega)) (t1 71 (by decide)) (t1 72 (by decide)) (t 450 (by decide)))
      (h'.fd.fr (s 118 (by decide)) (s 119 (by decide)) (s 120 (by decide)) (s 121 (by decide)) (s 122 (by decide)) (t1 64 (by decide)) (t 446 (by decide)) (t 438 (by decide)))
/-- the tape alone has changed -/
theorem Inv.tape (h : Inv n P S T) {S' T' : MS} (s : ∀ x, x ≠ 2 → x ≠ 3 → S' x = S x) (s1 : ∀ k, k ≠ 1 → S' 2 k = S 2 k) (t : ∀ x, x ≠ 401 → x ≠ 402 → T' x = T x) (t1 : ∀ k, k ≠ 1 → T' 401 k = T 401 k) (hx : TXr S' T') : Inv (n + 1) P S' T' := by
  have h' := h.same
  obtain ⟨w1, w2, w3, w4, w5, w6⟩ := h'.wd
  exact Inv.mk1 h'.pln (h'.rp.fr (t 430 (by decide) (by decide)) (t 431 (by decide) (by decide)) (t 432 (by decide) (by decide)) (t 433 (by decide) (by decide)) (t 435 (by decide) (by decide)) (t 436 (by decide) (by decide)) (t 437 (by decide) (by decide))) (h'.nm.fr (s 32 (by decide) (by decide)) (s 35 (by decide) (by decide)))
    hx (h'.ft.fr (s1 8 (by decide)) (s1 9 (by decide)) (t1 7 (by decide)) (t1 8 (by decide))) (h.rf.fr (s 134 (by decide) (by decide)) (t 403 (by decide) (by decide)))
    (h'.sd.fr (by rw [s 1 (by decide) (by decide)]) (t1 73 (by decide))) (h'.im.fr (by rw [s 1 (by decide) (by decide)]) (s 133 (by decide) (by decide)) (t1 107 (by decide)) (t 476 (by decide) (by decide))) (h'.mk0.fr (s 22 (by decide) (by decide)) (by rw [s 23 (by decide) (by decide)]) (by rw [s 132 (by decide) (by decide)]) (s 17 (by decide) (by decide)) (s 18 (by decide) (by decide)) (fun x hx => t x (by omega) (by omega)))
    ⟨by rw [t 438 (by decide) (by decide)]; exact w1, by rw [t 438 (by decide) (by decide)]; exact w2, by rw [t 438 (by decide) (by decide)]; exact w3.fr (by rw [s 24 (by decide) (by decide)]) (by rw [s 24 (by decide) (by decide)]) (by rw [s 24 (by decide) (by decide)]) (s 25 (by decide) (by decide)), by rw [s 24 (by decide) (by decide), s 26 (by decide) (by decide), t 438 (by decide) (by decide)]; exact w4, by rw [s 24 (by decide) (by decide)]; exact w5, by rw [t1 56 (by decide)]; exact w6⟩
    ⟨by rw [s 27 (by decide) (by decide)]; exact h'.th.1, by rw [t1 57 (by decide)]; exact h'.th.2⟩ ⟨h'.en.1.fr (fun x h1 h2 => s x (by omega) (by omega)), by rw [s 30 (by decide) (by decide)]; exact h'.en.2⟩
    (h.hi.fr (by rw [s 51 (by decide) (by decide)]) (by rw [s 51 (by decide) (by decide)]) (fun x h1 h2 => s x (by omega) (by omega)) (t1 71 (by decide)) (t1 72 (by decide)) (t 450 (by decide) (by decide)))
    (h'.fd.fr (s 118 (by decide) (by decide)) (s 119 (by decide) (by decide)) (s 120 (by decide) (by decide)) (s 121 (by decide) (by decide)) (s 122 (by decide) (by decide)) (t1 64 (by decide)) (t 446 (by decide) (by decide)) (t 438 (by decide) (by decide)))
theorem op_end (h : Inv n P S T) (hn : n < 1000000) (a : Int) : OK2 n P (m_Ma_end a S) (m_Mo_end a T) := by
  have hr := h.rf 0 (by decide)
  obtain ⟨x1, x2, x3⟩ := h.tx
  have e1 : m_Ma_refused 0 S = some (0, up S 134 0 (S 134 0 + 1)) := c_refused (k := 0) h hn (by decide)
  rw [e_Ma_end, e_Mo_end, ← x1]
  by_cases c : a < 0
  · rw [if_pos c, if_pos c, e1, Option.bind_some, if_pos (Or.inl rfl), wrN (by omega) (by omega)]
    exact ⟨_, _, _, rfl, rfl, h.refuse hn (by decide)⟩
  · rw [if_neg c, if_neg c]
    by_cases c2 : S 2 1 < a
    · rw [if_pos c2, if_pos c2, e1, Option.bind_some, if_pos (Or.inl rfl), wrN (by omega) (by omega)]
      exact ⟨_, _, _, rfl, rfl, h.refuse hn (by decide)⟩
    · rw [if_neg c2, if_neg c2]
      refine ⟨_, _, _, rfl, rfl, h.tape (fun x h1 _ => up_c h1) (fun k hk => up_k hk) (fun x h1 _ => up_c h1) (fun k hk => up_k hk) ⟨by rw [up_s, up_s], by rw [up_s]; omega, fun k hk => ?_⟩⟩
      rw [up_s] at hk
      rw [up_c (by decide), up_c (by decide)]
      exact x3 k (by omega)
end
