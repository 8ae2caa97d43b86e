/-! MINISTRY: a text with a fault leaves all as it was, both -/
section
variable {n : Nat} {P S T S' T' : MS}
theorem RP.top (h : RP P T) (a : ∀ k, 4 ≤ k → T' 430 k = T 430 k) (b : ∀ k, 16 ≤ k → T' 431 k = T 431 k ∧ T' 432 k = T 432 k) (c : ∀ k, 36 ≤ k → T' 433 k = T 433 k) (d : ∀ k, 3 ≤ k → T' 435 k = T 435 k ∧ T' 436 k = T 436 k) (e : ∀ k, 1600 ≤ k → T' 437 k = T 437 k) : RP P T' := by
  obtain ⟨h1, h2, h3, h4, h5, h6⟩ := h
  exact ⟨fun k k1 k2 => (a k k1).trans (h1 k k1 k2), fun k k1 k2 => (b k k1).1.trans (h2 k k1 k2), fun k k1 k2 => (b k k1).2.trans (h3 k k1 k2), fun k k1 k2 => (c k k1).trans (h4 k k1 k2), fun k k1 k2 => ⟨(d k k1).1.trans (h5 k k1 k2).1, (d k k1).2.trans (h5 k k1 k2).2⟩, fun k k1 k2 => (e k k1).trans (h6 k k1 k2)⟩
theorem Inv.told0 (h : Inv n P S T) {S' T' : MS} (s : ∀ c, c = 1 ∨ c = 17 ∨ c = 18 ∨ 23 < c → c ≠ 134 → S' c = S c) (t : ∀ c, (403 < c ∧ c < 430) ∨ (437 < c ∧ c ≠ 473 ∧ c ≠ 474) → T' c = T c) (hrp : RP P T') (h9 : ∀ k, k < 16 → 0 ≤ T' 432 k ∧ T' 432 k ≤ 9) (t1 : ∀ k, k ∈ [56, 57, 64, 71, 72, 73, 107] → T' 401 k = T 401 k) (hx : TXr S' T') (hf : FTr S' T') (hr : RFr (n + 1) S' T') : Inv (n + 1) P S' T' := by
  have h' := h.same
  obtain ⟨w1, w2, w3, w4, w5, w6⟩ := h'.wd
  have ht : ∀ q ∈ wdM, (404 ≤ q.1 ∧ q.1 ≤ 429) ∨ (451 ≤ q.1 ∧ q.1 ≤ 472) := by decide
  exact Inv.mk1 h'.pln hrp (h'.nm.fr (s 32 (by decide) (by decide)) (s 35 (by decide) (by decide)))
    hx hf hr
    (h'.sd.fr (by rw [s 1 (by decide) (by decide)]) (t1 73 (by decide))) (h'.im.fr (by rw [s 1 (by decide) (by decide)]) (s 133 (by decide) (by decide)) (t1 107 (by decide)) (t 476 (by decide)))
    ⟨⟨rfl, rfl, by rw [s 132 (by decide) (by decide)]; exact h.mk0.1.2.2⟩, ⟨by rw [s 17 (by decide) (by decide)]; exact h.mk0.2.1.1, by rw [s 18 (by decide) (by decide)]; exact h.mk0.2.1.2.1, h9⟩, fun q hq k hk => by
      have := ht q hq
      rw [t q.1 (by omega)]
      exact h.mk0.2.2 q hq k hk⟩
    ⟨by rw [t 438 (by decide)]; exact w1, by rw [t 438 (by decide)]; exact w2, by rw [t 438 (by decide)]; exact w3.fr (by rw [s 24 (by decide) (by decide)]) (by rw [s 24 (by decide) (by decide)]) (by rw [s 24 (by decide) (by decide)]) (s 25 (by decide) (by decide)), by rw [s 24 (by decide) (by decide), s 26 (by decide) (by decide), t 438 (by decide)]; exact w4, by rw [s 24 (by decide) (by decide)]; exact w5, by rw [t1 56 (by decide)]; exact w6⟩
    ⟨by rw [s 27 (by decide) (by decide)]; exact h'.th.1, by rw [t1 57 (by decide)]; exact h'.th.2⟩ ⟨h'.en.1.fr (fun x h1 h2 => s x (by omega) (by omega)), by rw [s 30 (by decide) (by decide)]; exact h'.en.2⟩
    (h.hi.fr (by rw [s 51 (by decide) (by decide)]) (by rw [s 51 (by decide) (by decide)]) (fun x h1 h2 => s x (by omega) (by omega)) (t1 71 (by decide)) (t1 72 (by decide)) (t 450 (by decide)))
    (h'.fd.fr (s 118 (by decide) (by decide)) (s 119 (by decide) (by decide)) (s 120 (by decide) (by decide)) (s 121 (by decide) (by decide)) (s 122 (by decide) (by decide)) (t1 64 (by decide)) (t 446 (by decide)) (t 438 (by decide)))
/-- what reading has changed, from between calls to its end -/
def RDs (S T S' T' : MS) : Prop := (∀ c, c = 1 ∨ c = 3 ∨ c = 17 ∨ c = 18 ∨ 23 < c → S' c = S c) ∧ (∀ c, (401 < c ∧ c < 430) ∨ (437 < c ∧ c ≠ 473 ∧ c ≠ 474) → T' c = T c) ∧ T' 401 1 = 0 ∧ (∀ k, k ∈ [56, 57, 64, 71, 72, 73, 107] → T' 401 k = T 401 k) ∧ ((∀ k, 4 ≤ k → T' 430 k = T 430 k) ∧ (∀ k, 16 ≤ k → T' 431 k = T 431 k ∧ T' 432 k = T 432 k) ∧ (∀ k, 36 ≤ k → T' 433 k = T 433 k) ∧ (∀ k, 3 ≤ k → T' 435 k = T 435 k ∧ T' 436 k = T 436 k) ∧ ∀ k, 1600 ≤ k → T' 437 k = T 437 k) ∧ (∀ k, k < 16 → 0 ≤ T' 432 k ∧ T' 432 k ≤ 9) ∧ S' 22 2 = 1
theorem RDs.mk {S2 T2 : MS} (h : Inv n P S T) (a0 : S2 22 2 = 1) (a1 : ∀ c, c ≠ 2 → c ≠ 4 → c ≠ 5 → c ≠ 13 → c ≠ 14 → c ≠ 15 → c ≠ 20 → c ≠ 21 → c ≠ 22 → S2 c = S c) (b1 : T2 401 1 = 0) (b2 : ∀ k, 4 ≤ k → T2 430 k = T 430 k) (b3 : ∀ k, 3 ≤ k → T2 435 k = T 435 k) (b4 : ∀ c, c ≠ 401 → c ≠ 430 → c ≠ 434 → c ≠ 435 → T2 c = T c) (b5 : ∀ k, k = 0 ∨ 6 < k → k ≠ 46 → k ≠ 47 → T2 401 k = T 401 k) (f : FMc S2 S') (g : FMm T2 T') : RDs S T S' T' := by
  obtain ⟨f1, f2, f3, f4⟩ := f
  obtain ⟨g1, g2, g3, g4, g5, g6, g7, g8⟩ := g
  refine ⟨fun c hc => (f1 c (by omega)).trans (a1 c (by omega) (by omega) (by omega) (by omega) (by omega) (by omega) (by omega) (by omega) (by omega)), fun c hc => (g1 c (by omega)).trans (b4 c (by omega) (by omega) (by omega) (by omega)), ?_, fun k hk => ?_, ⟨fun k hk => (g2 k hk).trans (b2 k hk), fun k hk => ⟨(g3 k hk).1.trans (by rw [b4 431 (by decide) (by decide) (by decide) (by decide)]), (g3 k hk).2.trans (by rw [b4 432 (by decide) (by decide) (by decide) (by decide)])⟩, fun k hk => (g4 k hk).trans (by rw [b4 433 (by decide) (by decide) (by decide) (by decide)]), fun k hk => ⟨(g5 k hk).1.trans (b3 k hk), (g5 k hk).2.trans (by rw [b4 436 (by decide) (by decide) (by decide) (by decide)])⟩, fun k hk => (g6 k hk).trans (by rw [b4 437 (by decide) (by decide) (by decide) (by decide)])⟩, g8 (fun k hk => by rw [b4 432 (by decide) (by decide) (by decide) (by decide)]; exact h.mk0.2.1.2.2 k hk), f3.trans a0⟩
  · rw [g7 1 (by decide) (by decide) (by decide) (by decide) (by decide) (by decide) (by decide) (by decide) (by decide) (by decide) (by decide) (by decide) (by decide)]; exact b1
  · simp only [List.mem_cons, List.not_mem_nil, or_false] at hk
    rw [g7 k (by omega) (by omega) (by omega) (by omega) (by omega) (by omega) (by omega) (by omega) (by omega) (by omega) (by omega) (by omega) (by omega), b5 k (by omega) (by omega) (by omega)]
/-- the class counts what it refuses -/
theorem c_refuse1 (h : Inv n P S T) (hn : n < 1000) (r : RDs S T S' T') : m_Ma_refuse 1 (up S' 2 1 0) = some (-1, up (up S' 2 1 0) 134 1 (S 134 1 + 1)) := by
  have := h.rf 1 (by decide)
  have e : up S' 2 1 0 134 1 = S 134 1 := by rw [up_c (by decide), r.1 134 (by decide)]
  rw [e_Ma_refuse, if_neg (by decide), if_pos (by decide), if_pos (by decide), if_pos (by decide), show Int.toNat 1 = 1 from rfl, e, wrN (by omega) (by omega)]
theorem min_bad (h : Inv n P S T) (hn : n < 1000) (r : RDs S T S' T') (hb : BAD S' T') : OK2 n P ((m_Ma_refuse 1 (up S' 2 1 0)).bind fun q => some (q.1, q.2)) (Mo_ministry_126 T') := by
  have h1 := h.rf 1 (by decide)
  obtain ⟨r1, r2, r3, r4, r5, r6, r7⟩ := id r
  obtain ⟨k, p, k0, ⟨k1, k2⟩, k3, k4⟩ := hb
  rw [c_refuse1 h hn r, Option.bind_some]
  dsimp only
  rw [e_Mo_ministry_126, if_neg (by rw [k3]; exact k0), show wr (T' 403 1 + 1) = T 403 1 + 1 by rw [r2 403 (by decide), wrN (by omega) (by omega)]]
  refine ⟨-1, _, _, rfl, rfl, h.told0 (fun c hc h134 => ?_) (fun c hc => ?_) (h.rp.top ?_ ?_ ?_ ?_ ?_) (fun k hk => ?_) (fun k hk => ?_) ⟨?_, ?_, fun k hk => ?_⟩ ⟨?_, ?_⟩ (fun j hj => ?_)⟩
  · rw [up_c h134, up_c (by omega)]; exact r1 c (by omega)
  · rw [up_c (by omega), up_c (by omega), up_c (by omega)]; exact r2 c (by omega)
  · intro k hk; rw [up_c (by decide), up_c (by decide), up_c (by decide)]; exact r5.1 k hk
  · intro k hk; rw [up_c (by decide), up_c (by decide), up_c (by decide), up_c (by decide), up_c (by decide), up_c (by decide)]; exact r5.2.1 k hk
  · intro k hk; rw [up_c (by decide), up_c (by decide), up_c (by decide)]; exact r5.2.2.1 k hk
  · intro k hk; rw [up_c (by decide), up_c (by decide), up_c (by decide), up_c (by decide), up_c (by decide), up_c (by decide)]; exact r5.2.2.2.1 k hk
  · intro k hk; rw [up_c (by decide), up_c (by decide), up_c (by decide)]; exact r5.2.2.2.2 k hk
  · rw [up_c (by decide), up_c (by decide), up_c (by decide)]; exact r6 k hk
  · have hk' := hk
    simp only [List.mem_cons, List.not_mem_nil, or_false] at hk'
    rw [up_c (by decide), up_k (by omega), up_k (by omega)]; exact r4 k hk
  · rw [up_c (by decide), up_s, up_c (by decide), up_k (by decide), up_k (by decide)]; exact r3.symm
  · rw [up_c (by decide), up_s]; decide
  · rw [up_c (by decide), up_s] at hk; omega
  · rw [up_c (by decide), up_k (by decide), up_c (by decide), up_k (by decide), up_s]; exact k1.trans k3.symm
  · rw [up_c (by decide), up_k (by decide), up_c (by decide), up_s]; exact k2.trans k4.symm
  · by_cases c : j = 1
    · subst c; rw [up_s, up_s]; omega
    · rw [up_k c, up_k c, up_c (by decide), up_c (by decide), up_c (by decide), r1 134 (by decide), r2 403 (by decide)]
      have := h.rf j hj
      omega
end
