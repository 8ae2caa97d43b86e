/-! ASK, whole -/
section
variable {n : Nat} {P S T : MS}
def FUm (T T' : MS) : Prop := (∀ c, c ≠ 401 → c ≠ 475 → T' c = T c) ∧ ∀ j, j ≠ 51 → j ≠ 103 → j ≠ 104 → j ≠ 105 → T' 401 j = T 401 j
def FUt (T T' : MS) : Prop := (∀ c, c ≠ 401 → c ≠ 475 → T' c = T c) ∧ ∀ j, j ≠ 51 → j ≠ 103 → T' 401 j = T 401 j
theorem FUm.tr {T T' T'' : MS} (h : FUm T T') (g : FUm T' T'') : FUm T T'' := ⟨fun c a1 a2 => (g.1 c a1 a2).trans (h.1 c a1 a2), fun j a1 a2 a3 a4 => (g.2 j a1 a2 a3 a4).trans (h.2 j a1 a2 a3 a4)⟩
theorem RP.fum {T' : MS} (h : RP P T) (f : ∀ c, c ≠ 401 → c ≠ 475 → T' c = T c) : RP P T' := h.fr (f _ (by decide) (by decide)) (f _ (by decide) (by decide)) (f _ (by decide) (by decide)) (f _ (by decide) (by decide)) (f _ (by decide) (by decide)) (f _ (by decide) (by decide)) (f _ (by decide) (by decide))
theorem m_told {w dd : Nat → Int} {cs : List Int} {b : Bool} (hP : PLN P) (hW : WV P w) (hR : RP P T) (h438 : T 438 = w) (h442 : T 442 = dd) (hl : cs.length ≤ 1601) (ht : tyS 3 cs [] = some [b]) {o : Nat} (ho : o < nOf P) (hD : DST (EDG P w) o (fun x => dd (8 * o + x))) (h97 : T 401 97 = ((cs.length : Nat) : Int)) (h473 : ∀ i, i < cs.length → T 473 i = cs.getD i 0) : ∃ T', m_Mo_qTold o (up T 401 51 o) = some (valQ P w (fun o x => dd (8 * o + x)) cs o, T') ∧ FUt T T' := by
  have h8 : o < 8 := by have := hP.1; unfold nOf at ho; omega
  rw [e_Mo_qTold]
  generalize hT0 : up (up T 401 51 (o : Int)) 401 103 0 = T0
  have f0 : ∀ c, c ≠ 401 → T0 c = T c := fun c hc => by rw [← hT0, up_c hc, up_c hc]
  have g0 : ∀ j, j ≠ 51 → j ≠ 103 → T0 401 j = T 401 j := fun j a1 a2 => by rw [← hT0, up_k a2, up_k a1]
  have e51 : T0 401 51 = (o : Int) := by rw [← hT0, up_k (by decide), up_s]
  have e103 : T0 401 103 = 0 := by rw [← hT0, up_s]
  have hpv : ∀ k : Nat, k < 8 → alw 3 k = true → mpv T0 o k = pvq P w o k := fun k hk ha => by
    unfold mpv pvq
    rw [f0 432 (by decide), f0 438 (by decide), h438, e51]
    rcases (show k = 0 ∨ k = 1 ∨ k = 2 ∨ k = 3 ∨ k = 4 ∨ k = 5 ∨ k = 6 ∨ k = 7 by omega) with rfl | rfl | rfl | rfl | rfl | rfl | rfl | rfl
    · rw [if_pos rfl, if_pos rfl]; exact hR.2.2.1 _ (by omega) (by omega)
    · rw [if_neg (by decide), if_pos rfl, if_neg (by decide), if_pos rfl]; exact hR.2.2.1 _ (by omega) (by omega)
    · rfl
    · exact absurd ha (by decide)
    · exact absurd ha (by decide)
    · exact absurd ha (by decide)
    · exact absurd ha (by decide)
    · rfl
  have hpm : pvok 3 (mpv T0 o) := fun k hk ha => by rw [hpv k hk ha]; exact pvq_ok hP hW h8 k hk ha
  have hof : ∀ (z x : Int) (T' : MS), vt false x → FQ T0 T' → z = 0 ∨ z = 1 → m_Mo_qOf z x o T' = some ((if z = 0 then flq P w o x else stq P (fun x => dd (8 * o + x)) x), T') := fun z x T' hx hF hz => by
    have hx : -1000000 ≤ x ∧ x ≤ 1000000 := hx
    have hR' : RP P T' := hR.fum (fun c a1 a2 => by rw [hF.1 c a1 a2, f0 c a1])
    have hwx : wr x = x := wrN (by omega) (by omega)
    rw [e_Mo_qOf, hwx]
    rcases hz with rfl | rfl
    · rw [if_pos rfl, if_pos rfl]
      unfold flq
      by_cases c : 0 ≤ x ∧ x < P 430 5
      · rw [m_isF1 hP hR' c, Option.bind_some, if_pos c]
        dsimp only
        obtain ⟨f, rfl⟩ : ∃ f : Nat, x = (f : Int) := ⟨x.toNat, by omega⟩
        rw [if_neg n10, m_str h8 (by have := hP.2.1; omega), Option.bind_some, hF.1 438 (by decide) (by decide), f0 438 (by decide), h438, Int.toNat_natCast]
      · rw [m_isF0 hP hR' c, Option.bind_some, if_neg c]
        rfl
    · rw [if_neg n10, if_neg n10]
      unfold stq
      by_cases c : 0 ≤ x ∧ x < P 430 4
      · rw [m_isO1 hP hR' c, Option.bind_some, if_pos c]
        dsimp only
        obtain ⟨f, rfl⟩ : ∃ f : Nat, x = (f : Int) := ⟨x.toNat, by omega⟩
        have hf8 : f < 8 := by have := hP.1; omega
        rw [if_neg n10, rw8 h8 hf8, if_pos (by omega), Int.toNat_natCast, Int.toNat_natCast, hF.1 442 (by decide) (by decide), f0 442 (by decide), h442]
      · rw [m_isO0 hP hR' c, Option.bind_some, if_neg c]
        rfl
  have hseg : seg (T0 473) 0 cs.length = cs := seg_list cs 0 (fun i hi => by rw [Nat.zero_add, f0 473 (by decide)]; exact h473 i hi)
  obtain ⟨T', k', r1, r2, r3⟩ := m_qT (i := (o : Int)) (o' := o) h8 (flq_ok hP hW h8) (stq_ok hP hD) cs.length 0 T0 0 [] [] [b] hof (by rw [g0 97 (by decide) (by decide), h97, Nat.zero_add]) (by omega) e103 rfl trivial (by decide) e51 hpm (by rw [hseg]; exact ht)
  rw [hseg] at r2
  have r1 : Mo_qTold_7 o 0 T0 = _ := r1
  have hev : evS (mpv T0 o) (flq P w o) (stq P (fun x => dd (8 * o + x))) cs [] = [valQ P w (fun o x => dd (8 * o + x)) cs o] := by
    rw [evS_congr (q := 3) (pv' := pvq P w o) (fl' := flq P w o) (st' := stq P (fun x => dd (8 * o + x))) hpv (fun _ => ⟨rfl, rfl⟩) ht rfl]
    exact (evC_of (pvq_ok hP hW h8) (flq_ok hP hW h8) (stq_ok hP hD) ht).1
  rw [hev] at r2
  obtain ⟨m, rfl, h3, h4⟩ := stk_cons r2
  cases m with
  | succ m => cases h4
  | zero =>
    rw [r1, h3]
    exact ⟨T', rfl, fun c a1 a2 => by rw [r3.1 c a1 a2, f0 c a1], fun j a1 a2 => by rw [r3.2 j a2, g0 j a1 a2]⟩
theorem m_193 {k : Nat} {w dd : Nat → Int} {cs : List Int} (hk : k < 6) (hP : PLN P) (hW : WV P w) (hl : cs.length ≤ 1601) (ht : tyS 3 cs [] = some [decide (k < 3)]) (hD : ∀ o, o < nOf P → DST (EDG P w) o (fun x => dd (8 * o + x))) : ∀ (j o : Nat) (acc : Int) (T : MS), o + j = nOf P → RP P T → T 438 = w → T 442 = dd → T 401 97 = ((cs.length : Nat) : Int) → (∀ i, i < cs.length → T 473 i = cs.getD i 0) → T 401 104 = acc → (T 401 105 = if o = 0 then 1 else 0) → (-(1000000 * (o : Int) + 1) ≤ acc ∧ acc ≤ 1000000 * (o : Int) + 1) → ∃ T', Mo_ask_193 (k : Int) o T = some (ansQ k (valQ P w (fun o x => dd (8 * o + x)) cs) j o acc, T') ∧ FUm T T' := by
  have hn : nOf P ≤ 8 := by have := hP.1; unfold nOf; omega
  have h430 : P 430 4 = ((nOf P : Nat) : Int) := by have := hP.1; unfold nOf; omega
  intro j
  induction j with
  | zero =>
    intro o acc T e hR _ _ _ _ h4 _ _
    rw [e_Mo_ask_193, e_Mo_officerMany, Option.bind_some]
    dsimp only
    rw [hR.1 4 (by decide) (by decide), h430, if_neg (by omega), h4]
    exact ⟨T, rfl, fun _ _ _ => rfl, fun _ _ _ _ _ => rfl⟩
  | succ j ih =>
    intro o acc T e hR h438 h442 h97 h473 h4 h5 hb
    obtain ⟨T1, r1, r3⟩ := m_told hP hW hR h438 h442 hl ht (show o < nOf P by omega) (hD o (by omega)) h97 h473
    obtain ⟨v1, v2⟩ := valQ_vt (D := fun o x => dd (8 * o + x)) hP hW ht (show o < nOf P by omega) (hD o (by omega))
    rw [e_Mo_ask_193, e_Mo_officerMany, Option.bind_some]
    dsimp only
    rw [hR.1 4 (by decide) (by decide), h430, if_pos (by omega), r1, Option.bind_some]
    dsimp only
    show ∃ T', _ = some (ansQ k (valQ P w (fun o x => dd (8 * o + x)) cs) j (o + 1) (stepQ k (valQ P w (fun o x => dd (8 * o + x)) cs o) o acc), T') ∧ FUm T T'
    generalize valQ P w (fun o x => dd (8 * o + x)) cs o = v at v1 v2 ⊢
    have hv3 : k < 3 → v = 0 ∨ v = 1 := fun q => by rw [decide_eq_true q] at v1; exact v1
    obtain ⟨T2, q1, q2, q3, q4⟩ := m_qTk (T := T1) hk (show o < 8 by omega) v2 hv3 hb (by rw [r3.2 104 (by decide) (by decide)]; exact h4) (by rw [r3.2 105 (by decide) (by decide)]; exact h5)
    rw [q1, Option.bind_some, wr_suc2 (show o < 8 by omega) (by decide)]
    have f2 : ∀ c, c ≠ 401 → c ≠ 475 → T2 c = T c := fun c a1 a2 => by rw [q4.1 c a1, r3.1 c a1 a2]
    obtain ⟨T3, s1, s2⟩ := ih (o + 1) (stepQ k v o acc) T2 (by omega) (hR.fum f2) (by rw [f2 438 (by decide) (by decide)]; exact h438) (by rw [f2 442 (by decide) (by decide)]; exact h442) (by rw [q4.2 97 (by decide) (by decide), r3.2 97 (by decide) (by decide)]; exact h97) (fun i hi => by rw [f2 473 (by decide) (by decide)]; exact h473 i hi) q2 (by rw [q3, if_neg (by omega)]) (stepQ_b (show o < 8 by omega) v2 hb)
    exact ⟨T3, s1, fun c a1 a2 => by rw [s2.1 c a1 a2, f2 c a1 a2], fun j a1 a2 a3 a4 => by rw [s2.2 j a1 a2 a3 a4, q4.2 j a3 a4, r3.2 j a1 a2]⟩
theorem DST.cg {E : Nat → Nat → Prop} {s : Nat} {d d' : Nat → Int} (h : DST E s d) (hs : s < 8) (e : ∀ x, x < 8 → d' x = d x) : DST E s d' := by
  obtain ⟨h1, h2, h3, h4, h5⟩ := h
  refine ⟨by rw [e s hs]; exact h1, fun x hx => by rw [e x hx]; exact h2 x hx, fun x hx q => h3 x hx (by rw [← e x hx]; exact q), fun x j hx q => ?_, fun y x hy hx ed hd => ?_⟩
  · obtain ⟨y, y1, y2, y3⟩ := h4 x j hx (by rw [← e x hx]; exact q)
    exact ⟨y, y1, y2, by rw [e y y1]; exact y3⟩
  · rw [e y hy] at hd
    rw [e y hy, e x hx]
    exact h5 y x hy hx ed hd
theorem m_167 {w : Nat → Int} {k : Int} (hP : PLN P) (hW : WV P w) : ∀ (j o : Nat) (T : MS), o + j = nOf P → RP P T → T 438 = w → (∀ s, s < o → DST (EDG P w) s (fun x => T 442 (8 * s + x))) → ∃ T', Mo_ask_167 k o T = Mo_ask_193 k 0 (up T' 401 48 3) ∧ (∀ s, s < nOf P → DST (EDG P w) s (fun x => T' 442 (8 * s + x))) ∧ ∀ c, c ≠ 442 → c ≠ 443 → T' c = T c := by
  have hn : nOf P ≤ 8 := by have := hP.1; unfold nOf; omega
  have h430 : P 430 4 = ((nOf P : Nat) : Int) := by have := hP.1; unfold nOf; omega
  intro j
  induction j with
  | zero =>
    intro o T e hR hw hD
    rw [e_Mo_ask_167, e_Mo_officerMany, Option.bind_some]
    dsimp only
    rw [hR.1 4 (by decide) (by decide), h430, if_neg (by omega)]
    exact ⟨T, rfl, fun s hs => hD s (by omega), fun _ _ _ => rfl⟩
  | succ j ih =>
    intro o T e hR hw hD
    rw [e_Mo_ask_167, e_Mo_officerMany, Option.bind_some]
    dsimp only
    rw [hR.1 4 (by decide) (by decide), h430, if_pos (by omega)]
    obtain ⟨T1, r1, r2, r3, r4⟩ := m_lays (s := o) hP hR (by rw [hw]; exact hW) (by omega)
    rw [r1, Option.bind_some, wr_suc2 (show o < 8 by omega) (by decide)]
    rw [hw] at r2
    obtain ⟨T2, q1, q2, q3⟩ := ih (o + 1) T1 (by omega) (hR.fr (r3 _ (by decide) (by decide)) (r3 _ (by decide) (by decide)) (r3 _ (by decide) (by decide)) (r3 _ (by decide) (by decide)) (r3 _ (by decide) (by decide)) (r3 _ (by decide) (by decide)) (r3 _ (by decide) (by decide))) (by rw [r3 438 (by decide) (by decide)]; exact hw) (fun s hs => by
      by_cases c : s = o
      · rw [c]; exact r2
      · have := hD s (by omega)
        exact this.cg (by omega) (fun x hx => r4 (8 * s + x) (by omega)))
    exact ⟨T2, q1, q2, fun c c1 c2 => by rw [q3 c c1 c2, r3 c c1 c2]⟩
theorem Inv.askd (h : Inv n P S T) {S' T' : MS} (s : ∀ c, c ∉ [2, 4, 114, 126, 127, 128, 129, 130, 131, 132] → S' c = S c) (s1 : S' 132 1 = S 132 1) (t : ∀ c, c ∉ [401, 442, 443, 473, 474, 475] → T' c = T c) (t1 : ∀ k, k ∈ [56, 57, 64, 71, 72, 73, 107] → T' 401 k = T 401 k) (hx : TXr S' T') (hf : FTr S' T') : Inv (n + 1) P S' T' := by
  have h' := h.same
  obtain ⟨w1, w2, w3, w4, w5, w6⟩ := h'.wd
  exact Inv.mk1 h'.pln (h'.rp.fr (t 430 (by decide)) (t 431 (by decide)) (t 432 (by decide)) (t 433 (by decide)) (t 435 (by decide)) (t 436 (by decide)) (t 437 (by decide))) (h'.nm.fr (s 32 (by decide)) (s 35 (by decide)))
    hx hf (h.rf.fr (s 134 (by decide)) (t 403 (by decide)))
    (h'.sd.fr (by rw [s 1 (by decide)]) (t1 73 (by decide))) (h'.im.fr (by rw [s 1 (by decide)]) (s 133 (by decide)) (t1 107 (by decide)) (t 476 (by decide))) (h'.mk0.fr (s 22 (by decide)) (by rw [s 23 (by decide)]) s1 (s 17 (by decide)) (s 18 (by decide)) (fun x hx => t x (by simp only [List.mem_cons, List.not_mem_nil, or_false, not_or]; omega)))
    ⟨by rw [t 438 (by decide)]; exact w1, by rw [t 438 (by decide)]; exact w2, by rw [t 438 (by decide)]; exact w3.fr (by rw [s 24 (by decide)]) (by rw [s 24 (by decide)]) (by rw [s 24 (by decide)]) (s 25 (by decide)), by rw [s 24 (by decide), s 26 (by decide), t 438 (by decide)]; exact w4, by rw [s 24 (by decide)]; exact w5, by rw [t1 56 (by decide)]; exact w6⟩
    ⟨by rw [s 27 (by decide)]; exact h'.th.1, by rw [t1 57 (by decide)]; exact h'.th.2⟩ ⟨h'.en.1.fr (fun x h1 h2 => s x (by simp only [List.mem_cons, List.not_mem_nil, or_false, not_or]; omega)), by rw [s 30 (by decide)]; exact h'.en.2⟩
    (h.hi.fr (by rw [s 51 (by decide)]) (by rw [s 51 (by decide)]) (fun x h1 h2 => s x (by simp only [List.mem_cons, List.not_mem_nil, or_false, not_or]; omega)) (t1 71 (by decide)) (t1 72 (by decide)) (t 450 (by decide)))
    (h'.fd.fr (s 118 (by decide)) (s 119 (by decide)) (s 120 (by decide)) (s 121 (by decide)) (s 122 (by decide)) (t1 64 (by decide)) (t 446 (by decide)) (t 438 (by decide)))
theorem op_ask (h : Inv n P S T) : OK2 n P (m_Ma_ask S) (m_Mo_ask T) := by
  obtain ⟨x1, x2, x3⟩ := h.tx
  obtain ⟨E, hE⟩ : ∃ E : Nat, S 2 1 = (E : Int) := ⟨(S 2 1).toNat, by omega⟩
  have hE2 : E ≤ 1600 := by omega
  have hg : ∀ i, i < E → T 402 i = S 3 i ∧ 0 ≤ S 3 i ∧ S 3 i ≤ 255 := fun i hi => by
    obtain ⟨a1, a2, a3⟩ := x3 i (by omega)
    exact ⟨a1.symm, a2, a3⟩
  have hP := h.pln
  have hW := h.wd.1
  have hn : nOf P ≤ 8 := by have := hP.1; unfold nOf; omega
  have hC := c_answer (S := S) (g := S 3) (E := E) hE2 (fun i hi => (hg i hi).2) hE rfl h.mk0.1.2.2
  have hM := m_ask0 (T := T) (g := S 3) (E := E) hE2 hg (by rw [← x1]; exact hE) h.mk0.2.2
  rw [e_Ma_ask]
  rcases hC with ⟨k, cs, S1, c1, c2, c3, ⟨c4, c5⟩, c6, c7, c8, c9⟩ | ⟨k, p, S1, c1, c3, c4, c5⟩
  · rcases hM with ⟨k', cs', T1, d1, d3, ⟨d4, d4'⟩, ⟨d5, d6⟩, d7⟩ | ⟨k', p', T1, d1, -⟩
    · rw [c1] at d1
      injection d1 with d1
      injection d1 with _ d1
      injection d1 with e1 e2
      have e1 : k' = k := by omega
      subst e1
      subst e2
      -- the reference lays its steps, and tells
      have hR1 : RP P T1 := h.rp.fr (d7.1 _ (by decide) (by decide) (by decide)) (d7.1 _ (by decide) (by decide) (by decide)) (d7.1 _ (by decide) (by decide) (by decide)) (d7.1 _ (by decide) (by decide) (by decide)) (d7.1 _ (by decide) (by decide) (by decide)) (d7.1 _ (by decide) (by decide) (by decide)) (d7.1 _ (by decide) (by decide) (by decide))
      generalize hacc : (if k' < 2 then (-1 : Int) else 0) = acc
      have hT2 : m_Mo_ask T = Mo_ask_167 (k' : Int) 0 (up (up (up (up T1 401 7 0) 401 8 (-1)) 401 104 acc) 401 105 1) := by
        rw [d3, e_Mo_ask_117, if_pos d4, d4, d4', ← hacc]
        by_cases c : k' < 2
        · rw [if_pos (show (k' : Int) < 2 by omega), if_pos c]
        · rw [if_neg (show ¬ (k' : Int) < 2 by omega), if_neg c]
      generalize hT3 : up (up (up (up T1 401 7 0) 401 8 (-1)) 401 104 acc) 401 105 1 = T2 at hT2
      have f2 : ∀ c, c ≠ 401 → T2 c = T1 c := fun c hc => by rw [← hT3, up_c hc, up_c hc, up_c hc, up_c hc]
      have g2 : ∀ j, j ≠ 7 → j ≠ 8 → j ≠ 104 → j ≠ 105 → T2 401 j = T1 401 j := fun j a1 a2 a3 a4 => by rw [← hT3, up_k a4, up_k a3, up_k a2, up_k a1]
      have g2' : T2 401 7 = 0 ∧ T2 401 8 = -1 ∧ T2 401 104 = acc ∧ T2 401 105 = 1 := by rw [← hT3]; exact ⟨rfl, rfl, rfl, rfl⟩
      have e438 : T2 438 = T 438 := by rw [f2 438 (by decide), d7.1 438 (by decide) (by decide) (by decide)]
      obtain ⟨T3, r1, r2, r3⟩ := m_167 (k := (k' : Int)) hP hW (nOf P) 0 T2 (Nat.zero_add _) (hR1.fum (fun c a1 _ => f2 c a1)) e438 (fun s hs => absurd hs (Nat.not_lt_zero _))
      have r1 : Mo_ask_167 (k' : Int) 0 T2 = _ := r1
      have f4 : ∀ c, c ≠ 401 → c ≠ 442 → c ≠ 443 → up T3 401 48 3 c = T2 c := fun c a1 a2 a3 => by rw [up_c a1, r3 c a2 a3]
      have g4 : ∀ j, j ≠ 48 → up T3 401 48 3 401 j = T2 401 j := fun j hj => by rw [up_k hj, r3 401 (by decide) (by decide)]
      obtain ⟨T4, q1, q2⟩ := m_193 (k := k') (w := T 438) (dd := T3 442) (cs := cs) c2 hP hW c8 c9 r2 (nOf P) 0 acc (up T3 401 48 3) (Nat.zero_add _) ((hR1.fum (fun c a1 _ => f2 c a1)).fr (f4 _ (by decide) (by decide) (by decide)) (f4 _ (by decide) (by decide) (by decide)) (f4 _ (by decide) (by decide) (by decide)) (f4 _ (by decide) (by decide) (by decide)) (f4 _ (by decide) (by decide) (by decide)) (f4 _ (by decide) (by decide) (by decide)) (f4 _ (by decide) (by decide) (by decide))) (by rw [f4 438 (by decide) (by decide) (by decide)]; exact e438) (up_c (by decide)) (by rw [g4 97 (by decide), g2 97 (by decide) (by decide) (by decide) (by decide)]; exact d5) (fun i hi => by rw [f4 473 (by decide) (by decide) (by decide), f2 473 (by decide)]; exact d6 i hi) (by rw [g4 104 (by decide)]; exact g2'.2.2.1) (by rw [g4 105 (by decide), if_pos rfl]; exact g2'.2.2.2) (by rw [← hacc]; split <;> omega)
      have q1 : Mo_ask_193 (k' : Int) 0 (up T3 401 48 3) = _ := q1
      -- the class
      have hA : AQc P (T 438) cs S1 := ⟨h.en.1.fr (fun c a1 a2 => c7.1 c (by omega) (by omega) (by omega) (by omega) (by omega)), h.wd.2.2.1.fr (by rw [c7.1 24 (by decide) (by decide) (by decide) (by decide) (by decide)]) (by rw [c7.1 24 (by decide) (by decide) (by decide) (by decide) (by decide)]) (by rw [c7.1 24 (by decide) (by decide) (by decide) (by decide) (by decide)]) (c7.1 25 (by decide) (by decide) (by decide) (by decide) (by decide)), c4, c5⟩
      obtain ⟨S2, s1, s2⟩ := c_ansOf (D := fun o x => T3 442 (8 * o + x)) c2 hP hW c8 c9 r2 hA
      rw [c3, s1, hT2, r1, q1, Option.bind_some, hacc]
      refine ⟨_, up S2 2 1 0, T4, rfl, rfl, h.askd (fun c hc => ?_) ?_ (fun c hc => ?_) (fun j hj => ?_) ?_ ?_⟩
      · simp only [List.mem_cons, List.not_mem_nil, or_false, not_or] at hc
        rw [up_c (by omega), s2 c (by omega) (by omega) (by omega) (by omega) (by omega), c7.1 c (by omega) (by omega) (by omega) (by omega) (by omega)]
      · rw [up_c (by decide), s2 132 (by decide) (by decide) (by decide) (by decide) (by decide), c7.2.2, h.mk0.1.2.2]
      · simp only [List.mem_cons, List.not_mem_nil, or_false, not_or] at hc
        rw [q2.1 c (by omega) (by omega), f4 c (by omega) (by omega) (by omega), f2 c (by omega), d7.1 c (by omega) (by omega) (by omega)]
      · simp only [List.mem_cons, List.not_mem_nil, or_false] at hj
        rw [q2.2 j (by omega) (by omega) (by omega) (by omega), g4 j (by omega), g2 j (by omega) (by omega) (by omega) (by omega), d7.2.1 j (by omega) (by omega) (by omega) (by omega) (by omega) (by omega)]
      · have t1 : T4 401 1 = 0 := by rw [q2.2 1 (by decide) (by decide) (by decide) (by decide), g4 1 (by decide), g2 1 (by decide) (by decide) (by decide) (by decide)]; exact d7.2.2
        exact ⟨by rw [up_s, t1], by rw [up_s]; omega, fun i hi => by rw [up_s] at hi; omega⟩
      · refine ⟨?_, ?_⟩
        · rw [up_k (by decide), s2 2 (by decide) (by decide) (by decide) (by decide) (by decide), c6.1, q2.2 7 (by decide) (by decide) (by decide) (by decide), g4 7 (by decide)]; exact g2'.1.symm
        · rw [up_k (by decide), s2 2 (by decide) (by decide) (by decide) (by decide) (by decide), c6.2, q2.2 8 (by decide) (by decide) (by decide) (by decide), g4 8 (by decide)]; exact g2'.2.1.symm
    · rw [c1] at d1; cases d1
  · rcases hM with ⟨k', cs', T1, d1, -⟩ | ⟨k', p', T1, d1, d3, ⟨d4, d5⟩, d7⟩
    · rw [c1] at d1; cases d1
    · rw [c1] at d1
      injection d1 with d1
      injection d1 with e1 e2
      rw [c3, d3, Option.bind_some]
      refine ⟨_, up S1 2 1 0, T1, rfl, rfl, h.askd (fun c hc => ?_) ?_ (fun c hc => ?_) (fun j hj => ?_) ?_ ?_⟩
      · simp only [List.mem_cons, List.not_mem_nil, or_false, not_or] at hc
        rw [up_c (by omega), c5.1 c (by omega) (by omega) (by omega) (by omega) (by omega)]
      · rw [up_c (by decide), c5.2.2, h.mk0.1.2.2]
      · simp only [List.mem_cons, List.not_mem_nil, or_false, not_or] at hc
        exact d7.1 c (by omega) (by omega) (by omega)
      · simp only [List.mem_cons, List.not_mem_nil, or_false] at hj
        exact d7.2.1 j (by omega) (by omega) (by omega) (by omega) (by omega) (by omega)
      · exact ⟨by rw [up_s, d7.2.2], by rw [up_s]; omega, fun i hi => by rw [up_s] at hi; omega⟩
      · exact ⟨by rw [up_k (by decide), c4.1, d4, e1], by rw [up_k (by decide), c4.2, d5, e2]⟩
end
