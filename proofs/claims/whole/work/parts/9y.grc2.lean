/-! the class reads the little language, level by level: the clerk -/
section
variable {n : Nat} {P S T : MS} {g : Nat → Int} {E : Nat} {q : Int}
theorem RESc.w01 {C0 D : List Int} {r : PR} {x : Option (Int × MS)} (h : RESc g E q S C0 D r x) : RESc g E q S C0 D r (x.bind fun p1 => if p1.1 = 0 ∨ p1.1 = 1 then some (p1.1, p1.2) else none) := by
  rcases h with ⟨L', cs, S', h1, h2, h3, h4⟩ | ⟨k, p, S', h1, h2, h3, h4, h5⟩
  · exact Or.inl ⟨L', cs, S', h1, by rw [h2, Option.bind_some, if_pos (Or.inr rfl)], h3, h4⟩
  · exact Or.inr ⟨k, p, S', h1, by rw [h2, Option.bind_some, if_pos (Or.inl rfl)], h3, h4, h5⟩
theorem prod_simc {m : Nat} (hm : m < 7) {a : Int} (hE : E ≤ 1600) (h : SIMc g E q (rdPart g q m) (fun S => m_Gr_readPart_c (m + 1) a S)) : SIMc g E q (rdLoop opM (rdPart g q m)) (fun S => m_Gr_readProduct_c (m + 1) a S) :=
  loop0c hE (rdPart_k g q m) rfl (fun w => by unfold opM; split; exact (by decide); split <;> decide) h (lphMc hm) (fun S => e_Gr_readProduct_c m hm a S)
theorem sum_simc {m : Nat} (hm : m < 7) {a : Int} (hE : E ≤ 1600) (h : SIMc g E q (rdPart g q m) (fun S => m_Gr_readPart_c (m + 1) a S)) : SIMc g E q (rdSumP (rdPart g q m)) (fun S => m_Gr_readSum_c (m + 1) a S) :=
  loop0c hE (rdLoop_k (rdPart_k g q m) rfl) rfl (fun w => by unfold opA; split; exact (by decide); split <;> decide) (prod_simc hm hE h) (lphAc hm) (fun S => e_Gr_readSum_c m hm a S)
theorem c_tkSignc {t : Tok} {L : List Tok} {p a : Nat} (ha : a < 256) (hT : TOK E p (t :: L)) (h : CTK S (t :: L)) : (t.1 = 256 + a ∧ ∃ S1, m_Te_takeSign a S = some (1, S1) ∧ CTK S1 L ∧ FTk S S1) ∨ (t.1 ≠ 256 + a ∧ m_Te_takeSign a S = some (0, up (up S 2 8 1) 2 9 ((t.2.1 : Nat) : Int))) := by
  have hb := h.hd.2.2.2.1
  rw [e_Te_takeSign, h.hd.1, wrN (by omega) (by omega)]
  by_cases c : t.1 = 256 + a
  · left
    obtain ⟨k1, -⟩ := hT.tl (by omega)
    obtain ⟨S1, r1, r2, r3⟩ := c_adv h k1.ne
    rw [if_pos (by omega), r1, Option.bind_some]
    exact ⟨c, S1, rfl, r2, r3⟩
  · right
    rw [if_neg (by omega), c_unfit h, Option.bind_some, if_pos (Or.inl rfl)]
    exact ⟨c, rfl⟩
theorem c_open0c {t : Tok} {L : List Tok} (h : CTK S (t :: L)) : m_Te_takeOpening 6 S = some (0, up (up S 2 8 4) 2 9 ((t.2.1 : Nat) : Int)) := by
  rw [e_Te_takeOpening, if_neg (by decide), c_refuseAt, h.hd.2.1, Option.bind_some, if_pos (Or.inl rfl)]
theorem c_openSc {t : Tok} {L : List Tok} {a : Int} (ha : a < 6) (h : CTK S (t :: L)) (hL : L ≠ []) : ∃ S1, m_Te_takeOpening a S = some (1, S1) ∧ CTK S1 L ∧ FTk S S1 := by
  obtain ⟨S1, r1, r2, r3⟩ := c_adv h hL
  rw [e_Te_takeOpening, if_pos ha, r1, Option.bind_some]
  exact ⟨S1, rfl, r2, r3⟩
def INNc (g : Nat → Int) (E : Nat) (q : Int) (m : Nat) (inn : Option RDR) : Prop := (m = 0 ∧ inn = none) ∨ ∃ m', m = m' + 1 ∧ inn = some (rdPart g q m') ∧ SIMc g E q (rdPart g q m') (fun S => m_Gr_readPart_c (m' + 1) ((6 - m' : Nat) : Int) S)
theorem of_bodyc {m p : Nat} {inn : Option RDR} {t : Tok} {L : List Tok} {C0 D : List Int} {c : Int} (hm : m < 7) (hi : INNc g E q m inn) (ht : t.1 ≠ 35) (hc : c ≠ 42) (hT : TOK E p (t :: L)) (hG : GSc g E q S (t :: L) C0 D) (h1612 : (C0 ++ D).length + (t :: L).length ≤ 1612) : RESc g E q S C0 D (if q = 3 then opn inn t.2.1 (fun r => (r L).bnd (fun L' cs => PR.ok L' (cs ++ [c]))) else PR.no 1 t.2.1) (m_Gr_readOf_c (m + 1) ((6 - m : Nat) : Int) (mc c) S) := by
  obtain ⟨k1, -⟩ := hT.tl ht
  rw [List.length_cons] at h1612
  rw [e_Gr_readOf_c m hm]
  simp only [hG.2.2.2.1.2]
  by_cases c2 : q = 3
  · rw [if_pos c2, if_pos c2]
    rcases hi with ⟨rfl, rfl⟩ | ⟨m', rfl, rfl, hs⟩
    · have o : m_Te_takeOpening ((6 - 0 : Nat) : Int) S = _ := c_open0c hG.1
      rw [o, Option.bind_some]
      exact RESc.no rfl rfl (FGc.rf S)
    · obtain ⟨S1, r1, r2, r3⟩ := c_openSc (a := ((6 - (m' + 1) : Nat) : Int)) (by omega) hG.1 k1.ne
      have hG1 := hG.tk r3 r2
      rw [r1, Option.bind_some]
      dsimp only
      rw [if_neg n10, wr6 (by omega)]
      show RESc g E q S C0 D ((rdPart g q m' L).bnd _) _
      rcases hs _ L C0 D S1 k1 hG1 (by omega) with ⟨L2, c2', S2, e1, e2, e3, e4⟩ | ⟨k', p', S2, e1, e2, e3, e4, e5⟩
      · obtain ⟨p2, q1, q2, q3, q4⟩ := rdPart_k g q m' E _ _ _ _ k1 e1
        obtain ⟨S3, u1, u2, u3⟩ := c_addc (c := c) e3 (by simp only [List.length_append] at *; omega) (fun q => absurd q hc)
        have e2 : m_Gr_readPart_c (m' + 1) ((6 - m' : Nat) : Int) S1 = _ := e2
        rw [e1, e2, Option.bind_some]
        dsimp only
        rw [if_neg n10, if_pos e3.2.2.2.1.1, u1, Option.bind_some]
        dsimp only
        rw [if_neg n10]
        rw [List.append_assoc] at u2
        exact Or.inl ⟨L2, c2' ++ [c], S3, rfl, rfl, u2, (r3.x.fgc).tr (e4.tr u3)⟩
      · have e2 : m_Gr_readPart_c (m' + 1) ((6 - m' : Nat) : Int) S1 = _ := e2
        rw [e1, e2, Option.bind_some]
        exact Or.inr ⟨k', p', S2, rfl, rfl, e3, e4, (r3.x.fgc).tr e5⟩
  · rw [if_neg c2, if_neg c2, c_unfit hG.1, Option.bind_some, if_pos (Or.inl rfl)]
    exact RESc.no rfl rfl (FGc.rf S)
theorem rnd_bodyc {m p : Nat} {inn : Option RDR} {t : Tok} {L : List Tok} {C0 D : List Int} (hE : E ≤ 1600) (hm : m < 7) (hi : INNc g E q m inn) (ht : t.1 ≠ 35) (hT : TOK E p (t :: L)) (hG : GSc g E q S (t :: L) C0 D) (h1612 : (C0 ++ D).length + (t :: L).length ≤ 1612) : RESc g E q S C0 D (opn inn t.2.1 (fun r => (rdSumP r L).bnd (fun L2 cs => sgn L2 41 (fun L3 => PR.ok L3 cs)))) ((m_Te_takeOpening ((6 - m : Nat) : Int) S).bind fun p1 => if p1.1 = 0 then some (0, p1.2) else (m_Gr_readSum_c m (wr (((6 - m : Nat) : Int) + 1)) p1.2).bind fun p2 => if p2.1 = 0 then some (0, p2.2) else (m_Te_takeSign 41 p2.2).bind fun p3 => if p3.1 = 0 then some (0, p3.2) else some (1, p3.2)) := by
  obtain ⟨k1, -⟩ := hT.tl ht
  rw [List.length_cons] at h1612
  rcases hi with ⟨rfl, rfl⟩ | ⟨m', rfl, rfl, hs⟩
  · have o : m_Te_takeOpening ((6 - 0 : Nat) : Int) S = _ := c_open0c hG.1
    rw [o, Option.bind_some]
    exact RESc.no rfl rfl (FGc.rf S)
  · obtain ⟨S1, r1, r2, r3⟩ := c_openSc (a := ((6 - (m' + 1) : Nat) : Int)) (by omega) hG.1 k1.ne
    have hG1 := hG.tk r3 r2
    rw [r1, Option.bind_some]
    dsimp only
    rw [if_neg n10, wr6 (by omega)]
    show RESc g E q S C0 D ((rdSumP (rdPart g q m') L).bnd _) _
    rcases sum_simc (by omega) hE hs _ L C0 D S1 k1 hG1 (by omega) with ⟨L2, c2', S2, e1, e2, e3, e4⟩ | ⟨k', p', S2, e1, e2, e3, e4, e5⟩
    · obtain ⟨p2, q1, q2, q3, q4⟩ := rdSumP_k (rdPart_k g q m') E _ _ _ _ k1 e1
      have e2 : m_Gr_readSum_c (m' + 1) ((6 - m' : Nat) : Int) S1 = _ := e2
      rw [e1, e2, Option.bind_some]
      dsimp only
      rw [if_neg n10]
      show RESc g E q S C0 D (sgn L2 41 _) _
      cases L2 with
      | nil => exact q2.elim
      | cons t2 L2 =>
        have tk := c_tkSignc (a := 41) (by decide) q2 e3.1
        rcases tk with ⟨g1, S3, g2, g3, g4⟩ | ⟨g1, g2⟩
        · have g2 : m_Te_takeSign 41 S2 = _ := g2
          rw [g2, Option.bind_some]
          dsimp only
          rw [if_neg n10]
          unfold sgn
          dsimp only
          rw [if_pos g1]
          exact Or.inl ⟨L2, c2', S3, rfl, rfl, e3.tk g4 g3, (r3.x.fgc).tr (e4.tr g4.x.fgc)⟩
        · have g2 : m_Te_takeSign 41 S2 = _ := g2
          rw [g2, Option.bind_some]
          unfold sgn
          dsimp only
          rw [if_neg g1]
          exact RESc.no rfl rfl ((r3.x.fgc).tr e4)
    · have e2 : m_Gr_readSum_c (m' + 1) ((6 - m' : Nat) : Int) S1 = _ := e2
      rw [e1, e2, Option.bind_some]
      exact Or.inr ⟨k', p', S2, rfl, rfl, e3, e4, (r3.x.fgc).tr e5⟩
theorem pair_bodyc {m p : Nat} {inn : Option RDR} {t : Tok} {L : List Tok} {C0 D : List Int} {c : Int} (hE : E ≤ 1600) (hm : m < 7) (hi : INNc g E q m inn) (ht : t.1 ≠ 35) (hc : c ≠ 42) (hT : TOK E p (t :: L)) (hG : GSc g E q S (t :: L) C0 D) (h1612 : (C0 ++ D).length + (t :: L).length ≤ 1612) : RESc g E q S C0 D (rdPair inn c L) (m_Gr_readPair_c (m + 1) ((6 - m : Nat) : Int) (mc c) S) := by
  obtain ⟨k1, -⟩ := hT.tl ht
  rw [List.length_cons] at h1612
  obtain ⟨S0, a1, a2, a3⟩ := c_adv hG.1 k1.ne
  have hG0 := hG.tk a3 a2
  have f0 : FGc S S0 := a3.x.fgc
  rw [e_Gr_readPair_c m hm, a1, Option.bind_some]
  unfold rdPair
  cases L with
  | nil => exact k1.elim
  | cons t2 L2 =>
    dsimp only
    rw [List.length_cons] at h1612
    have i40 : m_Te_isSign 40 S0 = _ := c_isSign (a := 40) a2 (by decide)
    rw [i40, Option.bind_some]
    dsimp only
    by_cases c3 : t2.1 = 296
    · obtain ⟨k3, -⟩ := k1.tl (by omega)
      rw [if_pos c3, if_pos c3, if_neg n10]
      rcases hi with ⟨rfl, rfl⟩ | ⟨m', rfl, rfl, hs⟩
      · have o : m_Te_takeOpening ((6 - 0 : Nat) : Int) S0 = _ := c_open0c a2
        rw [o, Option.bind_some]
        exact RESc.no rfl rfl f0
      · obtain ⟨S1, r1, r2, r3⟩ := c_openSc (a := ((6 - (m' + 1) : Nat) : Int)) (by omega) a2 k3.ne
        have hG1 := hG0.tk r3 r2
        have f1 := f0.tr r3.x.fgc
        rw [r1, Option.bind_some]
        dsimp only
        rw [if_neg n10, wr6 (by omega)]
        show RESc g E q S C0 D ((rdSumP (rdPart g q m') L2).bnd _) _
        have sm := sum_simc (m := m') (by omega) hE hs
        rcases sm _ L2 C0 D S1 k3 hG1 (by omega) with ⟨L3, c3', S2, e1, e2, e3, e4⟩ | ⟨k', p', S2, e1, e2, e3, e4, e5⟩
        · obtain ⟨p2, q1, q2, q3, q4⟩ := rdSumP_k (rdPart_k g q m') E _ _ _ _ k3 e1
          have e2 : m_Gr_readSum_c (m' + 1) ((6 - m' : Nat) : Int) S1 = _ := e2
          have f2 := f1.tr e4
          rw [e1, e2, Option.bind_some]
          dsimp only
          rw [if_neg n10]
          show RESc g E q S C0 D (sgn L3 44 _) _
          cases L3 with
          | nil => exact q2.elim
          | cons t4 L4 =>
            rw [List.length_cons] at q3
            rcases c_tkSignc (a := 44) (by decide) q2 e3.1 with ⟨g1, S3, g2, g3, g4⟩ | ⟨g1, g2⟩
            · have g2 : m_Te_takeSign 44 S2 = _ := g2
              have hG3 := e3.tk g4 g3
              have f3 := f2.tr g4.x.fgc
              obtain ⟨k5, -⟩ := q2.tl (by omega)
              rw [g2, Option.bind_some]
              dsimp only
              rw [if_neg n10]
              unfold sgn
              dsimp only
              rw [if_pos g1]
              rcases sm _ L4 C0 (D ++ c3') S3 k5 hG3 (by simp only [List.length_append] at *; omega) with ⟨L5, c5', S4, e1', e2', e3', e4'⟩ | ⟨k', p', S4, e1', e2', e3', e4', e5'⟩
              · obtain ⟨p5, y1, y2, y3, y4⟩ := rdSumP_k (rdPart_k g q m') E _ _ _ _ k5 e1'
                have e2' : m_Gr_readSum_c (m' + 1) ((6 - m' : Nat) : Int) S3 = _ := e2'
                have f4 := f3.tr e4'
                rw [e1', e2', Option.bind_some]
                dsimp only
                rw [if_neg n10]
                cases L5 with
                | nil => exact y2.elim
                | cons t6 L6 =>
                  rw [List.length_cons] at y3
                  rcases c_tkSignc (a := 41) (by decide) y2 e3'.1 with ⟨x1, S5, x2, x3, x4⟩ | ⟨x1, x2⟩
                  · have x2 : m_Te_takeSign 41 S4 = _ := x2
                    have hG5 := e3'.tk x4 x3
                    obtain ⟨S6, u1, u2, u3⟩ := c_addc (c := c) hG5 (by simp only [List.length_append] at *; omega) (fun q => absurd q hc)
                    rw [x2, Option.bind_some]
                    dsimp only
                    rw [if_neg n10, if_pos hG5.2.2.2.1.1, u1, Option.bind_some]
                    dsimp only
                    rw [if_neg n10]
                    have ea : D ++ c3' ++ c5' ++ [c] = D ++ (c3' ++ (c5' ++ [c])) := by simp only [List.append_assoc]
                    rw [ea] at u2
                    refine Or.inl ⟨L6, c3' ++ (c5' ++ [c]), S6, ?_, rfl, u2, f4.tr (x4.x.fgc.tr u3)⟩
                    show (if t6.1 = 256 + 41 then _ else _) = _
                    rw [if_pos x1]
                  · have x2 : m_Te_takeSign 41 S4 = _ := x2
                    rw [x2, Option.bind_some]
                    refine RESc.no (k := 1) (p := t6.2.1) ?_ rfl f4
                    show (if t6.1 = 256 + 41 then _ else _) = _
                    rw [if_neg x1]
              · have e2' : m_Gr_readSum_c (m' + 1) ((6 - m' : Nat) : Int) S3 = _ := e2'
                rw [e1', e2', Option.bind_some]
                exact Or.inr ⟨k', p', S4, rfl, rfl, e3', e4', f3.tr e5'⟩
            · have g2 : m_Te_takeSign 44 S2 = _ := g2
              rw [g2, Option.bind_some]
              unfold sgn
              dsimp only
              rw [if_neg g1]
              exact RESc.no rfl rfl f2
        · have e2 : m_Gr_readSum_c (m' + 1) ((6 - m' : Nat) : Int) S1 = _ := e2
          rw [e1, e2, Option.bind_some]
          exact Or.inr ⟨k', p', S2, rfl, rfl, e3, e4, f1.tr e5⟩
    · rw [if_neg c3, if_neg c3, if_pos rfl, c_unfit a2, Option.bind_some, if_pos (Or.inl rfl)]
      exact RESc.no rfl rfl f0
theorem val_202c {m p : Nat} {t : Tok} {L : List Tok} {C0 D : List Int} {k : Int} {s0 : Int} (hm : m < 7) (hv : vlH q t.1 = some k) (hs0 : s0 = if t.1 = 15 then 1 else 0) (hT : TOK E p (t :: L)) (hG : GSc g E q S (t :: L) C0 D) (h1612 : (C0 ++ D).length + (t :: L).length ≤ 1612) : RESc g E q S C0 D (PR.ok L [40 + k]) (Gr_readPart_c_202 (m + 1) (mc (40 + k)) s0 (S 23 3) S) := by
  obtain ⟨v1, v2, v3, v4⟩ := vl_mc hv
  obtain ⟨k1, -⟩ := hT.tl v4
  rw [List.length_cons] at h1612
  obtain ⟨hC, hx, hr, hg, hd, h42⟩ := hG
  have hb : bor (S 23 3) s0 = if S 23 3 = 1 ∨ s0 = 1 then 1 else 0 := by
    rcases hd with e | e <;> rw [e, hs0] <;> split <;> rw [bor_nn (by decide) (by decide) (by decide) (by decide)] <;> decide
  have h01 : bor (S 23 3) s0 = 0 ∨ bor (S 23 3) s0 = 1 := by rw [hb]; split <;> omega
  have fG : FGc S (up S 23 3 (bor (S 23 3) s0)) := ⟨fun c _ _ _ c4 => up_c c4, fun k _ => by rw [up_c (by decide)], fun k _ => by rw [up_c (by decide)], fun k hk => up_k hk⟩
  have hG1 : GSc g E q (up S 23 3 (bor (S 23 3) s0)) (t :: L) C0 D := by
    refine ⟨hC.fr (up_c (by decide)) (fun k _ _ => by rw [up_c (by decide)]), by rw [up_c (by decide), up_c (by decide)]; exact hx, by rw [up_c (by decide), up_c (by decide)]; exact hr, by rw [up_k (by decide), up_k (by decide)]; exact hg, by rw [up_s]; exact h01, fun hz => h42 ?_⟩
    rw [up_s, hb] at hz
    split at hz
    · omega
    · rcases hd with e | e
      · exact e
      · rename_i h; exact absurd (Or.inl e) h
  obtain ⟨S1, r1, r2, r3⟩ := c_adv hG1.1 k1.ne
  have hG2 := hG1.tk r3 r2
  obtain ⟨S2, u1, u2, u3⟩ := c_addc (c := 40 + k) hG2 (by omega) (fun e => by
    rw [r3.1 23 (by decide), up_s, hb, if_pos]
    right
    rw [hs0, if_pos (v3.mp (by omega))])
  rw [e_Gr_readPart_c_202 m hm, if_pos h01, r1, Option.bind_some]
  rw [if_pos hG2.2.2.2.1.1, u1, Option.bind_some]
  dsimp only
  rw [if_pos (Or.inr rfl)]
  exact Or.inl ⟨L, _, S2, rfl, rfl, u2, fG.tr (r3.x.fgc.tr u3)⟩
theorem body_simc {m : Nat} {inn : Option RDR} (hE : E ≤ 1600) (hg : ∀ i, i < E → 0 ≤ g i ∧ g i ≤ 255) (hq3 : q = 0 ∨ q = 1 ∨ q = 2 ∨ q = 3) (hm : m < 7) (hi : INNc g E q m inn) : SIMc g E q (rdBody g q inn) (fun S => m_Gr_readPart_c (m + 1) ((6 - m : Nat) : Int) S) := by
  intro p L C0 D S hT hG h1612
  cases L with
  | nil => exact hT.elim
  | cons t L =>
    have hd := hG.1.hd
    unfold rdBody
    dsimp only
    rw [e_Gr_readPart_c m hm]
    simp only [hd.1]
    by_cases c1 : t.1 = 18
    · rw [if_pos (Or.inl c1), if_pos (show ((t.1 : Nat) : Int) = 18 by omega)]
      simp only [if_pos c1]
      have := of_bodyc (c := 60) hm hi (by omega) (by decide) hT hG h1612
      exact this.w01
    · by_cases c2 : t.1 = 19
      · rw [if_pos (Or.inr c2), if_neg (show ¬ ((t.1 : Nat) : Int) = 18 by omega), if_pos (show ((t.1 : Nat) : Int) = 19 by omega)]
        simp only [if_neg c1]
        have := of_bodyc (c := 61) hm hi (by omega) (by decide) hT hG h1612
        exact this.w01
      · rw [if_neg (by omega), if_neg (show ¬ ((t.1 : Nat) : Int) = 18 by omega), if_neg (show ¬ ((t.1 : Nat) : Int) = 19 by omega)]
        by_cases c3 : t.1 = 24
        · rw [if_pos (Or.inl c3), if_pos (show ((t.1 : Nat) : Int) = 24 by omega)]
          simp only [if_pos c3]
          have := pair_bodyc (c := 5) hE hm hi (by omega) (by decide) hT hG h1612
          exact this.w01
        · by_cases c4 : t.1 = 25
          · rw [if_pos (Or.inr c4), if_neg (show ¬ ((t.1 : Nat) : Int) = 24 by omega), if_pos (show ((t.1 : Nat) : Int) = 25 by omega)]
            simp only [if_neg c3]
            have := pair_bodyc (c := 6) hE hm hi (by omega) (by decide) hT hG h1612
            exact this.w01
          · rw [if_neg (by omega), if_neg (show ¬ ((t.1 : Nat) : Int) = 24 by omega), if_neg (show ¬ ((t.1 : Nat) : Int) = 25 by omega)]
            by_cases c5 : t.1 = 33
            · rw [if_pos c5, if_pos (show ((t.1 : Nat) : Int) = 33 by omega)]
              rw [List.length_cons] at h1612
              rcases c_takeNum (lo := 0) (hi := 9999) hE hg hG.2.1.1 hG.2.1.2 hT hG.1 with ⟨v, S1, n1, n2, n3, n4, n5, n6⟩ | ⟨k, p', n1, n2⟩
              · obtain ⟨S2, u1, u2, u3⟩ := c_addc (c := 1000 + v) (hG.tk n6 n5) (by omega) (fun e => by omega)
                have em : mc (1000 + v) = v := by unfold mc; rw [if_pos (by omega)]; omega
                rw [em] at u1
                rw [n1, n4, Option.bind_some]
                dsimp only
                rw [if_neg (by omega), if_pos (by rw [n6.1 23 (by decide)]; exact hG.2.2.2.1.1), u1, Option.bind_some]
                dsimp only
                rw [if_neg n10]
                exact Or.inl ⟨L, _, S2, rfl, rfl, u2, n6.x.fgc.tr u3⟩
              · rw [n1, n2, Option.bind_some]
                dsimp only
                rw [if_pos rfl]
                exact RESc.no rfl rfl (FGc.rf S)
            · rw [if_neg c5, if_neg (show ¬ ((t.1 : Nat) : Int) = 33 by omega)]
              by_cases c6 : t.1 = 296
              · rw [if_pos c6, if_pos (show ((t.1 : Nat) : Int) = 296 by omega)]
                exact rnd_bodyc hE hm hi (by omega) hT hG h1612
              · rw [if_neg c6, if_neg (show ¬ ((t.1 : Nat) : Int) = 296 by omega), c_valuec hG.1 hG.2.2.2.1.2 hq3, Option.bind_some]
                dsimp only
                cases hv : vlH q t.1 with
                | none =>
                  dsimp only
                  rw [if_pos rfl, c_unfit hG.1, Option.bind_some, if_pos (Or.inl rfl)]
                  exact RESc.no rfl rfl (FGc.rf S)
                | some k =>
                  obtain ⟨v1, v2, v3, v4⟩ := vl_mc hv
                  have em : mc (40 + k) = -1 - k := by unfold mc; rw [if_neg (by omega), if_neg (by omega), if_pos (by omega)]; omega
                  dsimp only
                  rw [if_neg (by omega)]
                  by_cases c7 : t.1 = 15
                  · rw [if_pos (by rw [em, v3.mpr c7]; rfl)]
                    exact val_202c hm hv (by rw [if_pos c7]) hT hG h1612
                  · rw [if_neg (fun e => c7 (v3.mp (by omega)))]
                    exact val_202c hm hv (by rw [if_neg c7]) hT hG h1612
theorem part_simc (hE : E ≤ 1600) (hg : ∀ i, i < E → 0 ≤ g i ∧ g i ≤ 255) (hq3 : q = 0 ∨ q = 1 ∨ q = 2 ∨ q = 3) : ∀ m, m < 7 → SIMc g E q (rdPart g q m) (fun S => m_Gr_readPart_c (m + 1) ((6 - m : Nat) : Int) S) := by
  intro m
  induction m with
  | zero => intro hm; exact body_simc hE hg hq3 hm (Or.inl ⟨rfl, rfl⟩)
  | succ m ih => intro hm; exact body_simc hE hg hq3 hm (Or.inr ⟨m, rfl, rfl, ih (by omega)⟩)
end
