/-! the class reads the little language: the clerk -/
section
variable {n : Nat} {P S T : MS}
def GSc (g : Nat → Int) (E : Nat) (q : Int) (S : MS) (L : List Tok) (C0 D : List Int) : Prop := CTK S L ∧ (S 2 1 = (E : Int) ∧ S 3 = g) ∧ (S 14 1 = (((C0 ++ D).length : Nat) : Int) ∧ ∀ i, i < (C0 ++ D).length → S 15 i = mc ((C0 ++ D).getD i 0)) ∧ (S 23 1 = 1 ∧ S 23 2 = q) ∧ (S 23 3 = 0 ∨ S 23 3 = 1) ∧ (S 23 3 = 0 → (42 : Int) ∉ D)
def FGc (S S' : MS) : Prop := (∀ c, c ≠ 2 → c ≠ 14 → c ≠ 15 → c ≠ 23 → S' c = S c) ∧ (∀ k, k < 4 ∨ 9 < k → S' 2 k = S 2 k) ∧ (∀ k, k ≠ 1 → S' 14 k = S 14 k) ∧ ∀ k, k ≠ 3 → S' 23 k = S 23 k
theorem FGc.rf (S : MS) : FGc S S := ⟨fun _ _ _ _ _ => rfl, fun _ _ => rfl, fun _ _ => rfl, fun _ _ => rfl⟩
theorem FGc.tr {S S' S'' : MS} (h : FGc S S') (g : FGc S' S'') : FGc S S'' := ⟨fun c a1 a2 a3 a4 => (g.1 c a1 a2 a3 a4).trans (h.1 c a1 a2 a3 a4), fun k a => (g.2.1 k a).trans (h.2.1 k a), fun k a => (g.2.2.1 k a).trans (h.2.2.1 k a), fun k a => (g.2.2.2 k a).trans (h.2.2.2 k a)⟩
theorem FTx.fgc {S S' : MS} (h : FTx S S') : FGc S S' := ⟨fun c a1 _ _ _ => h.1 c a1, h.2, fun k _ => by rw [h.1 14 (by decide)], fun k _ => by rw [h.1 23 (by decide)]⟩
def RESc (g : Nat → Int) (E : Nat) (q : Int) (S : MS) (C0 D : List Int) (r : PR) (x : Option (Int × MS)) : Prop := (∃ L' cs S', r = PR.ok L' cs ∧ x = some (1, S') ∧ GSc g E q S' L' C0 (D ++ cs) ∧ FGc S S') ∨ ∃ k p S', r = PR.no k p ∧ x = some (0, S') ∧ S' 2 8 = k ∧ S' 2 9 = ((p : Nat) : Int) ∧ FGc S S'
def SIMc (g : Nat → Int) (E : Nat) (q : Int) (sub : RDR) (F : MS → Option (Int × MS)) : Prop := ∀ p L C0 D S, TOK E p L → GSc g E q S L C0 D → (C0 ++ D).length + L.length ≤ 1612 → RESc g E q S C0 D (sub L) (F S)
theorem GSc.tk {g : Nat → Int} {E : Nat} {q : Int} {L L' : List Tok} {C0 D : List Int} {S S' : MS} (h : GSc g E q S L C0 D) (f : FTk S S') (h' : CTK S' L') : GSc g E q S' L' C0 D := by
  obtain ⟨-, ⟨a1, a2⟩, a3, a4, a5, a6⟩ := h
  refine ⟨h', ⟨by rw [f.2 1 (by omega)]; exact a1, by rw [f.1 3 (by decide)]; exact a2⟩, ?_, ?_, ?_, ?_⟩
  · rw [f.1 14 (by decide), f.1 15 (by decide)]; exact a3
  · rw [f.1 23 (by decide)]; exact a4
  · rw [f.1 23 (by decide)]; exact a5
  · rw [f.1 23 (by decide)]; exact a6
theorem c_addc {g : Nat → Int} {E : Nat} {q : Int} {L : List Tok} {C0 D : List Int} {c : Int} (h : GSc g E q S L C0 D) (hl : (C0 ++ D).length < 1616) (hc : c = 42 → S 23 3 = 1) : ∃ S', m_Co_add_s (mc c) S = some (1, S') ∧ GSc g E q S' L C0 (D ++ [c]) ∧ FGc S S' := by
  obtain ⟨h1, ⟨a1, a2⟩, ⟨b1, b2⟩, c1, d1, d2⟩ := h
  rw [e_Co_add_s, b1, if_pos (by omega), if_pos (by omega), Int.toNat_natCast, wr_suc2 hl (by decide)]
  have f : ∀ x, x ≠ 14 → x ≠ 15 → up (up S 15 (C0 ++ D).length (mc c)) 14 1 (((C0 ++ D).length + 1 : Nat) : Int) x = S x := fun x x1 x2 => by rw [up_c x1, up_c x2]
  refine ⟨_, rfl, ⟨h1.fr (f 4 (by decide) (by decide)) (fun k _ _ => by rw [f 2 (by decide) (by decide)]), ⟨by rw [f 2 (by decide) (by decide)]; exact a1, by rw [f 3 (by decide) (by decide)]; exact a2⟩, ⟨?_, fun i hi => ?_⟩, by rw [f 23 (by decide) (by decide)]; exact c1, by rw [f 23 (by decide) (by decide)]; exact d1, fun hz => ?_⟩, fun x _ x2 x3 _ => f x x2 x3, fun k _ => by rw [f 2 (by decide) (by decide)], fun k hk => by rw [up_k hk, up_c (by decide)], fun k _ => by rw [f 23 (by decide) (by decide)]⟩
  · rw [up_s]; simp only [List.length_append, List.length_cons, List.length_nil]; congr 1
  · rw [← List.append_assoc] at hi ⊢
    rw [List.length_append, List.length_singleton] at hi
    rw [up_c (by decide), List.getD_eq_getElem?_getD]
    by_cases e : i = (C0 ++ D).length
    · rw [e, up_s, List.getElem?_append_right (Nat.le_refl _), Nat.sub_self]; rfl
    · rw [up_k e, List.getElem?_append_left (by omega), ← List.getD_eq_getElem?_getD]
      exact b2 i (by omega)
  · rw [f 23 (by decide) (by decide)] at hz
    intro hm
    rcases List.mem_append.mp hm with hm | hm
    · exact d2 hz hm
    · rw [List.mem_singleton] at hm
      have := hc hm.symm
      omega
theorem RESc.pre {g : Nat → Int} {E : Nat} {q : Int} {C0 D : List Int} {r : PR} {x : Option (Int × MS)} {S S1 : MS} (h : RESc g E q S1 C0 D r x) (f : FGc S S1) : RESc g E q S C0 D r x := by
  rcases h with ⟨L', cs, S', h1, h2, h3, h4⟩ | ⟨k, p, S', h1, h2, h3, h4, h5⟩
  · exact Or.inl ⟨L', cs, S', h1, h2, h3, f.tr h4⟩
  · exact Or.inr ⟨k, p, S', h1, h2, h3, h4, f.tr h5⟩
theorem RESc.no {g : Nat → Int} {E : Nat} {q : Int} {C0 D : List Int} {r : PR} {x : Option (Int × MS)} {S S1 : MS} {k : Int} {p : Nat} (hr : r = PR.no k p) (hx : x = some (0, up (up S1 2 8 k) 2 9 ((p : Nat) : Int))) (f : FGc S S1) : RESc g E q S C0 D r x :=
  Or.inr ⟨k, p, _, hr, hx, (ref_89 k p).1, (ref_89 k p).2, f.tr (FTx.ref k p).fgc⟩
/-- a loop over what is joined -/
def LPHc (op : Nat → Option Int) (F : MS → Option (Int × MS)) (LP : Int → MS → Option (Int × MS)) : Prop := ∀ (k : Nat) (S : MS) (t : Tok) (L : List Tok), CTK S (t :: L) → (op t.1 = none → LP k S = some (1, S)) ∧ (∀ c, op t.1 = some c → k < 1600 → LP k S = (m_Te_advance S).bind fun p1 => (F p1).bind fun p2 => if p2.1 = 0 then some (0, p2.2) else if p2.2 23 1 = 1 then ((m_Co_add_s (mc c) p2.2).bind fun p3 => if p3.1 = 0 then some (0, p3.2) else LP (wr ((k : Int) + 1)) p3.2) else none)
theorem loop_simc {g : Nat → Int} {E : Nat} {q : Int} {op : Nat → Option Int} {sub : RDR} {F : MS → Option (Int × MS)} {LP : Int → MS → Option (Int × MS)} (hk : SUBK sub) (ho : op 35 = none) (ho2 : ∀ w, op w ≠ some 42) (hs : SIMc g E q sub F) (hl : LPHc op F LP) : ∀ (n k p : Nat) (L : List Tok) (acc C0 D : List Int) (S : MS), L.length ≤ n → k + L.length ≤ 1601 → TOK E p L → GSc g E q S L C0 (D ++ acc) → (C0 ++ (D ++ acc)).length + L.length ≤ 1612 → RESc g E q S C0 D (rdMore op sub n L acc) (LP k S) := by
  intro n
  induction n with
  | zero => intro k p L acc C0 D S hn _ hT; exact absurd (List.length_eq_zero_iff.mp (by omega)) hT.ne
  | succ n ih =>
    intro k p L acc C0 D S hn hk1 hT hG h1612
    cases L with
    | nil => exact hT.elim
    | cons t L =>
      obtain ⟨l1, l2⟩ := hl k S t L hG.1
      rw [rdMore]
      cases hop : op t.1 with
      | none =>
        rw [l1 hop]
        exact Or.inl ⟨_, _, S, rfl, rfl, hG, FGc.rf S⟩
      | some c =>
        have ht : t.1 ≠ 35 := fun q => by rw [q, ho] at hop; cases hop
        obtain ⟨k1, k2, -⟩ := hT.tl ht
        have hpos := List.length_pos_iff.mpr k1.ne
        rw [List.length_cons] at hn hk1 h1612
        obtain ⟨S1, r1, r2, r3⟩ := c_adv hG.1 k1.ne
        have hG1 := hG.tk r3 r2
        rw [l2 c hop (by omega), r1, Option.bind_some]
        dsimp only
        have f1 : FGc S S1 := r3.x.fgc
        rcases hs _ L C0 (D ++ acc) S1 k1 hG1 (by omega) with ⟨L2, c2, S2, e1, e2, e3, e4⟩ | ⟨k', p', S2, e1, e2, e3, e4, e5⟩
        · obtain ⟨p2, q1, q2, q3, q4⟩ := hk E _ _ _ _ k1 e1
          have len2 : (C0 ++ ((D ++ acc) ++ c2)).length + L2.length ≤ (C0 ++ (D ++ acc)).length + L.length := by
            simp only [List.length_append] at *
            omega
          obtain ⟨S3, u1, u2, u3⟩ := c_addc (c := c) e3 (by omega) (fun q => absurd (by rw [← q]; exact hop) (ho2 t.1))
          rw [e1, e2, Option.bind_some]
          dsimp only
          rw [if_neg n10, if_pos e3.2.2.2.1.1, u1, Option.bind_some]
          dsimp only
          rw [if_neg n10, wr_suc2 (show k < 1601 by omega) (by decide)]
          have ea : D ++ acc ++ c2 ++ [c] = D ++ (acc ++ (c2 ++ [c])) := by simp only [List.append_assoc]
          rw [ea] at u2
          have hn2 : L2.length ≤ n := by omega
          have hres := ih (k + 1) p2 L2 (acc ++ (c2 ++ [c])) C0 D S3 hn2 (by omega) q2 u2 (by
            simp only [List.length_append, List.length_cons, List.length_nil] at *
            omega)
          exact hres.pre (f1.tr (e4.tr u3))
        · rw [e1, e2, Option.bind_some]
          exact Or.inr ⟨k', p', S2, rfl, rfl, e3, e4, f1.tr e5⟩
theorem loop0c {g : Nat → Int} {E : Nat} {q : Int} {op : Nat → Option Int} {sub : RDR} {F G : MS → Option (Int × MS)} {LP : Int → MS → Option (Int × MS)} (hE : E ≤ 1600) (hk : SUBK sub) (ho : op 35 = none) (ho2 : ∀ w, op w ≠ some 42) (hs : SIMc g E q sub F) (hl : LPHc op F LP) (hG : ∀ S, G S = (F S).bind fun p1 => if p1.1 = 0 then some (0, p1.2) else LP 0 p1.2) : SIMc g E q (rdLoop op sub) G := by
  intro p L C0 D S hT hg h1612
  have hlen := hT.len
  rw [hG S]
  unfold rdLoop
  rcases hs p L C0 D S hT hg h1612 with ⟨L2, c2, S2, e1, e2, e3, e4⟩ | ⟨k', p', S2, e1, e2, e3, e4, e5⟩
  · obtain ⟨p2, q1, q2, q3, q4⟩ := hk E _ _ _ _ hT e1
    have hlen2 := q2.len
    rw [e1, e2, Option.bind_some]
    dsimp only
    rw [if_neg n10]
    have := loop_simc hk ho ho2 hs hl L2.length 0 p2 L2 c2 C0 D S2 (Nat.le_refl _) (by omega) q2 e3 (by
      simp only [List.length_append] at *
      omega)
    exact this.pre e4
  · rw [e1, e2, Option.bind_some]
    exact Or.inr ⟨k', p', S2, rfl, rfl, e3, e4, e5⟩
theorem c_valuec {t : Tok} {L : List Tok} {q : Int} (h : CTK S (t :: L)) (hq : S 23 2 = q) (hq3 : q = 0 ∨ q = 1 ∨ q = 2 ∨ q = 3) : m_Gr_valueHere_c S = some ((match vlH q t.1 with | none => 0 | some k => mc (40 + k)), S) := by
  rw [e_Gr_valueHere_c]
  simp only [h.hd.1, hq]
  unfold vlH
  by_cases c1 : t.1 = 1
  · rw [c1]; rfl
  · by_cases c2 : t.1 = 2
    · rw [c2]; rfl
    · by_cases c3 : t.1 = 3
      · rw [c3]; rcases hq3 with e | e | e | e <;> rw [e] <;> rfl
      · by_cases c6 : t.1 = 6
        · rw [c6]; rcases hq3 with e | e | e | e <;> rw [e] <;> rfl
        · by_cases c14 : t.1 = 14
          · rw [c14]; rcases hq3 with e | e | e | e <;> rw [e] <;> rfl
          · by_cases c15 : t.1 = 15
            · rw [c15]; rfl
            · by_cases c16 : t.1 = 16
              · rw [c16]; rcases hq3 with e | e | e | e <;> rw [e] <;> rfl
              · by_cases c17 : t.1 = 17
                · rw [c17]; rcases hq3 with e | e | e | e <;> rw [e] <;> rfl
                · rw [if_neg (by omega), if_neg (by omega), if_neg (by omega), if_neg (by omega), if_neg (by omega), if_neg (by omega), if_neg (by omega), if_neg (by omega), if_neg (by omega), if_neg (by omega), if_neg (by omega), if_neg (fun q => by omega), if_neg (fun q => by omega), if_neg (fun q => by omega), if_neg (fun q => by omega), if_neg (fun q => by omega)]
theorem lphMc {m : Nat} (hm : m < 7) {a : Int} : LPHc opM (fun S => m_Gr_readPart_c (m + 1) a S) (fun k S => Gr_readProduct_c_12 (m + 1) a k S) := by
  intro k S t L h
  have sx : m_Te_isSign 42 S = _ := c_isSign (a := 42) h (by decide)
  have sy : m_Te_isSign 47 S = _ := c_isSign (a := 47) h (by decide)
  unfold opM
  dsimp only
  by_cases c1 : t.1 = 298
  · rw [if_pos c1] at sx
    rw [if_pos c1]
    refine ⟨fun q => (by cases q), fun c q hk => ?_⟩
    cases q
    rw [e_Gr_readProduct_c_12 m hm, if_pos (by omega), sx, Option.bind_some]
    dsimp only
    rw [if_neg n10, sx, Option.bind_some]
    dsimp only
    rw [if_neg n10, e_Gr_readProduct_c_62 m hm]
    rfl
  · rw [if_neg c1] at sx
    rw [if_neg c1]
    by_cases c2 : t.1 = 303
    · rw [if_pos c2] at sy
      rw [if_pos c2]
      refine ⟨fun q => (by cases q), fun c q hk => ?_⟩
      cases q
      rw [e_Gr_readProduct_c_12 m hm, if_pos (by omega), sx, Option.bind_some]
      dsimp only
      rw [if_pos rfl, sy, Option.bind_some]
      dsimp only
      rw [if_neg n10, sx, Option.bind_some]
      dsimp only
      rw [if_pos rfl, e_Gr_readProduct_c_62 m hm]
      rfl
    · rw [if_neg c2] at sy
      rw [if_neg c2]
      refine ⟨fun _ => ?_, fun c q => by cases q⟩
      rw [e_Gr_readProduct_c_12 m hm, sx, Option.bind_some]
      dsimp only
      rw [if_pos rfl, sy, Option.bind_some]
      dsimp only
      rw [if_pos rfl]
      split <;> rfl
theorem lphAc {m : Nat} (hm : m < 7) {a : Int} : LPHc opA (fun S => m_Gr_readProduct_c (m + 1) a S) (fun k S => Gr_readSum_c_12 (m + 1) a k S) := by
  intro k S t L h
  have sx : m_Te_isSign 43 S = _ := c_isSign (a := 43) h (by decide)
  have sy : m_Te_isSign 45 S = _ := c_isSign (a := 45) h (by decide)
  unfold opA
  dsimp only
  by_cases c1 : t.1 = 299
  · rw [if_pos c1] at sx
    rw [if_pos c1]
    refine ⟨fun q => (by cases q), fun c q hk => ?_⟩
    cases q
    rw [e_Gr_readSum_c_12 m hm, if_pos (by omega), sx, Option.bind_some]
    dsimp only
    rw [if_neg n10, sx, Option.bind_some]
    dsimp only
    rw [if_neg n10, e_Gr_readSum_c_62 m hm]
    rfl
  · rw [if_neg c1] at sx
    rw [if_neg c1]
    by_cases c2 : t.1 = 301
    · rw [if_pos c2] at sy
      rw [if_pos c2]
      refine ⟨fun q => (by cases q), fun c q hk => ?_⟩
      cases q
      rw [e_Gr_readSum_c_12 m hm, if_pos (by omega), sx, Option.bind_some]
      dsimp only
      rw [if_pos rfl, sy, Option.bind_some]
      dsimp only
      rw [if_neg n10, sx, Option.bind_some]
      dsimp only
      rw [if_pos rfl, e_Gr_readSum_c_62 m hm]
      rfl
    · rw [if_neg c2] at sy
      rw [if_neg c2]
      refine ⟨fun _ => ?_, fun c q => by cases q⟩
      rw [e_Gr_readSum_c_12 m hm, sx, Option.bind_some]
      dsimp only
      rw [if_pos rfl, sy, Option.bind_some]
      dsimp only
      rw [if_pos rfl]
      split <;> rfl
theorem lphBc {m : Nat} (hm : m < 7) {a : Int} : LPHc opB (fun S => m_Gr_readFact_c (m + 1) a S) (fun k S => Gr_readBoth_c_12 (m + 1) a k S) := by
  intro k S t L h
  unfold opB
  dsimp only
  rw [e_Gr_readBoth_c_12 m hm]
  simp only [h.hd.1]
  by_cases c1 : t.1 = 21
  · rw [if_pos c1, if_pos (show ((t.1 : Nat) : Int) = 21 by omega)]
    refine ⟨fun q => (by cases q), fun c q hk => ?_⟩
    cases q
    rw [if_pos (by omega)]
    rfl
  · rw [if_neg c1, if_neg (show ¬ ((t.1 : Nat) : Int) = 21 by omega)]
    refine ⟨fun _ => by split <;> rfl, fun c q => by cases q⟩
theorem lphTc {m : Nat} (hm : m < 7) {a : Int} : LPHc opT (fun S => m_Gr_readBoth_c (m + 1) a S) (fun k S => Gr_readTest_c_12 (m + 1) a k S) := by
  intro k S t L h
  unfold opT
  dsimp only
  rw [e_Gr_readTest_c_12 m hm]
  simp only [h.hd.1]
  by_cases c1 : t.1 = 20
  · rw [if_pos c1, if_pos (show ((t.1 : Nat) : Int) = 20 by omega)]
    refine ⟨fun q => (by cases q), fun c q hk => ?_⟩
    cases q
    rw [if_pos (by omega)]
    rfl
  · rw [if_neg c1, if_neg (show ¬ ((t.1 : Nat) : Int) = 20 by omega)]
    refine ⟨fun _ => by split <;> rfl, fun c q => by cases q⟩
end
