/-! the reference: parts and sums, as told -/
section
variable {n : Nat} {P S T : MS} {g : Nat → Int} {E : Nat} {q : Int}
def PSM (g : Nat → Int) (E : Nat) (q : Int) (op : Nat) (sub : RDR) : Prop := ∀ (p : Nat) (L : List Tok) (C W : List Int) (base : Nat) (was : Int) (T : MS), TOK E p L → QS g E q T L C W op base → base ≤ W.length → C.length + W.length + L.length ≤ 1650 → (∃ L' cs T', sub L = PR.ok L' cs ∧ PTs was T = EPs was T' ∧ QS g E q T' L' (C ++ cs) W op base ∧ FQs T T') ∨ ∃ k p T', sub L = PR.no k p ∧ k ≠ 0 ∧ PTs was T = some (up T' 401 101 was) ∧ BDQ T' k p ∧ FQs T T'
def HT (V : List Int) (base : Nat) : Prop := (∃ V' x, V = V' ++ [x] ∧ x < 60) ∨ base = V.length
theorem ep_kqH {L : List Tok} {C V : List Int} {op base : Nat} {was : Int} (h : QS g E q T L C V op base) (hV : HT V base) (hl : V.length < 1690) : EPs was T = KQs was T := by
  rcases hV with ⟨V', x, rfl, hx⟩ | rfl
  · rw [List.length_append, List.length_singleton] at hl
    exact ep_kq h hx (by omega)
  · exact ep_kq0 h
def MM (M : List Int) : Prop := M = [] ∨ ∃ y, M = [y] ∧ (y = 3 ∨ y = 4)
theorem MM.len {M : List Int} (h : MM M) : M.length ≤ 1 := by
  rcases h with rfl | ⟨y, rfl, -⟩
  · exact Nat.zero_le _
  · exact Nat.le_refl _
theorem g122_mul {t : Tok} {L1 : List Tok} {C W : List Int} {op base p : Nat} (hT : TOK E p (t :: L1)) (h : QS g E q T (t :: L1) C W op base) {m : Int} (hm : opM t.1 = some m) : ∃ T2, Mo_qGoesOn_0 T = Mo_qGoesOn_162 m T2 ∧ QS g E q T2 L1 C W op base ∧ FQs T T2 := by
  have ht : t.1 = 298 ∧ m = 3 ∨ t.1 = 303 ∧ m = 4 := by
    unfold opM at hm
    by_cases c : t.1 = 298
    · rw [if_pos c] at hm; cases hm; exact Or.inl ⟨c, rfl⟩
    · rw [if_neg c] at hm
      by_cases c2 : t.1 = 303
      · rw [if_pos c2] at hm; cases hm; exact Or.inr ⟨c2, rfl⟩
      · rw [if_neg c2] at hm; cases hm
  obtain ⟨k1, k2, k3, k4, k5⟩ := hT.tl (by omega)
  obtain ⟨T1, a1, a2, a3⟩ := go_122 h (by omega)
  have hE := a2.1.1
  obtain ⟨T0, -, -, -, -, r5⟩ := m_lookq a2.1
  have hlk : lkc g t = g t.2.1 := by unfold lkc; rw [if_neg (by omega)]
  have e1 : wr (((t.2.1 + 1 : Nat) : Int) - 1) = ((t.2.1 : Nat) : Int) := by rw [wrN (by omega) (by omega)]; omega
  rcases ht with ⟨ht, rfl⟩ | ⟨ht, rfl⟩
  · rcases m_tkSign a2.1 sg42 with ⟨-, T2, b1, b2, b3, b4, -⟩ | ⟨q1, -⟩
    · have b1 : m_Mo_takesSign 42 T1 = _ := b1
      have hg : T2 402 t.2.1 = 42 := by
        rw [(b2.2.1 t.2.1 (by omega)).1, ← hlk]
        exact (r5 42 sg42).mpr ht
      rw [a1, e_Mo_qGoesOn_122, b1, Option.bind_some]
      dsimp only
      rw [if_neg n10]
      simp only [b4, e1]
      rw [if_pos (by omega), Int.toNat_natCast, if_pos hg]
      exact ⟨T2, rfl, a2.frt b3 b2, a3.tr b3.toQ⟩
    · omega
  · rcases m_tkSign a2.1 sg42 with ⟨q1, -⟩ | ⟨-, T2, b1, b2, b3, b4⟩
    · omega
    · rcases m_tkSign b2 sg47 with ⟨-, T3, c1, c2, c3, c4, -⟩ | ⟨q1, -⟩
      · have b1 : m_Mo_takesSign 42 T1 = _ := b1
        have c1 : m_Mo_takesSign 47 T2 = _ := c1
        have hg : T3 402 t.2.1 = 47 := by
          rw [(c2.2.1 t.2.1 (by omega)).1, ← hlk]
          exact (r5 47 sg47).mpr ht
        rw [a1, e_Mo_qGoesOn_122, b1, Option.bind_some]
        dsimp only
        rw [if_pos rfl, c1, Option.bind_some]
        dsimp only
        rw [if_neg n10]
        simp only [c4, e1]
        rw [if_pos (by omega), Int.toNat_natCast, if_neg (by rw [hg]; decide)]
        exact ⟨T3, rfl, a2.frt (b3.tr c3) c2, a3.tr (b3.tr c3).toQ⟩
      · omega
theorem g122_add {t : Tok} {L1 : List Tok} {C W : List Int} {op base p : Nat} (hT : TOK E p (t :: L1)) (h : QS g E q T (t :: L1) C W op base) {m : Int} (hm : opA t.1 = some m) : ∃ T2, Mo_qGoesOn_0 T = Mo_qGoesOn_247 m T2 ∧ QS g E q T2 L1 C W op base ∧ FQs T T2 := by
  have ht : t.1 = 299 ∧ m = 1 ∨ t.1 = 301 ∧ m = 2 := by
    unfold opA at hm
    by_cases c : t.1 = 299
    · rw [if_pos c] at hm; cases hm; exact Or.inl ⟨c, rfl⟩
    · rw [if_neg c] at hm
      by_cases c2 : t.1 = 301
      · rw [if_pos c2] at hm; cases hm; exact Or.inr ⟨c2, rfl⟩
      · rw [if_neg c2] at hm; cases hm
  obtain ⟨k1, k2, k3, k4, k5⟩ := hT.tl (by omega)
  obtain ⟨T1, a1, a2, a3⟩ := go_122 h (by omega)
  have hE := a2.1.1
  obtain ⟨T0, -, -, -, -, r5⟩ := m_lookq a2.1
  have hlk : lkc g t = g t.2.1 := by unfold lkc; rw [if_neg (by omega)]
  have e1 : wr (((t.2.1 + 1 : Nat) : Int) - 1) = ((t.2.1 : Nat) : Int) := by rw [wrN (by omega) (by omega)]; omega
  rcases m_tkSign a2.1 sg42 with ⟨q1, -⟩ | ⟨-, T2, b1, b2, b3, b4⟩
  · omega
  rcases m_tkSign b2 sg47 with ⟨q1, -⟩ | ⟨-, T3, c1, c2, c3, c4⟩
  · omega
  have b1 : m_Mo_takesSign 42 T1 = _ := b1
  have c1 : m_Mo_takesSign 47 T2 = _ := c1
  rw [a1, e_Mo_qGoesOn_122, b1, Option.bind_some]
  dsimp only
  rw [if_pos rfl, c1, Option.bind_some]
  dsimp only
  rw [if_pos rfl]
  rcases ht with ⟨ht, rfl⟩ | ⟨ht, rfl⟩
  · rcases m_tkSign c2 sg43 with ⟨-, T4, d1, d2, d3, d4, -⟩ | ⟨q1, -⟩
    · have d1 : m_Mo_takesSign 43 T3 = _ := d1
      have hg : T4 402 t.2.1 = 43 := by
        rw [(d2.2.1 t.2.1 (by omega)).1, ← hlk]
        exact (r5 43 sg43).mpr ht
      rw [d1, Option.bind_some]
      dsimp only
      rw [if_neg n10]
      simp only [d4, e1]
      rw [if_pos (by omega), Int.toNat_natCast, if_pos hg]
      exact ⟨T4, rfl, a2.frt (b3.tr (c3.tr d3)) d2, a3.tr (b3.tr (c3.tr d3)).toQ⟩
    · omega
  · rcases m_tkSign c2 sg43 with ⟨q1, -⟩ | ⟨-, T4, d1, d2, d3, d4⟩
    · omega
    · rcases m_tkSign d2 sg45 with ⟨-, T5, f1, f2, f3, f4, -⟩ | ⟨q1, -⟩
      · have d1 : m_Mo_takesSign 43 T3 = _ := d1
        have f1 : m_Mo_takesSign 45 T4 = _ := f1
        have hg : T5 402 t.2.1 = 45 := by
          rw [(f2.2.1 t.2.1 (by omega)).1, ← hlk]
          exact (r5 45 sg45).mpr ht
        rw [d1, Option.bind_some]
        dsimp only
        rw [if_pos rfl, f1, Option.bind_some]
        dsimp only
        rw [if_neg n10]
        simp only [f4, e1]
        rw [if_pos (by omega), Int.toNat_natCast, if_neg (by rw [hg]; decide)]
        exact ⟨T5, rfl, a2.frt (b3.tr (c3.tr (d3.tr f3))) f2, a3.tr (b3.tr (c3.tr (d3.tr f3))).toQ⟩
      · omega
theorem opM_v {w : Nat} {m : Int} (h : opM w = some m) : (m = 3 ∨ m = 4) ∧ w ≠ 35 := by
  unfold opM at h
  by_cases c : w = 298
  · rw [if_pos c] at h; cases h; exact ⟨Or.inl rfl, by omega⟩
  · rw [if_neg c] at h
    by_cases c2 : w = 303
    · rw [if_pos c2] at h; cases h; exact ⟨Or.inr rfl, by omega⟩
    · rw [if_neg c2] at h; cases h
theorem opA_v {w : Nat} {m : Int} (h : opA w = some m) : (m = 1 ∨ m = 2) ∧ w ≠ 35 := by
  unfold opA at h
  by_cases c : w = 299
  · rw [if_pos c] at h; cases h; exact ⟨Or.inl rfl, by omega⟩
  · rw [if_neg c] at h
    by_cases c2 : w = 301
    · rw [if_pos c2] at h; cases h; exact ⟨Or.inr rfl, by omega⟩
    · rw [if_neg c2] at h; cases h
theorem prod_more {sub : RDR} {op base : Nat} {V : List Int} {was : Int} (hs : PSM g E q op sub) (hk : SUBK sub) (hV : ∀ V' x, V = V' ++ [x] → x ≠ 3 ∧ x ≠ 4) (hb : base ≤ V.length) : ∀ (n p : Nat) (L : List Tok) (C accR M : List Int) (T : MS), L.length ≤ n → TOK E p L → MM M → QS g E q T L (C ++ accR) (V ++ M) op base → (C ++ accR).length + (V ++ M).length + L.length ≤ 1650 → (∃ L' accR' M' T', rdMore opM sub n L (accR ++ M) = PR.ok L' (accR' ++ M') ∧ MM M' ∧ KQs was T = KQs was T' ∧ QS g E q T' L' (C ++ accR') (V ++ M') op base ∧ (∀ t L1, L' = t :: L1 → opM t.1 = none) ∧ FQs T T') ∨ ∃ k p T', rdMore opM sub n L (accR ++ M) = PR.no k p ∧ k ≠ 0 ∧ KQs was T = some (up T' 401 101 was) ∧ BDQ T' k p ∧ FQs T T' := by
  intro n
  induction n with
  | zero => intro p L C accR M T hn hT; exact absurd (List.length_eq_zero_iff.mp (by omega)) hT.ne
  | succ n ih =>
    intro p L C accR M T hn hT hM h hl
    cases L with
    | nil => exact hT.elim
    | cons t L =>
      rw [rdMore]
      cases hop : opM t.1 with
      | none => exact Or.inl ⟨_, accR, M, T, rfl, hM, rfl, h, fun t' L1 e => by cases e; exact hop, FQs.rf T⟩
      | some m =>
        obtain ⟨hm, ht⟩ := opM_v hop
        obtain ⟨k1, k2, -⟩ := hT.tl ht
        have hpos := List.length_pos_iff.mpr k1.ne
        have hml := hM.len
        rw [List.length_cons] at hn hl
        simp only [List.length_append] at hl
        obtain ⟨T2, a1, a2, a3⟩ := g122_mul hT h hop
        obtain ⟨T3, b1, b2, b3⟩ := go_mul (m := m) a2 hM hV (by simp only [List.length_append]; omega)
        have hK : KQs was T = PTs was T3 := by
          rw [kq_go h.1.2.2.2.1, a1, b1, Option.bind_some]
          unfold RQs
          dsimp only
          rw [if_neg n10]
          exact pt_eq b2.1.2.2.2.1
        rcases hs _ L (C ++ accR ++ M) (V ++ [m]) base was T3 k1 b2 (by simp only [List.length_append]; omega) (by simp only [List.length_append, List.length_cons, List.length_nil]; omega) with ⟨L2, cs2, T4, c1, c2, c3, c4⟩ | ⟨k, p', T4, c1, c2, c3, c4, c5⟩
        · obtain ⟨p2, d1, d2, d3, d4⟩ := hk E _ _ _ _ k1 c1
          have hE := ep_kq (was := was) c3 (show m < 60 by omega) (by omega)
          have ea : C ++ accR ++ M ++ cs2 = C ++ (accR ++ M ++ cs2) := by simp only [List.append_assoc]
          rw [ea] at c3
          have eb : accR ++ M ++ (cs2 ++ [m]) = (accR ++ M ++ cs2) ++ [m] := by simp only [List.append_assoc]
          have hr := ih p2 L2 C (accR ++ M ++ cs2) [m] T4 (by omega) d2 (Or.inr ⟨m, rfl, hm⟩) c3 (by simp only [List.length_append, List.length_cons, List.length_nil] at *; omega)
          rw [← eb] at hr
          rw [c1]
          have hKK : KQs was T = KQs was T4 := hK.trans (c2.trans hE)
          rcases hr with ⟨L', accR', M', T', e1, e2, e3, e4, e5, e6⟩ | ⟨k, p', T', e1, e2, e3, e4, e5⟩
          · exact Or.inl ⟨L', accR', M', T', e1, e2, hKK.trans e3, e4, e5, a3.tr (b3.tr (c4.tr e6))⟩
          · exact Or.inr ⟨k, p', T', e1, e2, hKK.trans e3, e4, a3.tr (b3.tr (c4.tr e5))⟩
        · rw [c1]
          exact Or.inr ⟨k, p', T4, rfl, c2, hK.trans c3, c4, a3.tr (b3.tr c5)⟩
theorem prod_all {sub : RDR} {op base p : Nat} {V C : List Int} {L : List Tok} {was : Int} (hs : PSM g E q op sub) (hk : SUBK sub) (hV : ∀ V' x, V = V' ++ [x] → x ≠ 3 ∧ x ≠ 4) (hH : HT V base) (hb : base ≤ V.length) (hT : TOK E p L) (h : QS g E q T L C V op base) (hl : C.length + V.length + L.length ≤ 1650) : (∃ L' accR M T', rdLoop opM sub L = PR.ok L' (accR ++ M) ∧ MM M ∧ PTs was T = KQs was T' ∧ QS g E q T' L' (C ++ accR) (V ++ M) op base ∧ (∀ t L1, L' = t :: L1 → opM t.1 = none) ∧ FQs T T') ∨ ∃ k p T', rdLoop opM sub L = PR.no k p ∧ k ≠ 0 ∧ PTs was T = some (up T' 401 101 was) ∧ BDQ T' k p ∧ FQs T T' := by
  unfold rdLoop
  rcases hs _ L C V base was T hT h hb hl with ⟨L2, cs2, T4, c1, c2, c3, c4⟩ | ⟨k, p', T4, c1, c2, c3, c4, c5⟩
  · obtain ⟨p2, d1, d2, d3, d4⟩ := hk E _ _ _ _ hT c1
    have hE := ep_kqH (was := was) c3 hH (by omega)
    have hr := prod_more (was := was) hs hk hV hb L2.length p2 L2 C cs2 [] T4 (Nat.le_refl _) d2 (Or.inl rfl) (by rw [List.append_nil]; exact c3) (by simp only [List.length_append, List.length_nil]; omega)
    rw [List.append_nil] at hr
    rw [c1]
    rcases hr with ⟨L', accR', M', T', e1, e2, e3, e4, e5, e6⟩ | ⟨k, p', T', e1, e2, e3, e4, e5⟩
    · exact Or.inl ⟨L', accR', M', T', e1, e2, c2.trans (hE.trans e3), e4, e5, c4.tr e6⟩
    · exact Or.inr ⟨k, p', T', e1, e2, c2.trans (hE.trans e3), e4, c4.tr e5⟩
  · rw [c1]
    exact Or.inr ⟨k, p', T4, rfl, c2, c3, c4, c5⟩
theorem MM.rev {M : List Int} (h : MM M) : M.reverse = M := by
  rcases h with rfl | ⟨y, rfl, -⟩ <;> rfl
theorem MM.ops {M : List Int} (h : MM M) : OPS M := by
  rcases h with rfl | ⟨y, rfl, hy⟩
  · exact fun y hy => absurd hy (List.not_mem_nil)
  · intro z hz; rw [List.mem_singleton] at hz; omega
theorem sum_more {sub : RDR} {op base : Nat} {V : List Int} {was : Int} (hs : PSM g E q op sub) (hk : SUBK sub) (hV : ∀ V' x, V = V' ++ [x] → ¬ (1 ≤ x ∧ x ≤ 4)) (hb : base ≤ V.length) : ∀ (n p : Nat) (L : List Tok) (C accR R : List Int) (T : MS), L.length ≤ n → TOK E p L → OPS R → R.length ≤ 2 → (∀ t L1, L = t :: L1 → opM t.1 = none) → QS g E q T L (C ++ accR) (V ++ R.reverse) op base → (C ++ accR).length + (V ++ R).length + L.length ≤ 1650 → (∃ L' accR' R' T', rdMore opA (rdLoop opM sub) n L (accR ++ R) = PR.ok L' (accR' ++ R') ∧ (OPS R' ∧ R'.length ≤ 2) ∧ KQs was T = KQs was T' ∧ QS g E q T' L' (C ++ accR') (V ++ R'.reverse) op base ∧ NOP L' ∧ FQs T T') ∨ ∃ k p T', rdMore opA (rdLoop opM sub) n L (accR ++ R) = PR.no k p ∧ k ≠ 0 ∧ KQs was T = some (up T' 401 101 was) ∧ BDQ T' k p ∧ FQs T T' := by
  intro n
  induction n with
  | zero => intro p L C accR R T hn hT; exact absurd (List.length_eq_zero_iff.mp (by omega)) hT.ne
  | succ n ih =>
    intro p L C accR R T hn hT hR hR2 hnm h hl
    cases L with
    | nil => exact hT.elim
    | cons t L =>
      rw [rdMore]
      cases hop : opA t.1 with
      | none =>
        refine Or.inl ⟨_, accR, R, T, rfl, ⟨hR, hR2⟩, rfl, h, fun t' L1 e => ?_, FQs.rf T⟩
        cases e
        have h1 := hnm t L rfl
        unfold opM at h1
        unfold opA at hop
        refine ⟨fun c => (by rw [if_pos c] at h1; cases h1), fun c => (by rw [if_neg (by omega), if_pos c] at h1; cases h1), fun c => (by rw [if_pos c] at hop; cases hop), fun c => (by rw [if_neg (by omega), if_pos c] at hop; cases hop)⟩
      | some m =>
        obtain ⟨hm, ht⟩ := opA_v hop
        obtain ⟨k1, k2, -⟩ := hT.tl ht
        rw [List.length_cons] at hn hl
        simp only [List.length_append] at hl
        obtain ⟨T2, a1, a2, a3⟩ := g122_add hT h hop
        obtain ⟨T3, b1, b2, b3⟩ := go_add (m := m) (R := R) hV R (C ++ accR) T2 hR a2 (by simp only [List.length_append]; omega)
        have hK : KQs was T = PTs was T3 := by
          rw [kq_go h.1.2.2.2.1, a1, b1, Option.bind_some]
          unfold RQs
          dsimp only
          rw [if_neg n10]
          exact pt_eq b2.1.2.2.2.1
        rcases prod_all (was := was) hs hk (fun V' x e => by have := List.append_inj_right' e rfl; rw [List.cons.injEq] at this; omega) (Or.inl ⟨V, m, rfl, by omega⟩) (by simp only [List.length_append]; omega) k1 b2 (by simp only [List.length_append, List.length_cons, List.length_nil]; omega) with ⟨L2, csR, M, T4, c1, c2, c3, c4, c5, c6⟩ | ⟨k, p', T4, c1, c2, c3, c4, c5⟩
        · obtain ⟨p2, d1, d2, d3, d4⟩ := rdLoop_k hk rfl E _ _ _ _ k1 c1
          have hml := c2.len
          have ea : C ++ accR ++ R ++ csR = C ++ (accR ++ R ++ csR) := by simp only [List.append_assoc]
          rw [ea] at c4
          have eb : accR ++ R ++ (csR ++ M ++ [m]) = (accR ++ R ++ csR) ++ (M ++ [m]) := by simp only [List.append_assoc]
          have er : V ++ [m] ++ M = V ++ (M ++ [m]).reverse := by rw [List.reverse_append, c2.rev, List.append_assoc]; rfl
          rw [er] at c4
          have hr := ih p2 L2 C (accR ++ R ++ csR) (M ++ [m]) T4 (by omega) d2 (fun z hz => by
            rcases List.mem_append.mp hz with hz | hz
            · exact c2.ops z hz
            · rw [List.mem_singleton] at hz; omega) (by rw [List.length_append, List.length_singleton]; omega) c5 c4 (by simp only [List.length_append, List.length_cons, List.length_nil] at *; omega)
          rw [← eb] at hr
          rw [c1]
          have hKK : KQs was T = KQs was T4 := hK.trans c3
          rcases hr with ⟨L', accR', M', T', e1, e2, e3, e4, e5, e6⟩ | ⟨k, p', T', e1, e2, e3, e4, e5⟩
          · exact Or.inl ⟨L', accR', M', T', e1, e2, hKK.trans e3, e4, e5, a3.tr (b3.tr (c6.tr e6))⟩
          · exact Or.inr ⟨k, p', T', e1, e2, hKK.trans e3, e4, a3.tr (b3.tr (c6.tr e5))⟩
        · rw [c1]
          exact Or.inr ⟨k, p', T4, rfl, c2, hK.trans c3, c4, a3.tr (b3.tr c5)⟩
theorem sum_allr {sub : RDR} {op base p : Nat} {V C : List Int} {L : List Tok} {was : Int} (hs : PSM g E q op sub) (hk : SUBK sub) (hV : ∀ V' x, V = V' ++ [x] → ¬ (1 ≤ x ∧ x ≤ 4)) (hH : HT V base) (hb : base ≤ V.length) (hT : TOK E p L) (h : QS g E q T L C V op base) (hl : C.length + V.length + L.length ≤ 1650) : (∃ L' accR R T', rdSumP sub L = PR.ok L' (accR ++ R) ∧ (OPS R ∧ R.length ≤ 2) ∧ PTs was T = KQs was T' ∧ QS g E q T' L' (C ++ accR) (V ++ R.reverse) op base ∧ NOP L' ∧ FQs T T') ∨ ∃ k p T', rdSumP sub L = PR.no k p ∧ k ≠ 0 ∧ PTs was T = some (up T' 401 101 was) ∧ BDQ T' k p ∧ FQs T T' := by
  unfold rdSumP
  have hV' : ∀ V' x, V = V' ++ [x] → x ≠ 3 ∧ x ≠ 4 := fun V' x e => by have := hV V' x e; omega
  rcases prod_all (was := was) hs hk hV' hH hb hT h hl with ⟨L2, csR, M, T4, c1, c2, c3, c4, c5, c6⟩ | ⟨k, p', T4, c1, c2, c3, c4, c5⟩
  · obtain ⟨p2, d1, d2, d3, d4⟩ := rdLoop_k hk rfl E _ _ _ _ hT c1
    have hml := c2.len
    have hr := sum_more (was := was) hs hk hV hb L2.length p2 L2 C csR M T4 (Nat.le_refl _) d2 c2.ops (by omega) c5 (by rw [c2.rev]; exact c4) (by simp only [List.length_append] at *; omega)
    have e0 : rdLoop opA (rdLoop opM sub) L = rdMore opA (rdLoop opM sub) L2.length L2 (csR ++ M) := by
      show PR.bnd (rdLoop opM sub L) _ = _
      rw [c1]; rfl
    rw [e0]
    rcases hr with ⟨L', accR', M', T', e1, e2, e3, e4, e5, e6⟩ | ⟨k, p', T', e1, e2, e3, e4, e5⟩
    · exact Or.inl ⟨L', accR', M', T', e1, e2, c3.trans e3, e4, e5, c6.tr e6⟩
    · exact Or.inr ⟨k, p', T', e1, e2, c3.trans e3, e4, c6.tr e5⟩
  · have e0 : rdLoop opA (rdLoop opM sub) L = PR.no k p' := by
      show PR.bnd (rdLoop opM sub L) _ = _
      rw [c1]; rfl
    rw [e0]
    exact Or.inr ⟨k, p', T4, rfl, c2, c3, c4, c5⟩
end
