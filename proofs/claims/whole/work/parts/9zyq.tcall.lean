/-! MINISTRY: the class's own run of it -/
section
variable {n : Nat} {P S T S' T' : MS} {k K pc nx : Nat} {ar st rest : List PV} {C C' : MC} {l l' : PL} {tb : Nat → Option PF} {z : Int}
theorem mI_call (h : mI k ar S C = some (z, S')) : call k ar (S, C) = some (some (.inl z), (S', C)) := by
  unfold mI at h
  cases hc : call k ar (S, C) with
  | none => rw [hc] at h; cases h
  | some q =>
    rw [hc, Option.bind_some] at h
    obtain ⟨v, S1, C1⟩ := q
    cases v with
    | none => simp [cvI] at h
    | some v =>
      cases v with
      | inr v => simp [cvI] at h
      | inl y =>
        simp only [cvI] at h
        by_cases e : C1 = C
        · rw [if_pos e] at h
          injection h with h
          injection h with h1 h2
          rw [h1, h2, e]
        · rw [if_neg e] at h; cases h
theorem mV_call (h : mV k ar S C = some S') : call k ar (S, C) = some (none, (S', C)) := by
  unfold mV at h
  cases hc : call k ar (S, C) with
  | none => rw [hc] at h; cases h
  | some q =>
    rw [hc, Option.bind_some] at h
    obtain ⟨v, S1, C1⟩ := q
    cases v with
    | some v => simp [cvV] at h
    | none =>
      simp only [cvV] at h
      by_cases e : C1 = C
      · rw [if_pos e] at h
        injection h with h
        rw [h, e]
      · rw [if_neg e] at h; cases h
theorem RN_crI {n1 e s : Nat} (hk : k < K) (h : stp tb (TT K) pc l st (S, (n1, 1, e, s)) = crI (TT K) k ar (S, (n1, 1, e, s)) nx l' rest) (hc : mI k ar S (n1, 1, e, s) = some (z, S')) : RN tb (TT K) (pc, l, st, S, (n1, 1, e, s)) = RN tb (TT K) (nx, l', .inl z :: rest, S', (n1, 1, e, s)) := by
  rw [RN_stp, h]
  unfold crI
  rw [TT_lt hk, mI_call hc]
  simp
theorem RN_crV {n1 e s : Nat} (hk : k < K) (h : stp tb (TT K) pc l st (S, (n1, 1, e, s)) = crV (TT K) k ar (S, (n1, 1, e, s)) nx l' rest) (hc : mV k ar S (n1, 1, e, s) = some S') : RN tb (TT K) (pc, l, st, S, (n1, 1, e, s)) = RN tb (TT K) (nx, l', rest, S', (n1, 1, e, s)) := by
  rw [RN_stp, h]
  unfold crV
  rw [TT_lt hk, mV_call hc]
  simp
theorem RN_crW {n1 e s e' s' : Nat} (hk : k < K) (h : stp tb (TT K) pc l st (S, (n1, 1, e, s)) = crW (TT K) k ar (S, (n1, 1, e, s)) nx l' rest) (hc : call k ar (S, (n1, 1, e, s)) = some (none, (S', (n1, 1, e', s')))) : RN tb (TT K) (pc, l, st, S, (n1, 1, e, s)) = RN tb (TT K) (nx, l', rest, S', (n1, 1, e', s')) := by
  rw [RN_stp, h]
  unfold crW
  rw [TT_lt hk, hc]
  simp
theorem RN_ret {M : PM} {o : PO} {r : PRes} (h : stp tb o pc l st M = some (.inr r)) : RN tb o (pc, l, st, M) = some r := by rw [RN_stp, h]
abbrev CU : MC := (135, 1, 5, 5)
theorem min_use (S : MS) : call 121 [vr 30, vr 5] (S, CD) = some (none, (up S 30 3 (wr (S 30 3 + 1)), CU)) := by
  show RN tb_121 (TT 121) (0, [(0, vr 30), (1, vr 5)], [], S, CD) = _
  refine Eq.trans (it_RN 9 CD 0 [(0, vr 30), (1, vr 5)] [] S (15, [(0, vr 30), (1, vr 5)], [], up S 30 3 (wr (S 30 3 + 1)), CU) rfl) ?_
  exact RN_ret rfl
theorem min_no {S1 S2 : MS} (h1 : m_Cl_readAll_s S = some (0, S1)) (h2 : m_Ma_refuse 1 (up S1 2 1 0) = some (z, S2)) : call 126 [vr 1] (S, CD) = some (some (.inl z), (S2, CD)) := by
  show RN tb_126 (TT 126) (0, [(0, vr 1)], [], S, CD) = _
  refine Eq.trans (it_RN 4 CD 0 [(0, vr 1)] [] S (8, [(0, vr 1)], [vr 5, vr 22], S, CD) rfl) ?_
  refine Eq.trans (RN_crI (k := 120) (ar := [vr 22, vr 5]) (nx := 11) (l' := [(0, vr 1)]) (rest := []) (by decide) rfl h1) ?_
  refine Eq.trans (it_RN 7 CD 11 [(0, vr 1)] [vi 0] S1 (24, [(1, vi 0), (0, vr 1)], [], up S1 2 1 0, CD) rfl) ?_
  refine Eq.trans (it_RN 2 CD 24 [(1, vi 0), (0, vr 1)] [] (up S1 2 1 0) (26, [(1, vi 0), (0, vr 1)], [vi 1, vr 1], up S1 2 1 0, CD) rfl) ?_
  refine Eq.trans (RN_crI (k := 18) (ar := [vr 1, vi 1]) (nx := 29) (l' := [(1, vi 0), (0, vr 1)]) (rest := []) (by decide) rfl h2) ?_
  exact RN_ret rfl
theorem min_yes {S1 S2 S3 S4 : MS} (h1 : m_Cl_readAll_s S = some (1, S1)) (h2 : m_St_begin_now_s_x (up (up S1 2 1 0) 30 3 (wr (up S1 2 1 0 30 3 + 1))) = some S2) (h3 : m_Hi_clear_x S2 = some S3) (h4 : m_Fi_forget_x (up S3 118 5 0) = some S4) : call 126 [vr 1] (S, CD) = some (some (.inl (S4 5 3)), (S4, CE)) := by
  show RN tb_126 (TT 126) (0, [(0, vr 1)], [], S, CD) = _
  refine Eq.trans (it_RN 4 CD 0 [(0, vr 1)] [] S (8, [(0, vr 1)], [vr 5, vr 22], S, CD) rfl) ?_
  refine Eq.trans (RN_crI (k := 120) (ar := [vr 22, vr 5]) (nx := 11) (l' := [(0, vr 1)]) (rest := []) (by decide) rfl h1) ?_
  refine Eq.trans (it_RN 15 CD 11 [(0, vr 1)] [vi 1] S1 (46, [(2, vr 31), (1, vi 1), (0, vr 1)], [vr 5, vr 30], up S1 2 1 0, CD) rfl) ?_
  refine Eq.trans (RN_crW (k := 121) (ar := [vr 30, vr 5]) (nx := 49) (l' := [(2, vr 31), (1, vi 1), (0, vr 1)]) (rest := []) (by decide) rfl (min_use _)) ?_
  refine Eq.trans (it_RN 8 CU 49 [(2, vr 31), (1, vi 1), (0, vr 1)] [] (up (up S1 2 1 0) 30 3 (wr (up S1 2 1 0 30 3 + 1))) (65, [(2, vr 31), (1, vi 1), (0, vr 1)], [vr 5, vr 24], up (up S1 2 1 0) 30 3 (wr (up S1 2 1 0 30 3 + 1)), CE) rfl) ?_
  refine Eq.trans (RN_crV (k := 123) (ar := [vr 24, vr 5]) (nx := 68) (l' := [(2, vr 31), (1, vi 1), (0, vr 1)]) (rest := []) (by decide) rfl h2) ?_
  refine Eq.trans (it_RN 2 CE 68 [(2, vr 31), (1, vi 1), (0, vr 1)] [] S2 (72, [(2, vr 31), (1, vi 1), (0, vr 1)], [vr 51], S2, CE) rfl) ?_
  refine Eq.trans (RN_crV (k := 124) (ar := [vr 51]) (nx := 75) (l' := [(2, vr 31), (1, vi 1), (0, vr 1)]) (rest := []) (by decide) rfl h3) ?_
  refine Eq.trans (it_RN 6 CE 75 [(2, vr 31), (1, vi 1), (0, vr 1)] [] S3 (87, [(2, vr 31), (1, vi 1), (0, vr 1)], [vr 118], up S3 118 5 0, CE) rfl) ?_
  refine Eq.trans (RN_crV (k := 125) (ar := [vr 118]) (nx := 90) (l' := [(2, vr 31), (1, vi 1), (0, vr 1)]) (rest := []) (by decide) rfl h4) ?_
  refine Eq.trans (it_RN 4 CE 90 [(2, vr 31), (1, vi 1), (0, vr 1)] [] S4 (100, [(2, vr 31), (1, vi 1), (0, vr 1)], [vi (S4 5 3)], S4, CE) rfl) ?_
  exact RN_ret rfl
theorem c_clx : ∀ (j v : Nat) (S : MS), v + j = 4 → St_clear_now_x_22 (v : Int) S = some (fun c k => if c = 25 ∧ v ≤ k ∧ k < 4 then 0 else S c k) := by
  intro j
  induction j with
  | zero =>
    intro v S e
    rw [e_St_clear_now_x_22, if_neg (by omega)]
    congr 1
    funext c k
    rw [if_neg (by omega)]
  | succ j ih =>
    intro v S e
    rw [e_St_clear_now_x_22, if_pos (by omega), if_pos (by omega), wr_suc2 (show v < 4 by omega) (by decide), Int.toNat_natCast, ih (v + 1) _ (by omega)]
    congr 1
    funext c k
    by_cases h1 : c = 25 ∧ v + 1 ≤ k ∧ k < 4
    · rw [if_pos h1, if_pos (by omega)]
    · rw [if_neg h1]
      by_cases h2 : c = 25
      · subst h2
        by_cases h3 : k = v
        · subst h3; rw [up_s, if_pos (by omega)]
        · rw [up_k h3, if_neg (by omega)]
      · rw [up_c h2, if_neg (by omega)]
theorem c_begx {V : MS} {M : Nat} (hM : V 5 2 = (M : Int)) (hM2 : M ≤ 12) : ∃ V', m_St_begin_now_s_x V = some V' ∧ (∀ c, c ≠ 24 → c ≠ 25 → V' c = V c) ∧ V' 24 0 = 0 ∧ V' 24 1 = ((2 ^ M - 1 : Nat) : Int) ∧ V' 24 2 = 0 ∧ V' 24 5 = 0 ∧ ∀ k, k < 4 → V' 25 k = V 13 k := by
  have hp : ∀ M, M ≤ 12 → 1 ≤ 2 ^ M ∧ 2 ^ M ≤ 4096 := by decide
  obtain ⟨p1, p2⟩ := hp M hM2
  have hs : wr (shl 1 (M : Int) - 1) = ((2 ^ M - 1 : Nat) : Int) := by
    rw [shl_1 (by omega) (by omega), Int.toNat_natCast]
    generalize 2 ^ M = x at *
    rw [wrN (by omega) (by omega)]
    omega
  have w1 : ∀ c, c ≠ 24 → up (up (up (up V 24 0 0) 24 1 0) 24 2 0) 24 5 0 c = V c := fun c hc => by rw [up_c hc, up_c hc, up_c hc, up_c hc]
  have w2 : up (up (up (up V 24 0 0) 24 1 0) 24 2 0) 24 5 0 24 0 = 0 := by rw [up_k (by decide), up_k (by decide), up_k (by decide), up_s]
  have w3 : up (up (up (up V 24 0 0) 24 1 0) 24 2 0) 24 5 0 24 2 = 0 := by rw [up_k (by decide), up_s]
  have w4 : up (up (up (up V 24 0 0) 24 1 0) 24 2 0) 24 5 0 24 5 = 0 := up_s _ _ _ _
  rw [e_St_begin_now_s_x, e_St_clear_now_x]
  generalize up (up (up (up V 24 0 0) 24 1 0) 24 2 0) 24 5 0 = W at *
  have q : St_clear_now_x_22 0 W = some (fun c k => if c = 25 ∧ 0 ≤ k ∧ k < 4 then 0 else W c k) := c_clx 4 0 W rfl
  rw [q, Option.bind_some]
  have v1 : ∀ c, c ≠ 25 → (fun (c k : Nat) => if c = 25 ∧ 0 ≤ k ∧ k < 4 then 0 else W c k) c = W c := fun c hc => by
    funext k
    show (if c = 25 ∧ 0 ≤ k ∧ k < 4 then 0 else W c k) = _
    rw [if_neg (fun h => hc h.1)]
  generalize (fun (c k : Nat) => if c = 25 ∧ 0 ≤ k ∧ k < 4 then 0 else W c k) = V1 at *
  have e52 : V1 5 2 = (M : Int) := by rw [v1 5 (by decide), w1 5 (by decide)]; exact hM
  rw [e52, hs]
  have cn : ∀ c, c ≠ 25 → cpy (up V1 24 1 ((2 ^ M - 1 : Nat) : Int)) 13 25 0 0 4 c = up V1 24 1 ((2 ^ M - 1 : Nat) : Int) c := fun c hc => by
    funext k
    unfold cpy
    rw [if_neg hc]
  refine ⟨_, rfl, fun c a b => by rw [cn c b, up_c a, v1 c b, w1 c a], by rw [cn 24 (by decide), up_k (by decide), v1 24 (by decide)]; exact w2, by rw [cn 24 (by decide), up_s], by rw [cn 24 (by decide), up_k (by decide), v1 24 (by decide)]; exact w3, by rw [cn 24 (by decide), up_k (by decide), v1 24 (by decide)]; exact w4, fun k hk => ?_⟩
  unfold cpy
  rw [if_pos rfl, if_pos (by omega), show ((0 : Int) + ((k : Int) - 0)).toNat = k by omega, up_c (by decide), v1 13 (by decide), w1 13 (by decide)]
/-- with no fault: what the class comes to -/
theorem min_go {S1 : MS} (h1 : m_Cl_readAll_s S = some (1, S1)) {M : Nat} (hM : S1 5 2 = (M : Int)) (hM2 : M ≤ 12) : ∃ S4, call 126 [vr 1] (S, CD) = some (some (.inl (S1 5 3)), (S4, CE)) ∧ (∀ c, c ∉ [2, 24, 25, 30, 51, 118] → S4 c = S1 c) ∧ (S4 2 1 = 0 ∧ ∀ k, k ≠ 1 → S4 2 k = S1 2 k) ∧ (S4 30 3 = wr (S1 30 3 + 1) ∧ ∀ k, k ≠ 3 → S4 30 k = S1 30 k) ∧ (S4 24 0 = 0 ∧ S4 24 1 = ((2 ^ M - 1 : Nat) : Int) ∧ S4 24 2 = 0 ∧ S4 24 5 = 0 ∧ ∀ k, k < 4 → S4 25 k = S1 13 k) ∧ (S4 51 1 = 0 ∧ S4 51 2 = 0) ∧ S4 118 5 = 0 ∧ S4 118 13 = 0 ∧ S4 118 14 = 0 := by
  obtain ⟨S2, b1, b2, b3, b4, b5, b6, b7⟩ := c_begx (V := up (up S1 2 1 0) 30 3 (wr (up S1 2 1 0 30 3 + 1))) (M := M) (by rw [up_c (by decide), up_c (by decide)]; exact hM) hM2
  have hc := min_yes h1 b1 (e_Hi_clear_x S2) (e_Fi_forget_x _)
  have f : ∀ c, c ≠ 51 → c ≠ 118 → up (up (up (up (up S2 51 2 0) 51 1 0) 118 5 0) 118 13 0) 118 14 0 c = S2 c := fun c a b => by rw [up_c b, up_c b, up_c b, up_c a, up_c a]
  have g1 : up (up (up (up (up S2 51 2 0) 51 1 0) 118 5 0) 118 13 0) 118 14 0 51 1 = 0 := by rw [up_c (by decide), up_c (by decide), up_c (by decide), up_s]
  have g2 : up (up (up (up (up S2 51 2 0) 51 1 0) 118 5 0) 118 13 0) 118 14 0 51 2 = 0 := by rw [up_c (by decide), up_c (by decide), up_c (by decide), up_k (by decide), up_s]
  have g3 : up (up (up (up (up S2 51 2 0) 51 1 0) 118 5 0) 118 13 0) 118 14 0 118 5 = 0 := by rw [up_k (by decide), up_k (by decide), up_s]
  have g4 : up (up (up (up (up S2 51 2 0) 51 1 0) 118 5 0) 118 13 0) 118 14 0 118 13 = 0 := by rw [up_k (by decide), up_s]
  have g5 : up (up (up (up (up S2 51 2 0) 51 1 0) 118 5 0) 118 13 0) 118 14 0 118 14 = 0 := up_s _ _ _ _
  generalize up (up (up (up (up S2 51 2 0) 51 1 0) 118 5 0) 118 13 0) 118 14 0 = S4 at *
  have e1 : ∀ c, c ≠ 51 → c ≠ 118 → c ≠ 24 → c ≠ 25 → c ≠ 2 → c ≠ 30 → S4 c = S1 c := fun c a1 a2 a3 a4 a5 a6 => by rw [f c a1 a2, b2 c a3 a4, up_c a6, up_c a5]
  rw [e1 5 (by decide) (by decide) (by decide) (by decide) (by decide) (by decide)] at hc
  refine ⟨S4, hc, fun c hc => ?_, ⟨?_, fun k hk => ?_⟩, ⟨?_, fun k hk => ?_⟩, ⟨?_, ?_, ?_, ?_, fun k hk => ?_⟩, ⟨g1, g2⟩, g3, g4, g5⟩
  · simp only [List.mem_cons, List.not_mem_nil, or_false, not_or] at hc
    exact e1 c hc.2.2.2.2.1 hc.2.2.2.2.2 hc.2.1 hc.2.2.1 hc.1 hc.2.2.2.1
  · rw [f 2 (by decide) (by decide), b2 2 (by decide) (by decide), up_c (by decide), up_s]
  · rw [f 2 (by decide) (by decide), b2 2 (by decide) (by decide), up_c (by decide), up_k hk]
  · rw [f 30 (by decide) (by decide), b2 30 (by decide) (by decide), up_s, up_c (by decide)]
  · rw [f 30 (by decide) (by decide), b2 30 (by decide) (by decide), up_k hk, up_c (by decide)]
  · rw [f 24 (by decide) (by decide)]; exact b3
  · rw [f 24 (by decide) (by decide)]; exact b4
  · rw [f 24 (by decide) (by decide)]; exact b5
  · rw [f 24 (by decide) (by decide)]; exact b6
  · rw [f 25 (by decide) (by decide), b7 k hk, up_c (by decide), up_c (by decide)]
end
