/-! cutting: the reference's ways -/
section
variable {n : Nat} {P S T : MS}
theorem m_goes {w : Nat → Int} (hP : PLN P) (hW : WV P w) (hR : RP P T) (hw : T 438 = w) {K : Nat} (hK : K < nCa P) (hF : T 444 K = 0 ∨ T 444 K = 1) {u : Nat} : m_Mo_goesBy K u T = some ((if w (1 + 2 * K) = 1 ∧ gvN P w (T 444) K = u then (tkN P w (T 444) K : Int) else -1), T) := by
  have h12 := nCa_le hP
  obtain ⟨⟨f1, f2⟩, t1, t2⟩ := ft_b (w := w) hP hK
  have hb : T 438 (2 + 2 * K) = 0 ∨ T 438 (2 + 2 * K) = 1 := by rw [hw]; have := hW.2.1 K (by omega); omega
  have h34 : Mo_goesBy_34 K u T = some ((if T 444 K = 1 ∧ toN P w K = u then (frN P w K : Int) else -1), T) := by
    rw [e_Mo_goesBy_34, if_pos (by omega), Int.toNat_natCast]
    rcases hF with h | h
    · rw [if_pos h, h, if_neg (fun q => absurd q.1 (by decide))]
    · rw [h, if_neg n10, m_to hR (by omega) hb, Option.bind_some]
      dsimp only
      rw [m_from hR (by omega) hb, hw, f1, t1]
      by_cases c : toN P w K = u
      · rw [if_pos (by omega), if_pos ⟨rfl, c⟩, Option.bind_some]
      · rw [if_neg (by omega), if_neg (fun q => c q.2)]
  rw [e_Mo_goesBy, m_inside (by omega), Option.bind_some]
  dsimp only
  rw [hw]
  by_cases d1 : w (1 + 2 * K) = 1
  · rw [if_pos d1, if_neg n10, if_pos (by omega), Int.toNat_natCast, m_from hR (by omega) hb, hw]
    rcases hF with h | h
    · have e1 : gvN P w (T 444) K = frN P w K := by unfold gvN; rw [if_neg (by omega)]
      have e2 : tkN P w (T 444) K = toN P w K := by unfold tkN; rw [if_neg (by omega)]
      rw [if_pos h, Option.bind_some, e1, e2]
      dsimp only
      rw [m_to hR (by omega) hb, hw, f1, t1, h34]
      by_cases c : frN P w K = u
      · rw [if_pos (by omega), if_pos ⟨d1, c⟩, Option.bind_some]
      · rw [if_neg (by omega), if_neg (fun q => absurd (h.symm.trans q.1) (by decide)), if_neg (fun q => c q.2)]
    · have e1 : gvN P w (T 444) K = toN P w K := by unfold gvN; rw [if_pos h]
      have e2 : tkN P w (T 444) K = frN P w K := by unfold tkN; rw [if_pos h]
      rw [if_neg (by omega), h34, e1, e2]
      by_cases c : toN P w K = u
      · rw [if_pos ⟨h, c⟩, if_pos ⟨d1, c⟩]
      · rw [if_neg (fun q => c q.2), if_neg (fun q => c q.2)]
  · rw [if_neg d1, if_pos rfl, if_neg (fun q => d1 q.1)]
def BM (P : MS) (w F : Nat → Int) (s : Nat) (cb : Nat → Int) (q r : Nat → Nat) (t h K : Nat) : Prop :=
  (cb s ≠ -1 ∧ r s = 0 ∧ q 0 = s ∧ 0 < t) ∧ (∀ i, i < t → q i < 8 ∧ cb (q i) ≠ -1 ∧ r (q i) = i) ∧
  (∀ x, x < 8 → cb x ≠ -1 → r x < t ∧ q (r x) = x ∧ (x ≠ s → 0 ≤ cb x ∧ ∃ u, u < 8 ∧ cb u ≠ -1 ∧ r u < r x ∧ (cb x).toNat < nCa P ∧ RE P w F (cb x).toNat u x)) ∧
  (sumN (fun i => if cb i = -1 then 0 else 1) 8 = (t : Int) ∧ h ≤ t) ∧
  (∀ i, i < h → ∀ k, k < nCa P → ∀ x, RE P w F k (q i) x → cb x ≠ -1) ∧ (h < t → ∀ k, k < K → ∀ x, RE P w F k (q h) x → cb x ≠ -1)
theorem BM.congr {w F : Nat → Int} {s t h K : Nat} {cb cb' : Nat → Int} {q q' r : Nat → Nat} (g : BM P w F s cb q r t h K) (e : cb = cb') (e' : q = q') : BM P w F s cb' q' r t h K := e ▸ e' ▸ g
theorem BM.t8 {w F : Nat → Int} {s t h K : Nat} {cb : Nat → Int} {q r : Nat → Nat} (g : BM P w F s cb q r t h K) : t ≤ 8 := by
  have h1 := g.2.2.2.1.1
  have h2 := (sumN_b (B := 1) (g := fun i => if cb i = -1 then 0 else 1) (n := 8) (fun k hk => by (try dsimp only); split <;> omega)).2
  omega
theorem BM.lt8 {w F : Nat → Int} {s t h K : Nat} {cb : Nat → Int} {q r : Nat → Nat} (g : BM P w F s cb q r t h K) {x : Nat} (hx : x < 8) (hd : cb x = -1) : t < 8 := by
  have h1 := g.2.2.2.1.1
  have h2 := sumN_lt (g := fun i => if cb i = -1 then 0 else 1) (h := fun _ => 1) (x := x) 8 (fun k hk => by (try dsimp only); split <;> omega) hx (by (try dsimp only); rw [if_pos hd]; omega)
  have h3 : sumN (fun _ => (1 : Int)) 8 = 8 := rfl
  omega
theorem BM.nxt {w F : Nat → Int} {s t h : Nat} {cb : Nat → Int} {q r : Nat → Nat} (g : BM P w F s cb q r t h (nCa P)) (hh : h < t) : BM P w F s cb q r t (h + 1) 0 := by
  obtain ⟨a, b, c, ⟨d1, d2⟩, e1, e2⟩ := g
  refine ⟨a, b, c, ⟨d1, by omega⟩, fun i hi k hk x hr => ?_, fun _ k hk => by omega⟩
  by_cases ci : i = h
  · subst ci; exact e2 hh k hk x hr
  · exact e1 i (by omega) k hk x hr
theorem BM.skip {w F : Nat → Int} {s t h K : Nat} {cb : Nat → Int} {q r : Nat → Nat} (g : BM P w F s cb q r t h K) (hh : h < t) (u : ∀ x, RE P w F K (q h) x → cb x ≠ -1) : BM P w F s cb q r t h (K + 1) := by
  obtain ⟨a, b, c, d, e1, e2⟩ := g
  refine ⟨a, b, c, d, e1, fun _ k hk => ?_⟩
  by_cases ck : k = K
  · subst ck; exact u
  · exact e2 hh k (by omega)
theorem BM.put {w F : Nat → Int} {s t h K x0 : Nat} {cb : Nat → Int} {q r : Nat → Nat} (g : BM P w F s cb q r t h K) (hF : F K = 0 ∨ F K = 1) (hs : s < 8) (hh : h < t) (hK : K < nCa P) (hx : x0 < 8) (h0 : cb x0 = -1) (hr : RE P w F K (q h) x0) :
    BM P w F s (fun x => if x = x0 then (K : Int) else cb x) (fun i => if i = t then x0 else q i) (fun x => if x = x0 then t else r x) (t + 1) h (K + 1) := by
  obtain ⟨⟨a1, a2, a3, a4⟩, b, c, ⟨d1, d2⟩, e1, e2⟩ := g
  have hne : ∀ x, cb x ≠ -1 → x ≠ x0 := fun x hx e => hx (by rw [e]; exact h0)
  have hk1 : (K : Int) ≠ -1 := by omega
  have B : ∀ x, cb x ≠ -1 → (if x = x0 then (K : Int) else cb x) ≠ -1 := fun x hx => by rw [if_neg (hne x hx)]; exact hx
  refine ⟨⟨B s a1, by (try dsimp only); rw [if_neg (hne s a1)]; exact a2, by (try dsimp only); rw [if_neg (by omega)]; exact a3, by omega⟩, fun i hi => ?_, fun x hx8 hc => ?_, ⟨?_, by omega⟩, fun i hi k hk x hre => ?_, fun _ k hk x hre => ?_⟩
  · (try dsimp only)
    by_cases ci : i = t
    · rw [if_pos ci, if_pos rfl, if_pos rfl]; exact ⟨hx, hk1, ci.symm⟩
    · obtain ⟨b1, b2, b3⟩ := b i (by omega)
      rw [if_neg ci, if_neg (hne _ b2), if_neg (hne _ b2)]
      exact ⟨b1, b2, b3⟩
  · (try dsimp only at hc ⊢)
    by_cases cx : x = x0
    · rw [if_pos cx, if_pos cx, if_pos rfl]
      obtain ⟨b1, b2, b3⟩ := b h hh
      refine ⟨by omega, cx.symm, fun _ => ⟨by omega, q h, b1, B _ b2, by rw [if_neg (hne _ b2)]; omega, by omega, by rw [Int.toNat_natCast, cx]; exact hr⟩⟩
    · rw [if_neg cx] at hc ⊢
      rw [if_neg cx]
      obtain ⟨c1, c2, c3⟩ := c x hx8 hc
      refine ⟨by omega, by rw [if_neg (by omega)]; exact c2, fun hxs => ?_⟩
      obtain ⟨g0, u, g1, g2, g3, g4, g5⟩ := c3 hxs
      exact ⟨g0, u, g1, B u g2, by rw [if_neg (hne u g2)]; exact g3, g4, g5⟩
  · (try dsimp only)
    rw [sumN_up (g := fun i => if cb i = -1 then 0 else 1) (x := x0) 8 (fun k hk hkx => by simp only [if_neg hkx]) hx (by simp only [if_true, h0]; rw [if_neg hk1]; rfl), d1]
    rfl
  · (try dsimp only at hre ⊢)
    rw [if_neg (show ¬ i = t by omega)] at hre
    exact B x (e1 i hi k hk x hre)
  · (try dsimp only at hre ⊢)
    rw [if_neg (show ¬ h = t by omega)] at hre
    by_cases ck : k = K
    · subst ck
      rw [← ((RE_iff hF).mp hre).2.2, ((RE_iff hF).mp hr).2.2, if_pos rfl]
      exact hk1
    · exact B x (e2 hh k (by omega) x hre)
def BMT (P : MS) (w F : Nat → Int) (s : Nat) (T : MS) (r : Nat → Nat) (t h K : Nat) : Prop := BM P w F s (T 445) (fun i => (T 443 i).toNat) r t h K ∧ ∀ i, i < t → 0 ≤ T 443 i
theorem RP.fr2 {P T T' : MS} (h : RP P T) (f : ∀ c, c ≠ 443 → c ≠ 444 → c ≠ 445 → T' c = T c) : RP P T' := h.fr (f _ (by decide) (by decide) (by decide)) (f _ (by decide) (by decide) (by decide)) (f _ (by decide) (by decide) (by decide)) (f _ (by decide) (by decide) (by decide)) (f _ (by decide) (by decide) (by decide)) (f _ (by decide) (by decide) (by decide)) (f _ (by decide) (by decide) (by decide))
theorem m_bm {w F : Nat → Int} {s tt : Nat} (hP : PLN P) (hs : s < 8) (hW : WV P w) (hF : ∀ k, k < nCa P → F k = 0 ∨ F k = 1) {h : Nat} : ∀ (j K t : Nat) (T : MS) (r : Nat → Nat), K + j = nCa P → RP P T → T 438 = w → T 444 = F → h < t → BMT P w F s T r t h K → ∃ T' t' r', Mo_isOneMore_62 s tt t h K T = Mo_isOneMore_43 s tt (t' : Nat) ((h + 1 : Nat) : Int) T' ∧ BMT P w F s T' r' t' h (nCa P) ∧ h < t' ∧ ∀ c, c ≠ 443 → c ≠ 445 → T' c = T c := by
  have hc12 := nCa_le hP
  have h3 := hP.2.2.1
  intro j
  induction j with
  | zero =>
    intro K t T r e hR hw hF' hh hB
    have t8 := hB.1.t8
    refine ⟨T, t, r, ?_, by rw [← show K = nCa P by omega]; exact hB, hh, fun _ _ _ => rfl⟩
    rw [e_Mo_isOneMore_62, e_Mo_carbonMany, Option.bind_some]
    dsimp only
    rw [hR.n6, if_neg (by unfold nCa at e; omega), wr_succ (show h < 8 by omega) (by decide)]
  | succ j ih =>
    intro K t T r e hR hw hF' hh hB
    have hK : K < nCa P := by omega
    have t8 := hB.1.t8
    have hq := hB.2 h hh
    obtain ⟨q8, q9, -⟩ := hB.1.2.1 h hh
    obtain ⟨g8, k8⟩ := gt8 (w := w) (F := F) hP hK
    have F01 := hF K hK
    obtain ⟨u, hu⟩ : ∃ u : Nat, T 443 h = (u : Int) := ⟨(T 443 h).toNat, by omega⟩
    have hu2 : (T 443 h).toNat = u := by omega
    rw [e_Mo_isOneMore_62, e_Mo_carbonMany, Option.bind_some]
    dsimp only
    rw [hR.n6, if_pos (by unfold nCa at hK; omega), if_pos (by omega), Int.toNat_natCast, hu, m_goes hP hW hR hw hK (by rw [hF']; exact F01), Option.bind_some]
    dsimp only
    rw [hF', wr_succ (show K < 12 by omega) (by decide)]
    by_cases d : w (1 + 2 * K) = 1 ∧ gvN P w F K = u
    · have hre : RE P w F K u (tkN P w F K) := (RE_iff F01).mpr ⟨d.1, d.2, rfl⟩
      rw [if_pos d, if_neg (by omega), if_pos (by omega), Int.toNat_natCast]
      by_cases d3 : T 445 (tkN P w F K) = -1
      · have t9 := hB.1.lt8 k8 d3
        rw [if_pos d3, if_pos (by omega), if_pos (by omega), wr_succ t9 (by decide), Int.toNat_natCast]
        have hB2 := hB.1.put F01 hs hh hK k8 d3 (by (try dsimp only); rw [hu2]; exact hre)
        have fr : ∀ c, c ≠ 443 → c ≠ 445 → up (up T 445 (tkN P w F K) (K : Nat)) 443 t (tkN P w F K : Nat) c = T c := fun c c1 c2 => by rw [up_c c1, up_c c2]
        obtain ⟨T', t', r', r1, r2, r3, r4⟩ := ih (K + 1) (t + 1) (up (up T 445 (tkN P w F K) (K : Nat)) 443 t (tkN P w F K : Nat)) _ (by omega) (hR.fr2 (fun c c1 c2 c3 => fr c c1 c3)) (by rw [fr _ (by decide) (by decide)]; exact hw) (by rw [fr _ (by decide) (by decide)]; exact hF') (by omega) ⟨hB2.congr (by
          funext x
          rw [up_c (by decide)]
          by_cases cx : x = tkN P w F K
          · rw [cx, if_pos rfl, up_s]
          · rw [if_neg cx, up_k cx]) (by
          funext i
          by_cases ci : i = t
          · rw [ci, if_pos rfl, up_s]; rfl
          · rw [if_neg ci, up_k ci, up_c (by decide)]), fun i hi => by
          by_cases ci : i = t
          · rw [ci, up_s]; omega
          · rw [up_k ci, up_c (by decide)]; exact hB.2 i (by omega)⟩
        exact ⟨T', t', r', r1, r2, r3, fun c c1 c2 => by rw [r4 c c1 c2, fr c c1 c2]⟩
      · rw [if_neg d3]
        refine ih (K + 1) t T r (by omega) hR hw hF' hh ⟨hB.1.skip hh (fun x hx => ?_), hB.2⟩
        rw [← ((RE_iff F01).mp hx).2.2]
        exact d3
    · rw [if_neg d, if_pos rfl]
      refine ih (K + 1) t T r (by omega) hR hw hF' hh ⟨hB.1.skip hh (fun x hx => ?_), hB.2⟩
      (try dsimp only at hx)
      rw [hu2] at hx
      exact absurd ⟨((RE_iff F01).mp hx).1, ((RE_iff F01).mp hx).2.1⟩ d
def BEND (P : MS) (w F : Nat → Int) (s tt : Nat) (T : MS) : Prop := (T 445 tt = -1 ∧ ∃ R : Nat → Bool, R s = true ∧ R tt = false ∧ CUT P w F R) ∨ (T 445 tt ≠ -1 ∧ ∃ r, TRE P w F s (fun x => T 445 x ≠ -1) (fun x => (T 445 x).toNat) r ∧ ∀ x, x < 8 → T 445 x ≠ -1 → x ≠ s → 0 ≤ T 445 x)
theorem m_bms {w F : Nat → Int} {s tt : Nat} (hP : PLN P) (hs : s < 8) (ht : tt < 8) (hW : WV P w) (hF : ∀ k, k < nCa P → F k = 0 ∨ F k = 1) : ∀ (j h t : Nat) (T : MS) (r : Nat → Nat), h + j = 8 → RP P T → T 438 = w → T 444 = F → BMT P w F s T r t h 0 → ∃ T', (Mo_isOneMore_43 s tt t h T = if T' 445 tt = -1 then some (0, T') else Mo_isOneMore_153 s tt T') ∧ BEND P w F s tt T' ∧ ∀ c, c ≠ 443 → c ≠ 445 → T' c = T c := by
  have tre : ∀ {T : MS} {r : Nat → Nat} {t h K : Nat}, BMT P w F s T r t h K → T 445 tt ≠ -1 → BEND P w F s tt T := fun {T r t h K} hB c => by
    have t8 := hB.1.t8
    obtain ⟨⟨⟨a1, a2, a3, a4⟩, b, c', d, e1, e2⟩, -⟩ := hB
    refine Or.inr ⟨c, r, ⟨a2, fun x hx hV => ?_⟩, fun x hx hV hxs => ((c' x hx hV).2.2 hxs).1⟩
    obtain ⟨g1, g2, g3⟩ := c' x hx hV
    refine ⟨by omega, fun hxs => ?_⟩
    obtain ⟨-, u, g⟩ := g3 hxs
    exact ⟨u, g⟩
  have cut : ∀ {T : MS} {r : Nat → Nat} {t h : Nat}, BMT P w F s T r t h 0 → ¬ h < t → T 445 tt = -1 → BEND P w F s tt T := fun {T r t h} hB hh c => by
    obtain ⟨⟨⟨a1, a2, a3, a4⟩, b, c', d, e1, e2⟩, -⟩ := hB
    refine Or.inl ⟨c, fun x => decide (x < 8 ∧ T 445 x ≠ -1), decide_eq_true ⟨hs, a1⟩, decide_eq_false (fun q => q.2 c), fun k u x hk hre hu => ?_⟩
    obtain ⟨u1, u2⟩ := of_decide_eq_true hu
    obtain ⟨g1, g2, -⟩ := c' u u1 u2
    have hx8 : x < 8 := by rw [← ((RE_iff (hF k hk)).mp hre).2.2]; exact (gt8 hP hk).2
    exact decide_eq_true ⟨hx8, e1 (r u) (by omega) k hk x (by rw [g2]; exact hre)⟩
  intro j
  induction j with
  | zero =>
    intro h t T r e hR hw hF' hB
    have t8 := hB.1.t8
    refine ⟨T, ?_, ?_, fun _ _ _ => rfl⟩
    · rw [e_Mo_isOneMore_43, if_neg (by omega), if_pos (by omega), Int.toNat_natCast]
    · by_cases c : T 445 tt = -1
      · exact cut hB (by omega) c
      · exact tre hB c
  | succ j ih =>
    intro h t T r e hR hw hF' hB
    rw [e_Mo_isOneMore_43, Int.toNat_natCast]
    by_cases hh : h < t
    · rw [if_pos (by omega), if_pos (by omega)]
      by_cases c : T 445 tt = -1
      · obtain ⟨T1, t1, r1, p1, p2, p3, p4⟩ := m_bm (tt := tt) hP hs hW hF (nCa P) 0 t T r (by omega) hR hw hF' hh hB
        have p1 : Mo_isOneMore_62 s tt t h 0 T = _ := p1
        obtain ⟨T2, q1, q2, q3⟩ := ih (h + 1) t1 T1 r1 (by omega) (hR.fr2 (fun c c1 c2 c3 => p4 c c1 c3)) (by rw [p4 _ (by decide) (by decide)]; exact hw) (by rw [p4 _ (by decide) (by decide)]; exact hF') ⟨p2.1.nxt p3, p2.2⟩
        rw [if_pos c, p1, q1]
        exact ⟨T2, rfl, q2, fun c c1 c2 => by rw [q3 c c1 c2, p4 c c1 c2]⟩
      · rw [if_neg c, if_pos (by omega)]
        exact ⟨T, rfl, tre hB c, fun _ _ _ => rfl⟩
    · rw [if_neg (by omega), if_pos (by omega)]
      refine ⟨T, rfl, ?_, fun _ _ _ => rfl⟩
      by_cases c : T 445 tt = -1
      · exact cut hB hh c
      · exact tre hB c
theorem m_om2 {s tt : Nat} : ∀ (j v : Nat) (T : MS), v + j = 8 → ∃ T', Mo_isOneMore_2 s tt v T = Mo_isOneMore_43 s tt 1 0 (up T' 443 0 s) ∧ (∀ i, i < 8 → T' 445 i = if v ≤ i then (if i = s then 12 else -1) else T 445 i) ∧ ∀ c, c ≠ 445 → T' c = T c := by
  intro j
  induction j with
  | zero =>
    intro v T e
    rw [e_Mo_isOneMore_2, if_neg (by omega)]
    exact ⟨T, rfl, fun i hi => by rw [if_neg (by omega)], fun _ _ => rfl⟩
  | succ j ih =>
    intro v T e
    rw [e_Mo_isOneMore_2, if_pos (by omega), wr_succ (show v < 8 by omega) (by decide), Int.toNat_natCast]
    have go : ∀ z : Int, z = (if v = s then 12 else -1) → ∃ T', Mo_isOneMore_2 s tt ((v + 1 : Nat) : Int) (up T 445 v z) = Mo_isOneMore_43 s tt 1 0 (up T' 443 0 s) ∧ (∀ i, i < 8 → T' 445 i = if v ≤ i then (if i = s then 12 else -1) else T 445 i) ∧ ∀ c, c ≠ 445 → T' c = T c := fun z hz => by
      obtain ⟨T', r1, r2, r3⟩ := ih (v + 1) (up T 445 v z) (by omega)
      refine ⟨T', r1, fun i hi => ?_, fun c hc => by rw [r3 c hc, up_c hc]⟩
      rw [r2 i hi]
      by_cases c : i = v
      · subst c; rw [if_neg (by omega), up_s, if_pos (Nat.le_refl _), hz]
      · rw [up_k c]
        by_cases c2 : v + 1 ≤ i
        · rw [if_pos c2, if_pos (show v ≤ i by omega)]
        · rw [if_neg c2, if_neg (show ¬ v ≤ i by omega)]
    by_cases c : (v : Int) = (s : Int)
    · rw [if_pos c, if_pos (by omega)]
      exact go 12 (by rw [if_pos (by omega)])
    · rw [if_neg c, if_pos (by omega)]
      exact go (-1) (by rw [if_neg (by omega)])
theorem m_walk {w F0 : Nat → Int} {s t : Nat} {val : Int} {cm : Nat → Int} {r : Nat → Nat} (hP : PLN P) (hW : WV P w) (hT : TRE P w F0 s (fun x => cm x ≠ -1) (fun x => (cm x).toNat) r) (h0 : ∀ x, x < 8 → cm x ≠ -1 → x ≠ s → 0 ≤ cm x) (hs : s < 8) : ∀ (j z : Nat) (T : MS), r z < j → z < 8 → cm z ≠ -1 → RP P T → T 438 = w → T 445 = cm → WK P w F0 (T 444) s t val (fun x => cm x ≠ -1) (fun x => (cm x).toNat) r z → ∃ T', Mo_isOneMore_153 s z T = some (1, T') ∧ FLW P w (T' 444) s t (val + 1) ∧ ∀ c, c ≠ 444 → T' c = T c := by
  have h12 := nCa_le hP
  intro j
  induction j with
  | zero => intro z T hj; omega
  | succ j ih =>
    intro z T hj hz hV hR hw hcm hK
    rw [e_Mo_isOneMore_153]
    by_cases c : (z : Int) = s
    · rw [if_pos c]
      have : z = s := by omega
      subst this
      exact ⟨T, rfl, hK.fin, fun _ _ => rfl⟩
    · have hzs : z ≠ s := by omega
      obtain ⟨u, u1, u2, u3, u4, u5, u6, u7⟩ := hK.step hT hz hV hzs
      have c0 := h0 z hz hV hzs
      obtain ⟨k, hk⟩ : ∃ k : Nat, cm z = (k : Int) := ⟨(cm z).toNat, by omega⟩
      have hk2 : (cm z).toNat = k := by omega
      (try dsimp only at u4 u6 u7)
      rw [hk2] at u4 u6 u7
      obtain ⟨⟨f1, f2⟩, t1, t2⟩ := ft_b (w := w) hP u4
      have hb : T 438 (2 + 2 * k) = 0 ∨ T 438 (2 + 2 * k) = 1 := by rw [hw]; have := hW.2.1 k (by omega); omega
      rw [if_neg c, if_pos (by omega), Int.toNat_natCast, hcm, hk, if_pos (by omega), Int.toNat_natCast, m_from hR (by omega) hb, m_to hR (by omega) hb, hw, f1, t1, Option.bind_some, Option.bind_some]
      dsimp only
      have go : ∀ b : Int, b = 1 - T 444 k → ∃ T', Mo_isOneMore_153 s u (up T 444 k b) = some (1, T') ∧ FLW P w (T' 444) s t (val + 1) ∧ ∀ c, c ≠ 444 → T' c = T c := fun b hbb => by
        have ee : up T 444 k b 444 = flp (T 444) k := by
          funext i
          unfold flp
          by_cases ci : i = k
          · rw [ci, up_s, if_pos rfl, hbb]
          · rw [up_k ci, if_neg ci]
        obtain ⟨T', r1, r2, r3⟩ := ih u (up T 444 k b) (by omega) u1 u2 (hR.fr2 (fun c c1 c2 c3 => up_c c2)) (by rw [up_c (by decide)]; exact hw) (by rw [up_c (by decide)]; exact hcm) (by rw [ee]; exact u7)
        exact ⟨T', r1, r2, fun c hc => by rw [r3 c hc, up_c hc]⟩
      obtain ⟨-, ⟨g0, g1, g2⟩ | ⟨g0, g1, g2⟩⟩ := u6
      · rw [if_pos g0, e_Mo_isOneMore_193, if_pos (by omega), Int.toNat_natCast, if_pos g0, if_pos (by omega), g1]
        exact go 1 (by rw [g0]; rfl)
      · rw [if_neg (by omega), e_Mo_isOneMore_193, if_pos (by omega), Int.toNat_natCast, if_neg (by omega), if_pos (by omega), g1]
        exact go 0 (by rw [g0]; rfl)
theorem m_one {w : Nat → Int} {s t : Nat} {val : Int} (hP : PLN P) (hW : WV P w) (hs : s < 8) (ht : t < 8) (hR : RP P T) (hw : T 438 = w) (hF : FLW P w (T 444) s t val) : ∃ z T', m_Mo_isOneMore s t T = some (z, T') ∧ (∀ c, c ≠ 443 → c ≠ 444 → c ≠ 445 → T' c = T c) ∧ ((z = 0 ∧ FLW P w (T' 444) s t val ∧ ∃ R : Nat → Bool, R s = true ∧ R t = false ∧ CUT P w (T' 444) R) ∨ (z = 1 ∧ FLW P w (T' 444) s t (val + 1))) := by
  obtain ⟨T1, r1, r2, r3⟩ := m_om2 (s := s) (tt := t) 8 0 T (by omega)
  have hd : ∀ i, i < 8 → T1 445 i = if i = s then 12 else -1 := fun i hi => by rw [r2 i hi, if_pos (Nat.zero_le _)]
  have fr : ∀ c, c ≠ 443 → c ≠ 445 → up T1 443 0 s c = T c := fun c c1 c2 => by rw [up_c c1, r3 c c2]
  have e445 : ∀ i, i < 8 → up T1 443 0 s 445 i = if i = s then 12 else -1 := fun i hi => by rw [up_c (by decide)]; exact hd i hi
  have z443 : (up T1 443 0 s 443 0).toNat = s := by rw [up_s]; omega
  have e444 : up T1 443 0 s 444 = T 444 := fr _ (by decide) (by decide)
  have hB : BMT P w (T 444) s (up T1 443 0 s) (fun _ => 0) 1 0 0 := by
    refine ⟨⟨⟨by rw [e445 s hs, if_pos rfl]; decide, rfl, z443, by omega⟩, fun i hi => ?_, fun x hx hc => ?_, ⟨?_, by omega⟩, fun i hi => by omega, fun _ k hk => by omega⟩, fun i hi => by rw [show i = 0 by omega, up_s]; omega⟩
    · have : i = 0 := by omega
      subst this
      (try dsimp only)
      rw [z443, e445 s hs, if_pos rfl]
      exact ⟨hs, by decide, rfl⟩
    · rw [e445 x hx] at hc
      by_cases cx : x = s
      · refine ⟨Nat.zero_lt_one, ?_, fun q => absurd cx q⟩
        (try dsimp only)
        rw [z443, cx]
      · rw [if_neg cx] at hc; exact absurd rfl hc
    · rw [sumN_up (g := fun _ => 0) (x := s) 8 (fun k hk hks => by (try dsimp only); rw [e445 k hk, if_neg hks, if_pos rfl]) hs (by (try dsimp only); rw [e445 s hs, if_pos rfl, if_neg (by decide)]; rfl)]
      rfl
  obtain ⟨T2, q1, q2, q3⟩ := m_bms (tt := t) hP hs ht hW (fun k hk => (hF.1 k hk).1) 8 0 1 (up T1 443 0 s) _ (by omega) (hR.fr2 (fun c c1 c2 c3 => fr c c1 c3)) (by rw [fr _ (by decide) (by decide)]; exact hw) e444 hB
  have r1 : Mo_isOneMore_2 s t 0 T = _ := r1
  have q1 : Mo_isOneMore_43 s t 1 0 (up T1 443 0 s) = _ := q1
  have f2 : ∀ c, c ≠ 443 → c ≠ 445 → T2 c = T c := fun c c1 c2 => by rw [q3 c c1 c2, fr c c1 c2]
  rw [e_Mo_isOneMore, r1, q1]
  rcases q2 with ⟨b1, b2⟩ | ⟨b1, r, b2, b3⟩
  · rw [if_pos b1]
    exact ⟨0, T2, rfl, fun c c1 c2 c3 => f2 c c1 c3, Or.inl ⟨rfl, by rw [f2 444 (by decide) (by decide)]; exact hF, by rw [f2 444 (by decide) (by decide)]; exact b2⟩⟩
  · rw [if_neg b1]
    obtain ⟨T3, g1, g2, g3⟩ := m_walk (t := t) (val := val) hP hW b2 b3 hs (r t + 1) t T2 (by omega) ht b1 (hR.fr2 (fun c c1 c2 c3 => f2 c c1 c3)) (by rw [f2 _ (by decide) (by decide)]; exact hw) rfl (by rw [f2 444 (by decide) (by decide)]; exact WK.beg hF)
    rw [g1]
    exact ⟨1, T3, rfl, fun c c1 c2 c3 => by rw [g3 c c2, f2 c c1 c3], Or.inr ⟨rfl, g2⟩⟩
theorem m_cut48 {w : Nat → Int} {s t : Nat} (hP : PLN P) (hW : WV P w) (hs : s < 8) (ht : t < 8) (hst : s ≠ t) : ∀ (j m : Nat) (T : MS), m + j = 13 → RP P T → T 438 = w → FLW P w (T 444) s t m → ∃ v T' F, Mo_cutting_48 s t m T = some (v, T') ∧ FLW P w F s t v ∧ (∃ R : Nat → Bool, R s = true ∧ R t = false ∧ CUT P w F R) ∧ ∀ c, c ≠ 443 → c ≠ 444 → c ≠ 445 → T' c = T c := by
  intro j
  induction j with
  | zero =>
    intro m T e hR hw hF
    have := hF.le12 hP hs hst
    omega
  | succ j ih =>
    intro m T e hR hw hF
    have m12 := hF.le12 hP hs hst
    obtain ⟨z, T1, q1, q2, ⟨rfl, q3, q4⟩ | ⟨rfl, q3⟩⟩ := m_one hP hW hs ht hR hw hF
    · rw [e_Mo_cutting_48, q1, Option.bind_some, if_pos rfl]
      exact ⟨m, T1, _, rfl, q3, q4, q2⟩
    · rw [e_Mo_cutting_48, q1, Option.bind_some, if_neg n10, wr_succ (show m < 13 by omega) (by decide)]
      obtain ⟨v, T2, F, g1, g2, g3, g4⟩ := ih (m + 1) T1 (by omega) (hR.fr2 q2) (by rw [q2 _ (by decide) (by decide) (by decide)]; exact hw) q3
      exact ⟨v, T2, F, g1, g2, g3, fun c c1 c2 c3 => by rw [g4 c c1 c2 c3, q2 c c1 c2 c3]⟩
theorem m_cut27 {s t : Nat} : ∀ (j v : Nat) (T : MS), v + j = 12 → ∃ T', Mo_cutting_27 s t v T = Mo_cutting_48 s t 0 T' ∧ (∀ i, i < 12 → T' 444 i = if v ≤ i then 0 else T 444 i) ∧ ∀ c, c ≠ 444 → T' c = T c := by
  intro j
  induction j with
  | zero =>
    intro v T e
    rw [e_Mo_cutting_27, if_neg (by omega)]
    exact ⟨T, rfl, fun i hi => by rw [if_neg (by omega)], fun _ _ => rfl⟩
  | succ j ih =>
    intro v T e
    rw [e_Mo_cutting_27, if_pos (by omega), if_pos (by omega), wr_succ (show v < 12 by omega) (by decide), Int.toNat_natCast]
    obtain ⟨T', r1, r2, r3⟩ := ih (v + 1) (up T 444 v 0) (by omega)
    refine ⟨T', r1, fun i hi => ?_, fun c hc => by rw [r3 c hc, up_c hc]⟩
    rw [r2 i hi]
    by_cases c : i = v
    · subst c; rw [if_neg (by omega), up_s, if_pos (Nat.le_refl _)]
    · rw [up_k c]
      by_cases c2 : v + 1 ≤ i
      · rw [if_pos c2, if_pos (show v ≤ i by omega)]
      · rw [if_neg c2, if_neg (show ¬ v ≤ i by omega)]
theorem op_cutting (h : Inv n P S T) (a b : Int) : OK2 n P (m_Ma_cutting a b S) (m_Mo_cutting a b T) := by
  have hP := h.pln
  have h1 := hP.1
  have h12 := nCa_le hP
  rw [e_Ma_cutting, e_Mo_cutting]
  by_cases c : 0 ≤ a ∧ a < P 430 4
  · rw [c_isO1 h c rfl, m_isO1 hP h.rp c, Option.bind_some, Option.bind_some]
    dsimp only
    rw [if_neg n10, if_neg n10]
    by_cases d : 0 ≤ b ∧ b < P 430 4
    · obtain ⟨o, rfl⟩ : ∃ o : Nat, a = (o : Int) := ⟨a.toNat, by omega⟩
      obtain ⟨p, rfl⟩ : ∃ p : Nat, b = (p : Int) := ⟨b.toNat, by omega⟩
      rw [c_isO1 h d rfl, m_isO1 hP h.rp d, Option.bind_some, Option.bind_some]
      dsimp only
      rw [if_neg n10, if_neg n10]
      by_cases ab : (o : Int) = (p : Int)
      · rw [if_pos ab, if_pos ab]
        exact ⟨_, S, T, rfl, rfl, h.same⟩
      · rw [if_neg ab, if_neg ab]
        obtain ⟨v, S1, F, r1, r2, r3, r4⟩ := c_cut0 hP h.wd.1 (s := o) (t := p) (by omega) (by omega) h.en.1 h.wd.2.2.1
        obtain ⟨T1, q1, q2, q3⟩ := m_cut27 (s := o) (t := p) 12 0 T (by omega)
        obtain ⟨v', T2, F', g1, g2, ⟨R, g3, g4, g5⟩, g6⟩ := m_cut48 (w := T 438) (s := o) (t := p) hP h.wd.1 (by omega) (by omega) (by omega) 13 0 T1 (by omega) (h.rp.fr2 (fun c c1 c2 c3 => q3 c c2)) (by rw [q3 _ (by decide)]) (flw_0 (fun k hk => by rw [q2 k (by omega), if_pos (Nat.zero_le _)]))
        have q1 : Mo_cutting_27 o p 0 T = _ := q1
        have g1 : Mo_cutting_48 o p 0 T1 = _ := g1
        have hv := flw_eq hP r2 g2 (by omega) (by omega) g3 g4 g5 r3
        have f2 : ∀ c, c ≠ 443 → c ≠ 444 → c ≠ 445 → T2 c = T c := fun c c1 c2 c3 => by rw [g6 c c1 c2 c3, q3 c c2]
        rw [r1, q1, g1, Option.bind_some, hv]
        exact ⟨_, S1, T2, rfl, rfl, h.look ⟨fun c hc => by simp only [List.mem_cons, List.not_mem_nil, or_false, not_or] at hc; exact r4 c (by omega) (by omega), fun k _ _ => by rw [r4 30 (by decide) (by decide)]⟩ ⟨fun c hc => by simp only [List.mem_cons, List.not_mem_nil, or_false, not_or] at hc; exact f2 c (by omega) (by omega) (by omega), fun k hk => by rw [f2 401 (by decide) (by decide) (by decide)]⟩ (h.en.1.fr (fun c c1 c2 => r4 c (by omega) (by omega))) (by rw [r4 30 (by decide) (by decide)]; omega) (by rw [r4 27 (by decide) (by decide)]; have := h.th.1; omega) (by rw [f2 401 (by decide) (by decide) (by decide)]; have := h.th.2; omega)⟩
    · rw [c_isO0 h d rfl, m_isO0 hP h.rp d]
      exact ⟨_, S, T, rfl, rfl, h.same⟩
  · rw [c_isO0 h c rfl, m_isO0 hP h.rp c]
    exact ⟨_, S, T, rfl, rfl, h.same⟩
end
