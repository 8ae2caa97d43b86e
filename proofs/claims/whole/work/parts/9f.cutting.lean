/-! cutting: the class's rows -/
section
variable {n : Nat} {P S T : MS}
def gvN (P : MS) (w F : Nat → Int) (k : Nat) : Nat := if F k = 1 then toN P w k else frN P w k
def tkN (P : MS) (w F : Nat → Int) (k : Nat) : Nat := if F k = 1 then frN P w k else toN P w k
theorem RE_iff {w F : Nat → Int} {k u x : Nat} (h : F k = 0 ∨ F k = 1) : RE P w F k u x ↔ w (1 + 2 * k) = 1 ∧ gvN P w F k = u ∧ tkN P w F k = x := by
  unfold RE gvN tkN
  rcases h with h | h
  · rw [h, if_neg (by decide), if_neg (by decide)]
    refine ⟨fun ⟨a, b⟩ => ⟨a, ?_⟩, fun ⟨a, b1, b2⟩ => ⟨a, Or.inl ⟨rfl, b1, b2⟩⟩⟩
    rcases b with ⟨-, b1, b2⟩ | ⟨b0, -⟩
    · exact ⟨b1, b2⟩
    · exact absurd b0 (by decide)
  · rw [h, if_pos rfl, if_pos rfl]
    refine ⟨fun ⟨a, b⟩ => ⟨a, ?_⟩, fun ⟨a, b1, b2⟩ => ⟨a, Or.inr ⟨rfl, b1, b2⟩⟩⟩
    rcases b with ⟨b0, -⟩ | ⟨-, b1, b2⟩
    · exact absurd b0 (by decide)
    · exact ⟨b1, b2⟩
theorem pw_r {s : Nat} (h : s < 12) : 0 ≤ ((2 ^ s : Nat) : Int) ∧ ((2 ^ s : Nat) : Int) < 4096 := ⟨Int.natCast_nonneg _, Int.ofNat_lt.mpr (Nat.pow_lt_pow_right (m := s) (n := 12) (by decide) h)⟩
theorem gt8 {w F : Nat → Int} (hP : PLN P) {k : Nat} (hk : k < nCa P) : gvN P w F k < 8 ∧ tkN P w F k < 8 := by
  obtain ⟨⟨-, f8⟩, -, t8⟩ := ft_b (w := w) hP hk
  unfold gvN tkN
  split <;> exact ⟨by assumption, by assumption⟩
theorem toC_1 {P : MS} {k : Nat} {b : Int} (h : b = 0 ∨ b = 1) : frC P k (1 - b) = toC P k b ∧ toC P k (1 - b) = frC P k b := by
  unfold toC frC
  rcases h with h | h <;> rw [h] <;> exact ⟨rfl, rfl⟩
def CL (P : MS) (w F : Nat → Int) (seen : Int) (K : Nat) : Prop := ∀ k, k < K → ∀ u x, RE P w F k u x → bt seen u = 1 → bt seen x = 1
def FR (P : MS) (w F : Nat → Int) (s : Nat) (cm : Nat → Int) (seen : Int) (r : Nat → Nat) : Prop := (0 ≤ seen ∧ seen < 4096) ∧ bt seen s = 1 ∧ r s = 0 ∧ ∀ x, x < 8 → bt seen x = 1 → (r x : Int) + 1 ≤ sumN (bt seen) 8 ∧ (x ≠ s → 0 ≤ cm x ∧ ∃ u, u < 8 ∧ bt seen u = 1 ∧ r u < r x ∧ (cm x).toNat < nCa P ∧ RE P w F (cm x).toNat u x)
def RD (P : MS) (w F : Nat → Int) (seen : Int) (v K : Nat) : Prop := (CL P w F seen (nCa P) ∨ (v : Int) + 1 ≤ sumN (bt seen) 8) ∧ (CL P w F seen K ∨ (v : Int) + 2 ≤ sumN (bt seen) 8)
theorem bt_see {seen : Int} (h : 0 ≤ seen ∧ seen < 4096) {x : Nat} (hx : x < 8) : (0 ≤ bor seen (shl 1 (x : Int)) ∧ bor seen (shl 1 (x : Int)) < 4096) ∧ ∀ y, bt (bor seen (shl 1 (x : Int))) y = if y = x then 1 else bt seen y := by
  obtain ⟨b1, b2⟩ := bt_put (b := 1) (v := x) h (Or.inr rfl) (by omega)
  refine ⟨b1, fun y => ?_⟩
  rw [b2 y]
  have := bt_01 seen y
  by_cases c : y = x
  · rw [if_pos (Or.inr ⟨c, rfl⟩), if_pos c]
  · rw [if_neg c]
    rcases this with q | q
    · rw [q, if_neg (fun g => g.elim (fun g => absurd g (by decide)) (fun g => c g.1))]
    · rw [if_pos (Or.inl q), q]
theorem FR.add {w F : Nat → Int} {s K u x0 : Nat} {cm cm' : Nat → Int} {seen : Int} {r : Nat → Nat} (h : FR P w F s cm seen r) (hK : K < nCa P) (hx : x0 < 8) (hu : u < 8) (hr : RE P w F K u x0) (h1 : bt seen u = 1) (h0 : bt seen x0 = 0) (e0 : cm' x0 = K) (e1 : ∀ x, x ≠ x0 → cm' x = cm x) :
    FR P w F s cm' (bor seen (shl 1 (x0 : Int))) (fun x => if x = x0 then (sumN (bt seen) 8).toNat else r x) ∧ sumN (bt (bor seen (shl 1 (x0 : Int)))) 8 = sumN (bt seen) 8 + 1 := by
  obtain ⟨f1, f2, f3, f4⟩ := h
  obtain ⟨b1, b2⟩ := bt_see f1 hx
  have hs0 : s ≠ x0 := fun e => by rw [e, h0] at f2; exact absurd f2 (by decide)
  have hsum : sumN (bt (bor seen (shl 1 (x0 : Int)))) 8 = sumN (bt seen) 8 + 1 := by
    rw [sumN_up (g := bt seen) (x := x0) 8 (fun k _ hk => by rw [b2 k, if_neg hk]) hx (by rw [b2 x0, if_pos rfl, h0]; rfl)]
  have hu0 : u ≠ x0 := fun e => by rw [e, h0] at h1; exact absurd h1 (by decide)
  have hru := (f4 u hu h1).1
  refine ⟨⟨b1, by rw [b2 s, if_neg hs0]; exact f2, by (try dsimp only); rw [if_neg hs0]; exact f3, fun x hx8 hb => ?_⟩, hsum⟩
  rw [hsum]
  (try dsimp only)
  by_cases c : x = x0
  · rw [if_pos c]
    refine ⟨by omega, fun _ => ⟨by rw [c, e0]; omega, u, hu, by rw [b2 u, if_neg hu0]; exact h1, by rw [if_neg hu0]; omega, by rw [c, e0]; omega, by rw [c, e0, Int.toNat_natCast]; exact hr⟩⟩
  · rw [if_neg c]
    rw [b2 x, if_neg c] at hb
    obtain ⟨g1, g2⟩ := f4 x hx8 hb
    refine ⟨by omega, fun hxs => ?_⟩
    obtain ⟨g3, u', q1, q2, q3, q4, q5⟩ := g2 hxs
    have hu' : u' ≠ x0 := fun e => by rw [e, h0] at q2; exact absurd q2 (by decide)
    rw [e1 x c]
    exact ⟨g3, u', q1, by rw [b2 u', if_neg hu']; exact q2, by rw [if_neg hu']; exact q3, q4, q5⟩
theorem c_find25 {w : Nat → Int} {X : Int} (hP : PLN P) (hW : WV P w) (hX : 0 ≤ X ∧ X < 4096) {s t v : Nat} (hv : v < 8) : ∀ (j K : Nat) (seen : Int) (S : MS) (r : Nat → Nat), K + j = nCa P → EM P S → SWn S 24 w → S 113 4 = X → FR P w (bt X) s (S 115) seen r → RD P w (bt X) seen v K → ∃ S' seen' r', Ro_findRow_25 t seen v K S = Ro_findRow_7 t seen' ((v + 1 : Nat) : Int) S' ∧ FR P w (bt X) s (S' 115) seen' r' ∧ RD P w (bt X) seen' v (nCa P) ∧ ∀ c, c ≠ 115 → S' c = S c := by
  have h3 := hP.2.2.1
  have h12 := nCa_le hP
  intro j
  induction j with
  | zero =>
    intro K seen S r e hE hS hX4 hF hD
    refine ⟨S, seen, r, ?_, hF, by rw [← show K = nCa P by omega]; exact hD, fun _ _ => rfl⟩
    rw [e_Ro_findRow_25, hE.1.2.2.1, if_neg (by unfold nCa at e; omega), wr_succ (show v < 8 by omega) (by decide)]
  | succ j ih =>
    intro K seen S r e hE hS hX4 hF hD
    have hK : K < nCa P := by omega
    obtain ⟨⟨f1, f2⟩, t1, t2⟩ := ft_b (w := w) hP hK
    obtain ⟨s1, s2, s3, s4, s5⟩ := id hS
    have hb := (s4 K (by omega)).2
    have hbw : w (2 + 2 * K) = 0 ∨ w (2 + 2 * K) = 1 := by have := hW.2.1 K (by omega); omega
    obtain ⟨g8, k8⟩ := gt8 (w := w) (F := bt X) hP hK
    have F01 : bt X K = 0 ∨ bt X K = 1 := bt_01 X K
    have sw : ∀ {S' : MS}, (∀ c, c ≠ 115 → S' c = S c) → SWn S' 24 w := fun q => hS.fr (by rw [q 24 (by decide)]) (by rw [q 24 (by decide)]) (by rw [q 24 (by decide)]) (q 25 (by decide))
    have se := hF.1
    have main : ∀ z : Int, (-2147483648 ≤ z ∧ z < 2147483648) → frC P K (bt z K) = (gvN P w (bt X) K : Nat) → toC P K (bt z K) = (tkN P w (bt X) K : Nat) → ∃ S' seen' r', Ro_findRow_84 t seen v K z S = Ro_findRow_7 t seen' ((v + 1 : Nat) : Int) S' ∧ FR P w (bt X) s (S' 115) seen' r' ∧ RD P w (bt X) seen' v (nCa P) ∧ ∀ c, c ≠ 115 → S' c = S c := by
      intro z hz e1 e2
      rw [e_Ro_findRow_84, c_giverP hE.1 hK (by omega) hz, Option.bind_some]
      dsimp only
      rw [c_takerP hE.1 hK (by omega) hz, Option.bind_some]
      dsimp only
      rw [c_isIn hS (by omega), Option.bind_some]
      dsimp only
      rw [e1, e2, wr_succ (show K < 12 by omega) (by decide)]
      by_cases d1 : w (1 + 2 * K) = 1
      · have hre : RE P w (bt X) K (gvN P w (bt X) K) (tkN P w (bt X) K) := (RE_iff F01).mpr ⟨d1, rfl, rfl⟩
        rw [if_pos d1, if_neg n10, bt_of (by omega) (by omega) (by omega) (by omega), Int.toNat_natCast]
        by_cases d2 : bt seen (gvN P w (bt X) K) = 1
        · rw [if_pos d2, bt_of (by omega) (by omega) (by omega) (by omega), Int.toNat_natCast]
          by_cases d3 : bt seen (tkN P w (bt X) K) = 0
          · rw [if_pos d3, if_pos (by omega)]
            obtain ⟨a1, a2⟩ := hF.add (cm' := up S 115 (tkN P w (bt X) K) (K : Nat) 115) hK k8 g8 hre d2 d3 (up_s _ _ _ _) (fun x hx => up_k hx)
            have nc : ¬ CL P w (bt X) seen (nCa P) := fun q => by have := q K hK _ _ hre d2; omega
            have h1 : (v : Int) + 1 ≤ sumN (bt seen) 8 := hD.1.resolve_left nc
            obtain ⟨S', seen', r', r1, r2, r3, r4⟩ := ih (K + 1) _ (up S 115 (tkN P w (bt X) K) (K : Nat)) _ (by omega) (hE.fr (fun c c1 c2 => up_c (by omega))) (sw (fun c hc => up_c hc)) (by rw [up_c (by decide)]; exact hX4) a1 ⟨Or.inr (by omega), Or.inr (by omega)⟩
            exact ⟨S', seen', r', r1, r2, r3, fun c hc => by rw [r4 c hc, up_c hc]⟩
          · rw [if_neg d3]
            refine ih (K + 1) seen S r (by omega) hE hS hX4 hF ⟨hD.1, hD.2.imp (fun q k hk u x hux hu => ?_) id⟩
            by_cases ck : k = K
            · subst ck
              rw [← ((RE_iff F01).mp hux).2.2]
              have := bt_01 seen (tkN P w (bt X) k)
              omega
            · exact q k (by omega) u x hux hu
        · rw [if_neg d2]
          refine ih (K + 1) seen S r (by omega) hE hS hX4 hF ⟨hD.1, hD.2.imp (fun q k hk u x hux hu => ?_) id⟩
          by_cases ck : k = K
          · subst ck
            rw [← ((RE_iff F01).mp hux).2.1] at hu
            exact absurd hu d2
          · exact q k (by omega) u x hux hu
      · rw [if_neg d1, if_pos rfl]
        refine ih (K + 1) seen S r (by omega) hE hS hX4 hF ⟨hD.1, hD.2.imp (fun q k hk u x hux hu => ?_) id⟩
        by_cases ck : k = K
        · subst ck; exact absurd hux.1 d1
        · exact q k (by omega) u x hux hu
    rw [e_Ro_findRow_25, hE.1.2.2.1, if_pos (by unfold nCa at hK; omega), hX4, bt_of (by omega) (by omega) (by omega) (by omega), Int.toNat_natCast]
    by_cases cF : bt X K = 1
    · rw [if_pos cF, bxor_not (by omega) (by omega)]
      refine main _ (by omega) ?_ ?_
      · rw [bt_not, hb, (toC_1 hbw).1, t1]; unfold gvN; rw [if_pos cF]
      · rw [bt_not, hb, (toC_1 hbw).2, f1]; unfold tkN; rw [if_pos cF]
    · rw [if_neg cF]
      refine main _ (by omega) ?_ ?_
      · rw [hb, f1]; unfold gvN; rw [if_neg cF]
      · rw [hb, t1]; unfold tkN; rw [if_neg cF]
theorem c_find7 {w : Nat → Int} {X : Int} (hP : PLN P) (hW : WV P w) (hX : 0 ≤ X ∧ X < 4096) {s t : Nat} (ht : t < 8) : ∀ (j v : Nat) (seen : Int) (S : MS) (r : Nat → Nat), v + j = 8 → EM P S → SWn S 24 w → S 113 4 = X → FR P w (bt X) s (S 115) seen r → (CL P w (bt X) seen (nCa P) ∨ (v : Int) + 1 ≤ sumN (bt seen) 8) → ∃ S' seen' r', Ro_findRow_7 t seen v S = some (bt seen' t, S') ∧ FR P w (bt X) s (S' 115) seen' r' ∧ (bt seen' t = 0 → CL P w (bt X) seen' (nCa P)) ∧ ∀ c, c ≠ 115 → S' c = S c := by
  have out : ∀ (seen : Int) (S : MS), (if bt seen t = 1 then some ((1 : Int), S) else some (0, S)) = some (bt seen t, S) := fun seen S => by
    rcases bt_01 seen t with q | q
    · rw [q, if_neg (by decide)]
    · rw [q, if_pos rfl]
  intro j
  induction j with
  | zero =>
    intro v seen S r e hE hS hX4 hF hD
    have se := hF.1
    rw [e_Ro_findRow_7, if_neg (by omega), bt_of (by omega) (by omega) (by omega) (by omega), Int.toNat_natCast, out]
    refine ⟨S, seen, r, rfl, hF, fun _ => hD.resolve_right (fun q => ?_), fun _ _ => rfl⟩
    have := (sumN_b (B := 1) (g := bt seen) (n := 8) (fun k hk => by have := bt_01 seen k; omega)).2
    omega
  | succ j ih =>
    intro v seen S r e hE hS hX4 hF hD
    have se := hF.1
    rw [e_Ro_findRow_7, if_pos (by omega), bt_of (by omega) (by omega) (by omega) (by omega), Int.toNat_natCast]
    by_cases c : bt seen t = 0
    · rw [if_pos c]
      obtain ⟨S1, seen1, r1, p1, p2, p3, p4⟩ := c_find25 hP hW hX (t := t) (v := v) (by omega) (nCa P) 0 seen S r (by omega) hE hS hX4 hF ⟨hD, Or.inl (fun k hk => by omega)⟩
      have p1 : Ro_findRow_25 t seen v 0 S = _ := p1
      obtain ⟨S2, seen2, r2, q1, q2, q3, q4⟩ := ih (v + 1) seen1 S1 r1 (by omega) (hE.fr (fun c c1 c2 => p4 c (by omega))) (hS.fr (by rw [p4 24 (by decide)]) (by rw [p4 24 (by decide)]) (by rw [p4 24 (by decide)]) (p4 25 (by decide))) (by rw [p4 113 (by decide)]; exact hX4) p2 (p3.2.imp id (fun q => by omega))
      rw [p1, q1]
      exact ⟨S2, seen2, r2, rfl, q2, q3, fun c hc => by rw [q4 c hc, p4 c hc]⟩
    · rw [if_neg c, out]
      exact ⟨S, seen, r, rfl, hF, fun q => absurd q c, fun _ _ => rfl⟩
theorem c_find {w : Nat → Int} {X : Int} (hP : PLN P) (hW : WV P w) (hX : 0 ≤ X ∧ X < 4096) {s t : Nat} (hs : s < 8) (ht : t < 8) (hE : EM P S) (hS : SWn S 24 w) (hX4 : S 113 4 = X) : ∃ S' seen' r', m_Ro_findRow s t S = some (bt seen' t, S') ∧ FR P w (bt X) s (S' 115) seen' r' ∧ (bt seen' t = 0 → CL P w (bt X) seen' (nCa P)) ∧ ∀ c, c ≠ 115 → S' c = S c := by
  have hpr := pw_r (s := s) (by omega)
  have h1 : shl 1 (s : Int) = ((2 ^ s : Nat) : Int) := by rw [shl_1 (by omega) (by omega), Int.toNat_natCast]
  rw [e_Ro_findRow, h1]
  refine c_find7 hP hW hX ht 8 0 _ S (fun _ => 0) (by omega) hE hS hX4 ⟨by omega, by rw [bt_pow, if_pos rfl], rfl, fun x hx hb => ?_⟩ (Or.inr ?_)
  · rw [bt_pow] at hb
    split at hb
    · refine ⟨?_, fun q => absurd (by omega) q⟩
      rw [sumN_up (g := fun _ => 0) (x := s) 8 (fun k _ hk => by rw [bt_pow, if_neg (by omega)]) hs (by rw [bt_pow, if_pos rfl]; rfl), sumN_zero]
      exact Int.le_refl _
    · exact absurd hb (by decide)
  · rw [sumN_up (g := fun _ => 0) (x := s) 8 (fun k _ hk => by rw [bt_pow, if_neg (by omega)]) hs (by rw [bt_pow, if_pos rfl]; rfl), sumN_zero]
    decide
theorem FR.tre {w F : Nat → Int} {s : Nat} {cm : Nat → Int} {seen : Int} {r : Nat → Nat} (h : FR P w F s cm seen r) : TRE P w F s (fun x => bt seen x = 1) (fun x => (cm x).toNat) r ∧ ∀ x, x < 8 → bt seen x = 1 → x ≠ s → 0 ≤ cm x := by
  obtain ⟨f1, f2, f3, f4⟩ := h
  have hs := (sumN_b (B := 1) (g := bt seen) (n := 8) (fun k hk => by have := bt_01 seen k; omega)).2
  refine ⟨⟨f3, fun x hx hV => ?_⟩, fun x hx hV hxs => ((f4 x hx hV).2 hxs).1⟩
  obtain ⟨g1, g2⟩ := f4 x hx hV
  refine ⟨by omega, fun hxs => ?_⟩
  obtain ⟨g3, u, q⟩ := g2 hxs
  exact ⟨u, q⟩
theorem btx {X : Int} (h : 0 ≤ X ∧ X < 4096) {k : Nat} (hk : k < 12) : (0 ≤ bxor X (shl 1 (k : Int)) ∧ bxor X (shl 1 (k : Int)) < 4096) ∧ bt (bxor X (shl 1 (k : Int))) = flp (bt X) k := by
  have h1 : shl 1 (k : Int) = ((2 ^ k : Nat) : Int) := by rw [shl_1 (by omega) (by omega), Int.toNat_natCast]
  have hpr := pw_r hk
  rw [h1]
  refine ⟨bxor_lt 12 (by decide) (by omega) (by omega) (by omega) (by omega), funext fun j => ?_⟩
  rw [bt_xor (by omega) (by omega) (by omega) (by omega), bt_pow]
  unfold flp
  by_cases c : j = k
  · subst c; rw [if_pos rfl, if_pos rfl]; have := bt_01 X j; omega
  · rw [if_neg c, if_neg (by omega)]; have := bt_01 X j; omega
theorem c_add {w F0 : Nat → Int} {s t : Nat} {val : Int} {V : Nat → Prop} {cm : Nat → Int} {r : Nat → Nat} (hP : PLN P) (hW : WV P w) (hT : TRE P w F0 s V (fun x => (cm x).toNat) r) (h0 : ∀ x, x < 8 → V x → x ≠ s → 0 ≤ cm x) (hs : s < 8) : ∀ (j z v : Nat) (S : MS), r z < j → r z + v ≤ 7 → z < 8 → V z → EM P S → SWn S 24 w → S 115 = cm → (0 ≤ S 113 4 ∧ S 113 4 < 4096) → WK P w F0 (bt (S 113 4)) s t val V (fun x => (cm x).toNat) r z → ∃ S', Ro_addRow_5 s z v S = some S' ∧ FLW P w (bt (S' 113 4)) s t (val + 1) ∧ (0 ≤ S' 113 4 ∧ S' 113 4 < 4096) ∧ ∀ c, c ≠ 113 → S' c = S c := by
  have h12 := nCa_le hP
  intro j
  induction j with
  | zero => intro z v S hj; omega
  | succ j ih =>
    intro z v S hj hv hz hV hE hS hcm hX hK
    rw [e_Ro_addRow_5, if_pos (by omega)]
    by_cases c : (z : Int) = s
    · rw [if_pos c]
      have : z = s := by omega
      subst this
      exact ⟨S, rfl, hK.fin, hX, fun _ _ => rfl⟩
    · have hzs : z ≠ s := by omega
      obtain ⟨u, u1, u2, u3, u4, u5, u6, u7⟩ := hK.step hT hz hV hzs
      have c0 := h0 z hz hV hzs
      obtain ⟨k, hk⟩ : ∃ k : Nat, cm z = (k : Int) := ⟨(cm z).toNat, by omega⟩
      have hk2 : (cm z).toNat = k := by omega
      (try dsimp only at u4 u6 u7)
      rw [hk2] at u4 u6 u7
      obtain ⟨⟨f1, f2⟩, t1, t2⟩ := ft_b (w := w) hP u4
      obtain ⟨s1, s2, s3, s4, s5⟩ := id hS
      have hb := (s4 k (by omega)).2
      obtain ⟨x1, x2⟩ := btx hX (k := k) (by omega)
      rw [if_neg c, if_pos (by omega), Int.toNat_natCast, hcm, hk, wr_succ (show v < 8 by omega) (by decide)]
      rw [c_giverP (S := up S 113 4 _) (hE.fr (fun c c1 c2 => up_c (by omega))).1 u4 (by omega) (by omega), Option.bind_some]
      dsimp only
      rw [c_takerP (S := up S 113 4 _) (hE.fr (fun c c1 c2 => up_c (by omega))).1 u4 (by omega) (by rw [up_c (by decide)]; omega), Option.bind_some]
      dsimp only
      rw [up_c (show (24 : Nat) ≠ 113 by decide), hb, f1, t1]
      have go : ∃ S', Ro_addRow_5 s u ((v + 1 : Nat) : Int) (up S 113 4 (bxor (S 113 4) (shl 1 (k : Int)))) = some S' ∧ FLW P w (bt (S' 113 4)) s t (val + 1) ∧ (0 ≤ S' 113 4 ∧ S' 113 4 < 4096) ∧ ∀ c, c ≠ 113 → S' c = S c := by
        obtain ⟨S', r1, r2, r3, r4⟩ := ih u (v + 1) (up S 113 4 (bxor (S 113 4) (shl 1 (k : Int)))) (by omega) (by omega) u1 u2 (hE.fr (fun c c1 c2 => up_c (by omega))) (hS.fr (by rw [up_c (by decide)]) (by rw [up_c (by decide)]) (by rw [up_c (by decide)]) (up_c (by decide))) (by rw [up_c (by decide)]; exact hcm) (by rw [up_s]; exact x1) (by rw [up_s, x2]; exact u7)
        exact ⟨S', r1, r2, r3, fun c hc => by rw [r4 c hc, up_c hc]⟩
      obtain ⟨-, ⟨g0, g1, g2⟩ | ⟨g0, g1, g2⟩⟩ := u6
      · rw [g1, if_neg (by omega)]; exact go
      · rw [g2, if_pos rfl, g1]; exact go
theorem c_few {w : Nat → Int} {s t : Nat} (hP : PLN P) (hW : WV P w) (hs : s < 8) (ht : t < 8) : ∀ (j m : Nat) (S : MS), m + j = 12 → EM P S → SWn S 24 w → (0 ≤ S 113 4 ∧ S 113 4 < 4096) → FLW P w (bt (S 113 4)) s t m → ∃ v S' F, Ro_fewestCut_7 s t m S = some (v, S') ∧ FLW P w F s t v ∧ (v = 12 ∨ ∃ R : Nat → Bool, R s = true ∧ R t = false ∧ CUT P w F R) ∧ ∀ c, c ≠ 113 → c ≠ 115 → S' c = S c := by
  intro j
  induction j with
  | zero =>
    intro m S e hE hS hX hF
    rw [e_Ro_fewestCut_7, if_neg (by omega)]
    have : m = 12 := by omega
    subst this
    exact ⟨12, S, _, rfl, hF, Or.inl rfl, fun _ _ _ => rfl⟩
  | succ j ih =>
    intro m S e hE hS hX hF
    obtain ⟨S1, seen, r, q1, q2, q3, q4⟩ := c_find hP hW hX hs ht hE hS rfl
    rw [e_Ro_fewestCut_7, if_pos (by omega), q1, Option.bind_some]
    dsimp only
    by_cases c : bt seen t = 0
    · rw [if_pos c]
      refine ⟨m, S1, _, rfl, hF, Or.inr ⟨fun x => decide (bt seen x = 1), decide_eq_true q2.2.1, decide_eq_false (by omega), fun k u x hk hr hu => ?_⟩, fun c c1 c2 => q4 c c2⟩
      exact decide_eq_true (q3 c k hk u x hr (of_decide_eq_true hu))
    · have c1 : bt seen t = 1 := (bt_01 seen t).resolve_left c
      obtain ⟨t1, t2⟩ := q2.tre
      have hr7 := (t1.2 t ht c1).1
      obtain ⟨S2, p1, p2, p3, p4⟩ := c_add hP hW t1 t2 hs (t := t) (val := m) (r t + 1) t 0 S1 (by omega) (by omega) ht c1 (hE.fr (fun c c1 c2 => q4 c (by omega))) (hS.fr (by rw [q4 24 (by decide)]) (by rw [q4 24 (by decide)]) (by rw [q4 24 (by decide)]) (q4 25 (by decide))) rfl (by rw [q4 113 (by decide)]; exact hX) (by rw [q4 113 (by decide)]; exact WK.beg hF)
      have p1 : Ro_addRow_5 s t 0 S1 = some S2 := p1
      rw [if_neg c, e_Ro_addRow, p1, Option.bind_some, wr_succ (show m < 12 by omega) (by decide)]
      have f2 : ∀ c, c ≠ 113 → c ≠ 115 → S2 c = S c := fun c c1 c2 => by rw [p4 c c1, q4 c c2]
      obtain ⟨v, S3, F, g1, g2, g3, g4⟩ := ih (m + 1) S2 (by omega) (hE.fr (fun c c1 c2 => f2 c (by omega) (by omega))) (hS.fr (by rw [f2 24 (by decide) (by decide)]) (by rw [f2 24 (by decide) (by decide)]) (by rw [f2 24 (by decide) (by decide)]) (f2 25 (by decide) (by decide))) p3 p2
      exact ⟨v, S3, F, g1, g2, g3, fun c c1 c2 => by rw [g4 c c1 c2, f2 c c1 c2]⟩
theorem flw_0 {w F : Nat → Int} {s t : Nat} (h : ∀ k, k < nCa P → F k = 0) : FLW P w F s t 0 := by
  refine ⟨fun k hk => ⟨Or.inl (h k hk), fun q => by rw [h k hk] at q; exact absurd q (by decide)⟩, fun x _ => ?_⟩
  unfold netF
  rw [sumN_congr (h := fun _ => 0) (fun k hk => by rw [h k hk, if_neg (by decide)]), sumN_zero]
  split <;> split <;> rfl
theorem c_cut0 {w : Nat → Int} {s t : Nat} (hP : PLN P) (hW : WV P w) (hs : s < 8) (ht : t < 8) (hE : EM P S) (hS : SWn S 24 w) : ∃ v S' F, m_Ro_fewestCut s t S = some (v, S') ∧ FLW P w F s t v ∧ (v = 12 ∨ ∃ R : Nat → Bool, R s = true ∧ R t = false ∧ CUT P w F R) ∧ ∀ c, c ≠ 113 → c ≠ 115 → S' c = S c := by
  obtain ⟨v, S', F, g1, g2, g3, g4⟩ := c_few hP hW hs ht 12 0 (up S 113 4 0) (by omega) (hE.fr (fun c c1 c2 => up_c (by omega))) (hS.fr (by rw [up_c (by decide)]) (by rw [up_c (by decide)]) (by rw [up_c (by decide)]) (up_c (by decide))) (by rw [up_s]; omega) (flw_0 (fun k _ => by rw [up_s]; unfold bt; rw [Int.zero_ediv]; rfl))
  have g1 : Ro_fewestCut_7 s t 0 (up S 113 4 0) = _ := g1
  rw [e_Ro_fewestCut, g1]
  exact ⟨v, S', F, rfl, g2, g3, fun c c1 c2 => by rw [g4 c c1 c2, up_c c1]⟩
end
