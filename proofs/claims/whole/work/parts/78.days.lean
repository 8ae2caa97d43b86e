/-! DAYS, one after the other: th: in thought (nothing kept), or not -/
def itT (P : MS) (th : Int) : Nat → (Nat → Int) → Nat → Int
  | 0, m => m
  | n + 1, m => dayP (kp2 P th (nOf P) (goW P (itT P th n m)))
def cntT (P : MS) (th : Int) : Nat → (Nat → Int) → Int
  | 0, _ => 0
  | n + 1, m => cntT P th n m + an2 P (goW P (itT P th n m)) (nOf P)
theorem goW_congr {P : MS} (hP : PLN P) {a b : Nat → Int} (h : ∀ i, i < 57 → a i = b i) {i : Nat} (hi : i < 57) : goW P a i = goW P b i := by
  have hC := nCa_le hP
  by_cases c : 25 ≤ i
  · rw [show i = 25 + 4 * ((i - 25) / 4) + (i - 25) % 4 by omega, goW_s P a (by omega) (by omega), goW_s P b (by omega) (by omega), h 0 (by decide)]
    refine nxt_congr hP (fun k hk => h _ (by omega)) (fun k hk => h _ (by omega)) (fun x hx => h _ (by omega)) (by omega)
  · rw [goW_o _ _ (Or.inl (by omega)), goW_o _ _ (Or.inl (by omega)), h i hi]
theorem itT_lo {P : MS} (hP : PLN P) (th : Int) (m : Nat → Int) : ∀ (n : Nat) {i : Nat}, i < 57 → itT P th n m i = flowIt P n m i := by
  intro n
  induction n with
  | zero => intro i _; rfl
  | succ n ih =>
    intro i hi
    rw [itT, flowIt]
    have e : kp2 P th (nOf P) (goW P (itT P th n m)) i = goW P (flowIt P n m) i := by rw [kp2_lo hi]; exact goW_congr hP (fun j hj => ih hj) hi
    by_cases c : i = 0
    · subst c; rw [dayP_0, dayP_0, e]
    · rw [dayP_k c, dayP_k c, e]
theorem itT_th {P : MS} {th : Int} (h : th ≠ 0) (m : Nat → Int) : ∀ n : Nat, itT P th n m = flowIt P n m := by
  intro n
  induction n with
  | zero => rfl
  | succ n ih => rw [itT, flowIt, kp2_th h, ih]
theorem itT_0 {P : MS} (hP : PLN P) (th : Int) (m : Nat → Int) (n : Nat) : itT P th n m 0 = m 0 + n := by rw [itT_lo hP th m n (by decide), flowIt_0]
theorem itT_WV {P : MS} (hP : PLN P) (th : Int) {m : Nat → Int} (hW : WV P m) (n : Nat) (h : m 0 + n ≤ 2000) : WV P (itT P th n m) := (flowIt_WV hP hW n h).lo (fun _ hi => itT_lo hP th m n hi)
theorem itT_KN {P : MS} (th : Int) {m : Nat → Int} (hK : KN m) : ∀ n : Nat, KN (itT P th n m) := by
  intro n
  induction n with
  | zero => exact hK
  | succ n ih =>
    have h1 : KN (goW P (itT P th n m)) := by unfold KN; rw [goW_o _ _ (Or.inr (by decide))]; exact ih
    have h2 := KN_kp2 (P := P) (th := th) (nOf P) _ h1
    unfold KN at h2 ⊢
    rw [itT, dayP_k (by decide)]
    exact h2
theorem cntT_b {P : MS} (hP : PLN P) (th : Int) (m : Nat → Int) : ∀ n : Nat, 0 ≤ cntT P th n m ∧ cntT P th n m ≤ 32 * (n : Int) := by
  intro n
  have hO := nOf_le hP
  induction n with
  | zero => exact ⟨Int.le_refl _, Int.le_refl _⟩
  | succ n ih => have := an2_b hP (goW P (itT P th n m)) (nOf P); rw [cntT]; omega
theorem cntT_th {P : MS} (hP : PLN P) (th th' : Int) (m : Nat → Int) : ∀ n : Nat, cntT P th n m = cntT P th' n m := by
  have hO := nOf_le hP
  have hF := nFe_le hP
  intro n
  induction n with
  | zero => rfl
  | succ n ih =>
    rw [cntT, cntT, ih]
    have hlo : ∀ i, i < 57 → goW P (itT P th n m) i = goW P (itT P th' n m) i := fun i hi => goW_congr hP (fun j hj => by rw [itT_lo hP th m n hj, itT_lo hP th' m n hj]) hi
    have h1 : ∀ (o : Nat), o < 8 → ∀ f : Nat, f ≤ 4 → an1 P (goW P (itT P th n m)) o f = an1 P (goW P (itT P th' n m)) o f := by
      intro o ho f
      induction f with
      | zero => intro _; rfl
      | succ f ihf => intro hf; rw [an1, an1, ihf (by omega), act01_lo hlo ho (by omega)]
    have h2 : ∀ o : Nat, o ≤ 8 → an2 P (goW P (itT P th n m)) o = an2 P (goW P (itT P th' n m)) o := by
      intro o
      induction o with
      | zero => intro _; rfl
      | succ o iho => intro ho; rw [an2, an2, iho (by omega), h1 o (by omega) _ hF]
    rw [h2 _ hO]
theorem m_daysG {P : MS} (hP : PLN P) {th : Int} {m : Nat → Int} (hW : WV P m) (hK : KN m) {N : Nat} (hN : m 0 + N ≤ 2000) : ∀ (n v : Nat) (T : MS), v + n = N → RP P T → T 401 56 = th → T 438 = itT P th v m → (0 ≤ T 401 57 ∧ T 401 57 + 32 * n < 900000000) →
    ∃ T', Mo_daysGo_7 N v T = some T' ∧ RP P T' ∧ T' 438 = itT P th N m ∧ T' 401 57 = T 401 57 - cntT P th v m + cntT P th N m ∧ FG T T' := by
  intro n
  have hO := nOf_le hP
  have h00 := hW.1
  induction n with
  | zero =>
    intro v T hv hR ht hm hA
    rw [e_Mo_daysGo_7, if_neg (by omega)]
    exact ⟨T, rfl, hR, by rw [hm, show v = N by omega], by rw [show v = N by omega]; omega, FG.rf T⟩
  | succ n ih =>
    intro v T hv hR ht hm hA
    obtain ⟨T1, a1, a2, a3, a4, a5⟩ := m_dayGoes hP hR (by rw [hm]; exact itT_WV hP th hW v (by omega)) (by rw [hm]; exact itT_KN th hK v) (by omega)
    have hb := an2_b hP (goW P (T 438)) (nOf P)
    rw [e_Mo_daysGo_7, if_pos (by omega), a1, Option.bind_some, wrN (by omega) (by omega)]
    obtain ⟨T', b1, b2, b3, b4, b5⟩ := ih (v + 1) T1 (by omega) a2 (by rw [a5.2 56 (by decide) (by decide) (by decide) (by decide) (by decide) (by decide) (by decide) (by decide), ht]) (by rw [a3, ht, hm]; rfl) (by rw [a4]; omega)
    exact ⟨T', b1, b2, b3, by rw [b4, a4, cntT, hm]; omega, a5.tr b5⟩
/-! copies of states -/
theorem st_k : ∀ i : Nat, i < 20 → kt (53 + 3 * i) = 9 ∧ rfC 31 5 (53 + 3 * i) 3 = 54 + 3 * i ∧ rfC 31 5 (53 + 3 * i) 4 = 55 + 3 * i ∧ kt (54 + 3 * i) = 21 ∧ kl (54 + 3 * i) = 4 ∧ kt (55 + 3 * i) = 20 ∧ kl (55 + 3 * i) = 40 ∧ rfC 31 5 52 i = 53 + 3 * i := by decide
def STC (a : Nat) : Prop := kt a = 9 ∧ rfC 31 5 a 3 = a + 1 ∧ rfC 31 5 a 4 = a + 2 ∧ kt (a + 1) = 21 ∧ kl (a + 1) = 4 ∧ kt (a + 2) = 20 ∧ kl (a + 2) = 40
theorem stc_now : STC 24 := by unfold STC; decide
theorem stc_then : STC 27 := by unfold STC; decide
theorem stc_row {i : Nat} (h : i < 20) : STC (53 + 3 * i) := by
  obtain ⟨h1, h2, h3, h4, h5, h6, h7, -⟩ := st_k i h
  exact ⟨h1, by rw [h2]; omega, by rw [h3]; omega, by rw [show 53 + 3 * i + 1 = 54 + 3 * i by omega]; exact h4, by rw [show 53 + 3 * i + 1 = 54 + 3 * i by omega]; exact h5, by rw [show 53 + 3 * i + 2 = 55 + 3 * i by omega]; exact h6, by rw [show 53 + 3 * i + 2 = 55 + 3 * i by omega]; exact h7⟩
theorem cpy_at {S : MS} {a b : Nat} {n : Int} {k : Nat} (h : (k : Int) < n) : cpy S a b 0 0 n b k = S a k := by
  unfold cpy
  rw [if_pos rfl, if_pos (by omega)]
  congr 1
  omega
theorem cpy_c {S : MS} {a b c : Nat} {sp dp n : Int} (h : c ≠ b) : cpy S a b sp dp n c = S c := cpy_ne h
theorem c_copyW {a b : Nat} (ha : STC a) (hb : STC b) (hab : a ≠ b ∧ a ≠ b + 1 ∧ a + 1 ≠ b ∧ a + 2 ≠ b) (S : MS) :
    ∃ S', m_St_copyWorld a b S = some S' ∧ (∀ k, k < 3 → S' a k = S b k) ∧ (∀ k, 3 ≤ k → S' a k = S a k) ∧ (∀ k, k < 4 → S' (a + 1) k = S (b + 1) k) ∧ ∀ c, c ≠ a → c ≠ a + 1 → S' c = S c := by
  obtain ⟨a1, a2, a3, a4, a5, a6, a7⟩ := ha
  obtain ⟨b1, b2, b3, b4, b5, b6, b7⟩ := hb
  rw [e_St_copyWorld]
  rw [if_pos b1, if_pos a1, if_pos b1, if_pos a1, if_pos b1, if_pos a1, if_pos b1, if_pos a1]
  rw [if_pos (by rw [a2, b2, a4, b4]; exact ⟨rfl, Or.inr rfl, by omega⟩), if_pos (by rw [a2, b2, a5, b5]; decide), a2, b2]
  refine ⟨_, rfl, fun k hk => ?_, fun k hk => ?_, fun k hk => ?_, fun c h1 h2 => ?_⟩
  · rw [cpy_c (by omega)]
    rcases (show k = 0 ∨ k = 1 ∨ k = 2 by omega) with rfl | rfl | rfl
    · rw [up_k (by decide), up_k (by decide), up_s]
    · rw [up_k (by decide), up_s, up_c (by omega)]
    · rw [up_s, up_c (by omega), up_c (by omega)]
  · rw [cpy_c (by omega), up_k (by omega), up_k (by omega), up_k (by omega)]
  · rw [cpy_at (by omega), up_c (by omega), up_c (by omega), up_c (by omega)]
  · rw [cpy_c (by omega), up_c (by omega), up_c (by omega), up_c (by omega)]
theorem c_copyA {a b : Nat} (ha : STC a) (hb : STC b) (hab : a + 2 < b ∨ b + 2 < a) (S : MS) :
    ∃ S', m_St_copyAll a b S = some S' ∧ (∀ k, k < 3 ∨ k = 5 → S' a k = S b k) ∧ (∀ k, 3 ≤ k → k ≠ 5 → S' a k = S a k) ∧ (∀ k, k < 4 → S' (a + 1) k = S (b + 1) k) ∧ (∀ k, k < 40 → S' (a + 2) k = S (b + 2) k) ∧ ∀ c, c ≠ a → c ≠ a + 1 → c ≠ a + 2 → S' c = S c := by
  obtain ⟨S1, r1, r2, r3, r4, r5⟩ := c_copyW ha hb (by omega) S
  obtain ⟨a1, a2, a3, a4, a5, a6, a7⟩ := ha
  obtain ⟨b1, b2, b3, b4, b5, b6, b7⟩ := hb
  rw [e_St_copyAll, if_pos a1, r1, Option.bind_some, if_pos b1, if_pos a1]
  rw [if_pos (by rw [a3, b3, a6, b6]; exact ⟨rfl, Or.inl rfl, by omega⟩), if_pos (by rw [a3, b3, a7, b7]; decide), if_pos b1, if_pos a1, a3, b3]
  refine ⟨_, rfl, fun k hk => ?_, fun k hk h5 => ?_, fun k hk => ?_, fun k hk => ?_, fun c h1 h2 h3 => ?_⟩
  · by_cases e : k = 5
    · subst e; rw [up_s, cpy_c (by omega), r5 b (by omega) (by omega)]
    · rw [up_k e, cpy_c (by omega), r2 k (by omega)]
  · rw [up_k h5, cpy_c (by omega), r3 k hk]
  · rw [up_c (by omega), cpy_c (by omega), r4 k hk]
  · rw [up_c (by omega), cpy_at (by omega), r5 _ (by omega) (by omega)]
  · rw [up_c (by omega), cpy_c (by omega), r5 c h1 h2]
theorem SWn.copy {S S' : MS} {a b : Nat} {w : Nat → Int} (h : SWn S b w) (h1 : ∀ k, k < 3 → S' a k = S b k) (h2 : ∀ k, k < 4 → S' (a + 1) k = S (b + 1) k) : SWn S' a w := by
  obtain ⟨g1, g2, g3, g4, g5⟩ := h
  exact ⟨by rw [h1 0 (by decide)]; exact g1, by rw [h1 1 (by decide)]; exact g2, by rw [h1 2 (by decide)]; exact g3, fun k hk => by rw [h1 1 (by decide), h1 2 (by decide)]; exact g4 k hk, fun f hf => by rw [h2 f hf]; exact g5 f hf⟩
/-! the class, ahead -/
theorem EM.fr {P S S' : MS} (h : EM P S) (e : ∀ c, (30 ≤ c → c < 50 → S' c = S c)) : EM P S' :=
  ⟨h.1.fr (e 31 (by decide) (by decide)) (e 33 (by decide) (by decide)) (e 34 (by decide) (by decide)) (e 36 (by decide) (by decide)) (e 37 (by decide) (by decide)) (e 38 (by decide) (by decide)) (e 40 (by decide) (by decide)) (e 41 (by decide) (by decide)) (e 46 (by decide) (by decide)) (e 47 (by decide) (by decide)),
   h.2.1.fr (e 31 (by decide) (by decide)) (e 30 (by decide) (by decide)) (e 48 (by decide) (by decide)) (e 49 (by decide) (by decide)), by unfold CV; rw [e 43 (by decide) (by decide), e 44 (by decide) (by decide)]; exact h.2.2⟩
section
variable {P : MS} {m : Nat → Int}
theorem c_fa1 (hP : PLN P) (hW : WV P m) {N : Nat} (hN : m 0 + N ≤ 2000) : ∀ (n v : Nat) (S : MS), v + n = N → EM P S → SWn S 27 (flowIt P v m) → S 30 3 + n < 15999999 →
    ∃ S', Ma_flowAhead_13 N v S = some S' ∧ EM P S' ∧ SWn S' 27 (flowIt P N m) ∧ FW_then S S' ∧ S' 30 3 ≤ S 30 3 + n ∧ S' 27 5 = S 27 5 := by
  intro n
  have h00 := hW.1
  induction n with
  | zero =>
    intro v S hv hE hS hB
    rw [e_Ma_flowAhead_13, if_neg (by omega)]
    exact ⟨S, rfl, hE, by rw [← show v = N by omega]; exact hS, FW_then.rf S, by omega, rfl⟩
  | succ n ih =>
    intro v S hv hE hS hB
    obtain ⟨z, S1, a1, a2, a3, a4, a5, a6, a7, a8, a9⟩ := c_flow_then hP (flowIt_WV hP hW v (by omega)) hE (by omega) hS
    rw [e_Ma_flowAhead_13, if_pos (by omega), a1, Option.bind_some, wrN (by omega) (by omega)]
    obtain ⟨S', b1, b2, b3, b4, b5, b6⟩ := ih (v + 1) S1 (by omega) a3.em a4 (by omega)
    exact ⟨S', b1, b2, b3, a5.tr b4, by omega, by rw [b6, a8]⟩
theorem c_flowAhead (hP : PLN P) (hW : WV P m) {N : Nat} (hN : m 0 + N ≤ 2000) {S : MS} (hE : EM P S) (hS : SWn S 24 m) (hB : S 30 3 + N < 15999999) :
    ∃ S', m_Ma_flowAhead N S = some S' ∧ EM P S' ∧ SWn S' 27 (flowIt P N m) ∧ FW_then S S' ∧ S' 30 3 ≤ S 30 3 + N ∧ S' 27 5 = S 27 5 := by
  obtain ⟨S1, r1, r2, r3, r4, r5⟩ := c_copyW stc_then stc_now (by decide) S
  have hF : FW_then S S1 := ⟨fun c h1 h2 _ _ _ _ _ _ _ => r5 c h1 h2, fun k _ _ => by rw [r5 30 (by decide) (by decide)]⟩
  obtain ⟨S', b1, b2, b3, b4, b5, b6⟩ := c_fa1 hP hW hN N 0 S1 (by omega) (hE.fr (fun c h1 h2 => r5 c (by omega) (by omega))) (hS.copy r2 r4) (by rw [r5 30 (by decide) (by decide)]; exact hB)
  rw [e_Ma_flowAhead, r1, Option.bind_some]
  exact ⟨S', b1, b2, b3, hF.tr b4, by rw [r5 30 (by decide) (by decide)] at b5; exact b5, by rw [b6, r3 5 (by decide)]⟩
theorem c_days_now (hP : PLN P) (hW : WV P m) {th : Int} {N : Nat} (hN : m 0 + N ≤ 2000) (hN2 : N ≤ 1000) : ∀ (n v : Nat) (S : MS), v + n = N → EM P S → SWn S 24 (itT P th v m) → (th = 0 → KR (S 24 5) (S 26) (itT P th v m)) → (0 ≤ S 24 5 ∧ S 24 5 + 32 * n < 1700000000) → S 30 3 + n < 15999999 →
    ∃ S', Ma_days_29 N (cntT P th v m) v S = some (cntT P th N m, S') ∧ EM P S' ∧ SWn S' 24 (itT P th N m) ∧ (th = 0 → KR (S' 24 5) (S' 26) (itT P th N m)) ∧ (0 ≤ S' 24 5 ∧ S' 24 5 ≤ S 24 5 + 32 * n) ∧ FW_now S S' ∧ S' 30 3 ≤ S 30 3 + n := by
  intro n
  have hO := nOf_le hP
  induction n with
  | zero =>
    intro v S hv hE hS hk he hB
    rw [e_Ma_days_29, if_neg (by omega), show v = N by omega]
    exact ⟨S, rfl, hE, by rw [← show v = N by omega]; exact hS, by rw [← show v = N by omega]; exact hk, by omega, FW_now.rf S, by omega⟩
  | succ n ih =>
    intro v S hv hE hS hk he hB
    obtain ⟨S1, a1, a2, a3, a4, a5, a6, a7⟩ := c_wholeDay_now (th := th) hP (itT_WV hP th hW v (by omega)) hE (by omega) hS (by omega) hk
    have hb := an2_b hP (goW P (itT P th v m)) (nOf P)
    have hc := cntT_b hP th m v
    rw [e_Ma_days_29, if_pos (by omega), a1, Option.bind_some, wrN (z := (v : Int) + 1) (by omega) (by omega), wrN (by omega) (by omega)]
    obtain ⟨S', b1, b2, b3, b4, b5, b6, b7⟩ := ih (v + 1) S1 (by omega) a2 a3 a5 (by omega) (by omega)
    exact ⟨S', b1, b2, b3, b4, by omega, a6.tr b6, by omega⟩
theorem c_days_then (hP : PLN P) (hW : WV P m) {th : Int} {N : Nat} (hN : m 0 + N ≤ 2000) (hN2 : N ≤ 1000) : ∀ (n v : Nat) (S : MS), v + n = N → EM P S → SWn S 27 (itT P th v m) → (th = 0 → KR (S 27 5) (S 29) (itT P th v m)) → (0 ≤ S 27 5 ∧ S 27 5 + 32 * n < 1700000000) → S 30 3 + n < 15999999 →
    ∃ S', Ma_acted_27 N (cntT P th v m) v S = some (cntT P th N m, S') ∧ EM P S' ∧ SWn S' 27 (itT P th N m) ∧ (th = 0 → KR (S' 27 5) (S' 29) (itT P th N m)) ∧ (0 ≤ S' 27 5 ∧ S' 27 5 ≤ S 27 5 + 32 * n) ∧ FW_then S S' ∧ S' 30 3 ≤ S 30 3 + n := by
  intro n
  have hO := nOf_le hP
  induction n with
  | zero =>
    intro v S hv hE hS hk he hB
    rw [e_Ma_acted_27, if_neg (by omega), show v = N by omega]
    exact ⟨S, rfl, hE, by rw [← show v = N by omega]; exact hS, by rw [← show v = N by omega]; exact hk, by omega, FW_then.rf S, by omega⟩
  | succ n ih =>
    intro v S hv hE hS hk he hB
    obtain ⟨S1, a1, a2, a3, a4, a5, a6, a7⟩ := c_wholeDay_then (th := th) hP (itT_WV hP th hW v (by omega)) hE (by omega) hS (by omega) hk
    have hb := an2_b hP (goW P (itT P th v m)) (nOf P)
    have hc := cntT_b hP th m v
    rw [e_Ma_acted_27, if_pos (by omega), a1, Option.bind_some, wrN (z := (v : Int) + 1) (by omega) (by omega), wrN (by omega) (by omega)]
    obtain ⟨S', b1, b2, b3, b4, b5, b6, b7⟩ := ih (v + 1) S1 (by omega) a2 a3 a5 (by omega) (by omega)
    exact ⟨S', b1, b2, b3, b4, by omega, a6.tr b6, by omega⟩
end
