/-! WHAT IS TOLD, as numbers: a plan P (in the reference's places), a world w (DAY, carbons, strengths, as the reference's row) -/
def z0 : Int → Int := fun _ => 0
theorem z0_ok : ∀ x, vt false (z0 x) := fun _ => by show _ ∧ _; unfold z0; omega
def nOf (P : MS) : Nat := (P 430 4).toNat
def nFe (P : MS) : Nat := (P 430 5).toNat
def nCa (P : MS) : Nat := (P 430 6).toNat
def lawC (P : MS) (w : Nat) : List Int :=
  if P 435 (3 + w) = -1 then (if w = 0 then [43, 44, 2] else if w = 1 then [1000] else [45, 1050, 8]) else seg (P 437) (1600 + (P 435 (3 + w)).toNat) ((P 436 (3 + w)).toNat - (P 435 (3 + w)).toNat)
/-- a plan that can be -/
def PLN (P : MS) : Prop :=
  (0 ≤ P 430 4 ∧ P 430 4 ≤ 8) ∧ (0 ≤ P 430 5 ∧ P 430 5 ≤ 4) ∧ (0 ≤ P 430 6 ∧ P 430 6 ≤ 12) ∧ (0 ≤ P 430 7 ∧ P 430 7 ≤ 100) ∧
  (∀ k, 16 ≤ k → k < 32 → 0 ≤ P 432 k ∧ P 432 k ≤ 9) ∧
  (∀ k, k < nCa P → (0 ≤ P 433 (36 + 3 * k) ∧ P 433 (36 + 3 * k) < P 430 4) ∧ (0 ≤ P 433 (37 + 3 * k) ∧ P 433 (37 + 3 * k) < P 430 4) ∧ (1 ≤ P 433 (38 + 3 * k) ∧ P 433 (38 + 3 * k) ≤ 9) ∧ P 433 (36 + 3 * k) ≠ P 433 (37 + 3 * k)) ∧
  (∀ w : Nat, w < 3 → tyS w (lawC P w) [] = some [decide (w = 2)]) ∧
  (∀ w : Nat, w < 3 → P 435 (3 + w) = -1 ∨ (0 ≤ P 435 (3 + w) ∧ P 435 (3 + w) ≤ P 436 (3 + w) ∧ P 436 (3 + w) ≤ 1600))
def toC (P : MS) (k : Nat) (b : Int) : Int := if b = 0 then P 433 (37 + 3 * k) else P 433 (36 + 3 * k)
def frC (P : MS) (k : Nat) (b : Int) : Int := if b = 0 then P 433 (36 + 3 * k) else P 433 (37 + 3 * k)
def cutF (v : Int) : Int := if v < 0 then 0 else if 99 < v then 99 else v
theorem cutF_b (v : Int) : 0 ≤ cutF v ∧ cutF v ≤ 99 := by unfold cutF; split; · omega
                                                          split <;> omega
def pvP (P : MS) (d s : Int) (k o : Nat) : Nat → Int := fun i => if i = 0 then P 432 (17 + 2 * o) else if i = 1 then P 432 (16 + 2 * o) else if i = 2 then d else if i = 3 then s else if i = 4 then P 433 (38 + 3 * k) else 0
def pvF (P : MS) (d s f : Int) (o : Nat) : Nat → Int := fun i => if i = 0 then P 432 (17 + 2 * o) else if i = 1 then P 432 (16 + 2 * o) else if i = 2 then d else if i = 5 then s else if i = 6 then f else 0
def passV (P : MS) (d : Int) (k : Nat) (b s : Int) : Int := cutF (evC (pvP P d s k (toC P k b).toNat) z0 z0 (lawC P 0))
def fadeV (P : MS) (d s : Int) (o : Nat) : Int := cutF (evC (pvF P d s 0 o) z0 z0 (lawC P 1))
def actV (P : MS) (d s f : Int) (o : Nat) : Int := evC (pvF P d s f o) z0 z0 (lawC P 2)
theorem toC_b {P : MS} (h : PLN P) {k : Nat} (hk : k < nCa P) (b : Int) : (0 ≤ toC P k b ∧ toC P k b < P 430 4) ∧ (0 ≤ frC P k b ∧ frC P k b < P 430 4) := by
  obtain ⟨h1, h2, h3, h4⟩ := h.2.2.2.2.2.1 k hk
  unfold toC frC
  by_cases hb : b = 0
  · rw [if_pos hb, if_pos hb]; exact ⟨h2, h1⟩
  · rw [if_neg hb, if_neg hb]; exact ⟨h1, h2⟩
theorem pvP_ok {P : MS} (h : PLN P) {d s : Int} {k o : Nat} (hd : 0 ≤ d ∧ d ≤ 2000) (hs : 0 ≤ s ∧ s ≤ 99) (hk : k < nCa P) (ho : o < 8) : pvok 0 (pvP P d s k o) := by
  intro i hi ha
  have e1 := h.2.2.2.2.1 (17 + 2 * o) (by omega) (by omega)
  have e2 := h.2.2.2.2.1 (16 + 2 * o) (by omega) (by omega)
  have e3 := (h.2.2.2.2.2.1 k hk).2.2.1
  show -1000000 ≤ _ ∧ _ ≤ 1000000
  unfold pvP
  repeat' split
  all_goals omega
theorem pvF_ok {P : MS} (h : PLN P) {q d s f : Int} {o : Nat} (hd : 0 ≤ d ∧ d ≤ 2000) (hs : 0 ≤ s ∧ s ≤ 99) (hf : 0 ≤ f ∧ f < 4) (ho : o < 8) : pvok q (pvF P d s f o) := by
  intro i hi ha
  have e1 := h.2.2.2.2.1 (17 + 2 * o) (by omega) (by omega)
  have e2 := h.2.2.2.2.1 (16 + 2 * o) (by omega) (by omega)
  show -1000000 ≤ _ ∧ _ ≤ 1000000
  unfold pvF
  repeat' split
  all_goals omega
/-- the class's plan tells P -/
def CP (P S : MS) : Prop :=
  S 31 0 = P 430 4 ∧ S 31 1 = P 430 5 ∧ S 31 2 = P 430 6 ∧ S 31 4 = P 430 7 ∧
  (∀ o, o < nOf P → S 33 o = P 432 (16 + 2 * o) ∧ S 34 o = P 432 (17 + 2 * o)) ∧
  (∀ k, k < nCa P → S 36 k = P 433 (36 + 3 * k) ∧ S 37 k = P 433 (37 + 3 * k) ∧ S 38 k = P 433 (38 + 3 * k)) ∧
  (∀ w, w < 3 → ∃ a : Nat, S 46 w = (a : Int) ∧ S 47 w = ((a + (lawC P w).length : Nat) : Int) ∧ a + (lawC P w).length ≤ 1616 ∧ ((a + (lawC P w).length : Nat) : Int) ≤ S 40 1 ∧ ∀ i : Nat, i < (lawC P w).length → S 41 (a + i) = mc ((lawC P w).getD i 0)) ∧
  (S 31 5 = 0 → ∀ w, w < 2 → ∀ c ∈ lawC P w, c ≠ 42) ∧ S 40 1 ≤ 1616
/-- the cells that searches of the engine leave as they were -/
def FE (S S' : MS) : Prop := (∀ c, c ≠ 30 → c ≠ 42 → c ≠ 45 → c ≠ 48 → c ≠ 49 → c ≠ 50 → S' c = S c) ∧ ∀ k, k ≠ 3 → k ≠ 4 → S' 30 k = S 30 k
theorem FE.rf (S : MS) : FE S S := ⟨fun _ _ _ _ _ _ _ => rfl, fun _ _ _ => rfl⟩
theorem FE.tr {S S' S'' : MS} (h : FE S S') (g : FE S' S'') : FE S S'' := ⟨fun c a1 a2 a3 a4 a5 a6 => (g.1 c a1 a2 a3 a4 a5 a6).trans (h.1 c a1 a2 a3 a4 a5 a6), fun k a1 a2 => (g.2 k a1 a2).trans (h.2 k a1 a2)⟩
theorem CP.fr {P S S' : MS} (h : CP P S) (h31 : S' 31 = S 31) (h33 : S' 33 = S 33) (h34 : S' 34 = S 34) (h36 : S' 36 = S 36) (h37 : S' 37 = S 37) (h38 : S' 38 = S 38) (h40 : S' 40 = S 40) (h41 : S' 41 = S 41) (h46 : S' 46 = S 46) (h47 : S' 47 = S 47) : CP P S' := by
  unfold CP at h ⊢
  rw [h31, h33, h34, h36, h37, h38, h40, h41, h46, h47]
  exact h
theorem CP.fe {P S S' : MS} (h : CP P S) (f : FE S S') : CP P S' :=
  h.fr (f.1 31 (by decide) (by decide) (by decide) (by decide) (by decide) (by decide)) (f.1 33 (by decide) (by decide) (by decide) (by decide) (by decide) (by decide)) (f.1 34 (by decide) (by decide) (by decide) (by decide) (by decide) (by decide)) (f.1 36 (by decide) (by decide) (by decide) (by decide) (by decide) (by decide)) (f.1 37 (by decide) (by decide) (by decide) (by decide) (by decide) (by decide)) (f.1 38 (by decide) (by decide) (by decide) (by decide) (by decide) (by decide)) (f.1 40 (by decide) (by decide) (by decide) (by decide) (by decide) (by decide)) (f.1 41 (by decide) (by decide) (by decide) (by decide) (by decide) (by decide)) (f.1 46 (by decide) (by decide) (by decide) (by decide) (by decide) (by decide)) (f.1 47 (by decide) (by decide) (by decide) (by decide) (by decide) (by decide))
/-- what is kept of earlier answers is right -/
def CK (P S : MS) : Prop :=
  (1 ≤ S 30 3 ∧ S 30 3 < 16000000) ∧
  (∀ j : Nat, j < 2400 → 0 ≤ S 48 j ∧ S 48 j / 128 ≤ S 30 3 ∧ (S 48 j / 128 = S 30 3 → j / 200 < nCa P → ∀ d, 0 ≤ d → d ≤ 2000 → (S 31 5 = 0 ∨ d = S 30 4) → S 48 j % 128 = passV P d (j / 200) ((j / 100 % 2 : Nat) : Int) ((j % 100 : Nat) : Int))) ∧
  (∀ j : Nat, j < 800 → 0 ≤ S 49 j ∧ S 49 j / 128 ≤ S 30 3 ∧ (S 49 j / 128 = S 30 3 → j / 100 < nOf P → ∀ d, 0 ≤ d → d ≤ 2000 → (S 31 5 = 0 ∨ d = S 30 4) → S 49 j % 128 = fadeV P d ((j % 100 : Nat) : Int) (j / 100)))
theorem CK.fr {P S S' : MS} (h : CK P S) (h31 : S' 31 = S 31) (h30 : S' 30 = S 30) (h48 : S' 48 = S 48) (h49 : S' 49 = S 49) : CK P S' := by
  unfold CK at h ⊢
  rw [h31, h30, h48, h49]
  exact h
theorem c_openDay {P S : MS} {d : Int} (h : CK P S) (hB : S 30 3 < 15999999) : ∃ S', m_En_openDay d S = some S' ∧ FE S S' ∧ CK P S' ∧ S' 30 4 = d ∧ S' 30 3 ≤ S 30 3 + 1 := by
  obtain ⟨h1, h2, h3⟩ := h
  rw [e_En_openDay]
  by_cases c1 : S 31 5 = 0
  · rw [if_pos c1]
    refine ⟨_, rfl, ⟨fun c a1 _ _ _ _ _ => up_c a1, fun k _ a2 => up_k a2⟩, ⟨by rw [up_k (by decide)]; exact h1, fun j hj => ?_, fun j hj => ?_⟩, up_s _ _ _ _, by rw [up_k (by decide)]; omega⟩
    · rw [up_c (c' := 48) (by decide), up_c (c' := 31) (by decide), up_k (by decide)]
      obtain ⟨g1, g2, g3⟩ := h2 j hj
      exact ⟨g1, g2, fun e k d' q1 q2 _ => g3 e k d' q1 q2 (Or.inl c1)⟩
    · rw [up_c (c' := 49) (by decide), up_c (c' := 31) (by decide), up_k (by decide)]
      obtain ⟨g1, g2, g3⟩ := h3 j hj
      exact ⟨g1, g2, fun e k d' q1 q2 _ => g3 e k d' q1 q2 (Or.inl c1)⟩
  · rw [if_neg c1]
    by_cases c2 : d = S 30 4
    · rw [if_pos c2]
      refine ⟨_, rfl, ⟨fun c a1 _ _ _ _ _ => up_c a1, fun k _ a2 => up_k a2⟩, ⟨by rw [up_k (by decide)]; exact h1, fun j hj => ?_, fun j hj => ?_⟩, up_s _ _ _ _, by rw [up_k (by decide)]; omega⟩
      · rw [up_c (c' := 48) (by decide), up_c (c' := 31) (by decide), up_k (by decide), up_s, c2]
        exact h2 j hj
      · rw [up_c (c' := 49) (by decide), up_c (c' := 31) (by decide), up_k (by decide), up_s, c2]
        exact h3 j hj
    · rw [if_neg c2, wrN (by omega) (by omega)]
      refine ⟨_, rfl, ⟨fun c a1 _ _ _ _ _ => by rw [up_c a1, up_c a1], fun k a1 a2 => by rw [up_k a2, up_k a1]⟩, ⟨by rw [up_k (by decide), up_s]; omega, fun j hj => ?_, fun j hj => ?_⟩, up_s _ _ _ _, by rw [up_k (by decide), up_s]; omega⟩
      · rw [up_c (c' := 48) (by decide), up_c (c' := 48) (by decide), up_k (c := 30) (k' := 3) (by decide), up_s]
        obtain ⟨g1, g2, g3⟩ := h2 j hj
        exact ⟨g1, by omega, fun e => by omega⟩
      · rw [up_c (c' := 49) (by decide), up_c (c' := 49) (by decide), up_k (c := 30) (k' := 3) (by decide), up_s]
        obtain ⟨g1, g2, g3⟩ := h3 j hj
        exact ⟨g1, by omega, fun e => by omega⟩
theorem c_giver {k x : Int} {S : MS} (hk : 0 ≤ k ∧ k < 12) (hx : -2147483648 ≤ x ∧ x < 2147483648) : m_En_giver k x S = some ((if bt x k.toNat = 0 then S 36 k.toNat else S 37 k.toNat), S) := by
  rw [e_En_giver, if_neg (by omega), if_pos (by omega), bt_of hx.1 hx.2 hk.1 (by omega)]
  by_cases hb : bt x k.toNat = 0
  · rw [if_pos hb, if_pos hb, if_pos (by omega)]
  · rw [if_neg hb, if_neg hb, if_pos (by omega)]
theorem c_taker {k x : Int} {S : MS} (hk : 0 ≤ k ∧ k < 12) (hx : -2147483648 ≤ x ∧ x < 2147483648) : m_En_taker k x S = some ((if bt x k.toNat = 0 then S 37 k.toNat else S 36 k.toNat), S) := by
  rw [e_En_taker, bxor_not hx.1 hx.2, c_giver hk (by omega), bt_not]
  rcases bt_01 x k.toNat with h | h
  · rw [h]; rfl
  · rw [h]; rfl
theorem c_giverP {P S : MS} (h : CP P S) {k : Nat} (hk : k < nCa P) (hk2 : k < 12) {x : Int} (hx : -2147483648 ≤ x ∧ x < 2147483648) : m_En_giver k x S = some (frC P k (bt x k), S) := by
  obtain ⟨h1, h2, h3⟩ := h.2.2.2.2.2.1 k hk
  rw [c_giver (by omega) hx, Int.toNat_natCast, h1, h2]
  rfl
theorem c_takerP {P S : MS} (h : CP P S) {k : Nat} (hk : k < nCa P) (hk2 : k < 12) {x : Int} (hx : -2147483648 ≤ x ∧ x < 2147483648) : m_En_taker k x S = some (toC P k (bt x k), S) := by
  obtain ⟨h1, h2, h3⟩ := h.2.2.2.2.2.1 k hk
  rw [c_taker (by omega) hx, Int.toNat_natCast, h1, h2]
  rfl
theorem c_set {v x : Int} {S : MS} (hv : -8 ≤ v ∧ v ≤ -1) : m_Co_set_e v x S = some (up S 42 (-1 - v).toNat x) := by
  rw [e_Co_set_e, wrN (by omega) (by omega), if_neg (by omega), if_pos (by omega), if_pos (by omega)]
theorem c_cut (v : Int) (S : MS) : m_En_cut v S = some (cutF v, S) := by
  rw [e_En_cut]
  unfold cutF
  by_cases h1 : v < 0
  · rw [if_pos h1, imn_ge (by omega), imx_ge (by omega)]
  · rw [if_neg h1]
    by_cases h2 : 99 < v
    · rw [if_pos h2, imn_le (by omega), imx_le (by omega)]
    · rw [if_neg h2, imn_ge (by omega), imx_le (by omega)]
theorem f0_e {cs : List Int} {pv : Nat → Int} {q : Int} {S : MS} {b : Bool} (hq : q < 3) (ht : tyS q cs [] = some [b]) : evC pv (cfl_e S) (cst_e S) cs = evC pv z0 z0 cs := by
  unfold evC
  rw [evS_congr (q := q) (pv' := pv) (fl' := z0) (st' := z0) (fun _ _ _ => rfl) (fun h => absurd h (by omega)) ht rfl]
/-- a law is run by the engine: values that are set, the others old -/
theorem c_law {P S : MS} (hP : PLN P) (hC : CP P S) {w : Nat} (hw : w < 3) {pv : Nat → Int} (hp : pvok w pv) (hpv : ∀ j : Nat, j < 8 → alw w j = true → S 42 j = pv j) (hf : (∀ x, vt false (cfl_e S x)) ∧ ∀ x, vt false (cst_e S x)) :
    ∃ S', m_Co_run_e (S 46 w) (S 47 w) S = some (evC pv z0 z0 (lawC P w), S') ∧ FP_e S S' := by
  obtain ⟨a, h1, h2, h3, h4, h5⟩ := hC.2.2.2.2.2.2.1 w hw
  have ht := hP.2.2.2.2.2.2.1 w hw
  rw [h1, h2, ← f0_e (S := S) (q := w) (by omega) ht]
  exact c_run_e hp h4 h3 h5 hpv hf.1 hf.2 ht
/-- what the engine's code holds of feelings and steps (never asked there) is small -/
def CV (S : MS) : Prop := (∀ k, k < 4 → S 43 k = 0) ∧ ∀ k, k < 8 → S 44 k = 0
theorem CV.ok {S : MS} (h : CV S) : (∀ x, vt false (cfl_e S x)) ∧ ∀ x, vt false (cst_e S x) := by
  refine ⟨fun x => ?_, fun x => ?_⟩
  · show _ ∧ _
    unfold cfl_e
    split
    · rw [h.1 _ (by omega)]; omega
    · omega
  · show _ ∧ _
    unfold cst_e
    split
    · rw [h.2 _ (by omega)]; omega
    · omega
theorem CV.fe {S S' : MS} (h : CV S) (f : FE S S') : CV S' := by
  unfold CV
  rw [f.1 43 (by decide) (by decide) (by decide) (by decide) (by decide) (by decide), f.1 44 (by decide) (by decide) (by decide) (by decide) (by decide) (by decide)]
  exact h
theorem nCa_le {P : MS} (h : PLN P) : nCa P ≤ 12 := by unfold nCa; have := h.2.2.1; omega
theorem nOf_le {P : MS} (h : PLN P) : nOf P ≤ 8 := by unfold nOf; have := h.1; omega
theorem nFe_le {P : MS} (h : PLN P) : nFe P ≤ 4 := by unfold nFe; have := h.2.1; omega
theorem pass_day {P S : MS} (hC : CP P S) (h0 : S 31 5 = 0) (d d' : Int) (k : Nat) (b s : Int) : passV P d k b s = passV P d' k b s := by
  unfold passV evC
  rw [evS_day (pv' := pvP P d' s k (toC P k b).toNat) (fun i hi => by unfold pvP; simp only [hi, if_false]) (hC.2.2.2.2.2.2.2.1 h0 0 (by decide))]
theorem fade_day {P S : MS} (hC : CP P S) (h0 : S 31 5 = 0) (d d' s : Int) (o : Nat) : fadeV P d s o = fadeV P d' s o := by
  unfold fadeV evC
  rw [evS_day (pv' := pvF P d' s 0 o) (fun i hi => by unfold pvF; simp only [hi, if_false]) (hC.2.2.2.2.2.2.2.1 h0 1 (by decide))]
/-- the frame of one answer that is kept: the day and the stamp too -/
def FS (S S' : MS) : Prop := ∀ c, c ≠ 42 → c ≠ 45 → c ≠ 48 → c ≠ 49 → S' c = S c
theorem FS.rf (S : MS) : FS S S := fun _ _ _ _ _ => rfl
theorem FS.fe {S S' : MS} (h : FS S S') : FE S S' := ⟨fun c _ a2 a3 a4 a5 _ => h c a2 a3 a4 a5, fun k _ _ => by rw [h 30 (by decide) (by decide) (by decide) (by decide)]⟩
theorem c_setO {P S : MS} (hC : CP P S) {o : Nat} (ho : o < nOf P) (ho8 : o < 8) {d s : Int} : ∃ S', m_En_setOfficer o d s S = some S' ∧ (∀ c, c ≠ 42 → S' c = S c) ∧ (S' 42 0 = P 432 (17 + 2 * o) ∧ S' 42 1 = P 432 (16 + 2 * o) ∧ S' 42 2 = d ∧ S' 42 5 = s) := by
  obtain ⟨f1, f2⟩ := hC.2.2.2.2.1 o ho
  rw [e_En_setOfficer, if_pos (by omega), c_set (by omega), Option.bind_some, if_pos (by omega), c_set (by omega), Option.bind_some, c_set (by omega), Option.bind_some, c_set (by omega), Option.bind_some]
  simp only [Int.toNat_natCast, show (-1 - (-1 : Int)).toNat = 0 from rfl, show (-1 - (-2 : Int)).toNat = 1 from rfl, show (-1 - (-3 : Int)).toNat = 2 from rfl, show (-1 - (-6 : Int)).toNat = 5 from rfl]
  simp only [up_c (show (33 : Nat) ≠ 42 by decide), f1, f2]
  exact ⟨_, rfl, fun c hc => by rw [up_c hc, up_c hc, up_c hc, up_c hc], rfl, rfl, rfl, rfl⟩
