/-! turning: days under turned carbons; what is far does not matter -/
section
variable {n : Nat} {P S T : MS}
def xtu (w : Nat → Int) (A k : Nat) : Int := (w (2 + 2 * k) + ((bn A k : Nat) : Int)) % 2
def cg (P : MS) (w : Nat → Int) (A : Nat) : Nat → (Nat → Int) → Nat → Int
  | 0, c => c
  | t + 1, c => nxt P (w 0 + t) (inW w) (xtu w A) (cg P w A t c)
def e1N (P : MS) (k : Nat) : Nat := (P 433 (36 + 3 * k)).toNat
def e2N (P : MS) (k : Nat) : Nat := (P 433 (37 + 3 * k)).toNat
theorem ends_b (hP : PLN P) {k : Nat} (hk : k < nCa P) : (P 433 (36 + 3 * k) = (e1N P k : Nat) ∧ e1N P k < 8) ∧ P 433 (37 + 3 * k) = (e2N P k : Nat) ∧ e2N P k < 8 := by
  have h0 := toC_b hP hk 0
  have h1 := hP.1
  unfold toC frC at h0
  rw [if_pos rfl, if_pos rfl] at h0
  unfold e1N e2N
  omega
theorem ft_ends (P : MS) (k : Nat) (b : Int) : (toC P k b = P 433 (36 + 3 * k) ∧ frC P k b = P 433 (37 + 3 * k)) ∨ (toC P k b = P 433 (37 + 3 * k) ∧ frC P k b = P 433 (36 + 3 * k)) := by
  unfold toC frC
  by_cases c : b = 0
  · rw [if_pos c, if_pos c]; exact Or.inr ⟨rfl, rfl⟩
  · rw [if_neg c, if_neg c]; exact Or.inl ⟨rfl, rfl⟩
theorem sumA_loc {d : Int} {inb tub tub' s s' : Nat → Int} {o : Nat} (hP : PLN P) (hs : s o = s' o) (h : ∀ k, k < nCa P → inb k = 1 → (e1N P k = o ∨ e2N P k = o) → tub k = tub' k ∧ s (e1N P k) = s' (e1N P k) ∧ s (e2N P k) = s' (e2N P k)) : ∀ n : Nat, n ≤ nCa P → sumA P d inb tub s n o = sumA P d inb tub' s' n o := by
  intro n
  induction n with
  | zero => intro _; unfold sumA; rw [hs]
  | succ n ih =>
    intro hn
    obtain ⟨⟨a1, a2⟩, a3, a4⟩ := ends_b hP (show n < nCa P by omega)
    rw [sumA, sumA, ih (by omega)]
    by_cases c : inb n = 1 ∧ (e1N P n = o ∨ e2N P n = o)
    · obtain ⟨b1, b2, b3⟩ := h n (by omega) c.1 c.2
      have b4 : s (frC P n (tub' n)).toNat = s' (frC P n (tub' n)).toNat := by
        rcases ft_ends P n (tub' n) with ⟨-, e⟩ | ⟨-, e⟩
        · rw [e]; exact b3
        · rw [e]; exact b2
      rw [b1, b4]
    · rw [if_neg (fun q => c ⟨q.2.1, by rcases ft_ends P n (tub n) with ⟨e, -⟩ | ⟨e, -⟩ <;> omega⟩), if_neg (fun q => c ⟨q.2.1, by rcases ft_ends P n (tub' n) with ⟨e, -⟩ | ⟨e, -⟩ <;> omega⟩)]
theorem cg_loc {w : Nat → Int} {A A' N : Nat} {V : Nat → Nat → Prop} (hP : PLN P) (hV : ∀ d, d < N → ∀ k, k < nCa P → w (1 + 2 * k) = 1 → (V d (e1N P k) ∨ V d (e2N P k)) → bn A k = bn A' k ∧ V (d + 1) (e1N P k) ∧ V (d + 1) (e2N P k)) (hm : ∀ d, d < N → ∀ x, V d x → V (d + 1) x) (c : Nat → Int) : ∀ t d x, t + d ≤ N → V d x → cg P w A t c x = cg P w A' t c x := by
  intro t
  induction t with
  | zero => intro d x _ _; rfl
  | succ t ih =>
    intro d x hd hx
    rw [cg, cg]
    unfold nxt
    rw [sumA_loc hP (tub' := xtu w A') (s' := cg P w A' t c) (ih (d + 1) x (by omega) (hm d (by omega) x hx)) (fun k hk hi he => ?_) (nCa P) (Nat.le_refl _)]
    have hh : V d (e1N P k) ∨ V d (e2N P k) := by
      rcases he with e | e
      · left; rw [e]; exact hx
      · right; rw [e]; exact hx
    obtain ⟨b1, b2, b3⟩ := hV d (by omega) k hk hi hh
    refine ⟨by unfold xtu; rw [b1], ih (d + 1) _ (by omega) b2, ih (d + 1) _ (by omega) b3⟩
/-- a column of strengths -/
def COL (P : MS) (c : Nat → Int) : Prop := (∀ o, o < 8 → 0 ≤ c o ∧ c o ≤ 99) ∧ ∀ o, o < 8 → nOf P ≤ o → c o = 0
def FC (F : Int) (c : Nat → Int) : Prop := (0 ≤ F ∧ F < ((2 ^ 56 : Nat) : Int)) ∧ ∀ o, o < 8 → dg F o = c o
theorem COL_nxt {c : Nat → Int} {d : Int} {inb tub : Nat → Int} (hP : PLN P) (h : COL P c) : COL P (nxt P d inb tub c) := by
  have hO := nOf_le hP
  refine ⟨fun o _ => nxt_b _ _ _ _ _ _, fun o ho hn => ?_⟩
  have e : nxt P d inb tub c o = nxt P d inb tub (fun x => if x < 8 then c x else 0) o := nxt_congr hP (fun _ _ => rfl) (fun _ _ => rfl) (fun x hx => by rw [if_pos hx]) ho
  rw [e]
  refine nxt_out hP (fun x hx => ?_) hn
  split
  · rename_i h8; exact h.2 x h8 hx
  · rfl
theorem COL_cg {w : Nat → Int} {A : Nat} {c : Nat → Int} (hP : PLN P) (h : COL P c) : ∀ t, COL P (cg P w A t c) := by
  intro t
  induction t with
  | zero => exact h
  | succ t ih => exact COL_nxt hP ih
theorem cg_z {w : Nat → Int} {A : Nat} {c : Nat → Int} (hP : PLN P) (h : ∀ o, o < 8 → c o = 0) : ∀ t o, o < 8 → cg P w A t c o = 0 := by
  intro t
  induction t with
  | zero => exact h
  | succ t ih =>
    intro o ho
    have e : cg P w A (t + 1) c o = nxt P (w 0 + t) (inW w) (xtu w A) (fun _ => 0) o := nxt_congr hP (fun _ _ => rfl) (fun _ _ => rfl) ih ho
    rw [e]
    exact nxt_0 _ _ _ _ _ (fun _ => by omega) o
theorem c_nextC {d F inn tur : Int} {inb tub c : Nat → Int} (hP : PLN P) (hd : 0 ≤ d ∧ d ≤ 2000) (hC : COL P c) (hF : FC F c) (hi : (0 ≤ inn ∧ inn < 4096) ∧ ∀ k, k < 12 → bt inn k = inb k) (ht : (0 ≤ tur ∧ tur < 4096) ∧ ∀ k, k < 12 → bt tur k = tub k) (hE : EN P d S) : ∃ F' S', m_En_next F inn tur S = some (F', S') ∧ EN P d S' ∧ FN S S' ∧ FC F' (nxt P d inb tub c) := by
  have h12 := nCa_le hP
  obtain ⟨F', S', r1, r2, r3, r4, r5⟩ := c_next (inn := inn) (tur := tur) hP hd hF.1 (fun o ho => by rw [hF.2 o ho]; exact (hC.1 o ho).2) (fun o ho => by
    by_cases h8 : o < 8
    · rw [hF.2 o h8]; exact hC.2 o h8 ho
    · exact dg_out hF.1.1 hF.1.2 (by omega)) (by omega) (by omega) hE
  refine ⟨F', S', r1, r2, r3, r4, fun o ho => ?_⟩
  rw [r5 o ho]
  exact nxt_congr hP (fun k hk => hi.2 k (by omega)) (fun k hk => ht.2 k (by omega)) (fun x hx => hF.2 x hx) ho
theorem EN.fr {d : Int} {S S' : MS} (h : EN P d S) (e : ∀ c, 30 ≤ c → c < 50 → S' c = S c) : EN P d S' := by
  obtain ⟨h1, h2, h3⟩ := h.em.fr (S' := S') e
  exact ⟨h1, h2, h3, by rw [e 30 (by decide) (by decide)]; exact h.2.2.2⟩
/-! which carbons are near -/
theorem bt_two {a b : Nat} (ha : a < 8) (hb : b < 8) : (0 ≤ bor (shl 1 (a : Int)) (shl 1 (b : Int)) ∧ bor (shl 1 (a : Int)) (shl 1 (b : Int)) < 4096) ∧ ∀ x, bt (bor (shl 1 (a : Int)) (shl 1 (b : Int))) x = if x = a ∨ x = b then 1 else 0 := by
  have h1 : ∀ s : Nat, s < 8 → shl 1 (s : Int) = ((2 ^ s : Nat) : Int) := fun s hs => by rw [shl_1 (by omega) (by omega), Int.toNat_natCast]
  have ha' := pw_r (s := a) (by omega)
  have hb' := pw_r (s := b) (by omega)
  rw [h1 a ha, h1 b hb]
  refine ⟨bor_lt 12 (by decide) (by omega) (by omega) (by omega) (by omega), fun x => ?_⟩
  rw [bt_or (by omega) (by omega) (by omega) (by omega), bt_pow, bt_pow]
  by_cases c : x = a ∨ x = b
  · rw [if_pos c, if_pos (by rcases c with c | c <;> simp [c])]
  · rw [if_neg c, if_neg (fun q => c (by
      rcases q with q | q
      · split at q
        · left; omega
        · omega
      · split at q
        · right; omega
        · omega))]
theorem ends_0 {a b : Nat} (ha : a < 8) (hb : b < 8) {X : Int} (hX : 0 ≤ X ∧ X < 4096) : band (bor (shl 1 (a : Int)) (shl 1 (b : Int))) X = 0 ↔ ¬ (bt X a = 1 ∨ bt X b = 1) := by
  obtain ⟨r1, r2⟩ := bt_two ha hb
  have e : ∀ k, bt (band (bor (shl 1 (a : Int)) (shl 1 (b : Int))) X) k = if (k = a ∨ k = b) ∧ bt X k = 1 then 1 else 0 := fun k => by
    rw [bt_and (by omega) (by omega) (by omega) (by omega), r2 k]
    by_cases c : k = a ∨ k = b
    · rw [if_pos c]; by_cases c2 : bt X k = 1
      · rw [if_pos ⟨rfl, c2⟩, if_pos ⟨c, c2⟩]
      · rw [if_neg (fun q => c2 q.2), if_neg (fun q => c2 q.2)]
    · rw [if_neg c, if_neg (fun q => absurd q.1 (by decide)), if_neg (fun q => c q.1)]
  have hr : 0 ≤ band (bor (shl 1 (a : Int)) (shl 1 (b : Int))) X ∧ band (bor (shl 1 (a : Int)) (shl 1 (b : Int))) X < 4096 := by
    rw [band_nn (by omega) (by omega) (by omega) (by omega)]
    have hl : (bor (shl 1 (a : Int)) (shl 1 (b : Int))).toNat &&& X.toNat ≤ X.toNat := Nat.and_le_right
    omega
  have b0 : ∀ k, bt 0 k = 0 := fun k => by unfold bt; rw [Int.zero_ediv]; rfl
  constructor
  · intro h q
    rcases q with q | q
    · have := e a
      rw [h, b0, if_pos ⟨Or.inl rfl, q⟩] at this
      exact absurd this (by decide)
    · have := e b
      rw [h, b0, if_pos ⟨Or.inr rfl, q⟩] at this
      exact absurd this (by decide)
  · intro h
    refine bt_ext 12 hr.1 hr.2 (by decide) (by decide) (fun k _ => ?_)
    rw [e k, b0, if_neg (fun q => h (by
      rcases q.1 with c | c
      · left; rw [← c]; exact q.2
      · right; rw [← c]; exact q.2))]
def nearK (P : MS) (w : Nat → Int) (X : Int) (k : Nat) : Prop := k < nCa P ∧ w (1 + 2 * k) = 1 ∧ (bt X (e1N P k) = 1 ∨ bt X (e2N P k) = 1)
theorem c_near22 {w : Nat → Int} (hP : PLN P) (hC : CP P S) (hS : SWn S 24 w) {X : Int} (hX : 0 ≤ X ∧ X < 4096) {N : Int} {v : Nat} (hv : v < 1000) : ∀ (j K : Nat) (near wid : Int), K + j = nCa P → (0 ≤ near ∧ near < 4096) → (0 ≤ wid ∧ wid < 4096) → ∃ near' wid', Ro_carbonsNear_22 N X near v wid K S = Ro_carbonsNear_10 N wid' near' ((v + 1 : Nat) : Int) S ∧ (0 ≤ near' ∧ near' < 4096) ∧ (0 ≤ wid' ∧ wid' < 4096) ∧ (∀ k, bt near k = 1 → bt near' k = 1) ∧ (∀ x, bt wid x = 1 → bt wid' x = 1) ∧ (∀ k, K ≤ k → nearK P w X k → bt near' k = 1 ∧ bt wid' (e1N P k) = 1 ∧ bt wid' (e2N P k) = 1) ∧ ∀ k, bt near' k = 1 → bt near k = 1 ∨ (k < nCa P ∧ w (1 + 2 * k) = 1) := by
  have h3 := hP.2.2.1
  have h12 := nCa_le hP
  intro j
  induction j with
  | zero =>
    intro K near wid e hn hw
    rw [e_Ro_carbonsNear_22, hC.2.2.1, if_neg (by unfold nCa at e; omega), wr_succ hv (by decide)]
    exact ⟨near, wid, rfl, hn, hw, fun _ h => h, fun _ h => h, fun k k1 k2 => by have := k2.1; omega, fun _ h => Or.inl h⟩
  | succ j ih =>
    intro K near wid e hn hw
    have hK : K < nCa P := by omega
    obtain ⟨⟨a1, a2⟩, a3, a4⟩ := ends_b hP hK
    obtain ⟨c1, c2, -⟩ := hC.2.2.2.2.2.1 K hK
    have split : ∀ {k}, K ≤ k → k ≠ K → K + 1 ≤ k := fun h1 h2 => by omega
    rw [e_Ro_carbonsNear_22, hC.2.2.1, if_pos (by unfold nCa at hK; omega), if_pos (by omega), if_pos (by omega), c_isIn hS (by omega), Option.bind_some]
    dsimp only
    rw [Int.toNat_natCast, c1, c2, a1, a3, wr_succ (show K < 12 by omega) (by decide)]
    by_cases d1 : w (1 + 2 * K) = 1
    · rw [if_pos d1, if_neg n10]
      by_cases d2 : bt X (e1N P K) = 1 ∨ bt X (e2N P K) = 1
      · rw [if_neg (fun q => (ends_0 a2 a4 hX).mp q d2)]
        obtain ⟨b1, b2⟩ := bt_put (b := 1) (v := K) hn (Or.inr rfl) (by omega)
        obtain ⟨t1, t2⟩ := bt_two a2 a4
        have w1 := bor_lt (a := wid) (b := bor (shl 1 ((e1N P K : Nat) : Int)) (shl 1 ((e2N P K : Nat) : Int))) 12 (by decide) hw.1 (by omega) t1.1 (by omega)
        have w2 : ∀ x, bt (bor wid (bor (shl 1 ((e1N P K : Nat) : Int)) (shl 1 ((e2N P K : Nat) : Int)))) x = if bt wid x = 1 ∨ (x = e1N P K ∨ x = e2N P K) then 1 else 0 := fun x => by
          rw [bt_or (by omega) (by omega) (by omega) (by omega), t2 x]
          by_cases q : x = e1N P K ∨ x = e2N P K
          · rw [if_pos q, if_pos (Or.inr rfl), if_pos (Or.inr q)]
          · rw [if_neg q]
            by_cases q2 : bt wid x = 1
            · rw [if_pos (Or.inl q2), if_pos (Or.inl q2)]
            · rw [if_neg (fun g => g.elim (fun g => q2 g) (fun g => absurd g (by decide))), if_neg (fun g => g.elim (fun g => q2 g) (fun g => q g))]
        obtain ⟨near', wid', r1, r2, r3, r4, r5, r6, r7⟩ := ih (K + 1) _ _ (by omega) b1 ⟨w1.1, w1.2⟩
        refine ⟨near', wid', r1, r2, r3, fun k hk => r4 k (by rw [b2 k, if_pos (Or.inl hk)]), fun x hx => r5 x (by rw [w2 x, if_pos (Or.inl hx)]), fun k k1 k2 => ?_, fun k hk => ?_⟩
        · by_cases ck : k = K
          · subst ck
            exact ⟨r4 k (by rw [b2 k, if_pos (Or.inr ⟨rfl, rfl⟩)]), r5 _ (by rw [w2, if_pos (Or.inr (Or.inl rfl))]), r5 _ (by rw [w2, if_pos (Or.inr (Or.inr rfl))])⟩
          · exact r6 k (split k1 ck) k2
        · rcases r7 k hk with q | q
          · rw [b2 k] at q
            split at q
            · rename_i g
              rcases g with g | g
              · exact Or.inl g
              · right; rw [g.1]; exact ⟨hK, d1⟩
            · exact absurd q (by decide)
          · exact Or.inr q
      · rw [if_pos ((ends_0 a2 a4 hX).mpr d2)]
        obtain ⟨near', wid', r1, r2, r3, r4, r5, r6, r7⟩ := ih (K + 1) near wid (by omega) hn hw
        exact ⟨near', wid', r1, r2, r3, r4, r5, fun k k1 k2 => r6 k (split k1 (fun q => by subst q; exact d2 k2.2.2)) k2, r7⟩
    · rw [if_neg d1, if_pos rfl]
      obtain ⟨near', wid', r1, r2, r3, r4, r5, r6, r7⟩ := ih (K + 1) near wid (by omega) hn hw
      exact ⟨near', wid', r1, r2, r3, r4, r5, fun k k1 k2 => r6 k (split k1 (fun q => by subst q; exact d1 k2.2.1)) k2, r7⟩
theorem c_near10 {w : Nat → Int} (hP : PLN P) (hC : CP P S) (hS : SWn S 24 w) {N : Nat} (hN : N ≤ 1000) : ∀ (j v : Nat) (X near : Int), v + j = N → (0 ≤ X ∧ X < 4096) → (0 ≤ near ∧ near < 4096) → ∃ (near' : Int) (W : Nat → Int), Ro_carbonsNear_10 N X near v S = some (near', S) ∧ (0 ≤ near' ∧ near' < 4096) ∧ W v = X ∧ (∀ k, bt near k = 1 → bt near' k = 1) ∧ (∀ d, v ≤ d → d < N → (∀ x, bt (W d) x = 1 → bt (W (d + 1)) x = 1) ∧ ∀ k, nearK P w (W d) k → bt near' k = 1 ∧ bt (W (d + 1)) (e1N P k) = 1 ∧ bt (W (d + 1)) (e2N P k) = 1) ∧ ∀ k, bt near' k = 1 → bt near k = 1 ∨ (k < nCa P ∧ w (1 + 2 * k) = 1) := by
  intro j
  induction j with
  | zero =>
    intro v X near e hX hn
    rw [e_Ro_carbonsNear_10, if_neg (by omega)]
    exact ⟨near, fun _ => X, rfl, hn, rfl, fun _ h => h, fun d d1 d2 => by omega, fun _ h => Or.inl h⟩
  | succ j ih =>
    intro v X near e hX hn
    obtain ⟨n1, w1, r1, r2, r3, r4, r5, r6, r7⟩ := c_near22 (N := N) (v := v) hP hC hS hX (by omega) (nCa P) 0 near X (by omega) hn hX
    have r1 : Ro_carbonsNear_22 N X near v X 0 S = _ := r1
    obtain ⟨n2, W, q1, q2, q3, q4, q5, q6⟩ := ih (v + 1) w1 n1 (by omega) r3 r2
    rw [e_Ro_carbonsNear_10, if_pos (by omega), r1, q1]
    refine ⟨n2, fun d => if d = v then X else W d, rfl, q2, by (try dsimp only); rw [if_pos rfl], fun k hk => q4 k (r4 k hk), fun d d1 d2 => ?_, fun k hk => ?_⟩
    · (try dsimp only)
      by_cases c : d = v
      · subst c
        rw [if_pos rfl, if_neg (by omega), q3]
        refine ⟨r5, fun k hk => ?_⟩
        obtain ⟨g1, g2, g3⟩ := r6 k (by omega) hk
        exact ⟨q4 k g1, g2, g3⟩
      · rw [if_neg c, if_neg (by omega)]
        exact q5 d (by omega) d2
    · rcases q6 k hk with q | q
      · exact r7 k q
      · exact Or.inr q
/-- what is near: turning what is not does nothing -/
theorem c_near {w : Nat → Int} (hP : PLN P) (hC : CP P S) (hS : SWn S 24 w) {N o : Nat} (hN : N ≤ 1000) (ho : o < 8) : ∃ M : Nat, m_Ro_carbonsNear o N S = some ((M : Int), S) ∧ M < 4096 ∧ (∀ k, bn M k = 1 → k < nCa P ∧ w (1 + 2 * k) = 1) ∧ ∀ (A A' : Nat) (c : Nat → Int), (∀ k, bn M k = 1 → bn A k = bn A' k) → cg P w A N c o = cg P w A' N c o := by
  have hpr := pw_r (s := o) (by omega)
  have h1 : shl 1 (o : Int) = ((2 ^ o : Nat) : Int) := by rw [shl_1 (by omega) (by omega), Int.toNat_natCast]
  obtain ⟨near, W, r1, r2, r3, r4, r5, r6⟩ := c_near10 (w := w) hP hC hS hN N 0 (shl 1 (o : Int)) 0 (by omega) (by rw [h1]; omega) (by decide)
  have r1 : Ro_carbonsNear_10 N (shl 1 (o : Int)) 0 0 S = _ := r1
  obtain ⟨M, rfl⟩ : ∃ M : Nat, near = (M : Int) := ⟨near.toNat, by omega⟩
  rw [e_Ro_carbonsNear]
  refine ⟨M, r1, by omega, fun k hk => ?_, fun A A' c h => ?_⟩
  · rcases r6 k (by rw [bt_bn, hk]; rfl) with q | q
    · unfold bt at q; rw [Int.zero_ediv] at q; exact absurd q (by decide)
    · exact q
  · refine cg_loc (V := fun d x => bt (W d) x = 1) hP (fun d hd k hk hi he => ?_) (fun d hd x hx => (r5 d (by omega) hd).1 x hx) c N 0 o (by omega) (by (try dsimp only); rw [r3, h1, bt_pow, if_pos rfl])
    obtain ⟨g1, g2, g3⟩ := (r5 d (by omega) hd).2 k ⟨hk, hi, he⟩
    rw [bt_bn] at g1
    exact ⟨h k (by omega), g2, g3⟩
end
