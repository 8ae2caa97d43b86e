/-! WHAT IS TOLD: tokens -/
theorem bor_bv (x y : BitVec 32) : bor x.toInt y.toInt = (x ||| y).toInt := by
  rw [bor_eq]
  show (BitVec.ofInt 32 x.toInt ||| BitVec.ofInt 32 y.toInt).toInt = _
  rw [BitVec.ofInt_toInt, BitVec.ofInt_toInt]
def pkN (a b d : Nat) : Nat := a + 1024 * b + 2097152 * d
def pk (a b d : Nat) : Int := (BitVec.ofNat 32 (pkN a b d)).toInt
theorem pk_or {a b d : Nat} (ha : a < 1024) (hb : b < 2048) (hd : d < 2048) : bor (bor (a : Int) (shl (b : Int) 10)) (shl (d : Int) 21) = pk a b d := by
  have bi : ∀ n : Nat, n < 2147483648 → (n : Int) = (BitVec.ofNat 32 n).toInt := fun n hn => by
    rw [bvI32 _ (by rw [BitVec.toNat_ofNat]; omega), BitVec.toNat_ofNat]
    omega
  have s10 : shl (b : Int) 10 = ((b * 1024 : Nat) : Int) := by
    rw [shl_mul (by omega) (by decide) (by decide) (by rw [Int.toNat_natCast]; show b * 1024 < _; omega), show ((2 ^ (10 : Int).toNat : Nat) : Int) = 1024 from rfl]
    omega
  have s21 : shl (d : Int) 21 = (BitVec.ofInt 32 (d : Int) <<< 21).toInt := by
    rw [shl_eq]
    show (BitVec.ofInt 32 (d : Int) <<< ((BitVec.ofInt 32 ((21 : Nat) : Int) &&& 31#32).smod 32#32).toNat).toInt = _
    rw [sh32 21 (by decide)]
  rw [s10, s21, bi a (by omega), bi (b * 1024) (by omega), bor_bv, bor_bv]
  unfold pk
  congr 1
  apply BitVec.eq_of_toNat_eq
  rw [BitVec.toNat_or, BitVec.toNat_or, BitVec.toNat_ofNat, BitVec.toNat_ofNat, BitVec.toNat_shiftLeft, bv32 (by omega) (by omega), Int.toNat_natCast, BitVec.toNat_ofNat]
  have e1 : a ||| b * 1024 = b * 1024 + a := by
    rw [Nat.or_comm, show b * 1024 = b * 2 ^ 10 from rfl, ← Nat.shiftLeft_eq, ← Nat.shiftLeft_add_eq_or_of_lt (by omega)]
  have e2 : (b * 1024 + a) ||| d <<< 21 = d <<< 21 + (b * 1024 + a) := by
    rw [Nat.or_comm, ← Nat.shiftLeft_add_eq_or_of_lt (by omega)]
  have e3 : d <<< 21 = d * 2097152 := Nat.shiftLeft_eq d 21
  rw [Nat.mod_eq_of_lt (show a < 2 ^ 32 by omega), Nat.mod_eq_of_lt (show b * 1024 < 2 ^ 32 by omega), e1, Nat.mod_eq_of_lt (show d <<< 21 < 2 ^ 32 by omega), e2, e3]
  unfold pkN
  omega
theorem pk_dec {a b d : Nat} (ha : a < 1024) (hb : b < 2048) (hd : d < 2048) : band (pk a b d) 1023 = a ∧ band (shr (pk a b d) 10) 2047 = b ∧ ushr (pk a b d) 21 = d := by
  have hN : pkN a b d < 4294967296 := by unfold pkN; omega
  have hN' : pkN a b d = a + 1024 * b + 2097152 * d := rfl
  have hi : pk a b d = (pkN a b d : Int) ∨ pk a b d = (pkN a b d : Int) - 4294967296 := by
    unfold pk
    rw [BitVec.toInt_ofNat']
    unfold Int.bmod
    rw [show ((2 ^ 32 : Nat) : Int) = 4294967296 from rfl]
    dsimp only
    split <;> omega
  have hb2 : -2147483648 ≤ pk a b d ∧ pk a b d < 2147483648 := by
    have h1 := BitVec.toInt_lt (x := BitVec.ofNat 32 (pkN a b d))
    have h2 := BitVec.le_toInt (x := BitVec.ofNat 32 (pkN a b d))
    unfold pk
    exact ⟨by simpa using h2, by simpa using h1⟩
  refine ⟨?_, ?_, ?_⟩
  · rw [band_1023]; omega
  · rw [shr_div hb2.1 hb2.2 (by decide) (by decide), band_2047, show ((2 ^ (10 : Int).toNat : Nat) : Int) = 1024 from rfl]; omega
  · have e0 : ((BitVec.ofInt 32 ((21 : Nat) : Int) &&& 31#32) % 32#32).toNat = 21 := by decide
    rw [ushr_eq]
    show (BitVec.ofInt 32 (pk a b d) >>> ((BitVec.ofInt 32 ((21 : Nat) : Int) &&& 31#32) % 32#32).toNat).toInt = _
    rw [e0]
    unfold pk
    rw [BitVec.ofInt_toInt]
    have e : (BitVec.ofNat 32 (pkN a b d) >>> 21).toNat = d := by
      rw [BitVec.toNat_ushiftRight, BitVec.toNat_ofNat, Nat.mod_eq_of_lt hN, Nat.shiftRight_eq_div_pow]
      omega
    rw [bvI32 _ (by rw [e]; omega), e]
def letB (x : Int) : Bool := decide (97 ≤ x ∧ x ≤ 122)
def digB (x : Int) : Bool := decide (48 ≤ x ∧ x ≤ 57)
def endF (g : Nat → Int) (E : Nat) (q : Int → Bool) : Nat → Nat → Nat
  | 0, p => p
  | n + 1, p => if p < E ∧ q (g p) = true then endF g E q n (p + 1) else p
def endL (g : Nat → Int) (E : Nat) (q : Int → Bool) (p : Nat) : Nat := endF g E q (E - p) p
theorem endL_eq (g : Nat → Int) (E : Nat) (q : Int → Bool) (p : Nat) : endL g E q p = if p < E ∧ q (g p) = true then endL g E q (p + 1) else p := by
  unfold endL
  by_cases c : p < E
  · obtain ⟨n, hn⟩ : ∃ n, E - p = n + 1 := ⟨E - p - 1, by omega⟩
    rw [hn, endF, show E - (p + 1) = n by omega]
  · rw [show E - p = 0 by omega, endF, if_neg (fun h => c h.1)]
theorem endL_b (g : Nat → Int) (E : Nat) (q : Int → Bool) : ∀ n p : Nat, E - p = n → p ≤ E → p ≤ endL g E q p ∧ endL g E q p ≤ E ∧ (∀ i, p ≤ i → i < endL g E q p → q (g i) = true) ∧ (endL g E q p < E → q (g (endL g E q p)) = false) := by
  intro n
  induction n with
  | zero =>
    intro p h hp
    rw [endL_eq, if_neg (by omega)]
    exact ⟨Nat.le_refl _, hp, fun i a b => by omega, fun a => by omega⟩
  | succ n ih =>
    intro p h hp
    rw [endL_eq]
    by_cases c : p < E ∧ q (g p) = true
    · rw [if_pos c]
      obtain ⟨a, b, d, e⟩ := ih (p + 1) (by omega) (by omega)
      refine ⟨by omega, b, fun i i1 i2 => ?_, e⟩
      by_cases k : i = p
      · rw [k]; exact c.2
      · exact d i (by omega) i2
    · rw [if_neg c]
      refine ⟨Nat.le_refl _, hp, fun i a b => by omega, fun a => ?_⟩
      cases hq : q (g p)
      · rfl
      · exact absurd ⟨a, hq⟩ c
theorem endL_lt {g : Nat → Int} {E p : Nat} {q : Int → Bool} (h : p < E) (hq : q (g p) = true) : p < endL g E q p ∧ endL g E q p ≤ E := by
  rw [endL_eq, if_pos ⟨h, hq⟩]
  obtain ⟨a, b, -⟩ := endL_b g E q (E - (p + 1)) (p + 1) rfl (by omega)
  omega
/-- what stands from p to e -/
def segL (g : Nat → Int) (p e : Nat) : List Int := (List.range' p (e - p)).map g
def WRD : List (List Int) := [[111, 102, 102, 105, 99, 101, 114], [115, 104, 97, 112, 101], [112, 114, 101, 115, 115], [102, 101, 101, 108, 105, 110, 103], [99, 97, 114, 98, 111, 110], [116, 111], [115, 104, 101, 101, 116, 115], [102, 101, 108, 116], [111, 102], [105, 115], [112, 97, 115, 115, 101, 115], [102, 97, 100, 101, 115], [97, 99, 116, 115], [115, 108, 105, 112], [115, 116, 114, 101, 110, 103, 116, 104], [100, 97, 121], [102, 101, 101, 108], [110, 117, 109, 98, 101, 114], [102, 101, 101, 108, 115], [115, 116, 101, 112, 115], [111, 114], [97, 110, 100], [110, 111, 116], [97, 108, 108], [109, 105, 110], [109, 97, 120], [102, 105, 114, 115, 116], [108, 97, 115, 116], [111, 102, 116, 101, 110], [116, 111, 116, 97, 108], [109, 111, 115, 116], [108, 101, 97, 115, 116]]
/-- the number of the first that is l; as many as there are, when none -/
def wix (l : List Int) : List (List Int) → Nat
  | [] => 0
  | w :: ws => if l = w then 0 else wix l ws + 1
def wnum (l : List Int) : Nat := wix l WRD
theorem wix_le (l : List Int) : ∀ ws, wix l ws ≤ ws.length := by
  intro ws
  induction ws with
  | nil => exact Nat.le_refl _
  | cons w ws ih => rw [wix, List.length_cons]; split <;> omega
theorem wix_get {l : List Int} : ∀ (ws : List (List Int)) (k : Nat), ws.Nodup → k < ws.length → (wix l ws = k ↔ l = ws.getD k []) := by
  intro ws
  induction ws with
  | nil => intro k _ hk; exact absurd hk (Nat.not_lt_zero _)
  | cons w ws ih =>
    intro k hn hk
    rw [List.length_cons] at hk
    rw [List.nodup_cons] at hn
    rw [wix]
    cases k with
    | zero =>
      rw [List.getD_cons_zero]
      constructor
      · intro h; split at h
        · assumption
        · omega
      · intro h; rw [if_pos h]
    | succ k =>
      rw [List.getD_cons_succ]
      constructor
      · intro h
        split at h
        · omega
        · exact (ih k hn.2 (by omega)).mp (by omega)
      · intro h
        have hm : l ∈ ws := by
          rw [h, List.getD_eq_getElem?_getD, List.getElem?_eq_getElem (by omega), Option.getD_some]
          exact List.getElem_mem _
        rw [if_neg (fun (e : l = w) => hn.1 (by rw [← e]; exact hm)), (ih k hn.2 (by omega)).mpr h]
theorem wnum_iff {l : List Int} {k : Nat} (hk : k < 32) : wnum l = k ↔ l = WRD.getD k [] := wix_get WRD k (by decide) hk
theorem wnum_le (l : List Int) : wnum l ≤ 32 := wix_le l WRD
/-- a token: what, from, to -/
abbrev Tok := Nat × Nat × Nat
def lex (g : Nat → Int) (E : Nat) : Nat → Nat → Bool → List Tok
  | 0, _, _ => [(35, E, E)]
  | n + 1, p, b => if p < E then (if letB (g p) = true then ((if b = true then 34 else wnum (segL g p (endL g E letB p))), p, endL g E letB p) :: lex g E n (endL g E letB p) true else if digB (g p) = true then ((if b = true then 34 else 33), p, endL g E digB p) :: lex g E n (endL g E digB p) true else if g p = 10 ∨ g p = 32 then lex g E n (p + 1) false else (256 + (g p).toNat, p, p + 1) :: lex g E n (p + 1) false) else [(35, E, E)]
theorem lex_fuel (g : Nat → Int) (E : Nat) : ∀ n m p b, E - p ≤ n → E - p ≤ m → lex g E n p b = lex g E m p b := by
  intro n
  induction n with
  | zero =>
    intro m p b hn hm
    cases m with
    | zero => rfl
    | succ m => rw [lex, lex, if_neg (by omega)]
  | succ n ih =>
    intro m p b hn hm
    cases m with
    | zero => rw [lex, lex, if_neg (by omega)]
    | succ m =>
      rw [lex, lex]
      by_cases c : p < E
      · rw [if_pos c, if_pos c]
        by_cases c1 : letB (g p) = true
        · have := endL_lt c c1
          rw [if_pos c1, if_pos c1, ih m _ true (by omega) (by omega)]
        · rw [if_neg c1, if_neg c1]
          by_cases c2 : digB (g p) = true
          · have := endL_lt c c2
            rw [if_pos c2, if_pos c2, ih m _ true (by omega) (by omega)]
          · rw [if_neg c2, if_neg c2]
            rw [ih m (p + 1) false (by omega) (by omega)]
      · rw [if_neg c, if_neg c]
def LX (g : Nat → Int) (E p : Nat) (b : Bool) : List Tok := lex g E (E - p) p b
theorem LX_eq (g : Nat → Int) (E p : Nat) (b : Bool) : LX g E p b = if p < E then (if letB (g p) = true then ((if b = true then 34 else wnum (segL g p (endL g E letB p))), p, endL g E letB p) :: LX g E (endL g E letB p) true else if digB (g p) = true then ((if b = true then 34 else 33), p, endL g E digB p) :: LX g E (endL g E digB p) true else if g p = 10 ∨ g p = 32 then LX g E (p + 1) false else (256 + (g p).toNat, p, p + 1) :: LX g E (p + 1) false) else [(35, E, E)] := by
  by_cases c : p < E
  · unfold LX
    obtain ⟨n, hn⟩ : ∃ n, E - p = n + 1 := ⟨E - p - 1, by omega⟩
    rw [hn, lex, if_pos c, if_pos c]
    by_cases c1 : letB (g p) = true
    · have := endL_lt c c1
      rw [if_pos c1, if_pos c1, lex_fuel g E n (E - endL g E letB p) _ true (by omega) (by omega)]
    · rw [if_neg c1, if_neg c1]
      by_cases c2 : digB (g p) = true
      · have := endL_lt c c2
        rw [if_pos c2, if_pos c2, lex_fuel g E n (E - endL g E digB p) _ true (by omega) (by omega)]
      · rw [if_neg c2, if_neg c2, lex_fuel g E n (E - (p + 1)) _ false (by omega) (by omega)]
  · unfold LX
    rw [if_neg c, show E - p = 0 by omega, lex]
/-- what tokens are: an end, at the end; else from ahead of it, in order -/
def TOK (E : Nat) : Nat → List Tok → Prop
  | _, [] => False
  | p, t :: L => p ≤ t.2.1 ∧ t.2.1 ≤ t.2.2 ∧ t.2.2 ≤ E ∧ ((L = [] ∧ t = (35, E, E)) ∨ (t.2.1 < t.2.2 ∧ t.1 < 512 ∧ t.1 ≠ 35 ∧ TOK E t.2.2 L))
theorem TOK.mono {E p q : Nat} {L : List Tok} (h : TOK E p L) (hq : q ≤ p) : TOK E q L := by
  cases L with
  | nil => exact h
  | cons t L => obtain ⟨a, b⟩ := h; exact ⟨by omega, b⟩
theorem LX_tok {g : Nat → Int} {E : Nat} (hg : ∀ i, i < E → 0 ≤ g i ∧ g i ≤ 255) : ∀ n p b, E - p = n → p ≤ E → TOK E p (LX g E p b) := by
  intro n
  induction n using Nat.strongRecOn with
  | ind n ih =>
    intro p b hn hp
    rw [LX_eq]
    by_cases c : p < E
    · have hgp := hg p c
      rw [if_pos c]
      by_cases c1 : letB (g p) = true
      · have he := endL_lt c c1
        rw [if_pos c1]
        have hw := wnum_le (segL g p (endL g E letB p))
        exact ⟨Nat.le_refl _, Nat.le_of_lt he.1, he.2, Or.inr ⟨he.1, by (try dsimp only); split <;> omega, by (try dsimp only); split <;> omega, ih (E - endL g E letB p) (by omega) _ true rfl he.2⟩⟩
      · rw [if_neg c1]
        by_cases c2 : digB (g p) = true
        · have he := endL_lt c c2
          rw [if_pos c2]
          exact ⟨Nat.le_refl _, Nat.le_of_lt he.1, he.2, Or.inr ⟨he.1, by (try dsimp only); split <;> omega, by (try dsimp only); split <;> omega, ih (E - endL g E digB p) (by omega) _ true rfl he.2⟩⟩
        · rw [if_neg c2]
          have hn1 := ih (E - (p + 1)) (by omega) (p + 1) false rfl (by omega)
          by_cases c3 : g p = 10 ∨ g p = 32
          · rw [if_pos c3]; exact hn1.mono (by omega)
          · rw [if_neg c3]
            exact ⟨Nat.le_refl _, Nat.le_succ p, c, Or.inr ⟨Nat.lt_succ_self p, by (try dsimp only); omega, by (try dsimp only); omega, hn1⟩⟩
    · rw [if_neg c]
      exact ⟨hp, Nat.le_refl _, Nat.le_refl _, Or.inl ⟨rfl, rfl⟩⟩
theorem TOK.len {E : Nat} : ∀ {L : List Tok} {p : Nat}, TOK E p L → p ≤ E ∧ L.length ≤ E - p + 1 := by
  intro L
  induction L with
  | nil => intro p h; exact h.elim
  | cons t L ih =>
    intro p h
    obtain ⟨h1, h2, h3, ⟨rfl, -⟩ | ⟨h4, -, -, h5⟩⟩ := h
    · exact ⟨by omega, by rw [List.length_singleton]; omega⟩
    · obtain ⟨i1, i2⟩ := ih h5
      rw [List.length_cons]
      omega
