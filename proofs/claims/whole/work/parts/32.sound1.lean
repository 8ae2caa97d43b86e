/-! THE PURE MACHINE IS SOUND: numbers -/
def inA (z : Int) : Prop := -2147483648 ≤ z ∧ z < 2147483648
def inL (z : Int) : Prop := -9223372036854775808 ≤ z ∧ z < 9223372036854775808
abbrev oi (z : Int) : Int32 := Int32.ofInt z
abbrev ol (z : Int) : Int64 := Int64.ofInt z
theorem oi_toInt {z : Int} (h : inA z) : (oi z).toInt = z := Int32.toInt_ofInt_of_le (by have := h.1; omega) (by have := h.2; omega)
theorem ol_toInt {z : Int} (h : inL z) : (ol z).toInt = z := Int64.toInt_ofInt_of_le (by have := h.1; omega) (by have := h.2; omega)
theorem inA_toInt (x : Int32) : inA x.toInt := ⟨by have := Int32.le_toInt x; omega, by have := Int32.toInt_lt x; omega⟩
theorem inL_toInt (x : Int64) : inL x.toInt := ⟨by have := Int64.le_toInt x; omega, by have := Int64.toInt_lt x; omega⟩
theorem wr_bmod (z : Int) : wr z = z.bmod Int32.size := by
  show _ = z.bmod 4294967296
  unfold wr Int.bmod
  dsimp only
  split <;> omega
theorem wl_bmod (z : Int) : wl z = z.bmod Int64.size := by
  show _ = z.bmod 18446744073709551616
  unfold wl Int.bmod
  dsimp only
  split <;> omega
theorem inA_wr (z : Int) : inA (wr z) := by unfold inA wr; omega
theorem inL_wl (z : Int) : inL (wl z) := by unfold inL wl; omega
theorem oi_wr (z : Int) : oi (wr z) = oi z := by
  apply Int32.toInt_inj.mp
  rw [Int32.toInt_ofInt, Int32.toInt_ofInt, wr_bmod, Int.bmod_bmod]
theorem ol_wl (z : Int) : ol (wl z) = ol z := by
  apply Int64.toInt_inj.mp
  rw [Int64.toInt_ofInt, Int64.toInt_ofInt, wl_bmod, Int.bmod_bmod]
theorem oi_eq {a b : Int} (ha : inA a) (hb : inA b) : oi a = oi b ↔ a = b := ⟨fun h => by rw [← oi_toInt ha, ← oi_toInt hb, h], fun h => by rw [h]⟩
theorem oi_lt {a b : Int} (ha : inA a) (hb : inA b) : oi a < oi b ↔ a < b := by rw [Int32.lt_iff_toInt_lt, oi_toInt ha, oi_toInt hb]
theorem oi_le {a b : Int} (ha : inA a) (hb : inA b) : oi a ≤ oi b ↔ a ≤ b := by rw [Int32.le_iff_toInt_le, oi_toInt ha, oi_toInt hb]
theorem ol_eq {a b : Int} (ha : inL a) (hb : inL b) : ol a = ol b ↔ a = b := ⟨fun h => by rw [← ol_toInt ha, ← ol_toInt hb, h], fun h => by rw [h]⟩
theorem ol_lt {a b : Int} (ha : inL a) (hb : inL b) : ol a < ol b ↔ a < b := by rw [Int64.lt_iff_toInt_lt, ol_toInt ha, ol_toInt hb]
theorem inA_0 : inA 0 := by unfold inA; omega
theorem oi_0 : oi 0 = 0 := rfl
theorem ol_0 : ol 0 = 0 := rfl
theorem inA_L {z : Int} (h : inA z) : inL z := by unfold inA at h; unfold inL; omega
theorem oi_neg {a : Int} (ha : inA a) : oi a < 0 ↔ a < 0 := by rw [← oi_0, oi_lt ha inA_0]
theorem oi_nat {a : Int} (ha : inA a) : (oi a).toNatClampNeg = a.toNat := Int32.toNatClampNeg_ofInt_of_le (by have := ha.1; omega) (by have := ha.2; omega)
theorem vp_of {a : Int} {n : Int} (ha : inA a) (h : 0 ≤ a ∧ a < n) : vp_in (oi a) n.toNat := by
  unfold vp_in
  rw [oi_neg ha, oi_nat ha]
  omega
theorem inA_tmod {a b : Int} (ha : inA a) : inA (a.tmod b) := by
  unfold inA at ha ⊢
  have h := Int.natAbs_tmod a b
  have h2 : (a.tmod b).natAbs ≤ a.natAbs := by rw [h]; exact Nat.mod_le _ _
  by_cases h0 : 0 ≤ a
  · have := Int.tmod_nonneg b h0
    omega
  · have h1 : a.tmod b = -((-a).tmod b) := by rw [Int.neg_tmod, Int.neg_neg]
    have := Int.tmod_nonneg b (show 0 ≤ -a by omega)
    omega
theorem inL_tmod {a b : Int} (ha : inL a) : inL (a.tmod b) := by
  unfold inL at ha ⊢
  have h := Int.natAbs_tmod a b
  have h2 : (a.tmod b).natAbs ≤ a.natAbs := by rw [h]; exact Nat.mod_le _ _
  by_cases h0 : 0 ≤ a
  · have := Int.tmod_nonneg b h0
    omega
  · have h1 : a.tmod b = -((-a).tmod b) := by rw [Int.neg_tmod, Int.neg_neg]
    have := Int.tmod_nonneg b (show 0 ≤ -a by omega)
    omega
theorem oi_div {a b : Int} (ha : inA a) (hb : inA b) : oi a / oi b = oi (wr (a.tdiv b)) := by
  apply Int32.toInt_inj.mp
  rw [Int32.toInt_div, oi_wr, oi_toInt ha, oi_toInt hb]
  exact Int32.toInt_ofInt.symm
theorem ol_div {a b : Int} (ha : inL a) (hb : inL b) : ol a / ol b = ol (wl (a.tdiv b)) := by
  apply Int64.toInt_inj.mp
  rw [Int64.toInt_div, ol_wl, ol_toInt ha, ol_toInt hb]
  exact Int64.toInt_ofInt.symm
theorem oi_rem {a b : Int} (ha : inA a) (hb : inA b) : oi a - oi a / oi b * oi b = oi (a.tmod b) := by
  rw [oi_div ha hb, oi_wr, ← Int32.ofInt_mul, ← Int32.ofInt_sub]
  congr 1
  have := Int.tdiv_mul_add_tmod a b
  omega
theorem ol_rem {a b : Int} (ha : inL a) (hb : inL b) : ol a - ol a / ol b * ol b = ol (a.tmod b) := by
  rw [ol_div ha hb, ol_wl, ← Int64.ofInt_mul, ← Int64.ofInt_sub]
  congr 1
  have := Int.tdiv_mul_add_tmod a b
  omega
theorem oi_add (a b : Int) : oi a + oi b = oi (wr (a + b)) := by rw [oi_wr]; exact (Int32.ofInt_add a b).symm
theorem oi_sub (a b : Int) : oi a - oi b = oi (wr (a - b)) := by rw [oi_wr]; exact (Int32.ofInt_sub a b).symm
theorem oi_mul (a b : Int) : oi a * oi b = oi (wr (a * b)) := by rw [oi_wr]; exact (Int32.ofInt_mul a b).symm
theorem ol_add (a b : Int) : ol a + ol b = ol (wl (a + b)) := by rw [ol_wl]; exact (Int64.ofInt_add a b).symm
theorem ol_sub (a b : Int) : ol a - ol b = ol (wl (a - b)) := by rw [ol_wl]; exact (Int64.ofInt_sub a b).symm
theorem ol_mul (a b : Int) : ol a * ol b = ol (wl (a * b)) := by rw [ol_wl]; exact (Int64.ofInt_mul a b).symm
theorem oi_back (x : Int32) : oi x.toInt = x := Int32.ofInt_toInt x
theorem ol_back (x : Int64) : ol x.toInt = x := Int64.ofInt_toInt x
theorem ol_oi {a : Int} (ha : inA a) : (oi a).toInt64 = ol a := by
  apply Int64.toInt_inj.mp
  rw [Int32.toInt_toInt64, oi_toInt ha, ol_toInt (inA_L ha)]
theorem oi_ol (a : Int) : (ol a).toInt32 = oi (wr a) := by rw [oi_wr, Int64.toInt32_ofInt]
def ft_0 (k : Nat) : Nat := if k < 6 then (2) else (0)
def ft_1 (k : Nat) : Nat := if k < 3 then (2) else (0)
def ft_2 (k : Nat) : Nat := if k < 2 then (if k < 1 then (2) else (0)) else (if k < 6 then (2) else (0))
def ft_3 (k : Nat) : Nat := if k < 5 then (if k < 3 then (2) else (0)) else (if k < 6 then (2) else (0))
def ft_4 (k : Nat) : Nat := if k < 9 then (if k < 6 then (if k < 5 then (2) else (0)) else (if k < 8 then (2) else (0))) else (if k < 13 then (if k < 10 then (2) else (0)) else (if k < 15 then (3) else (0)))
def ft_5 (k : Nat) : Nat := if k < 3 then (if k < 2 then (2) else (0)) else (if k < 4 then (3) else (0))
def ft_6 (k : Nat) : Nat := if k < 1 then (2) else (0)
def ft_7 (k : Nat) : Nat := if k < 6 then (if k < 5 then (0) else (3)) else (if k < 17 then (2) else (0))
def ft_8 (k : Nat) : Nat := if k < 5 then (if k < 4 then (2) else (0)) else (if k < 7 then (2) else (0))
def ft_9 (k : Nat) : Nat := if k < 3 then (0) else (if k < 5 then (2) else (0))
def ft_10 (k : Nat) : Nat := if k < 2 then (if k < 1 then (2) else (0)) else (if k < 3 then (2) else (0))
def ft_11 (k : Nat) : Nat := if k < 12 then (if k < 11 then (2) else (0)) else (if k < 13 then (2) else (0))
def ft_12 (k : Nat) : Nat := if k < 65 then (if k < 46 then (if k < 10 then (if k < 1 then (2) else (if k < 9 then (0) else (2))) else (if k < 37 then (if k < 11 then (0) else (2)) else (if k < 38 then (0) else (2)))) else (if k < 56 then (if k < 49 then (0) else (if k < 51 then (2) else (0))) else (if k < 58 then (if k < 57 then (3) else (0)) else (if k < 64 then (2) else (0))))) else (if k < 98 then (if k < 71 then (if k < 67 then (2) else (if k < 68 then (0) else (2))) else (if k < 74 then (if k < 73 then (0) else (1)) else (if k < 97 then (2) else (0)))) else (if k < 104 then (if k < 102 then (if k < 99 then (2) else (0)) else (if k < 103 then (2) else (0))) else (if k < 106 then (if k < 105 then (1) else (3)) else (if k < 107 then (2) else (0)))))
/-- what a field, an element is: 0 int, 1 long, 2 a reference, 3 boolean -/
def ftC (c k : Nat) : Nat := if c < 9 then (if c < 4 then (if c < 2 then (if c < 1 then (ft_0 k) else (ft_1 k)) else (if c < 3 then (ft_2 k) else (ft_3 k))) else (if c < 6 then (if c < 5 then (ft_4 k) else (ft_5 k)) else (if c < 7 then (ft_6 k) else (if c < 8 then (ft_7 k) else (ft_8 k))))) else (if c < 13 then (if c < 11 then (if c < 10 then (ft_9 k) else (ft_10 k)) else (if c < 12 then (ft_11 k) else (ft_12 k))) else (if c < 22 then (if c < 21 then (0) else (1)) else (if c < 24 then (0) else (if c < 25 then (2) else (0)))))
def nfC (c : Nat) : Nat := if c < 7 then (if c < 3 then (if c < 1 then (6) else (if c < 2 then (4) else (6))) else (if c < 5 then (if c < 4 then (6) else (15)) else (if c < 6 then (4) else (3)))) else (if c < 10 then (if c < 8 then (17) else (if c < 9 then (8) else (6))) else (if c < 12 then (if c < 11 then (10) else (14)) else (if c < 13 then (108) else (0))))
def volC (c k : Nat) : Prop := (c = 1 ∧ k = 2) ∨ (c = 5 ∧ k = 1)
def szC (a : Nat) : Nat := if kt a < 20 then nfC (kt a) else (kl a).toNat
def zs : Nat → Nat
  | 0 => 0
  | n + 1 => zs n + szC n
def ataC (t : Nat) : FieldType := match t with
  | 21 => .long
  | 22 => .char
  | 23 => .boolean
  | 24 => .object "CarbonMinistry$State"
  | _ => .int
def nwl : List Cond := [.methodLinkNest "CarbonMinistry" 9 ⟨"CarbonMinistry$Text", "<init>", "()V"⟩ "CarbonMinistry", .methodLinkNest "CarbonMinistry$Plan" 59 ⟨"CarbonMinistry$Code", "<init>", "()V"⟩ "CarbonMinistry", .methodLinkNest "CarbonMinistry" 34 ⟨"CarbonMinistry$State", "<init>", "()V"⟩ "CarbonMinistry", .methodLinkNest "CarbonMinistry$History" 24 ⟨"CarbonMinistry$State", "<init>", "()V"⟩ "CarbonMinistry", .methodLinkNest "CarbonMinistry$Asker" 11 ⟨"CarbonMinistry$Code", "<init>", "()V"⟩ "CarbonMinistry", .methodLinkNest "CarbonMinistry$Clerk" 145 ⟨"CarbonMinistry", "strengthIn", "(JI)I"⟩ "CarbonMinistry", .methodLinkNest "CarbonMinistry$Clerk" 149 ⟨"CarbonMinistry", "packed", "(II)J"⟩ "CarbonMinistry", .methodLinkNest "CarbonMinistry$Clerk" 161 ⟨"CarbonMinistry$Grammar", "readTest", "(I)Z"⟩ "CarbonMinistry", .methodLinkNest "CarbonMinistry$Clerk" 164 ⟨"CarbonMinistry$Grammar", "readSum", "(I)Z"⟩ "CarbonMinistry", .methodLinkNest "CarbonMinistry$State" 51 ⟨"CarbonMinistry", "strengthIn", "(JI)I"⟩ "CarbonMinistry", .methodLinkNest "CarbonMinistry$Engine" 95 ⟨"CarbonMinistry", "strengthIn", "(JI)I"⟩ "CarbonMinistry", .methodLinkNest "CarbonMinistry$Engine" 109 ⟨"CarbonMinistry", "packed", "(II)J"⟩ "CarbonMinistry", .methodLinkNest "CarbonMinistry$Roads" 99 ⟨"CarbonMinistry", "strengthIn", "(JI)I"⟩ "CarbonMinistry", .methodLinkNest "CarbonMinistry$Finder" 110 ⟨"CarbonMinistry", "packed", "(II)J"⟩ "CarbonMinistry", .methodLinkNest "CarbonMinistry$Finder" 131 ⟨"CarbonMinistry", "strengthIn", "(JI)I"⟩ "CarbonMinistry", .methodLinkNest "CarbonMinistry$State" 55 ⟨"CarbonMinistry", "packed", "(II)J"⟩ "CarbonMinistry", .methodLinkNest "CarbonMinistry$Asker" 68 ⟨"CarbonMinistry$Grammar", "readTest", "(I)Z"⟩ "CarbonMinistry", .methodLinkNest "CarbonMinistry$Asker" 72 ⟨"CarbonMinistry$Grammar", "readSum", "(I)Z"⟩ "CarbonMinistry"]
def stT : String := "officer shape press feeling carbon to sheets felt of is passes fades acts slip strength day feel number feels steps or and not all min max first last often total most least "
def bytJ : List (List Int32) := [stC.map Int32.ofInt]
def lenJ : List Nat := [stC.length]
/-- the text constant: where it lies, and what the JDK's own statics hold -/
def strW (ad : Nat → Nat) (s : State) (A : Nat → Prop) : Prop := (∃ adV : Nat → Nat, vk_S 1 lenJ bytJ (fun _ => ad 999) adV A s s.heap) ∧ va_Z "java/lang/String" "COMPACT_STRINGS" "Z" (.int 1) A s s.heap ∧ va_Zq "jdk/internal/util/Preconditions" "SIOOBE_FORMATTER" "Ljava/util/function/BiFunction;" A s s.heap ∧ vk_R "CarbonMinistry$Text" 74 stT (ad 999) s
/-! worlds: the cells lo .. n - 1, at the addresses ad -/
def encV (ad : Nat → Nat) : PV → Value
  | .inl z => .int (oi z)
  | .inr (.inl z) => .long (ol z)
  | .inr (.inr a) => .ref (ad a)
def okV (lo n : Nat) : PV → Prop
  | .inl z => inA z
  | .inr (.inl z) => inL z
  | .inr (.inr a) => (lo ≤ a ∧ a < n) ∨ a = 999
def rvW (ad : Nat → Nat) (r : Nat) : Value := if r = 0 then .null else .ref (ad r)
def fvW (ad : Nat → Nat) (RR : Nat → Nat → Nat) (S : MS) (a k : Nat) : Value :=
  if ftC (kt a) k = 1 then .long (ol (S a k)) else if ftC (kt a) k = 2 then rvW ad (RR a k) else .int (oi (S a k))
def faW (ad : Nat → Nat) (RR : Nat → Nat → Nat) (S : MS) (a : Nat) : (Nat → Int32) ⊕ (Nat → Int64) ⊕ (Nat → UInt32) ⊕ (Nat → UInt64) ⊕ (Nat → Option Nat) :=
  if kt a = 21 then .inr (.inl fun j => ol (S a j)) else if kt a = 24 then .inr (.inr (.inr (.inr fun j => if RR a j = 0 then none else some (ad (RR a j))))) else .inl fun j => oi (S a j)
def clW (ad : Nat → Nat) (cA : Nat → ClassId) (RR : Nat → Nat → Nat) (S : MS) (a : Nat) : va_E :=
  if kt a < 20 then .inr (kt a, (List.range (nfC (kt a))).map (fvW ad RR S a)) else .inl (cA a, (kl a).toNat, faW ad RR S a)
def wsW (ad : Nat → Nat) (cA : Nat → ClassId) (RR : Nat → Nat → Nat) (S : MS) (lo n : Nat) : va_W := (List.range (n - lo)).map fun i => (ad (lo + i), clW ad cA RR S (lo + i))
theorem wsW_get {ad : Nat → Nat} {cA : Nat → ClassId} {RR : Nat → Nat → Nat} {S : MS} {lo n a : Nat} (h1 : lo ≤ a) (h2 : a < n) : (wsW ad cA RR S lo n)[a - lo]? = some (ad a, clW ad cA RR S a) := by
  unfold wsW
  rw [List.getElem?_map, List.getElem?_range (by omega)]
  simp only [Option.map_some]
  rw [show lo + (a - lo) = a by omega]
theorem wsW_at {ad : Nat → Nat} {cA : Nat → ClassId} {RR : Nat → Nat → Nat} {S : MS} {lo n k : Nat} {q : Nat × va_E} (h : (wsW ad cA RR S lo n)[k]? = some q) : ∃ a, lo ≤ a ∧ a < n ∧ k = a - lo ∧ q = (ad a, clW ad cA RR S a) := by
  unfold wsW at h
  rw [List.getElem?_map] at h
  obtain ⟨i, hi, hq⟩ := Option.map_eq_some_iff.mp h
  obtain ⟨h1, h2⟩ := List.getElem?_eq_some_iff.mp hi
  rw [List.length_range] at h1
  rw [List.getElem_range] at h2
  exact ⟨lo + i, by omega, by omega, by omega, hq.symm⟩
theorem wsW_set {ad : Nat → Nat} {cA : Nat → ClassId} {RR RR' : Nat → Nat → Nat} {S S' : MS} {lo n a : Nat} (h1 : lo ≤ a) (h2 : a < n) {x : va_E} (hx : x = clW ad cA RR' S' a) (h : ∀ b, b ≠ a → clW ad cA RR S b = clW ad cA RR' S' b) : (wsW ad cA RR S lo n).set (a - lo) (ad a, x) = wsW ad cA RR' S' lo n := by
  apply List.ext_getElem?
  intro k
  subst hx
  by_cases hk : k = a - lo
  · subst hk
    rw [List.getElem?_set_self (by unfold wsW; rw [List.length_map, List.length_range]; omega), wsW_get h1 h2]
  · rw [List.getElem?_set_ne (Ne.symm hk)]
    unfold wsW
    rw [List.getElem?_map, List.getElem?_map]
    cases hr : (List.range (n - lo))[k]? with
    | none => rfl
    | some i =>
      have hi := (List.getElem?_eq_some_iff.mp hr)
      obtain ⟨h3, h4⟩ := hi
      rw [List.getElem_range] at h4
      simp only [Option.map_some]
      rw [h (lo + i) (by omega)]
theorem wsW_eq {ad : Nat → Nat} {cA cA' : Nat → ClassId} {RR RR' : Nat → Nat → Nat} {S S' : MS} {ad' : Nat → Nat} {lo n : Nat} (h : ∀ b, lo ≤ b → b < n → ad b = ad' b ∧ clW ad cA RR S b = clW ad' cA' RR' S' b) : wsW ad cA RR S lo n = wsW ad' cA' RR' S' lo n := by
  unfold wsW
  apply List.map_congr_left
  intro i hi
  rw [List.mem_range] at hi
  obtain ⟨e1, e2⟩ := h (lo + i) (by omega) (by omega)
  rw [e1, e2]
theorem wsW_push {ad : Nat → Nat} {cA : Nat → ClassId} {RR : Nat → Nat → Nat} {S : MS} {lo n : Nat} (h : lo ≤ n) : wsW ad cA RR S lo (n + 1) = wsW ad cA RR S lo n ++ [(ad n, clW ad cA RR S n)] := by
  unfold wsW
  rw [show n + 1 - lo = (n - lo) + 1 by omega, List.range_succ, List.map_append]
  simp only [List.map_cons, List.map_nil]
  rw [show lo + (n - lo) = n by omega]
theorem clW_obj {ad : Nat → Nat} {cA : Nat → ClassId} {RR : Nat → Nat → Nat} {S : MS} {a : Nat} (h : kt a < 20) : clW ad cA RR S a = .inr (kt a, (List.range (nfC (kt a))).map (fvW ad RR S a)) := if_pos h
theorem clW_arr {ad : Nat → Nat} {cA : Nat → ClassId} {RR : Nat → Nat → Nat} {S : MS} {a : Nat} (h : ¬ kt a < 20) : clW ad cA RR S a = .inl (cA a, (kl a).toNat, faW ad RR S a) := if_neg h
/-- what one cell is does not hear of another one -/
theorem clW_congr {ad ad' : Nat → Nat} {cA cA' : Nat → ClassId} {RR RR' : Nat → Nat → Nat} {S S' : MS} {a : Nat} (hc : cA a = cA' a) (hS : ∀ k, S a k = S' a k) (hR : ∀ k, rvW ad (RR a k) = rvW ad' (RR' a k)) : clW ad cA RR S a = clW ad' cA' RR' S' a := by
  have hF : fvW ad RR S a = fvW ad' RR' S' a := by
    funext k
    unfold fvW
    rw [hS k, hR k]
  have hA : faW ad RR S a = faW ad' RR' S' a := by
    unfold faW
    by_cases h1 : kt a = 21
    · rw [if_pos h1, if_pos h1]; congr 2; funext j; rw [hS j]
    · rw [if_neg h1, if_neg h1]
      by_cases h2 : kt a = 24
      · rw [if_pos h2, if_pos h2]
        congr 4
        funext j
        have h3 := hR j
        unfold rvW at h3
        by_cases e1 : RR a j = 0 <;> by_cases e2 : RR' a j = 0
        · simp [e1, e2]
        · simp [e1, e2] at h3
        · simp [e1, e2] at h3
        · simp only [e1, e2, if_false] at h3 ⊢
          injection h3 with h3
          rw [h3]
      · rw [if_neg h2, if_neg h2]; congr 1; funext j; rw [hS j]
  unfold clW
  rw [hF, hA, hc]
theorem set_map_range {N k : Nat} (f g : Nat → Value) (v : Value) (hk : k < N) (hv : g k = v) (h : ∀ j, j ≠ k → f j = g j) : ((List.range N).map f).set k v = (List.range N).map g := by
  apply List.ext_getElem?
  intro j
  by_cases hj : j = k
  · subst hj
    rw [List.getElem?_set_self (by rw [List.length_map, List.length_range]; exact hk), List.getElem?_map, List.getElem?_range hk]
    simp [hv]
  · rw [List.getElem?_set_ne (Ne.symm hj), List.getElem?_map, List.getElem?_map]
    cases hr : (List.range N)[j]? with
    | none => rfl
    | some i =>
      obtain ⟨h3, h4⟩ := List.getElem?_eq_some_iff.mp hr
      rw [List.getElem_range] at h4
      simp only [Option.map_some]
      rw [h i (by omega)]
theorem get_map_range {N k : Nat} (f : Nat → Value) (hk : k < N) : ((List.range N).map f)[k]? = some (f k) := by
  rw [List.getElem?_map, List.getElem?_range hk]; rfl
/-- what the numbers keep to -/
def PFt (lo : Nat) (RR : Nat → Nat → Nat) (M : PM) : Prop :=
  (∀ a k, ftC (kt a) k = 1 → inL (M.1 a k)) ∧ (∀ a k, ftC (kt a) k ≠ 1 → inA (M.1 a k)) ∧
  (∀ a k, RR a k = 0 ∨ (lo ≤ RR a k ∧ RR a k < M.2.1)) ∧
  (∀ a k, lo ≤ a → a < M.2.1 → ftC (kt a) k = 2 → k < szC a → (M.1 a k = 1 ∨ (M.2.2.1 = 1 ∧ ¬ volC (kt a) k)) → RR a k = rfC M.2.2.2.1 M.2.2.2.2 a k ∧ RR a k ≠ 0) ∧
  lo ≤ M.2.1 ∧ (M.2.2.1 = 0 → ∀ a, M.2.1 ≤ a → ∀ k, M.1 a k = 0 ∧ RR a k = 0) ∧ (lo = 1 ∨ lo = 401) ∧ M.2.1 ≤ 900
/-- the world of a method that has begun in s -/
def Rel (D : va_G) (lo n0 : Nat) (A : Nat → Prop) (s : State) (ad : Nat → Nat) (cA : Nat → ClassId) (RR : Nat → Nat → Nat) (M : PM) (H : Heap) (locs : List Loc) (cells slots : Nat) : Prop :=
  PFt lo RR M ∧ va_P D vwCl (wsW ad cA RR M.1 lo M.2.1) H ∧ va_D A (wsW ad cA RR M.1 lo M.2.1) ∧ va_S A s.heap H locs ∧ (∀ q, s.heap.size ≤ q → A q) ∧
  (∀ a, lo ≤ a → a < M.2.1 → 20 ≤ kt a → ArrOfT s (cA a) (ataC (kt a)) ∧ va_RA s (cA a) (ataC (kt a))) ∧
  n0 ≤ M.2.1 ∧ cells + n0 = M.2.1 ∧ slots + zs n0 = zs M.2.1 ∧ strW ad s A
