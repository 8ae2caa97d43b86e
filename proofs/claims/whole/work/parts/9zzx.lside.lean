/-! THE LAW: what its code does between the calls -/
section
variable {p : Program} {l : Launch} {e : Env} {R : Room} {s : State} {m : MethodId} {args : Array Value} {below : List Frame} {meth : Method} {c : Code} {H : Heap} {locs : List Loc} {cells slots : Nat} {Q : State → Prop} {ls : Array Slot} {b L i : Nat} {xs : Nat → Int32} {D : va_G}
def argAt (pc j : Nat) : Prop := decode code pc = .ok (.aload_n 0, 1) ∧ decode code (pc + 1) = .ok (.iload_n 3, 1) ∧ decode code (pc + 2) = .ok (.iconst (j : Int), 1) ∧ decode code (pc + 3) = .ok (.iadd, 1) ∧ decode code (pc + 4) = .ok (.iaload, 1)
def argsAt : Nat → List Nat → Prop
  | _, [] => True
  | pc, j :: js => argAt pc j ∧ argsAt (pc + 5) js
theorem nI_adz (i j : Nat) : nI i + Int32.ofInt (j : Int) = nI (i + j) := by
  induction j with
  | zero => show nI i + Int32.ofInt 0 = nI i; rw [show Int32.ofInt 0 = 0 from rfl, Int32.add_zero]
  | succ j ih => rw [show i + (j + 1) = (i + j) + 1 by omega, nI_succ, ← ih, show ((j + 1 : Nat) : Int) = (j : Int) + 1 by omega, Int32.ofInt_add, ← Int32.add_assoc]; rfl
theorem law_args (hx : p.tables.exec = Jvm.exec) (hb : c.code = code) (hX : va_X b L xs s s.heap) (hbl : b < s.heap.size) (hS : va_S (fun q : Nat => s.heap.size ≤ q) s.heap H locs) (h0 : ls[0]? = some (.val (.ref b))) (h3 : ls[3]? = some (.val (.int (nI i)))) (hiL : i + 6 ≤ L) (hL : L ≤ 3072) : ∀ (js : List Nat) (pc : Nat) (st : List Value), (∀ j ∈ js, j ≤ 5) → argsAt pc js → W p l e R s m args below meth c H locs cells slots Q (F0 m (pc + 5 * js.length) ls ((js.map fun j => Value.int (xs (i + j))).reverse ++ st)) → W p l e R s m args below meth c H locs cells slots Q (F0 m pc ls st) := by
  intro js
  induction js with
  | nil => intro pc st _ _ k; exact k
  | cons j js ih =>
    intro pc st hj ha k
    obtain ⟨⟨d0, d1, d2, d3, d4⟩, hr⟩ := ha
    have hj5 := hj j List.mem_cons_self
    refine lv_aload_n hx hb d0 rfl h0 ?_
    refine lv_iload_n hx hb d1 rfl h3 ?_
    refine lv_iconst hx hb d2 rfl ?_
    refine lv_iadd hx hb d3 ?_
    rw [nI_adz]
    refine va_sld hx hb hX hbl (Nat.not_le.mpr hbl) hS (vp_in_nI (show i + j < L by omega) (by omega)) d4 ?_
    rw [nI_clamp (by omega)]
    refine ih (pc + 5) (.int (xs (i + j)) :: st) (fun x hx => hj x (List.mem_cons_of_mem _ hx)) hr ?_
    rw [List.length_cons, show pc + 5 * (js.length + 1) = pc + 5 + 5 * js.length by omega, List.map_cons, List.reverse_cons, List.append_assoc] at k
    exact k
def lArgs (lo : Nat) (xs : Nat → Int32) (i : Nat) (js : List Nat) : List PV := vr lo :: js.map fun j => vi (xs (i + j)).toInt
theorem lArgs_enc (ad : Nat → Nat) (lo : Nat) (js : List Nat) : (lArgs lo xs i js).map (encV ad) = .ref (ad lo) :: js.map fun j => Value.int (xs (i + j)) := by
  unfold lArgs
  rw [List.map_cons, List.map_map]
  congr 1
  apply List.map_congr_left
  intro j _
  show Value.int (oi (xs (i + j)).toInt) = _
  rw [oi_back]
theorem lArgs_ok {lo n : Nat} (hn : lo < n) (js : List Nat) : ∀ v ∈ lArgs lo xs i js, okV lo n v := by
  intro v hv
  unfold lArgs at hv
  rcases List.mem_cons.mp hv with rfl | hv
  · exact Or.inl ⟨Nat.le_refl _, hn⟩
  · obtain ⟨j, -, rfl⟩ := List.mem_map.mp hv
    exact inA_toInt _
theorem lArgs_sum {lo : Nat} (js : List Nat) : ((lArgs lo xs i js).map pcat).sum = 1 + js.length := by
  unfold lArgs
  rw [List.map_cons, List.sum_cons, List.map_map]
  have : ∀ js : List Nat, (js.map (pcat ∘ fun j => vi (xs (i + j)).toInt)).sum = js.length := by
    intro js
    induction js with
    | nil => rfl
    | cons j js ih => rw [List.map_cons, List.sum_cons, ih, List.length_cons]; show 1 + js.length = _; omega
  rw [this]
  rfl
theorem lArgs_len {lo : Nat} (js : List Nat) : (lArgs lo xs i js).length = js.length + 1 := by unfold lArgs; rw [List.length_cons, List.length_map]
/-- one side of a case: the receiver, its arguments, the call -/
theorem law_side {k lo rl : Nat} {rk : Fin 4} {pc : Nat} {js : List Nat} {k' : Nat} {y : MethodName} {cc' : ByteArray} {nL' : Nat} {ret' : Option FieldType} {ci : Nat} {ad : Nat → Nat} {cA : Nat → ClassId} {RR : Nat → Nat → Nat} {S S' : MS} {C C' : MC} {r : Option PV} {rest : List Value}
    (hck : CKind l k RL code 4 (pc + 1 + 5 * js.length) ci k' y cc' nL' ret' (js.length + 1)) (hM : MX l k' y cc' nL' ret') (hC : Cx D RL code 4 ret false k p e R s m args meth c) (hX : LW D s lo C ad cA RR S H) (hS : va_S (fun q : Nat => s.heap.size ≤ q) s.heap H locs) (hls : ls.size = 4)
    (hXs : va_X b L xs s s.heap) (hbl : b < s.heap.size) (h0 : ls[0]? = some (.val (.ref b))) (h3 : ls[3]? = some (.val (.int (nI i)))) (hiL : i + 6 ≤ L) (hL : L ≤ 3072) (hr : ls[rl]? = some (.val (.ref (ad lo)))) (d0 : decode code pc = .ok (.aload_n rk, 1)) (hrk : (rk : Nat) = rl) (hj5 : ∀ j ∈ js, j ≤ 5) (ha : argsAt (pc + 1) js) (h1 : 1 + js.length ≤ nL') (hci : kt lo = ci) (hlo : lo < C.1) (hrest : (rest.map fun v => v.category).sum ≤ 8)
    (hcall : call k' (lArgs lo xs i js) (S, C) = some (r, (S', C'))) (hCC : C'.1 = C.1) (hroom : cells ≤ R.cells ∧ slots ≤ R.slots)
    (kk : ∀ (ad' : Nat → Nat) (cA' : Nat → ClassId) (RR' : Nat → Nat → Nat) (H' : Heap) (locs' : List Loc), (∀ b, b < C.1 ∨ b = 999 → ad' b = ad b) → LW D s lo C' ad' cA' RR' S' H' → va_S (fun q : Nat => s.heap.size ≤ q) s.heap H' locs' → (∀ q : Nat, q < H.size → ¬ (∃ b, lo ≤ b ∧ b < C.1 ∧ q = ad b) → H'[q]? = H[q]?) → W p l e R s m args below meth c H' locs' cells slots Q (F0 m (pc + 1 + 5 * js.length + 3) ls ((r.map (encV ad')).toList ++ rest))) :
    W p l e R s m args below meth c H locs cells slots Q (F0 m pc ls rest) := by
  refine lv_aload_n hC.1 hC.2.1 d0 hrk hr ?_
  refine law_args hC.1 hC.2.1 hXs hbl hS h0 h3 hiL hL js (pc + 1) _ hj5 ha ?_
  have hk := law_call hck hM hC hX hS hls (lArgs_ok hlo js) (by rw [lArgs_sum]; exact h1) (lArgs_len js) (fun _ => hci) hrest hcall (by rw [hCC, Nat.sub_self, Nat.sub_self]; exact hroom) (Q := Q) (below := below) (fun ad' cA' RR' H' locs' q1 q2 q3 q4 _ => by
    rw [hCC, Nat.sub_self, Nat.sub_self]
    exact kk ad' cA' RR' H' locs' q1 q2 q3 q4)
  rw [lArgs_enc, List.reverse_cons, List.append_assoc] at hk
  exact hk
/-- what a case comes to -/
def NXT (n : Nat) (S : MS) (C : MC) (T : MS) : Prop := ∃ P, (C = CD ∧ Inv n P S T) ∨ (C = CE ∧ Inv n P (swS S) T)
def apart (ad1 ad2 : Nat → Nat) : Prop := ∀ a b, 1 ≤ a → a < 135 → 401 ≤ b → b < 477 → ad1 a ≠ ad2 b
/-- the law's state between two calls of the script -/
def LST (D : va_G) (s : State) (n : Nat) (q1 q2 : Nat) (H : Heap) (locs : List Loc) : Prop := ∃ (ad1 : Nat → Nat) (cA1 : Nat → ClassId) (RR1 : Nat → Nat → Nat) (S : MS) (ad2 : Nat → Nat) (cA2 : Nat → ClassId) (RR2 : Nat → Nat → Nat) (T P : MS), LW D s 1 CD ad1 cA1 RR1 S H ∧ LW D s 401 CM ad2 cA2 RR2 T H ∧ apart ad1 ad2 ∧ (ad1 1 = q1 ∧ ad2 401 = q2) ∧ va_S (fun q : Nat => s.heap.size ≤ q) s.heap H locs ∧ Inv n P S T
theorem LST_next {n q1 q2 : Nat} {ad1 : Nat → Nat} {cA1 : Nat → ClassId} {RR1 : Nat → Nat → Nat} {S : MS} {ad2 : Nat → Nat} {cA2 : Nat → ClassId} {RR2 : Nat → Nat → Nat} {T : MS} {C : MC} (h1 : LW D s 1 C ad1 cA1 RR1 S H) (h2 : LW D s 401 CM ad2 cA2 RR2 T H) (h3 : apart ad1 ad2) (h4 : ad1 1 = q1 ∧ ad2 401 = q2) (h5 : va_S (fun q : Nat => s.heap.size ≤ q) s.heap H locs) (h6 : NXT n S C T) : LST D s n q1 q2 H locs := by
  obtain ⟨P, ⟨rfl, h⟩ | ⟨rfl, h⟩⟩ := h6
  · exact ⟨ad1, cA1, RR1, S, ad2, cA2, RR2, T, P, h1, h2, h3, h4, h5, h⟩
  · refine ⟨_, _, _, swS S, ad2, cA2, RR2, T, P, LW_sw h1, h2, fun a b a1 a2 b1 b2 => ?_, ⟨h4.1, h4.2⟩, h5, h⟩
    obtain ⟨s1, s2⟩ := sw_in ⟨a1, a2⟩
    exact h3 (sw a) b s1 s2 b1 b2
/-- both sides of a case, up to the comparison -/
theorem law_two {k n q1 q2 pc v1 pc2 v2 pc3 : Nat} {js : List Nat} {k1 k2 : Nat} {y1 y2 : MethodName} {cc1 cc2 : ByteArray} {nL1 nL2 : Nat} {ret1 ret2 : Option FieldType} (mk : Int → PV) (wk : Int → Value) (hmk : ∀ (ad : Nat → Nat) (z : Int), encV ad (mk z) = wk z) (hcat : ∀ z, (wk z).category ≤ 2)
    (hX : LST D s n q1 q2 H locs) (hC : Cx D RL code 4 ret false k p e R s m args meth c) (hXs : va_X b L xs s s.heap) (hbl : b < s.heap.size) (hl : lv_has ls 4 [(0, .ref b), (1, .ref q1), (2, .ref q2), (3, .int (nI i))]) (hiL : i + 6 ≤ L) (hL : L ≤ 3072) (hroom : cells ≤ R.cells ∧ slots ≤ R.slots) (hj5 : ∀ j ∈ js, j ≤ 5)
    (E1 : pc + 1 + 5 * js.length = v1) (E2 : v1 + 3 = pc2) (E3 : pc2 + 1 + 5 * js.length = v2) (E4 : v2 + 3 = pc3)
    (d1 : decode code pc = .ok (.aload_n 1, 1)) (a1 : argsAt (pc + 1) js) (ck1 : CKind l k RL code 4 v1 11 k1 y1 cc1 nL1 ret1 (js.length + 1)) (M1 : MX l k1 y1 cc1 nL1 ret1) (n1 : 1 + js.length ≤ nL1)
    (d2 : decode code pc2 = .ok (.aload_n 2, 1)) (a2 : argsAt (pc2 + 1) js) (ck2 : CKind l k RL code 4 v2 12 k2 y2 cc2 nL2 ret2 (js.length + 1)) (M2 : MX l k2 y2 cc2 nL2 ret2) (n2 : 1 + js.length ≤ nL2)
    (hop : ∀ P S T, Inv n P S T → ∃ z S' C' T', call k1 (lArgs 1 xs i js) (S, CD) = some (some (mk z), (S', C')) ∧ C'.1 = 135 ∧ call k2 (lArgs 401 xs i js) (T, CM) = some (some (mk z), (T', CM)) ∧ NXT (n + 1) S' C' T')
    (kk : ∀ (z : Int) (H' : Heap) (locs' : List Loc), LST D s (n + 1) q1 q2 H' locs' → W p l e R s m args below meth c H' locs' cells slots Q (F0 m pc3 ls [wk z, wk z])) :
    W p l e R s m args below meth c H locs cells slots Q (F0 m pc ls []) := by
  subst E1 E2 E3 E4
  obtain ⟨ad1, cA1, RR1, S, ad2, cA2, RR2, T, P, h1, h2, h3, ⟨h4, h4'⟩, h5, h6⟩ := hX
  obtain ⟨z, S', C', T', c1, cC, c2, hN⟩ := hop P S T h6
  refine law_side (rl := 1) ck1 M1 hC h1 h5 hl.1 hXs hbl (lv_at hl 0 rfl) (lv_at hl 3 rfl) hiL hL (by rw [h4]; exact lv_at hl 1 rfl) d1 rfl hj5 a1 n1 (by decide +kernel) (show 1 < 135 by decide) (by decide) c1 (by rw [cC]) hroom (fun ad1' cA1' RR1' H' locs' e1 e2 e3 e4 => ?_)
  have k2' : LW D s 401 CM ad2 cA2 RR2 T H' := h2.kept (fun b b1 b2 hlt => e4 (ad2 b) hlt (fun ⟨a, x1, x2, x3⟩ => h3 a b x1 x2 b1 b2 x3.symm))
  have hw1 : (some (mk z)).map (encV ad1') = some (wk z) := by rw [Option.map_some, hmk]
  rw [hw1]
  refine law_side (rl := 2) ck2 M2 hC k2' e3 hl.1 hXs hbl (lv_at hl 0 rfl) (lv_at hl 3 rfl) hiL hL (by rw [h4']; exact lv_at hl 2 rfl) d2 rfl hj5 a2 n2 (by decide +kernel) (show 401 < 477 by decide) ?_ c2 rfl hroom (fun ad2' cA2' RR2' H2 locs2 g1 g2 g3 g4 => ?_)
  · have := hcat z
    show (wk z).category + 0 ≤ 8
    omega
  have k1' : LW D s 1 C' ad1' cA1' RR1' S' H2 := e2.kept (fun a a1 a2 hlt => by
    rw [cC] at a2
    refine g4 (ad1' a) hlt (fun ⟨b, x1, x2, x3⟩ => ?_)
    rw [e1 a (Or.inl a2)] at x3
    exact h3 a b a1 a2 x1 x2 x3)
  have hw2 : (some (mk z)).map (encV ad2') = some (wk z) := by rw [Option.map_some, hmk]
  rw [hw2]
  refine kk z H2 locs2 (LST_next k1' g2 (fun a b a1 a2 b1 b2 => ?_) ⟨by rw [e1 1 (Or.inl (by decide))]; exact h4, by rw [g1 401 (Or.inl (by decide))]; exact h4'⟩ g3 hN)
  rw [e1 a (Or.inl a2), g1 b (Or.inl b2)]
  exact h3 a b a1 a2 b1 b2
end
