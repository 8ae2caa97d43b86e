/-! texts: the JDK's length() and charAt(int), walked by hand -/
def SJ (q : Nat) (A : Nat → Prop) (U : State) (H : Heap) : Prop := (∃ adV : Nat → Nat, vk_S 1 lenJ bytJ (fun _ => q) adV A U H) ∧ va_Z "java/lang/String" "COMPACT_STRINGS" "Z" (.int 1) A U H ∧ va_Zq "jdk/internal/util/Preconditions" "SIOOBE_FORMATTER" "Ljava/util/function/BiFunction;" A U H
abbrev Aof (U : State) : Nat → Prop := fun x => U.heap.size ≤ x
theorem SJ.same {q : Nat} {u U : State} {A : Nat → Prop} (h : SJ q A u u.heap) (hh : U.heap = u.heap) (hv : U.vm = u.vm) : SJ q A U U.heap := by
  obtain ⟨⟨adV, h1⟩, h2, h3⟩ := h
  have e : u.vm.Alike U.vm := by rw [hv]; exact Vm.Alike.refl _
  unfold SJ
  rw [hh]
  exact ⟨⟨adV, h1.moved e⟩, h2.moved e, h3.moved e⟩
theorem SJ.warm {q : Nat} {s U : State} {A B : Nat → Prop} {H : Heap} {locs : List Loc} (h : SJ q A s s.heap) (hS : va_S A s.heap H locs) (hAB : ∀ q, B q → A q) (hU : U.heap = H) (hW : s.WarmedH U.vm) : SJ q B U U.heap := by
  obtain ⟨⟨adV, h1⟩, h2, h3⟩ := h
  have hk : ∀ a : Nat, a < s.heap.size → ¬ A a → U.heap[a]? = s.heap[a]? := fun a h1 h2 => by rw [hU]; exact hS.2.1 a h1 h2
  exact ⟨⟨adV, ((h1.kept hk).moved hW.alike).narrow hAB⟩, ((h2.kept hk).moved hW.alike).narrow hAB, ((h3.kept hk).moved hW.alike).narrow hAB⟩
theorem va_T_warm {ty : FieldType} {t N : Nat} {f : Nat → Value} {s U : State} {A B : Nat → Prop} {H : Heap} {locs : List Loc} (h : va_T ty t N f A s s.heap) (hS : va_S A s.heap H locs) (hAB : ∀ q, B q → A q) (hU : U.heap = H) (hW : s.WarmedH U.vm) : va_T ty t N f B U U.heap := by
  have hk : ∀ a : Nat, a < s.heap.size → ¬ A a → U.heap[a]? = s.heap[a]? := fun a h1 h2 => by rw [hU]; exact hS.2.1 a h1 h2
  exact ((h.kept hk).moved hW.alike).narrow hAB
theorem aof_of {s U : State} {H : Heap} {locs : List Loc} (hS : va_S (Aof s) s.heap H locs) (hU : U.heap = H) : ∀ q, Aof U q → Aof s q := fun q h => Nat.le_trans hS.1 (by rw [← hU]; exact h)
/-- where a walk by hand begins -/
theorem jw_in {l : Launch} {p : Program} {y : MethodName} {cc : ByteArray} {nL : Nat} {ret : Option FieldType} {j : Nat} {e : Env} {s : State} {m : MethodId} {args : Array Value} {below : List Frame} {meth : Method} {c : Code} {s₁ : State} (B : BodyLoose p l y (headSpec (.code y cc nL ret :: BIG) (rmK j 0 0)) cc nL ret e s m args below meth c s₁) : (∀ w ∈ BIG, w.before args s = true) ∧ s.vm.findClass y.cls = some m.cls :=
  ⟨fun w h => atoms_spec (ws := .code y cc nL ret :: BIG) B.pre w (List.mem_cons_of_mem _ h), findClass_of_methodNamed B.named⟩
theorem mj_coder {l : Launch} {q : Nat} : Met l yJ0_coder_7d493 (.code yJ0_coder_7d493 cJ0_coder_7d493 1 (some .byte) :: BIG) (rmK 0 0 0) (fun v U => v = #[.ref q] ∧ SJ q (Aof U) U U.heap) (k2_QcV (.int 0)) 0 0 (fun _ => False) := by
  refine Met.ofW (cc := cJ0_coder_7d493) (maxL := 1) (ret := some .byte) (by decide) rfl ?_
  intro p e s m args below meth c s₁ B hml hv
  obtain ⟨hargs, ⟨adV, hV⟩, hZ, hQ⟩ := hv
  subst hargs
  obtain ⟨hw, hown⟩ := jw_in B
  have hS : va_S (Aof s) s.heap s.heap [] := va_S.rf
  rw [show (#[Value.ref q]) = [Value.ref q].toArray from rfl, lg_entry_eq]
  have hl := lv_entry [Value.ref q] (n := 1) (Nat.le_refl _)
  refine va_gets B.exec B.bytes hZ hS hown (hw _ w_721) (fun _ h => h) dJ0_coder_7d493_0 ?_
  refine lv_if_eq B.exec B.bytes dJ0_coder_7d493_3 (tgt := 13) (by decide) (fun h => absurd h (by decide)) (fun _ => ?_)
  refine lv_aload_n (x := q) B.exec B.bytes dJ0_coder_7d493_6 (i := 0) rfl (lv_at hl 0 rfl) ?_
  refine vk_getf B.exec B.bytes (hV.1 0 (by decide)).2.1 hS hown (hw _ w_2242) (fun _ h => h) dJ0_coder_7d493_7 ?_
  refine lv_goto B.exec B.bytes (tgt := 14) dJ0_coder_7d493_10 (by decide) ?_
  exact W.zret B.exec B.bytes B.returns rfl (fun t ht _ => ⟨rfl, ht⟩) (fun q h => by cases h) dJ0_coder_7d493_14 B.notSynchronized
theorem mj_isLatin1 {l : Launch} {q : Nat} : Met l yJ0_isLatin1_aae02 (.code yJ0_isLatin1_aae02 cJ0_isLatin1_aae02 1 (some .boolean) :: BIG) (rmK 0 0 0) (fun v U => v = #[.ref q] ∧ SJ q (Aof U) U U.heap) (k2_QcV (.int 1)) 0 0 (fun _ => False) := by
  refine Met.ofW (cc := cJ0_isLatin1_aae02) (maxL := 1) (ret := some .boolean) (by decide) rfl ?_
  intro p e s m args below meth c s₁ B hml hv
  obtain ⟨hargs, ⟨adV, hV⟩, hZ, hQ⟩ := hv
  subst hargs
  obtain ⟨hw, hown⟩ := jw_in B
  have hS : va_S (Aof s) s.heap s.heap [] := va_S.rf
  rw [show (#[Value.ref q]) = [Value.ref q].toArray from rfl, lg_entry_eq]
  have hl := lv_entry [Value.ref q] (n := 1) (Nat.le_refl _)
  refine va_gets B.exec B.bytes hZ hS hown (hw _ w_721) (fun _ h => h) dJ0_isLatin1_aae02_0 ?_
  refine lv_if_eq B.exec B.bytes dJ0_isLatin1_aae02_3 (tgt := 17) (by decide) (fun h => absurd h (by decide)) (fun _ => ?_)
  refine lv_aload_n (x := q) B.exec B.bytes dJ0_isLatin1_aae02_6 (i := 0) rfl (lv_at hl 0 rfl) ?_
  refine vk_getf B.exec B.bytes (hV.1 0 (by decide)).2.1 hS hown (hw _ w_2242) (fun _ h => h) dJ0_isLatin1_aae02_7 ?_
  refine lv_if_ne B.exec B.bytes dJ0_isLatin1_aae02_10 (tgt := 17) (by decide) (fun h => absurd rfl h) (fun _ => ?_)
  refine lv_iconst B.exec B.bytes dJ0_isLatin1_aae02_13 rfl ?_
  refine lv_goto B.exec B.bytes (tgt := 18) dJ0_isLatin1_aae02_14 (by decide) ?_
  exact W.zret B.exec B.bytes B.returns rfl (fun t ht _ => ⟨rfl, ht⟩) (fun q h => by cases h) dJ0_isLatin1_aae02_18 B.notSynchronized
theorem mj_checkP {l : Launch} {i n : Int32} {x : Value} (hi : ¬ i < 0) (hn : i < n) (hx : x = .null ∨ ∃ t : Nat, x = .ref t) : Met l yJ3_checkIndex_8e157 (.code yJ3_checkIndex_8e157 cJ3_checkIndex_8e157 3 (some .int) :: BIG) (rmK 0 0 0) (fun v U => v = #[.int i, .int n, x]) (k2_QcV (.int i)) 0 0 (fun _ => False) := by
  refine Met.ofW (cc := cJ3_checkIndex_8e157) (maxL := 3) (ret := some .int) (by decide) rfl ?_
  intro p e s m args below meth c s₁ B hml hv
  subst hv
  rw [show (#[Value.int i, .int n, x]) = [Value.int i, .int n, x].toArray from rfl, lg_entry_eq]
  have hl := lv_entry [Value.int i, .int n, x] (n := 3) (by rcases hx with rfl | ⟨t, rfl⟩ <;> exact Nat.le_refl _)
  refine lv_iload_n (x := i) B.exec B.bytes dJ3_checkIndex_8e157_0 (i := 0) rfl (lv_at hl 0 rfl) ?_
  refine lv_if_lt B.exec B.bytes dJ3_checkIndex_8e157_1 (tgt := 9) (by decide) (fun h => absurd h hi) (fun _ => ?_)
  refine lv_iload_n (x := i) B.exec B.bytes dJ3_checkIndex_8e157_4 (i := 0) rfl (lv_at hl 0 rfl) ?_
  refine lv_iload_n (x := n) B.exec B.bytes dJ3_checkIndex_8e157_5 (i := 1) rfl (lv_at hl 1 rfl) ?_
  refine lv_icmp_lt B.exec B.bytes dJ3_checkIndex_8e157_6 (tgt := 16) (by decide) (fun _ => ?_) (fun h => absurd hn h)
  refine lv_iload_n (x := i) B.exec B.bytes dJ3_checkIndex_8e157_16 (i := 0) rfl (lv_at hl 0 rfl) ?_
  exact W.iret B.exec B.bytes B.returns (fun t ht _ => ⟨rfl, ht⟩) (fun q h => by cases h) dJ3_checkIndex_8e157_17 B.notSynchronized
theorem mj_checkS {l : Launch} {i n : Int32} (hi : ¬ i < 0) (hn : i < n) : Met l yJ0_checkIndex_df160 (.code yJ0_checkIndex_df160 cJ0_checkIndex_df160 2 none :: BIG) (rmK 1 0 0) (fun v U => v = #[.int i, .int n] ∧ va_Zq "jdk/internal/util/Preconditions" "SIOOBE_FORMATTER" "Ljava/util/function/BiFunction;" (Aof U) U U.heap) (fun _ st o t => o = .returned none ∧ t.heap = st.heap) 0 0 (fun _ => False) := by
  refine Met.ofW (cc := cJ0_checkIndex_df160) (maxL := 2) (ret := none) (by decide) rfl ?_
  intro p e s m args below meth c s₁ B hml hv
  obtain ⟨hargs, hQ⟩ := hv
  subst hargs
  obtain ⟨hw, hown⟩ := jw_in B
  have hS : va_S (Aof s) s.heap s.heap [] := va_S.rf
  rw [show (#[Value.int i, .int n]) = [Value.int i, .int n].toArray from rfl, lg_entry_eq]
  have hl := lv_entry [Value.int i, .int n] (n := 2) (by simp [lg_sl, Value.category])
  have hX : ∃ x, (x = Value.null ∨ ∃ t : Nat, x = .ref t) ∧ va_Z "jdk/internal/util/Preconditions" "SIOOBE_FORMATTER" "Ljava/util/function/BiFunction;" x (Aof s) s s.heap := by
    rcases hQ with h | ⟨t, h⟩
    · exact ⟨_, Or.inl rfl, h⟩
    · exact ⟨_, Or.inr ⟨t, rfl⟩, h⟩
  obtain ⟨x, hx, hZ⟩ := hX
  refine lv_iload_n (x := i) B.exec B.bytes dJ0_checkIndex_df160_0 (i := 0) rfl (lv_at hl 0 rfl) ?_
  refine lv_iload_n (x := n) B.exec B.bytes dJ0_checkIndex_df160_1 (i := 1) rfl (lv_at hl 1 rfl) ?_
  refine va_gets B.exec B.bytes hZ hS hown (hw _ w_737) (fun _ h => h) dJ0_checkIndex_df160_2 ?_
  refine W.callV (r := .int i) (rest := []) (va_Run.run (va_runS (Ts := BIG) (own := RJ0) (As := [.int i, .int n, x]) (rest := []) ⟨B.exec, B.bytes, hml, hown, hw⟩ (mj_checkP hi hn hx) (va_cwS 3 hw (BIG_ws (mem3 w_739 w_740 w_162) w_741) rfl rfl rfl (by decide) (by decide)) ⟨fun v U g mk h => h, fun U hU hW => rfl⟩ rfl rfl hl.1 rfl (lv_room (by decide)) dJ0_checkIndex_df160_5 ⟨Nat.le_refl _, Nat.le_refl _⟩)) ?_
  refine lv_pop B.exec B.bytes dJ0_checkIndex_df160_8 rfl ?_
  exact W.vret B.exec B.bytes B.returns (fun t ht _ => ⟨rfl, ht⟩) (fun q h => by cases h) dJ0_checkIndex_df160_9 B.notSynchronized
theorem jw_void {p : Program} {l : Launch} {e : Env} {R : Room} {s : State} {m : MethodId} {args : Array Value} {below : List Frame} {meth : Method} {c : Code} {H : Heap} {locs : List Loc} {cells slots : Nat} {Q : State → Prop} {g : JFrame} {rest : List Value} (hr : CallRun p l e R s m args below meth c H locs cells slots 0 0 g rest (fun st o t => o = .returned none ∧ t.heap = st.heap) (fun _ => False)) (kk : W p l e R s m args below meth c H locs cells slots Q { g with pc := g.pc + 3, stack := rest }) : W p l e R s m args below meth c H locs cells slots Q g := by
  intro T hT X
  obtain ⟨v, st₀, t, T', L, h0, X', hL, e1, ⟨hv, hh⟩, st⟩ := hr T hT X
  cases hv
  obtain ⟨t2, a1, b1⟩ := kk T' (by rw [e1, hh, h0]) (Stand.forget X' (fun q h => (hL q h).elim))
  exact ⟨t2, st t2 a1, b1⟩
theorem jnarrow : ∀ c : Nat, c < 128 → narrow .char (.int (Int32.ofInt (c : Int))) = .int (Int32.ofInt (c : Int)) := by decide +kernel
theorem jbyte : ∀ c : Nat, c < 128 → (((Int32.ofInt (c : Int)) &&& 255).toUInt32 % 65536).toInt32 = Int32.ofInt (c : Int) := by decide +kernel
theorem mj_charAt1 {l : Launch} {i : Int32} {n0 : Int32} {t N c0 : Nat} {f : Nat → Value} (hN : Int32.ofNat N = n0) (hi : ¬ i < 0) (hn : i < n0) (hin : vp_in i N) (hc : c0 < 128) (hf : f i.toNatClampNeg = .int (Int32.ofInt (c0 : Int))) : Met l yJ1_charAt_3b067 (.code yJ1_charAt_3b067 cJ1_charAt_3b067 2 (some .char) :: BIG) (rmK 2 0 0) (fun v U => v = #[.ref t, .int i] ∧ va_T .byte t N f (Aof U) U U.heap ∧ va_Zq "jdk/internal/util/Preconditions" "SIOOBE_FORMATTER" "Ljava/util/function/BiFunction;" (Aof U) U U.heap) (k2_QcV (.int (Int32.ofInt (c0 : Int)))) 0 0 (fun _ => False) := by
  refine Met.ofW (cc := cJ1_charAt_3b067) (maxL := 2) (ret := some .char) (by decide) rfl ?_
  intro p e s m args below meth c s₁ B hml hv
  obtain ⟨hargs, hT, hQ⟩ := hv
  subst hargs
  obtain ⟨hw, hown⟩ := jw_in B
  have hS : va_S (Aof s) s.heap s.heap [] := va_S.rf
  rw [show (#[Value.ref t, .int i]) = [Value.ref t, .int i].toArray from rfl, lg_entry_eq]
  have hl := lv_entry [Value.ref t, .int i] (n := 2) (by simp [lg_sl, Value.category])
  refine lv_iload_n (x := i) B.exec B.bytes dJ1_charAt_3b067_0 (i := 1) rfl (lv_at hl 1 rfl) ?_
  refine lv_aload_n (x := t) B.exec B.bytes dJ1_charAt_3b067_1 (i := 0) rfl (lv_at hl 0 rfl) ?_
  refine va_tlen B.exec B.bytes hT hS hN dJ1_charAt_3b067_2 ?_
  refine jw_void (rest := []) (va_Run.run (va_runS (Ts := BIG) (own := RJ1) (As := [.int i, .int n0]) (rest := []) ⟨B.exec, B.bytes, hml, hown, hw⟩ (mj_checkS hi hn) (va_cwS 2 hw (BIG_ws (mem3 w_734 w_735 w_160) w_736) rfl rfl rfl (by decide) (by decide)) ⟨fun v U g mk h => ⟨h.1, h.2⟩, fun U hU hW => ⟨rfl, ?_⟩⟩ rfl rfl hl.1 rfl (lv_room (by decide)) dJ1_charAt_3b067_3 ⟨Nat.le_refl _, Nat.le_refl _⟩)) ?_
  · have hk : ∀ a : Nat, a < s.heap.size → ¬ Aof s a → U.heap[a]? = s.heap[a]? := fun a h1 h2 => by rw [hU]
    exact ((hQ.kept hk).moved hW.alike).narrow (aof_of hS hU)
  refine lv_aload_n (x := t) B.exec B.bytes dJ1_charAt_3b067_6 (i := 0) rfl (lv_at hl 0 rfl) ?_
  refine lv_iload_n (x := i) B.exec B.bytes dJ1_charAt_3b067_7 (i := 1) rfl (lv_at hl 1 rfl) ?_
  refine va_tb B.exec B.bytes hT hS hin hf dJ1_charAt_3b067_8 ?_
  refine lv_sipush B.exec B.bytes (v := 255) dJ1_charAt_3b067_9 rfl ?_
  refine lv_iand B.exec B.bytes dJ1_charAt_3b067_12 ?_
  refine lv_i2c B.exec B.bytes dJ1_charAt_3b067_13 (jbyte c0 hc) ?_
  exact W.zret B.exec B.bytes B.returns (jnarrow c0 hc) (fun t ht _ => ⟨rfl, ht⟩) (fun q h => by cases h) dJ1_charAt_3b067_14 B.notSynchronized
theorem stC_lt : ∀ j : Nat, j < stC.length → 0 ≤ stC.getD j 0 ∧ stC.getD j 0 < 128 := by decide +kernel
theorem stC_len : stC.length < 1000 := by decide +kernel
theorem jget (j : Nat) : (bytJ.getD 0 []).getD j 0 = Int32.ofInt (stC.getD j 0) := by
  show (stC.map Int32.ofInt).getD j 0 = _
  rw [List.getD_eq_getElem?_getD, List.getD_eq_getElem?_getD, List.getElem?_map]
  cases stC[j]? <;> rfl
theorem mj_charAt {l : Launch} {q : Nat} {i : Int} (h0 : 0 ≤ i) (h1 : i < (stC.length : Nat)) : Met l yJ0_charAt_5068e (.code yJ0_charAt_5068e cJ0_charAt_5068e 2 (some .char) :: BIG) (rmK 3 0 0) (fun v U => v = #[.ref q, .int (oi i)] ∧ SJ q (Aof U) U U.heap) (k2_QcV (.int (oi (stC.getD i.toNat 0)))) 0 0 (fun _ => False) := by
  have hlen := stC_len
  have hiA : inA i := by unfold inA; omega
  have hnat := oi_nat hiA
  have hb := stC_lt i.toNat (by omega)
  have hcc : (((stC.getD i.toNat 0).toNat : Nat) : Int) = stC.getD i.toNat 0 := by omega
  refine Met.ofW (cc := cJ0_charAt_5068e) (maxL := 2) (ret := some .char) (by decide) rfl ?_
  intro p e s m args below meth c s₁ B hml hv
  obtain ⟨hargs, hJ⟩ := hv
  have hJ0 := hJ
  obtain ⟨⟨adV, hV⟩, hZ, hQ⟩ := hJ
  subst hargs
  obtain ⟨hw, hown⟩ := jw_in B
  have hS : va_S (Aof s) s.heap s.heap [] := va_S.rf
  rw [show (#[Value.ref q, .int (oi i)]) = [Value.ref q, .int (oi i)].toArray from rfl, lg_entry_eq]
  have hl := lv_entry [Value.ref q, .int (oi i)] (n := 2) (by simp [lg_sl, Value.category])
  refine lv_aload_n (x := q) B.exec B.bytes dJ0_charAt_5068e_0 (i := 0) rfl (lv_at hl 0 rfl) ?_
  refine W.callV (r := .int 1) (rest := []) (va_Run.run (va_runV (Ts := BIG) (own := RJ0) (C := RJ0) (As := []) (rest := []) ⟨B.exec, B.bytes, hml, hown, hw⟩ mj_isLatin1 (cwV 0 hw (BIG_ws (mem4 w_727 w_728 w_729 w_160) w_730) rfl rfl rfl ⟨rfl, by decide⟩ (by decide)) ⟨fun v U g mk h => ⟨h.1, SJ.same (u := U) (U := U.calling g mk v) h.2 rfl rfl⟩, vk_recv (i := 0) hV (by decide) hS, fun U hU hW => ⟨rfl, hJ0.warm hS (aof_of hS hU) hU hW⟩⟩ rfl rfl hl.1 rfl (lv_room (by decide)) dJ0_charAt_5068e_1 ⟨Nat.le_refl _, Nat.le_refl _⟩)) ?_
  refine lv_if_eq B.exec B.bytes dJ0_charAt_5068e_4 (tgt := 16) rfl (fun h => absurd h (by decide)) (fun _ => ?_)
  refine lv_aload_n (x := q) B.exec B.bytes dJ0_charAt_5068e_7 (i := 0) rfl (lv_at hl 0 rfl) ?_
  refine vk_getf B.exec B.bytes (hV.1 0 (by decide)).2.2.1 hS hown (hw _ w_2241) (fun _ h => h) dJ0_charAt_5068e_8 ?_
  refine lv_iload_n (x := oi i) B.exec B.bytes dJ0_charAt_5068e_11 (i := 1) rfl (lv_at hl 1 rfl) ?_
  have hM := mj_charAt1 (l := l) (i := oi i) (t := adV 0) (N := stC.length) (n0 := Int32.ofNat stC.length) (c0 := (stC.getD i.toNat 0).toNat) (f := fun j => .int ((bytJ.getD 0 []).getD j 0)) rfl (by rw [oi_neg hiA]; omega) (by rw [← Int32.ofInt_eq_ofNat]; exact (oi_lt hiA (by unfold inA; omega)).mpr h1) (by have := vp_of hiA ⟨h0, h1⟩; simpa using this) (by omega) (by show Value.int _ = _; rw [hnat, jget, hcc])
  rw [hcc] at hM
  refine W.callV (r := .int (oi (stC.getD i.toNat 0))) (rest := []) (va_Run.run (va_runS (Ts := BIG) (own := RJ0) (As := [.ref (adV 0), .int (oi i)]) (rest := []) ⟨B.exec, B.bytes, hml, hown, hw⟩ hM (va_cwS 2 hw (BIG_ws (mem3 w_731 w_732 w_161) w_733) rfl rfl rfl (by decide) (by decide)) ⟨fun v U g mk h => ⟨h.1, h.2⟩, fun U hU hW => ⟨rfl, va_T_warm (hV.1 0 (by decide)).2.2.2 hS (aof_of hS hU) hU hW, (hJ0.warm hS (aof_of hS hU) hU hW).2.2⟩⟩ rfl rfl hl.1 rfl (lv_room (by decide)) dJ0_charAt_5068e_12 ⟨Nat.le_refl _, Nat.le_refl _⟩)) ?_
  have hn := jnarrow (stC.getD i.toNat 0).toNat (by omega)
  rw [hcc] at hn
  exact W.zret B.exec B.bytes B.returns hn (fun t ht _ => ⟨rfl, ht⟩) (fun q h => by cases h) dJ0_charAt_5068e_15 B.notSynchronized
theorem jshr : Int32.ofNat (lenJ.getD 0 0) >>> ((0 : Int32) &&& 31) = oi (stC.length : Nat) := by decide +kernel
theorem mj_length {l : Launch} {q : Nat} : Met l yJ0_length_8abf5 (.code yJ0_length_8abf5 cJ0_length_8abf5 1 (some .int) :: BIG) (rmK 1 0 0) (fun v U => v = #[.ref q] ∧ SJ q (Aof U) U U.heap) (k2_QcV (.int (oi (stC.length : Nat)))) 0 0 (fun _ => False) := by
  refine Met.ofW (cc := cJ0_length_8abf5) (maxL := 1) (ret := some .int) (by decide) rfl ?_
  intro p e s m args below meth c s₁ B hml hv
  obtain ⟨hargs, hJ⟩ := hv
  have hJ0 := hJ
  obtain ⟨⟨adV, hV⟩, hZ, hQ⟩ := hJ
  subst hargs
  obtain ⟨hw, hown⟩ := jw_in B
  have hS : va_S (Aof s) s.heap s.heap [] := va_S.rf
  rw [show (#[Value.ref q]) = [Value.ref q].toArray from rfl, lg_entry_eq]
  have hl := lv_entry [Value.ref q] (n := 1) (Nat.le_refl _)
  refine lv_aload_n (x := q) B.exec B.bytes dJ0_length_8abf5_0 (i := 0) rfl (lv_at hl 0 rfl) ?_
  refine vk_getf B.exec B.bytes (hV.1 0 (by decide)).2.2.1 hS hown (hw _ w_2241) (fun _ h => h) dJ0_length_8abf5_1 ?_
  refine va_tlen B.exec B.bytes (hV.1 0 (by decide)).2.2.2 hS rfl dJ0_length_8abf5_4 ?_
  refine lv_aload_n (x := q) B.exec B.bytes dJ0_length_8abf5_5 (i := 0) rfl (lv_at hl 0 rfl) ?_
  refine W.callV (r := .int 0) (rest := [.int (Int32.ofNat (lenJ.getD 0 0))]) (va_Run.run (va_runV (Ts := BIG) (own := RJ0) (C := RJ0) (As := []) (rest := [.int (Int32.ofNat (lenJ.getD 0 0))]) ⟨B.exec, B.bytes, hml, hown, hw⟩ mj_coder (cwV 0 hw (BIG_ws (mem4 w_717 w_718 w_719 w_160) w_720) rfl rfl rfl ⟨rfl, by decide⟩ (by decide)) ⟨fun v U g mk h => ⟨h.1, SJ.same (u := U) (U := U.calling g mk v) h.2 rfl rfl⟩, vk_recv (i := 0) hV (by decide) hS, fun U hU hW => ⟨rfl, hJ0.warm hS (aof_of hS hU) hU hW⟩⟩ rfl rfl hl.1 rfl (lv_room (by simp [Value.category])) dJ0_length_8abf5_6 ⟨Nat.le_refl _, Nat.le_refl _⟩)) ?_
  refine lv_ishr B.exec B.bytes dJ0_length_8abf5_9 ?_
  exact W.iret B.exec B.bytes B.returns (fun t ht _ => ⟨by rw [jshr], ht⟩) (fun q h => by cases h) dJ0_length_8abf5_10 B.notSynchronized
section
variable {l : Launch} {k : Nat} {own : String} {cc : ByteArray} {nL : Nat} {ret : Option FieldType} {ini : Bool} {pc nx : Nat}
theorem strW_SJ {ad : Nat → Nat} {s U : State} {A : Nat → Prop} {H : Heap} {locs : List Loc} (h : strW ad s A) (hS : va_S A s.heap H locs) (hA : ∀ q, s.heap.size ≤ q → A q) (hU : U.heap = H) (hW : s.WarmedH U.vm) : SJ (ad 999) (Aof U) U U.heap :=
  SJ.warm (s := s) ⟨h.1, h.2.1, h.2.2.1⟩ hS (fun q hq => hA q (Nat.le_trans hS.1 (by rw [← hU]; exact hq))) hU hW
theorem snd_sln (hk : 5 ≤ k) (ho : own = RX10) (hd : decode cc pc = .ok (.invokevirtual 76, 3)) (hx : pc + 3 = nx) : SndS l k own cc nL ret ini pc (i_sln nx) := by
  refine ⟨?_, fun o lc st M s' h => by
    unfold i_sln at h
    repeat' split at h
    all_goals first | (cases h; exact Nat.le_refl _) | (cases h; exact Nat.le_succ _) | (cases h), fun o lc st M r M' h => by
    unfold i_sln at h
    repeat' split at h
    all_goals first | (cases h; rfl) | cases h⟩
  intro p e R s m args below meth c D lo n0 A ad cA RR M lc st ls H locs cells slots hC hR hl2 hol hos
  refine ⟨fun pc' lc' st' M' h => ?_, fun r M' h => ?_⟩
  · unfold i_sln at h
    split at h
    · cases h
    · rename_i h5
      split at h
      · rename_i a st0
        split at h
        · rename_i ha
          cases h
          refine ⟨Nat.le_refl _, fun hr1 hr2 Q kk => ?_⟩
          subst hx
          subst ho
          subst ha
          obtain ⟨x1, x2, x3, x4, x5, x6, x7, x8, x9, x10, x11, x12, x13, x14⟩ := hC
          have q1 := hR.2.2.2.2.2.2.2.1
          have q2 := hR.2.2.2.2.2.2.2.2.1
          have hst := hR.2.2.2.2.2.2.2.2.2
          have hS := hR.2.2.2.1
          have hlen := stC_len
          obtain ⟨adV, hV⟩ := hst.1
          have hct := cat_le ad st0
          simp only [List.length_cons] at h5
          refine W.callV (r := .int (oi (stC.length : Nat))) (rest := st0.map (encV ad)) (va_Run.run (va_runV (Ts := BIG) (own := RX10) (C := RJ0) (As := []) (rest := st0.map (encV ad)) ⟨x1, x2, x3, x4, x5⟩ (mj_length (q := ad 999)) (cwV 0 x5 (BIG_ws (mem4 w_713 w_714 w_715 w_160) w_716) rfl rfl rfl ⟨rfl, by decide⟩ ⟨by show 1 + 1 ≤ R.frames; omega, by show 8 + (1 + 11) + 100 * 1 ≤ R.locals; omega⟩) ⟨fun v U g mk h => ⟨h.1, SJ.same (u := U) (U := U.calling g mk v) h.2 rfl rfl⟩, vk_recv (i := 0) hV (by decide) hS, fun U hU hW => ⟨rfl, strW_SJ hst hS hR.2.2.2.2.1 hU hW⟩⟩ rfl rfl hl2.1 rfl (lv_room (by omega)) hd ⟨by omega, by omega⟩)) ?_
          exact kk ad cA RR ls H locs cells slots (fun _ _ => rfl) (fun _ _ => rfl) hR hl2 hol (ok_cons (by show inA _; unfold inA; omega) (ok_tl hos))
        · cases h
      · cases h
  · unfold i_sln at h
    split at h
    · cases h
    · split at h
      · split at h <;> cases h
      · cases h
theorem snd_sch (hk : 5 ≤ k) (ho : own = RX10) (hd : decode cc pc = .ok (.invokevirtual 82, 3)) (hx : pc + 3 = nx) : SndS l k own cc nL ret ini pc (i_sch nx) := by
  refine ⟨?_, fun o lc st M s' h => by
    unfold i_sch at h
    repeat' split at h
    all_goals first | (cases h; exact Nat.le_refl _) | (cases h; exact Nat.le_succ _) | (cases h), fun o lc st M r M' h => by
    unfold i_sch at h
    repeat' split at h
    all_goals first | (cases h; rfl) | cases h⟩
  intro p e R s m args below meth c D lo n0 A ad cA RR M lc st ls H locs cells slots hC hR hl2 hol hos
  refine ⟨fun pc' lc' st' M' h => ?_, fun r M' h => ?_⟩
  · unfold i_sch at h
    split at h
    · cases h
    · rename_i h5
      split at h
      · rename_i i a st0
        split at h
        · rename_i ha
          split at h
          · rename_i hi
            cases h
            refine ⟨Nat.le_refl _, fun hr1 hr2 Q kk => ?_⟩
            subst hx
            subst ho
            subst ha
            obtain ⟨x1, x2, x3, x4, x5, x6, x7, x8, x9, x10, x11, x12, x13, x14⟩ := hC
            have q1 := hR.2.2.2.2.2.2.2.1
            have q2 := hR.2.2.2.2.2.2.2.2.1
            have hst := hR.2.2.2.2.2.2.2.2.2
            have hS := hR.2.2.2.1
            have hb := stC_lt i.toNat (by omega)
            obtain ⟨adV, hV⟩ := hst.1
            have hct := cat_le ad st0
            simp only [List.length_cons] at h5
            refine W.callV (r := .int (oi (stC.getD i.toNat 0))) (rest := st0.map (encV ad)) (va_Run.run (va_runV (Ts := BIG) (own := RX10) (C := RJ0) (As := [.int (oi i)]) (rest := st0.map (encV ad)) ⟨x1, x2, x3, x4, x5⟩ (mj_charAt (q := ad 999) hi.1 hi.2) (cwV 1 x5 (BIG_ws (mem4 w_723 w_724 w_725 w_160) w_726) rfl rfl rfl ⟨rfl, by decide⟩ ⟨by show 3 + 1 ≤ R.frames; omega, by show 8 + (2 + 11) + 100 * 3 ≤ R.locals; omega⟩) ⟨fun v U g mk h => ⟨h.1, SJ.same (u := U) (U := U.calling g mk v) h.2 rfl rfl⟩, vk_recv (i := 0) hV (by decide) hS, fun U hU hW => ⟨rfl, strW_SJ hst hS hR.2.2.2.2.1 hU hW⟩⟩ rfl rfl hl2.1 rfl (lv_room (by omega)) hd ⟨by omega, by omega⟩)) ?_
            exact kk ad cA RR ls H locs cells slots (fun _ _ => rfl) (fun _ _ => rfl) hR hl2 hol (ok_cons (by show inA _; unfold inA; omega) (ok_tl (ok_tl hos)))
          · cases h
        · cases h
      · cases h
  · unfold i_sch at h
    split at h
    · cases h
    · split at h
      · split at h
        · split at h <;> cases h
        · cases h
      · cases h
end
