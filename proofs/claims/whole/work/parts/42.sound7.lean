/-! calls -/
def rmK (k c s : Nat) : Room := { frames := k, cells := c, slots := s, locals := 100 * k }
def AKs (ad : Nat → Nat) (cA : Nat → ClassId) (RR : Nat → Nat → Nat) (M : PM) (lo sz : Nat) : Nat → Prop := va_A (wsW ad cA RR M.1 lo M.2.1) sz
def PcK (D : va_G) (lo sz : Nat) (ad : Nat → Nat) (cA : Nat → ClassId) (RR : Nat → Nat → Nat) (a : List PV) (M : PM) : Array Value → State → Prop := fun v U =>
  v = (a.map (encV ad)).toArray ∧ U.heap.size = sz ∧ va_P D vwCl (wsW ad cA RR M.1 lo M.2.1) U.heap ∧ va_K D vwCl [] U ∧ va_D (fun _ => True) (wsW ad cA RR M.1 lo M.2.1) ∧
  (∀ b, lo ≤ b → b < M.2.1 → 20 ≤ kt b → ArrOfT U (cA b) (ataC (kt b)) ∧ va_RA U (cA b) (ataC (kt b))) ∧ (∀ w ∈ nwl, va_Nw w U) ∧ va_AO "CarbonMinistry$State" U ∧ strW ad U (AKs ad cA RR M lo sz)
def QcK (D : va_G) (lo sz : Nat) (ad : Nat → Nat) (cA : Nat → ClassId) (RR : Nat → Nat → Nat) (M : PM) (r : Option PV) (M' : PM) : Array Value → State → Outcome → State → Prop := fun _ st oc t =>
  ∃ (ad' : Nat → Nat) (cA' : Nat → ClassId) (RR' : Nat → Nat → Nat), (∀ b, b < M.2.1 ∨ b = 999 → ad' b = ad b) ∧ (∀ b, b < M.2.1 → cA' b = cA b) ∧ oc = .returned (r.map (encV ad')) ∧ (∀ v, r = some v → okV lo M'.2.1 v) ∧ PFt lo RR' M' ∧
  va_P D vwCl (wsW ad' cA' RR' M'.1 lo M'.2.1) t.heap ∧ va_D (AKs ad cA RR M lo sz) (wsW ad' cA' RR' M'.1 lo M'.2.1) ∧ (∀ b, lo ≤ b → b < M'.2.1 → 20 ≤ kt b → ArrOfT t (cA' b) (ataC (kt b)) ∧ va_RA t (cA' b) (ataC (kt b))) ∧
  st.heap.size ≤ t.heap.size ∧ ∀ q : Nat, q < st.heap.size → ¬ AKs ad cA RR M lo sz q → t.heap[q]? = st.heap[q]?
def MX (l : Launch) (k : Nat) (y : MethodName) (cc : ByteArray) (nL : Nat) (ret : Option FieldType) : Prop :=
  ∀ (a : List PV) (M : PM) (r : Option PV) (M' : PM), call k a M = some (r, M') → (a.map pcat).sum ≤ nL → ∀ (D : va_G) (lo sz : Nat) (ad : Nat → Nat) (cA : Nat → ClassId) (RR : Nat → Nat → Nat), PFt lo RR M → (∀ v ∈ a, okV lo M.2.1 v) →
    M.2.1 ≤ M'.2.1 ∧ Met l y (.code y cc nL ret :: BIG) (rmK k (M'.2.1 - M.2.1) (zs M'.2.1 - zs M.2.1)) (PcK D lo sz ad cA RR a M) (QcK D lo sz ad cA RR M r M') (M'.2.1 - M.2.1) (zs M'.2.1 - zs M.2.1) (AKs ad cA RR M lo sz)
theorem zs_le {n n' : Nat} (h : n ≤ n') : zs n ≤ zs n' := by
  induction n' with
  | zero => rw [show n = 0 by omega]; exact Nat.le_refl _
  | succ m ih =>
    by_cases e : n = m + 1
    · rw [e]; exact Nat.le_refl _
    · exact Nat.le_trans (ih (by omega)) (by rw [zs]; omega)
theorem nwl_tab : ∀ w ∈ nwl, w.onTables = true := by decide +kernel
theorem nwl_warm {s U : State} (hW : s.WarmedH U.vm) (h : ∀ w ∈ nwl, va_Nw w s) : ∀ w ∈ nwl, va_Nw w U := by
  have key : ∀ w ∈ nwl, ∃ a i x hh, w = Cond.methodLinkNest a i x hh := by
    intro w hw
    unfold nwl at hw
    simp only [List.mem_cons, List.not_mem_nil, or_false] at hw
    rcases hw with rfl | rfl | rfl | rfl | rfl | rfl | rfl | rfl | rfl | rfl | rfl | rfl | rfl | rfl | rfl | rfl | rfl | rfl <;> exact ⟨_, _, _, _, rfl⟩
  intro w hw
  obtain ⟨a, i, x, hh, rfl⟩ := key w hw
  exact va_Nw.warmM hW (h _ hw)
theorem strW_to {ad : Nat → Nat} {s U : State} {A B : Nat → Prop} {H : Heap} {locs : List Loc} (h : strW ad s A) (hS : va_S A s.heap H locs) (hAB : ∀ q, B q → A q) (hU : U.heap = H) (hW : s.WarmedH U.vm) : strW ad U B := by
  obtain ⟨⟨adV, h1⟩, h2, h3, h4⟩ := h
  have hk : ∀ a : Nat, a < s.heap.size → ¬ A a → U.heap[a]? = s.heap[a]? := fun a h1 h2 => by rw [hU]; exact hS.2.1 a h1 h2
  exact ⟨⟨adV, ((h1.kept hk).moved hW.alike).narrow hAB⟩, ((h2.kept hk).moved hW.alike).narrow hAB, ((h3.kept hk).moved hW.alike).narrow hAB, vk_R.warm hW h4⟩
theorem strW_same {ad : Nat → Nat} {s U : State} {A : Nat → Prop} (h : strW ad s A) (hh : U.heap = s.heap) (hv : U.vm = s.vm) : strW ad U A := by
  obtain ⟨⟨adV, h1⟩, h2, h3, h4⟩ := h
  have e : s.vm.Alike U.vm := by rw [hv]; exact Vm.Alike.refl _
  unfold strW
  rw [hh]
  exact ⟨⟨adV, h1.moved e⟩, h2.moved e, h3.moved e, vk_R.same hv h4⟩
theorem PcK_blind (D : va_G) (lo sz : Nat) (ad : Nat → Nat) (cA : Nat → ClassId) (RR : Nat → Nat → Nat) (a : List PV) (M : PM) : FrameBlind (PcK D lo sz ad cA RR a M) := by
  intro v U g mk h
  obtain ⟨h1, h2, h3, h4, h5, h6, h7, h8, h9⟩ := h
  have e : U.vm.Alike (U.calling g mk v).vm := Vm.Alike.refl U.vm
  exact ⟨h1, h2, h3, va_K.moved e h4, h5, fun b b1 b2 b3 => ⟨arrOfT_moved e (h6 b b1 b2 b3).1, (h6 b b1 b2 b3).2.moved e⟩, fun w hw => va_Nw.same (u := U) (U := U.calling g mk v) (nwl_tab w hw) rfl (h7 w hw), h8.moved e, strW_same h9 rfl rfl⟩
/-- how a call is made: its sort, what links it -/
def CKind (l : Launch) (k : Nat) (own : String) (cc : ByteArray) (nL : Nat) (pc : Nat) (ci k' : Nat) (y : MethodName) (cc' : ByteArray) (nL' : Nat) (ret' : Option FieldType) (n : Nat) : Prop :=
  ∀ (ret : Option FieldType) (ini : Bool) (p : Program) (e : Env) (R : Room) (s : State) (m : MethodId) (args : Array Value) (below : List Frame) (meth : Method) (c : Code) (D : va_G), Cx D own cc nL ret ini k p e R s m args meth c →
    ∀ (Pc : Array Value → State → Prop) (Qc : Array Value → State → Outcome → State → Prop) (mc ms : Nat) (free : Addr → Prop) (H : Heap) (locs : List Loc) (cells slots : Nat) (ls : Array Slot) (As rest : List Value),
      Met l y (.code y cc' nL' ret' :: BIG) (rmK k' mc ms) Pc Qc mc ms free → FrameBlind Pc → (∀ U : State, U.heap = H → s.WarmedH U.vm → Pc As.toArray U) → As.length = n →
      (ci < 20 → ∃ (b : Addr) (At : List Value) (cell : Cell) (C : String) (T : u_T) (N : Nat), As = .ref b :: At ∧ vwCl[ci]? = some (C, T, N) ∧ H[b]? = some cell ∧ cell.vm.isStatics = false ∧ s.vm.findClass C = some cell.cls) →
      ls.size = nL → (rest.map fun v => v.category).sum ≤ 8 → cells + mc ≤ R.cells → slots + ms ≤ R.slots →
      va_Run p l e R s m args below meth c H locs cells slots mc ms (F0 m pc ls (As.reverse ++ rest)) rest (Qc As.toArray) free
section
variable {l : Launch} {k : Nat} {own : String} {cc : ByteArray} {nL : Nat} {ret : Option FieldType} {ini : Bool} {pc nx : Nat} {k' : Nat} {y : MethodName} {cc' : ByteArray} {nL' : Nat} {ret' : Option FieldType} {n ci : Nat}
theorem roomK {R : Room} {k k' mc ms nL' : Nat} (hk : k' < k) (hL : nL' ≤ 60) (h1 : k ≤ R.frames) (h2 : 100 * k ≤ R.locals) : (rmK k' mc ms).frames + 1 ≤ R.frames ∧ 8 + (nL' + 11) + (rmK k' mc ms).locals ≤ R.locals := by
  constructor
  · show k' + 1 ≤ R.frames; omega
  · show 8 + (nL' + 11) + 100 * k' ≤ R.locals; omega
theorem BIG_ws {ws : List Cond} (h : ∀ w ∈ ws, w ∈ BIG) (hc : Cond.code y cc' nL' ret' ∈ BIG) : GoodIn BIG (ws ++ (Cond.code y cc' nL' ret' :: BIG)) := BIG_in (fun _ h => h) (fun w hw => by
  rcases List.mem_append.mp hw with hw | hw
  · exact h w hw
  · rcases List.mem_cons.mp hw with rfl | hw
    · exact hc
    · exact hw)
theorem mem4 {α : Type} {P : α → Prop} {a b c d : α} (ha : P a) (hb : P b) (hc : P c) (hd : P d) : ∀ w ∈ [a, b, c, d], P w := by
  intro w hw
  simp only [List.mem_cons, List.not_mem_nil, or_false] at hw
  rcases hw with rfl | rfl | rfl | rfl <;> assumption
theorem mem3 {α : Type} {P : α → Prop} {a b c : α} (ha : P a) (hb : P b) (hc : P c) : ∀ w ∈ [a, b, c], P w := by
  intro w hw
  simp only [List.mem_cons, List.not_mem_nil, or_false] at hw
  rcases hw with rfl | rfl | rfl <;> assumption
theorem ck_V {idx n1 N : Nat} {T : u_T} (hk : k' < k) (hL : nL' ≤ 60) (hn : n = n1 + 1) (hci : vwCl[ci]? = some (y.cls, T, N)) (h1 : Cond.methodLink own idx y ∈ BIG) (h2 : Cond.instanceMethod y ∈ BIG) (h3 : Cond.selects y.cls y y ∈ BIG) (h4 : Cond.initialized y.cls ∈ BIG) (h5 : Cond.code y cc' nL' ret' ∈ BIG)
    (hd0 : y.cls ≠ "java/lang/invoke/MethodHandle" ∧ y.cls ≠ "java/lang/invoke/VarHandle" ∧ (parseMethodDescriptor y.desc).map (fun d => d.parameters.length) = some n1) (hd : decode cc pc = .ok (.invokevirtual idx, 3)) : CKind l k own cc nL pc ci k' y cc' nL' ret' n := by
  intro ret ini p e R s m args below meth c D hC Pc Qc mc ms free H locs cells slots ls As rest hM hbl hPc hlen hrecv hls hW hc1 hs1
  obtain ⟨x1, x2, x3, x4, x5, x6, x7, x8, x9, x10, x11, x12, x13, x14⟩ := hC
  obtain ⟨b, At, cell, C, T', N', rfl, e2, e3, e4, e5⟩ := hrecv (cx_sz hci)
  rw [hci] at e2
  cases e2
  have hst : (Value.ref b :: At).reverse ++ rest = At.reverse ++ .ref b :: rest := by simp
  rw [hst]
  exact va_runV (Ts := BIG) (own := own) (C := y.cls) (As := At) (g := F0 m pc ls (At.reverse ++ .ref b :: rest)) ⟨x1, x2, x3, x4, x5⟩ hM (cwV n1 x5 (BIG_ws (mem4 h1 h2 h3 h4) h5) rfl rfl rfl ⟨rfl, hd0⟩ (roomK hk hL x11 x12)) ⟨hbl, ⟨cell, e3, e4, e5⟩, hPc⟩ rfl (by simp at hlen; omega) hls rfl (lv_room hW) hd ⟨hc1, hs1⟩
theorem ck_S {idx : Nat} (hk : k' < k) (hL : nL' ≤ 60) (h1 : Cond.methodLink own idx y ∈ BIG) (h2 : Cond.static y ∈ BIG) (h4 : Cond.initialized y.cls ∈ BIG) (h5 : Cond.code y cc' nL' ret' ∈ BIG)
    (hd0 : y.cls ≠ "java/lang/invoke/MethodHandle" ∧ y.cls ≠ "java/lang/invoke/VarHandle" ∧ (parseMethodDescriptor y.desc).map (fun d => d.parameters.length) = some n) (hd : decode cc pc = .ok (.invokestatic idx, 3)) : CKind l k own cc nL pc 99 k' y cc' nL' ret' n := by
  intro ret ini p e R s m args below meth c D hC Pc Qc mc ms free H locs cells slots ls As rest hM hbl hPc hlen hrecv hls hW hc1 hs1
  obtain ⟨x1, x2, x3, x4, x5, x6, x7, x8, x9, x10, x11, x12, x13, x14⟩ := hC
  exact va_runS (Ts := BIG) (own := own) (As := As) (g := F0 m pc ls (As.reverse ++ rest)) ⟨x1, x2, x3, x4, x5⟩ hM (va_cwS n x5 (BIG_ws (mem3 h1 h2 h4) h5) rfl rfl rfl hd0 (roomK hk hL x11 x12)) ⟨hbl, hPc⟩ rfl hlen hls rfl (lv_room hW) hd ⟨hc1, hs1⟩
theorem ck_I {idx n1 N : Nat} {T : u_T} {C0 : String} (hk : k' < k) (hL : nL' ≤ 60) (hn : n = n1 + 1) (hci : vwCl[ci]? = some (C0, T, N)) (hr0 : ret' = none) (hy1 : y.name = "<init>") (h1 : Cond.methodLink own idx y ∈ BIG) (h2 : Cond.instanceMethod y ∈ BIG) (h4 : Cond.initialized y.cls ∈ BIG) (h5 : Cond.code y cc' nL' ret' ∈ BIG)
    (hd0 : y.cls ≠ "java/lang/invoke/MethodHandle" ∧ y.cls ≠ "java/lang/invoke/VarHandle" ∧ (parseMethodDescriptor y.desc).map (fun d => d.parameters.length) = some n1) (hd : decode cc pc = .ok (.invokespecial idx, 3)) : CKind l k own cc nL pc ci k' y cc' nL' ret' n := by
  intro ret ini p e R s m args below meth c D hC Pc Qc mc ms free H locs cells slots ls As rest hM hbl hPc hlen hrecv hls hW hc1 hs1
  obtain ⟨x1, x2, x3, x4, x5, x6, x7, x8, x9, x10, x11, x12, x13, x14⟩ := hC
  obtain ⟨b, At, cell, C, T', N', rfl, e2, e3, e4, e5⟩ := hrecv (cx_sz hci)
  subst hr0
  have hst : (Value.ref b :: At).reverse ++ rest = At.reverse ++ .ref b :: rest := by simp
  rw [hst]
  exact va_runI (Ts := BIG) (own := own) (As := At) (g := F0 m pc ls (At.reverse ++ .ref b :: rest)) ⟨x1, x2, x3, x4, x5⟩ hM (cwI n1 x5 (BIG_in (fun _ h => h) (fun w hw => by rcases List.mem_cons.mp hw with rfl | hw; exact h5; exact hw)) rfl rfl rfl (x5 _ h4) (x5 _ h1) (x5 _ h2) hy1 hd0 (roomK hk hL x11 x12)) ⟨hbl, hPc⟩ rfl (by simp at hlen; omega) hls rfl (lv_room hW) hd ⟨hc1, hs1⟩
theorem ck_VN {idx n1 N : Nat} {T : u_T} {host : String} (hk : k' < k) (hL : nL' ≤ 60) (hn : n = n1 + 1) (hci : vwCl[ci]? = some (y.cls, T, N)) (h1 : Cond.methodLinkNest own idx y host ∈ nwl) (h2 : Cond.instanceMethod y ∈ BIG) (h3 : Cond.selects y.cls y y ∈ BIG) (h4 : Cond.initialized y.cls ∈ BIG) (h5 : Cond.code y cc' nL' ret' ∈ BIG)
    (hd0 : y.cls ≠ "java/lang/invoke/MethodHandle" ∧ y.cls ≠ "java/lang/invoke/VarHandle" ∧ (parseMethodDescriptor y.desc).map (fun d => d.parameters.length) = some n1) (hd : decode cc pc = .ok (.invokevirtual idx, 3)) : CKind l k own cc nL pc ci k' y cc' nL' ret' n := by
  intro ret ini p e R s m args below meth c D hC Pc Qc mc ms free H locs cells slots ls As rest hM hbl hPc hlen hrecv hls hW hc1 hs1
  obtain ⟨x1, x2, x3, x4, x5, x6, x7, x8, x9, x10, x11, x12, x13, x14⟩ := hC
  obtain ⟨b, At, cell, C, T', N', rfl, e2, e3, e4, e5⟩ := hrecv (cx_sz hci)
  rw [hci] at e2
  cases e2
  have hst : (Value.ref b :: At).reverse ++ rest = At.reverse ++ .ref b :: rest := by simp
  rw [hst]
  exact va_runVN (Ts := BIG) (own := own) (C := y.cls) (host := host) (As := At) (g := F0 m pc ls (At.reverse ++ .ref b :: rest)) ⟨x1, x2, x3, x4, x5⟩ hM ⟨va_cnB n1 x5 (BIG_in (fun _ h => h) (fun w hw => by rcases List.mem_cons.mp hw with rfl | hw; exact h5; exact hw)) rfl rfl rfl (x9 _ h1) (x5 _ h4) hd0 (roomK hk hL x11 x12), x5 _ h2, x5 _ h3⟩ ⟨hbl, ⟨cell, e3, e4, e5⟩, hPc⟩ rfl (by simp at hlen; omega) hls rfl (lv_room hW) hd ⟨hc1, hs1⟩
theorem ck_SN {idx : Nat} {host : String} (hk : k' < k) (hL : nL' ≤ 60) (h1 : Cond.methodLinkNest own idx y host ∈ nwl) (h2 : Cond.static y ∈ BIG) (h4 : Cond.initialized y.cls ∈ BIG) (h5 : Cond.code y cc' nL' ret' ∈ BIG)
    (hd0 : y.cls ≠ "java/lang/invoke/MethodHandle" ∧ y.cls ≠ "java/lang/invoke/VarHandle" ∧ (parseMethodDescriptor y.desc).map (fun d => d.parameters.length) = some n) (hd : decode cc pc = .ok (.invokestatic idx, 3)) : CKind l k own cc nL pc 99 k' y cc' nL' ret' n := by
  intro ret ini p e R s m args below meth c D hC Pc Qc mc ms free H locs cells slots ls As rest hM hbl hPc hlen hrecv hls hW hc1 hs1
  obtain ⟨x1, x2, x3, x4, x5, x6, x7, x8, x9, x10, x11, x12, x13, x14⟩ := hC
  exact va_runSN (Ts := BIG) (own := own) (host := host) (As := As) (g := F0 m pc ls (As.reverse ++ rest)) ⟨x1, x2, x3, x4, x5⟩ hM ⟨va_cnB n x5 (BIG_in (fun _ h => h) (fun w hw => by rcases List.mem_cons.mp hw with rfl | hw; exact h5; exact hw)) rfl rfl rfl (x9 _ h1) (x5 _ h4) hd0 (roomK hk hL x11 x12), x5 _ h2, trivial⟩ ⟨hbl, hPc⟩ rfl hlen hls rfl (lv_room hW) hd ⟨hc1, hs1⟩
theorem ck_IN {idx n1 N : Nat} {T : u_T} {C0 host : String} (hk : k' < k) (hL : nL' ≤ 60) (hn : n = n1 + 1) (hci : vwCl[ci]? = some (C0, T, N)) (hr0 : ret' = none) (hy1 : y.name = "<init>") (h1 : Cond.methodLinkNest own idx y host ∈ nwl) (h2 : Cond.instanceMethod y ∈ BIG) (h4 : Cond.initialized y.cls ∈ BIG) (h5 : Cond.code y cc' nL' ret' ∈ BIG)
    (hd0 : y.cls ≠ "java/lang/invoke/MethodHandle" ∧ y.cls ≠ "java/lang/invoke/VarHandle" ∧ (parseMethodDescriptor y.desc).map (fun d => d.parameters.length) = some n1) (hd : decode cc pc = .ok (.invokespecial idx, 3)) : CKind l k own cc nL pc ci k' y cc' nL' ret' n := by
  intro ret ini p e R s m args below meth c D hC Pc Qc mc ms free H locs cells slots ls As rest hM hbl hPc hlen hrecv hls hW hc1 hs1
  obtain ⟨x1, x2, x3, x4, x5, x6, x7, x8, x9, x10, x11, x12, x13, x14⟩ := hC
  obtain ⟨b, At, cell, C, T', N', rfl, e2, e3, e4, e5⟩ := hrecv (cx_sz hci)
  subst hr0
  have hst : (Value.ref b :: At).reverse ++ rest = At.reverse ++ .ref b :: rest := by simp
  rw [hst]
  exact va_runIN (Ts := BIG) (own := own) (host := host) (As := At) (g := F0 m pc ls (At.reverse ++ .ref b :: rest)) ⟨x1, x2, x3, x4, x5⟩ hM ⟨va_cnB n1 x5 (BIG_in (fun _ h => h) (fun w hw => by rcases List.mem_cons.mp hw with rfl | hw; exact h5; exact hw)) rfl rfl rfl (x9 _ h1) (x5 _ h4) hd0 (roomK hk hL x11 x12), hy1, x5 _ h2⟩ ⟨hbl, hPc⟩ rfl (by simp at hlen; omega) hls rfl (lv_room hW) hd ⟨hc1, hs1⟩
/-- behind a call -/
theorem call_core (hck : CKind l k own cc nL pc ci k' y cc' nL' ret' n) (hM : MX l k' y cc' nL' ret') {p : Program} {e : Env} {R : Room} {s : State} {m : MethodId} {args : Array Value} {below : List Frame} {meth : Method} {c : Code} {D : va_G} {lo n0 : Nat} {A : Nat → Prop} {ad : Nat → Nat} {cA : Nat → ClassId} {RR : Nat → Nat → Nat} {M : PM} {lc : PL} {st : List PV} {ls : Array Slot} {H : Heap} {locs : List Loc} {cells slots : Nat}
    (hC : Cx D own cc nL ret ini k p e R s m args meth c) (hR : Rel D lo n0 A s ad cA RR M H locs cells slots) (hl2 : lv_has ls nL (enL ad lc)) (hol : ∀ q ∈ lc, okV lo M.2.1 q.2) (hos : ∀ v ∈ st, okV lo M.2.1 v) (h0 : ((st.take n).map pcat).sum ≤ nL') (h4 : ¬ 8 < ((st.drop n).map pcat).sum) (hn : n ≤ st.length) (hci : ci < 20 → kt (hdR (st.take n).reverse) = ci) {r : Option PV} {M' : PM} (hcall : call k' (st.take n).reverse M = some (r, M')) :
    M.2.1 ≤ M'.2.1 ∧ (M'.2.1 - n0 ≤ R.cells → zs M'.2.1 - zs n0 ≤ R.slots → ∀ Q : State → Prop,
      (∀ (ad' : Nat → Nat) (cA' : Nat → ClassId) (RR' : Nat → Nat → Nat) (ls' : Array Slot) (H' : Heap) (locs' : List Loc) (cells' slots' : Nat), (∀ b, b < M.2.1 ∨ b = 999 → ad' b = ad b) → (∀ b, b < M.2.1 → cA' b = cA b) → Rel D lo n0 A s ad' cA' RR' M' H' locs' cells' slots' → lv_has ls' nL (enL ad' lc) → (∀ q ∈ lc, okV lo M'.2.1 q.2) → (∀ v ∈ r.toList ++ st.drop n, okV lo M'.2.1 v) → W p l e R s m args below meth c H' locs' cells' slots' Q (F0 m (pc + 3) ls' ((r.toList ++ st.drop n).map (encV ad')))) →
      W p l e R s m args below meth c H locs cells slots Q (F0 m pc ls (st.map (encV ad)))) := by
  have hoa : ∀ v ∈ (st.take n).reverse, okV lo M.2.1 v := fun v hv => hos v (List.mem_of_mem_take (List.mem_reverse.mp hv))
  obtain ⟨hmono, hMet⟩ := hM _ _ _ _ hcall (by rw [List.map_reverse, List.sum_reverse]; exact h0) D lo H.size ad cA RR hR.1 hoa
  refine ⟨hmono, fun hr1 hr2 Q kk => ?_⟩
  obtain ⟨g1, g2, g3, g4, g5, g6, g7, g8, g9, g10⟩ := id hR
  have hAK : ∀ q, AKs ad cA RR M lo H.size q → A q := fun q hq => by
    rcases hq with ⟨j, x, hj⟩ | hq
    · exact g3.2 j _ hj
    · exact g5 q (Nat.le_trans g4.1 hq)
  have hzs := zs_le hmono
  have hrest : ((st.drop n).map fun v => (encV ad v).category).sum ≤ 8 := by
    have key : (fun v => (encV ad v).category) = pcat := by
      funext v
      rcases v with z | z | a <;> rfl
    rw [key]
    omega
  have hrun := hck ret ini p e R s m args below meth c D hC (PcK D lo H.size ad cA RR (st.take n).reverse M) (QcK D lo H.size ad cA RR M r M') (M'.2.1 - M.2.1) (zs M'.2.1 - zs M.2.1) (AKs ad cA RR M lo H.size) H locs cells slots ls ((st.take n).reverse.map (encV ad)) ((st.drop n).map (encV ad)) hMet (PcK_blind _ _ _ _ _ _ _ _)
    (fun U hU hW => ⟨rfl, by rw [hU], by rw [hU]; exact g2, va_K.moved hW.alike hC.2.2.2.2.2.2.2.1, g3.weaken (fun _ _ _ _ => trivial), fun b b1 b2 b3 => ⟨arrOfT_moved hW.alike (g6 b b1 b2 b3).1, (g6 b b1 b2 b3).2.moved hW.alike⟩, nwl_warm hW hC.2.2.2.2.2.2.2.2.1, hC.2.2.2.2.2.2.2.2.2.1.moved hW.alike, strW_to g10 g4 hAK hU hW⟩)
    (by rw [List.length_map, List.length_reverse, List.length_take]; omega)
    (fun hci2 => by
      have h5 := hci hci2
      cases hA : (st.take n).reverse with
      | nil => rw [hA] at h5; exact absurd h5 (by show ¬ kt 0 = ci; rw [kt_0]; omega)
      | cons v L =>
        rw [hA] at h5
        rcases v with z | z | b
        · exact absurd h5 (by show ¬ kt 0 = ci; rw [kt_0]; omega)
        · exact absurd h5 (by show ¬ kt 0 = ci; rw [kt_0]; omega)
        · have h5 : kt b = ci := h5
          obtain ⟨b1, b2⟩ := ok_ref (hoa (.inr (.inr b)) (by rw [hA]; exact List.mem_cons_self)) (by omega)
          obtain ⟨q, hq⟩ : ∃ q, vwCl[ci]? = some q := by
            have h13 : ∀ b, b < 1000 → kt b < 13 ∨ 20 ≤ kt b := by decide +kernel
            have := h13 b (by have := g1.2.2.2.2.2.2.2; omega)
            have hl13 : vwCl.length = 13 := rfl
            exact ⟨_, List.getElem?_eq_getElem (by omega)⟩
          obtain ⟨cell, c1, c2, c3⟩ := va_recv hC.2.2.2.2.2.2.2.1 g2 hq (q0 := b - lo) (a := ad b) (by rw [wsW_get b1 b2, clW_obj (by omega), h5])
          exact ⟨ad b, L.map (encV ad), cell, q.1, q.2.1, q.2.2, rfl, hq, c1, c2, c3⟩)
    hl2.1 (by rw [List.map_map]; exact hrest) (by omega) (by omega)
  have hstk : ((st.take n).reverse.map (encV ad)).reverse ++ (st.drop n).map (encV ad) = st.map (encV ad) := by
    rw [← List.map_reverse, List.reverse_reverse, ← List.map_append, List.take_append_drop]
  rw [hstk] at hrun
  intro T hT X
  obtain ⟨v, st₀, t, T', L, h0, X', hL, e1, e2, ⟨ad', cA', RR', q1, q2, q3, q4, q5, q6, q7, q8, q9, q10⟩, stp⟩ := hrun T hT X
  have hal : s.vm.Alike t.vm := by rw [← e2]; exact X'.warmed.alike
  rw [h0] at q9 q10
  have hv : v = r.map (encV ad') := by injection q3
  subst hv
  have hR2 : Rel D lo n0 A s ad' cA' RR' M' T'.heap (locs ++ L) (cells + (M'.2.1 - M.2.1)) (slots + (zs M'.2.1 - zs M.2.1)) := by
    refine ⟨q5, by rw [e1]; exact q6, q7.weaken (fun _ _ _ h => hAK _ h), ⟨Nat.le_trans g4.1 (by rw [e1]; exact q9), fun q a1 a2 => ?_, fun x hx => ?_⟩, g5, fun b b1 b2 b3 => ⟨arrOfT_moved hal.symm (q8 b b1 b2 b3).1, (q8 b b1 b2 b3).2.moved hal.symm⟩, by omega, by omega, by omega, strW_ad (q1 999 (Or.inr rfl)) g10⟩
    · rw [e1, q10 q (Nat.lt_of_lt_of_le a1 g4.1) (fun z => a2 (hAK q z))]
      exact g4.2.1 q a1 a2
    · rcases List.mem_append.mp hx with hx | hx
      · exact g4.2.2 x hx
      · exact hAK _ (hL x hx)
  have hos2 : ∀ v ∈ st.drop n, okV lo M.2.1 v := fun v hv => hos v (List.mem_of_mem_drop hv)
  have kk2 := kk ad' cA' RR' ls T'.heap (locs ++ L) _ _ q1 q2 hR2 (by rw [enc_enL q1 hol]; exact hl2) (fun q hq => okV_le (hol q hq) hmono) (fun v hv => by
    rcases List.mem_append.mp hv with hv | hv
    · cases r with
      | none => cases hv
      | some w => rw [Option.toList_some, List.mem_singleton] at hv; subst hv; exact q4 _ rfl
    · exact okV_le (hos2 v hv) hmono)
  rw [List.map_append, enc_map q1 hos2] at kk2
  have er : r.toList.map (encV ad') = (r.map (encV ad')).toList := by cases r <;> rfl
  rw [er] at kk2
  obtain ⟨t2, a1, b1⟩ := kk2 T' rfl X'
  exact ⟨t2, stp t2 a1, b1⟩
theorem i_ca_inv {cr : PO → Nat → List PV → PM → Nat → PL → List PV → Option (PS ⊕ PRes)} {o : PO} {lc : PL} {st : List PV} {M : PM} {q : PS ⊕ PRes} (h : i_ca cr ci k' n nL' nx o lc st M = some q) : ((st.take n).map pcat).sum ≤ nL' ∧ ¬ 8 < ((st.drop n).map pcat).sum ∧ n ≤ st.length ∧ (ci < 20 → kt (hdR (st.take n).reverse) = ci) ∧ cr o k' (st.take n).reverse M nx lc (st.drop n) = some q := by
  unfold i_ca at h
  split at h
  · cases h
  · rename_i h0
    split at h
    · cases h
    · rename_i h4
      split at h
      · cases h
      · rename_i h5
        split at h
        · split at h
          · rename_i hc
            exact ⟨Nat.not_lt.mp h0, h4, Nat.not_lt.mp h5, fun _ => hc, h⟩
          · cases h
        · rename_i hc
          exact ⟨Nat.not_lt.mp h0, h4, Nat.not_lt.mp h5, fun z => absurd z hc, h⟩
theorem M_eta (M : PM) (M' : PM) (h : M'.2 = M.2) : (M'.1, M.2) = M' := by rw [← h]
theorem crI_inv {o : PO} {a : List PV} {M : PM} {lc : PL} {rest : List PV} {q : PS ⊕ PRes} (h : crI o k' a M nx lc rest = some q) : ∃ z M', o k' a M = some (some (.inl z), M') ∧ q = .inl (nx, lc, .inl z :: rest, M') ∧ M.2.1 ≤ M'.2.1 := by
  unfold crI at h
  split at h
  · rename_i z M' hc
    refine ⟨z, M', hc, ?_⟩
    split at h
    · split at h
      · rename_i hm
        cases h; exact ⟨rfl, hm.1⟩
      · cases h
    · split at h
      · rename_i he
        cases h
        rw [M_eta M M' he]
        exact ⟨rfl, by rw [he]; exact Nat.le_refl _⟩
      · cases h
  · cases h
theorem crL_inv {o : PO} {a : List PV} {M : PM} {lc : PL} {rest : List PV} {q : PS ⊕ PRes} (h : crL o k' a M nx lc rest = some q) : ∃ z M', o k' a M = some (some (.inr (.inl z)), M') ∧ q = .inl (nx, lc, .inr (.inl z) :: rest, M') ∧ M.2.1 ≤ M'.2.1 := by
  unfold crL at h
  split at h
  · rename_i z M' hc
    refine ⟨z, M', hc, ?_⟩
    split at h
    · rename_i he
      cases h
      rw [M_eta M M' he]
      exact ⟨rfl, by rw [he]; exact Nat.le_refl _⟩
    · cases h
  · cases h
theorem crV_inv {o : PO} {a : List PV} {M : PM} {lc : PL} {rest : List PV} {q : PS ⊕ PRes} (h : crV o k' a M nx lc rest = some q) : ∃ M', o k' a M = some (none, M') ∧ q = .inl (nx, lc, rest, M') ∧ M.2.1 ≤ M'.2.1 := by
  unfold crV at h
  split at h
  · rename_i M' hc
    refine ⟨M', hc, ?_⟩
    split at h
    · split at h
      · rename_i hm
        cases h; exact ⟨rfl, hm.1⟩
      · cases h
    · split at h
      · rename_i he
        cases h
        rw [M_eta M M' he]
        exact ⟨rfl, by rw [he]; exact Nat.le_refl _⟩
      · cases h
  · cases h
theorem crW_inv {o : PO} {a : List PV} {M : PM} {lc : PL} {rest : List PV} {q : PS ⊕ PRes} (h : crW o k' a M nx lc rest = some q) : ∃ M', o k' a M = some (none, M') ∧ q = .inl (nx, lc, rest, M') ∧ M.2.1 ≤ M'.2.1 := by
  unfold crW at h
  split at h
  · rename_i M' hc
    refine ⟨M', hc, ?_⟩
    split at h
    · rename_i hm
      cases h; exact ⟨rfl, by rw [hm.1]; exact Nat.le_refl _⟩
    · cases h
  · cases h
theorem snd_ca {cr : PO → Nat → List PV → PM → Nat → PL → List PV → Option (PS ⊕ PRes)} (hinv : ∀ (o : PO) (a : List PV) (M : PM) (lc : PL) (rest : List PV) (q : PS ⊕ PRes), cr o k' a M nx lc rest = some q → ∃ r M', o k' a M = some (r, M') ∧ q = .inl (nx, lc, r.toList ++ rest, M') ∧ M.2.1 ≤ M'.2.1)
    (hk : k' < k) (hck : CKind l k own cc nL pc ci k' y cc' nL' ret' n) (hM : MX l k' y cc' nL' ret') (hx : pc + 3 = nx) : SndS l k own cc nL ret ini pc (i_ca cr ci k' n nL' nx) := by
  refine ⟨?_, fun o lc st M s' h => by
    obtain ⟨-, -, -, -, hcr⟩ := i_ca_inv h
    obtain ⟨r, M2, -, hq, hm⟩ := hinv _ _ _ _ _ _ hcr
    cases hq
    (exact hm), fun o lc st M r M' h => by
    obtain ⟨-, -, -, -, hcr⟩ := i_ca_inv h
    obtain ⟨r, M2, -, hq, hm⟩ := hinv _ _ _ _ _ _ hcr
    cases hq⟩
  intro p e R s m args below meth c D lo n0 A ad cA RR M lc st ls H locs cells slots hC hR hl2 hol hos
  refine ⟨fun pc' lc' st' M' h => ?_, fun r M' h => ?_⟩
  · obtain ⟨h0, h4, hlen, hci, hcr⟩ := i_ca_inv h
    obtain ⟨r, M2, hc, hq, -⟩ := hinv _ _ _ _ _ _ hcr
    cases hq
    rw [TT_lt hk] at hc
    subst hx
    exact call_core hck hM hC hR hl2 hol hos h0 h4 hlen hci hc
  · obtain ⟨h0, h4, hlen, hci, hcr⟩ := i_ca_inv h
    obtain ⟨r, M2, hc, hq, -⟩ := hinv _ _ _ _ _ _ hcr
    cases hq
theorem snd_caI (hk : k' < k) (hck : CKind l k own cc nL pc ci k' y cc' nL' ret' n) (hM : MX l k' y cc' nL' ret') (hx : pc + 3 = nx) : SndS l k own cc nL ret ini pc (i_ca crI ci k' n nL' nx) :=
  snd_ca (fun o a M lc rest q h => by obtain ⟨z, M', h1, h2⟩ := crI_inv h; exact ⟨_, M', h1, h2⟩) hk hck hM hx
theorem snd_caL (hk : k' < k) (hck : CKind l k own cc nL pc ci k' y cc' nL' ret' n) (hM : MX l k' y cc' nL' ret') (hx : pc + 3 = nx) : SndS l k own cc nL ret ini pc (i_ca crL ci k' n nL' nx) :=
  snd_ca (fun o a M lc rest q h => by obtain ⟨z, M', h1, h2⟩ := crL_inv h; exact ⟨_, M', h1, h2⟩) hk hck hM hx
theorem snd_caV (hk : k' < k) (hck : CKind l k own cc nL pc ci k' y cc' nL' ret' n) (hM : MX l k' y cc' nL' ret') (hx : pc + 3 = nx) : SndS l k own cc nL ret ini pc (i_ca crV ci k' n nL' nx) :=
  snd_ca (fun o a M lc rest q h => by obtain ⟨M', h1, h2⟩ := crV_inv h; exact ⟨none, M', h1, h2⟩) hk hck hM hx
theorem snd_caW (hk : k' < k) (hck : CKind l k own cc nL pc ci k' y cc' nL' ret' n) (hM : MX l k' y cc' nL' ret') (hx : pc + 3 = nx) : SndS l k own cc nL ret ini pc (i_ca crW ci k' n nL' nx) :=
  snd_ca (fun o a M lc rest q h => by obtain ⟨M', h1, h2⟩ := crW_inv h; exact ⟨none, M', h1, h2⟩) hk hck hM hx
/-- a call of a method that there is not (none deeper is written down) -/
theorem snd_caN {cr : PO → Nat → List PV → PM → Nat → PL → List PV → Option (PS ⊕ PRes)} (hinv : ∀ (o : PO) (a : List PV) (M : PM) (lc : PL) (rest : List PV) (q : PS ⊕ PRes), cr o k' a M nx lc rest = some q → ∃ r M', o k' a M = some (r, M') ∧ ∃ s', q = .inl s' ∧ M.2.1 ≤ s'.2.2.2.2.1) (hk : k' < k) (ht : tabs k' 0 = none) : SndS l k own cc nL ret ini pc (i_ca cr ci k' n nL' nx) := by
  have hno : ∀ a M, TT k k' a M = none := by
    intro a M
    rw [TT_lt hk]
    unfold call
    rw [RN_stp]
    unfold stp
    rw [ht]
  refine ⟨?_, fun o lc st M s' h => by
    obtain ⟨-, -, -, -, hcr⟩ := i_ca_inv h
    obtain ⟨r, M2, -, s2, hq, hm⟩ := hinv _ _ _ _ _ _ hcr
    cases hq
    (exact hm), fun o lc st M r M' h => by
    obtain ⟨-, -, -, -, hcr⟩ := i_ca_inv h
    obtain ⟨r, M2, -, s2, hq, -⟩ := hinv _ _ _ _ _ _ hcr
    cases hq⟩
  intro p e R s m args below meth c D lo n0 A ad cA RR M lc st ls H locs cells slots hC hR hl2 hol hos
  refine ⟨fun pc' lc' st' M' h => ?_, fun r M' h => ?_⟩
  · obtain ⟨-, -, -, -, hcr⟩ := i_ca_inv h
    obtain ⟨r, M2, hc, -⟩ := hinv _ _ _ _ _ _ hcr
    rw [hno] at hc; cases hc
  · obtain ⟨-, -, -, -, hcr⟩ := i_ca_inv h
    obtain ⟨r, M2, hc, -⟩ := hinv _ _ _ _ _ _ hcr
    rw [hno] at hc; cases hc
theorem snd_caNI (hk : k' < k) (ht : tabs k' 0 = none) : SndS l k own cc nL ret ini pc (i_ca crI ci k' n nL' nx) := snd_caN (fun o a M lc rest q h => by obtain ⟨z, M', h1, h2, h3⟩ := crI_inv h; exact ⟨_, M', h1, _, h2, h3⟩) hk ht
end
/-! the whole run of a method -/
def okT (l : Launch) (k : Nat) (own : String) (cc : ByteArray) (nL : Nat) (ret : Option FieldType) (ini : Bool) (tb : Nat → Option PF) : Prop := ∀ pc f, tb pc = some f → SndS l k own cc nL ret ini pc f
theorem okT_if {l : Launch} {k : Nat} {own : String} {cc : ByteArray} {nL : Nat} {ret : Option FieldType} {ini : Bool} {m : Nat} {a b : Nat → Option PF} (ha : okT l k own cc nL ret ini a) (hb : okT l k own cc nL ret ini b) : okT l k own cc nL ret ini (fun pc => if pc < m then a pc else b pc) := by
  intro pc f h
  dsimp only at h
  split at h
  · exact ha pc f h
  · exact hb pc f h
theorem okT_one {l : Launch} {k : Nat} {own : String} {cc : ByteArray} {nL : Nat} {ret : Option FieldType} {ini : Bool} {n : Nat} {g : PF} (h : SndS l k own cc nL ret ini n g) : okT l k own cc nL ret ini (fun pc => if pc = n then some g else none) := by
  intro pc f h2
  dsimp only at h2
  split at h2
  · rename_i e
    cases h2; subst e; exact h
  · cases h2
theorem okT_none {l : Launch} {k : Nat} {own : String} {cc : ByteArray} {nL : Nat} {ret : Option FieldType} {ini : Bool} : okT l k own cc nL ret ini (fun _ => none) := fun pc f h => by cases h
theorem okT_mono {l : Launch} {k : Nat} {own : String} {cc : ByteArray} {nL : Nat} {ret : Option FieldType} {ini : Bool} {tb : Nat → Option PF} (hT : okT l k own cc nL ret ini tb) {o : PO} {r : Option PV} {ME : PM} : ∀ (j : Nat) (pc : Nat) (lc : PL) (st : List PV) (M : PM), runN tb o j (pc, lc, st, M) = some (r, ME) → M.2.1 ≤ ME.2.1 := by
  intro j
  induction j with
  | zero => intro pc lc st M h; cases h
  | succ j ih =>
    intro pc lc st M h
    rw [runN] at h
    cases hf : tb pc with
    | none => rw [hf] at h; cases h
    | some f =>
      rw [hf] at h
      dsimp only at h
      cases hr : f o lc st M with
      | none => rw [hr] at h; cases h
      | some q =>
        rw [hr] at h
        cases q with
        | inr x =>
          obtain ⟨r', M'⟩ := x
          cases h
          rw [(hT pc f hf).2.2 _ _ _ _ _ _ hr]
          exact Nat.le_refl _
        | inl x =>
          obtain ⟨pc', lc', st', M'⟩ := x
          exact Nat.le_trans ((hT pc f hf).2.1 _ _ _ _ _ hr) (ih pc' lc' st' M' h)
theorem run_W {l : Launch} {k : Nat} {own : String} {cc : ByteArray} {nL : Nat} {ret : Option FieldType} {ini : Bool} {tb : Nat → Option PF} (hT : okT l k own cc nL ret ini tb) {p : Program} {e : Env} {R : Room} {s : State} {m : MethodId} {args : Array Value} {below : List Frame} {meth : Method} {c : Code} {D : va_G} {lo n0 : Nat} {A : Nat → Prop} (hC : Cx D own cc nL ret ini k p e R s m args meth c) {Qc : Array Value → State → Outcome → State → Prop} {free : Addr → Prop} {r : Option PV} {ME : PM} (hr1 : ME.2.1 - n0 ≤ R.cells) (hr2 : zs ME.2.1 - zs n0 ≤ R.slots)
    (hfr : ∀ q, A q → free q) (adE : Nat → Nat) (cAE : Nat → ClassId) (hq : ∀ (ad' : Nat → Nat) (cA' : Nat → ClassId) (RR' : Nat → Nat → Nat) (H' : Heap) (locs' : List Loc) (cells' slots' : Nat), (∀ b, b < n0 ∨ b = 999 → ad' b = adE b) → (∀ b, b < n0 → cA' b = cAE b) → Rel D lo n0 A s ad' cA' RR' ME H' locs' cells' slots' → (∀ v, r = some v → okV lo ME.2.1 v) → ∀ t : State, t.heap = H' → s.WarmedH t.vm → Qc args s (.returned (r.map (encV ad'))) t) :
    ∀ (j : Nat) (pc : Nat) (lc : PL) (st : List PV) (M : PM), runN tb (TT k) j (pc, lc, st, M) = some (r, ME) → ∀ (ad : Nat → Nat) (cA : Nat → ClassId) (RR : Nat → Nat → Nat) (ls : Array Slot) (H : Heap) (locs : List Loc) (cells slots : Nat), (∀ b, b < n0 ∨ b = 999 → ad b = adE b) → (∀ b, b < n0 → cA b = cAE b) → Rel D lo n0 A s ad cA RR M H locs cells slots → lv_has ls nL (enL ad lc) → (∀ q ∈ lc, okV lo M.2.1 q.2) → (∀ v ∈ st, okV lo M.2.1 v) →
      W p l e R s m args below meth c H locs cells slots (MQ below Qc args s (ME.2.1 - n0) (zs ME.2.1 - zs n0) free) (F0 m pc ls (st.map (encV ad))) := by
  intro j
  induction j with
  | zero => intro pc lc st M h; cases h
  | succ j ih =>
    intro pc lc st M h ad cA RR ls H locs cells slots hag hagC hR hl hol hos
    have hle := okT_mono hT _ _ _ _ _ h
    rw [runN] at h
    cases hf : tb pc with
    | none => rw [hf] at h; cases h
    | some f =>
      rw [hf] at h
      dsimp only at h
      have hS := (hT pc f hf).1 p e R s m args below meth c D lo n0 A ad cA RR M lc st ls H locs cells slots hC hR hl hol hos
      obtain ⟨g1, g2, g3, g4, g5, g6, g7, g8, g9, g10⟩ := id hR
      cases hr : f (TT k) lc st M with
      | none => rw [hr] at h; cases h
      | some q =>
        rw [hr] at h
        cases q with
        | inr x =>
          obtain ⟨r', M'⟩ := x
          dsimp only at h
          cases h
          obtain ⟨e1, e2, e3⟩ := hS.2 _ _ hr
          subst e1
          have hcell : cells = ME.2.1 - n0 := by omega
          have hslot : slots = zs ME.2.1 - zs n0 := by omega
          rw [← hcell, ← hslot]
          exact e3 Qc free (fun x hx => hfr _ (g4.2.2 x hx)) (fun t ht hW => hq ad cA RR H locs _ _ hag hagC hR e2 t ht hW)
        | inl x =>
          obtain ⟨pc', lc', st', M'⟩ := x
          obtain ⟨h1, h2⟩ := hS.1 _ _ _ _ hr
          have hle2 := okT_mono hT _ _ _ _ _ h
          have hz := zs_le hle2
          refine h2 (by omega) (by omega) _ fun ad' cA' RR' ls' H' locs' cells' slots' a1 a2 a3 a4 a5 a6 => ?_
          exact ih pc' lc' st' M' h ad' cA' RR' ls' H' locs' cells' slots' (fun b hb => by rw [a1 b (hb.imp (fun z => by omega) id)]; exact hag b hb) (fun b hb => by rw [a2 b (by omega)]; exact hagC b hb) a3 a4 a5 a6
theorem eL_enc (ad : Nat → Nat) : ∀ (a : List PV) (i : Nat), enL ad (eL i a) = lv_args i (a.map (encV ad)) := by
  intro a
  induction a with
  | nil => intro i; rfl
  | cons v a ih =>
    intro i
    rw [eL, List.map_cons, lv_args]
    show (i, encV ad v) :: enL ad (eL (i + pcat v) a) = _
    rw [ih]
    rcases v with z | z | b <;> rfl
theorem eL_mem : ∀ (a : List PV) (i : Nat), ∀ q ∈ eL i a, q.2 ∈ a := by
  intro a
  induction a with
  | nil => intro i q hq; cases hq
  | cons v a ih =>
    intro i q hq
    rw [eL] at hq
    rcases List.mem_cons.mp hq with rfl | hq
    · exact List.mem_cons_self
    · exact List.mem_cons_of_mem _ (ih _ q hq)
theorem sl_len (ad : Nat → Nat) : ∀ (a : List PV), (lg_sl (a.map (encV ad))).length = (a.map pcat).sum := by
  intro a
  induction a with
  | nil => rfl
  | cons v a ih =>
    have e : lg_sl ((v :: a).map (encV ad)) = (if (encV ad v).category = 2 then [Slot.val (encV ad v), .second] else [.val (encV ad v)]) ++ lg_sl (a.map (encV ad)) := by
      unfold lg_sl
      rw [List.map_cons, List.flatMap_cons]
    rw [e, List.length_append, ih, List.map_cons, List.sum_cons]
    rcases v with z | z | b <;> rfl
/-- a method whose rows are sound keeps its contract -/
theorem MX_of {l : Launch} {k : Nat} {y : MethodName} {cc : ByteArray} {nL : Nat} {ret : Option FieldType} {ini : Bool} (hy : plainName y.cls = true) (hk : 1 ≤ k) (hini : ini = true → y.name = "<init>") (hT : okT l k y.cls cc nL ret ini (tabs k)) : MX l k y cc nL ret := by
  intro a M r M' hcall hnL D lo sz ad cA RR hPF hoa
  have hcl := hcall
  unfold call at hcall
  obtain ⟨j, hj⟩ := RN_to hcall
  have hle := okT_mono hT _ _ _ _ _ hj
  refine ⟨hle, Met.ofW (cc := cc) (maxL := nL) (ret := ret) hy rfl ?_⟩
  intro p e s m args below meth c s₁ B hml hv
  obtain ⟨hargs, hsz, hP, hK, hD, hAr, hnw, hao, hst⟩ := hv
  subst hargs
  subst hsz
  have hts := atoms_spec (ws := .code y cc nL ret :: BIG) B.pre
  have hown : s.vm.findClass y.cls = some m.cls := findClass_of_methodNamed B.named
  have hC : Cx D y.cls cc nL ret ini k p e (headSpec (.code y cc nL ret :: BIG) (rmK k (M'.2.1 - M.2.1) (zs M'.2.1 - zs M.2.1))).room s m (a.map (encV ad)).toArray meth c :=
    ⟨B.exec, B.bytes, hml, hown, fun w hw => hts w (List.mem_cons_of_mem _ hw), B.returns, B.notSynchronized, hK, hnw, hao, Nat.le_refl _, Nat.le_refl _, hk, fun hi => by rw [(name_of_methodNamed B.named B.method).1]; exact hini hi⟩
  have hR : Rel D lo M.2.1 (AKs ad cA RR M lo s.heap.size) s ad cA RR M s.heap [] 0 0 :=
    ⟨hPF, hP, hD.self, va_S.rf, fun q hq => Or.inr hq, hAr, Nat.le_refl _, Nat.zero_add _, Nat.zero_add _, hst⟩
  have hsl : (lg_sl (a.map (encV ad))).length ≤ nL := by rw [sl_len]; exact hnL
  have hl := lv_entry (a.map (encV ad)) (n := nL) hsl
  rw [← eL_enc] at hl
  rw [lg_entry_eq]
  have hW := run_W (below := below) hT (r := r) (ME := M') (free := AKs ad cA RR M lo s.heap.size) (Qc := QcK D lo s.heap.size ad cA RR M r M') (A := AKs ad cA RR M lo s.heap.size) (n0 := M.2.1) hC (Nat.le_refl _) (Nat.le_refl _) (fun q h => h) ad cA
    (fun ad' cA' RR' H' locs' cells' slots' b1 b2 b3 b4 t ht hWm => by
      obtain ⟨g1, g2, g3, g4, g5, g6, g7, g8, g9, g10⟩ := b3
      exact ⟨ad', cA', RR', b1, b2, rfl, b4, g1, by rw [ht]; exact g2, g3, fun b q1 q2 q3 => ⟨arrOfT_moved hWm.alike (g6 b q1 q2 q3).1, (g6 b q1 q2 q3).2.moved hWm.alike⟩, by rw [ht]; exact g4.1, fun q q1 q2 => by rw [ht]; exact g4.2.1 q q1 q2⟩)
    j 0 (eL 0 a) [] M hj ad cA RR _ s.heap [] 0 0 (fun _ _ => rfl) (fun _ _ => rfl) hR hl (fun q hq => hoa _ (eL_mem _ _ q hq)) (fun v hv => by cases hv)
  exact hW
