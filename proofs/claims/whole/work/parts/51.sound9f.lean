/-! for a class that has natives of its own: a method that has none -/
theorem Met.ofWF {l : Launch} {y : MethodName} {ws ws' : List Cond} {rm : Room} {Pc : Array Value → State → Prop} {Qc : Array Value → State → Outcome → State → Prop} {mc ms : Nat} {free : Addr → Prop} {cc : ByteArray} {maxL : Nat} {ret : Option FieldType} (hy : plainFor y = true) (hw : ws = Cond.code y cc maxL ret :: ws')
    (body : ∀ p e s m args below meth c s₁, BodyLoose p l y (headSpec ws rm) cc maxL ret e s m args below meth c s₁ → c.maxLocals = maxL → Pc args s → W p l e (headSpec ws rm).room s m args below meth c s.heap [] 0 0 (MQ below Qc args s mc ms free) (entryFrame m args maxL)) : Met l y ws rm Pc Qc mc ms free := by
  have his : ∀ (args : Array Value) (s : State) (m : MethodId), (headSpec ws rm).pre.before args s = true → s.methodNamed? y = some m → ∃ meth c, s.vm.method? m = some meth ∧ meth.code = some c ∧ c.code = cc ∧ c.maxLocals = maxL ∧ meth.sig.returnType = ret ∧ meth.locks = false := by
    intro args s m h hn
    have hin : Cond.code y cc maxL ret ∈ ws := hw ▸ List.mem_cons_self
    obtain ⟨meth, c, h1, h2, h3, h4, h5, h6, -⟩ := Cond.code_spec hn (atoms_spec (ws := ws) h _ hin)
    exact ⟨meth, c, h1, h2, h3, h4, h5, h6⟩
  refine MetFree.of_bodySF (code := cc) (maxLocals := maxL) (ret := ret) hy his (fun p e s m args below meth c s₁ B hml hP _ => ?_)
  have hh : s₁.heap = s.heap := by rw [B.state]; rfl
  obtain ⟨t, a1, o, b1, b2, b3⟩ := body p e s m args below meth c s₁ B hml hP s₁ hh (Stand.of_body B)
  exact ⟨t, o, a1, b1, b2, b3.1, b3.2⟩
theorem MX_ofF {l : Launch} {k : Nat} {y : MethodName} {cc : ByteArray} {nL : Nat} {ret : Option FieldType} {ini : Bool} (hy : plainFor y = true) (hk : 1 ≤ k) (hini : ini = true → y.name = "<init>") (hT : okT l k y.cls cc nL ret ini (tabs k)) : MX l k y cc nL ret := by
  intro a M r M' hcall hnL D lo sz ad cA RR hPF hoa
  have hcl := hcall
  unfold call at hcall
  obtain ⟨j, hj⟩ := RN_to hcall
  have hle := okT_mono hT _ _ _ _ _ hj
  refine ⟨hle, Met.ofWF (cc := cc) (maxL := nL) (ret := ret) hy rfl ?_⟩
  intro p e s m args below meth c s₁ B hml hv
  obtain ⟨hargs, hsz, hP, hK, hD, hAr, hnw, hao, hst⟩ := hv
  subst hargs
  subst hsz
  have hts := atoms_spec (ws := .code y cc nL ret :: BIG) B.pre
  have hown : s.vm.findClass y.cls = some m.cls := findClass_of_methodNamed B.named
  have hC : Cx D y.cls cc nL ret ini k p e (headSpec (.code y cc nL ret :: BIG) (rmK k (M'.2.1 - M.2.1) (zs M'.2.1 - zs M.2.1))).room s m (a.map (encV ad)).toArray meth c :=
    ⟨B.exec, B.bytes, hml, hown, fun w hw => hts w (List.mem_cons_of_mem _ hw), B.returns, B.notSynchronized, hK, hnw, hao, Nat.le_refl _, Nat.le_refl _, hk, fun hi => by rw [(name_of_methodNamed B.named B.method).1]; exact hini hi⟩
  have hR : Rel D lo M.2.1 (AKs ad cA RR M lo s.heap.size) s ad cA RR M s.heap [] 0 0 :=
    ⟨hPF, hP, hD.self, va_S.rf, fun q hq => Or.inr hq, hAr, Nat.le_refl _, Nat.zero_add _, Nat.zero_add _, hst⟩
  have hsl : (lg_sl (a.map (encV ad))).length ≤ nL := by rw [sl_len]; exact hnL
  have hl := lv_entry (a.map (encV ad)) (n := nL) hsl
  rw [← eL_enc] at hl
  rw [lg_entry_eq]
  have hW := run_W (below := below) hT (r := r) (ME := M') (free := AKs ad cA RR M lo s.heap.size) (Qc := QcK D lo s.heap.size ad cA RR M r M') (A := AKs ad cA RR M lo s.heap.size) (n0 := M.2.1) hC (Nat.le_refl _) (Nat.le_refl _) (fun q h => h) ad cA
    (fun ad' cA' RR' H' locs' cells' slots' b1 b2 b3 b4 t ht hWm => by
      obtain ⟨g1, g2, g3, g4, g5, g6, g7, g8, g9, g10⟩ := b3
      exact ⟨ad', cA', RR', b1, b2, rfl, b4, g1, by rw [ht]; exact g2, g3, fun b q1 q2 q3 => ⟨arrOfT_moved hWm.alike (g6 b q1 q2 q3).1, (g6 b q1 q2 q3).2.moved hWm.alike⟩, by rw [ht]; exact g4.1, fun q q1 q2 => by rw [ht]; exact g4.2.1 q q1 q2⟩)
    j 0 (eL 0 a) [] M hj ad cA RR _ s.heap [] 0 0 (fun _ _ => rfl) (fun _ _ => rfl) hR hl (fun q hq => hoa _ (eL_mem _ _ q hq)) (fun v hv => by cases hv)
  exact hW
