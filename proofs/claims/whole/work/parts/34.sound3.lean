/-! each instruction -/
def BIG : List Cond := lw_tbl.filter goodWord
theorem BIG_good : ∀ w ∈ BIG, goodWord w = true := fun w h => (List.mem_filter.mp h).2
theorem BIG_in {big : List Cond} (hb : ∀ w ∈ BIG, w ∈ big) {ws : List Cond} (h : ∀ w ∈ ws, w ∈ BIG) : GoodIn big ws := fun w hw => ⟨hb w (h w hw), good_of_word (BIG_good w (h w hw))⟩
def Cx (D : va_G) (own : String) (cc : ByteArray) (nL : Nat) (ret : Option FieldType) (ini : Bool) (k : Nat) (p : Program) (e : Env) (R : Room) (s : State) (m : MethodId) (args : Array Value) (meth : Method) (c : Code) : Prop :=
  p.tables.exec = Jvm.exec ∧ c.code = cc ∧ c.maxLocals = nL ∧ s.vm.findClass own = some m.cls ∧ (∀ w ∈ BIG, w.before args s = true) ∧ meth.sig.returnType = ret ∧ meth.locks = false ∧ va_K D vwCl [] s ∧ (∀ w ∈ nwl, va_Nw w s) ∧ va_AO "CarbonMinistry$State" s ∧ k ≤ R.frames ∧ 100 * k ≤ R.locals ∧ 1 ≤ k ∧ (ini = true → meth.name = "<init>")
abbrev enL (ad : Nat → Nat) (lc : PL) : List (Nat × Value) := lc.map fun q => (q.1, encV ad q.2)
/-- cells are made, never lost -/
def Mono (f : PF) : Prop := (∀ (o : PO) (lc : PL) (st : List PV) (M : PM) (s' : PS), f o lc st M = some (.inl s') → M.2.1 ≤ s'.2.2.2.2.1) ∧ ∀ (o : PO) (lc : PL) (st : List PV) (M : PM) (r : Option PV) (M' : PM), f o lc st M = some (.inr (r, M')) → M' = M
def SndS0 (l : Launch) (k : Nat) (own : String) (cc : ByteArray) (nL : Nat) (ret : Option FieldType) (ini : Bool) (pc : Nat) (f : PF) : Prop :=
  ∀ (p : Program) (e : Env) (R : Room) (s : State) (m : MethodId) (args : Array Value) (below : List Frame) (meth : Method) (c : Code) (D : va_G) (lo n0 : Nat) (A : Nat → Prop) (ad : Nat → Nat) (cA : Nat → ClassId) (RR : Nat → Nat → Nat) (M : PM) (lc : PL) (st : List PV) (ls : Array Slot) (H : Heap) (locs : List Loc) (cells slots : Nat),
    Cx D own cc nL ret ini k p e R s m args meth c → Rel D lo n0 A s ad cA RR M H locs cells slots → lv_has ls nL (enL ad lc) → (∀ q ∈ lc, okV lo M.2.1 q.2) → (∀ v ∈ st, okV lo M.2.1 v) →
    (∀ pc' lc' st' M', f (TT k) lc st M = some (.inl (pc', lc', st', M')) → M.2.1 ≤ M'.2.1 ∧ (M'.2.1 - n0 ≤ R.cells → zs M'.2.1 - zs n0 ≤ R.slots → ∀ Q : State → Prop,
      (∀ (ad' : Nat → Nat) (cA' : Nat → ClassId) (RR' : Nat → Nat → Nat) (ls' : Array Slot) (H' : Heap) (locs' : List Loc) (cells' slots' : Nat), (∀ b, b < M.2.1 ∨ b = 999 → ad' b = ad b) → (∀ b, b < M.2.1 → cA' b = cA b) → Rel D lo n0 A s ad' cA' RR' M' H' locs' cells' slots' → lv_has ls' nL (enL ad' lc') → (∀ q ∈ lc', okV lo M'.2.1 q.2) → (∀ v ∈ st', okV lo M'.2.1 v) → W p l e R s m args below meth c H' locs' cells' slots' Q (F0 m pc' ls' (st'.map (encV ad')))) →
      W p l e R s m args below meth c H locs cells slots Q (F0 m pc ls (st.map (encV ad))))) ∧
    (∀ r M', f (TT k) lc st M = some (.inr (r, M')) → M' = M ∧ (∀ v, r = some v → okV lo M.2.1 v) ∧ ∀ (Qc : Array Value → State → Outcome → State → Prop) (free : Addr → Prop), (∀ q ∈ locs, free q.base) → (∀ t : State, t.heap = H → s.WarmedH t.vm → Qc args s (.returned (r.map (encV ad))) t) → W p l e R s m args below meth c H locs cells slots (MQ below Qc args s cells slots free) (F0 m pc ls (st.map (encV ad))))
def SndS (l : Launch) (k : Nat) (own : String) (cc : ByteArray) (nL : Nat) (ret : Option FieldType) (ini : Bool) (pc : Nat) (f : PF) : Prop := SndS0 l k own cc nL ret ini pc f ∧ Mono f
section
variable {l : Launch} {k : Nat} {own : String} {cc : ByteArray} {nL : Nat} {ret : Option FieldType} {ini : Bool} {pc : Nat}
/-- what touches neither cells nor callers -/
def SndP (l : Launch) (own : String) (cc : ByteArray) (nL : Nat) (pc : Nat) (f : PF) : Prop :=
  ∀ (o : PO) (lc : PL) (st : List PV) (M : PM) (q : PS ⊕ PRes), f o lc st M = some q → ∃ pc' lc' st', q = .inl (pc', lc', st', M) ∧ ∀ (lo n : Nat), (∀ q ∈ lc, okV lo n q.2) → (∀ v ∈ st, okV lo n v) → (∀ q ∈ lc', okV lo n q.2) ∧ (∀ v ∈ st', okV lo n v) ∧
    ∀ (ad : Nat → Nat) (p : Program) (e : Env) (R : Room) (s : State) (m : MethodId) (args : Array Value) (below : List Frame) (meth : Method) (c : Code) (H : Heap) (locs : List Loc) (cells slots : Nat) (Q : State → Prop) (ls : Array Slot), p.tables.exec = Jvm.exec → c.code = cc → s.vm.findClass own = some m.cls → (∀ w ∈ BIG, w.before args s = true) → lv_has ls nL (enL ad lc) →
      (∀ ls', lv_has ls' nL (enL ad lc') → W p l e R s m args below meth c H locs cells slots Q (F0 m pc' ls' (st'.map (encV ad)))) → W p l e R s m args below meth c H locs cells slots Q (F0 m pc ls (st.map (encV ad)))
theorem SndP.to {f : PF} (h : SndP l own cc nL pc f) : SndS l k own cc nL ret ini pc f := by
  refine ⟨?_, fun o lc st M s' hf => by
    obtain ⟨pc2, lc2, st2, hq, -⟩ := h _ _ _ _ _ hf
    cases hq
    (exact Nat.le_refl _), fun o lc st M r M' hf => by
    obtain ⟨pc2, lc2, st2, hq, -⟩ := h _ _ _ _ _ hf
    cases hq⟩
  intro p e R s m args below meth c D lo n0 A ad cA RR M lc st ls H locs cells slots hC hR hl hol hos
  refine ⟨fun pc' lc' st' M' hf => ?_, fun r M' hf => ?_⟩
  · obtain ⟨pc2, lc2, st2, hq, hh⟩ := h _ _ _ _ _ hf
    cases hq
    obtain ⟨h1, h2, h3⟩ := hh lo M.2.1 hol hos
    refine ⟨Nat.le_refl _, fun _ _ Q kk => ?_⟩
    exact h3 ad p e R s m args below meth c H locs cells slots Q ls hC.1 hC.2.1 hC.2.2.2.1 hC.2.2.2.2.1 hl fun ls' hl' => kk ad cA RR ls' H locs cells slots (fun _ _ => rfl) (fun _ _ => rfl) hR hl' h1 h2
  · obtain ⟨pc2, lc2, st2, hq, -⟩ := h _ _ _ _ _ hf
    cases hq
theorem lk_mem {lc : PL} {i : Nat} {v : PV} (h : lk lc i = some v) : (i, v) ∈ lc := by
  induction lc with
  | nil => cases h
  | cons q lc ih =>
    obtain ⟨j, w⟩ := q
    rw [lk] at h
    split at h
    · rename_i hj
      cases h; subst hj
      exact List.mem_cons_self
    · exact List.mem_cons_of_mem _ (ih h)
theorem lk_at {ad : Nat → Nat} {ls : Array Slot} {lc : PL} {i : Nat} {v : PV} (hl : lv_has ls nL (enL ad lc)) (h : lk lc i = some v) : ls[i]? = some (.val (encV ad v)) :=
  hl.2.2 (i, encV ad v) (List.mem_map.mpr ⟨(i, v), lk_mem h, rfl⟩)
theorem kp_ok {ks : List Nat} : ∀ {lc t : PL}, kp ks lc = some t → ∀ q ∈ t, q ∈ lc := by
  induction ks with
  | nil => intro lc t h q hq; cases h; cases hq
  | cons i ks ih =>
    intro lc t h q hq
    rw [kp] at h
    cases hv : lk lc i with
    | none => rw [hv] at h; cases h
    | some v =>
      rw [hv] at h
      dsimp only at h
      cases ht : kp ks lc with
      | none => rw [ht] at h; cases h
      | some t' =>
        rw [ht] at h
        cases h
        rcases List.mem_cons.mp hq with rfl | hq
        · exact lk_mem hv
        · exact ih ht q hq
theorem snd_kp {ks : List Nat} {f : PF} (h : SndS l k own cc nL ret ini pc f) : SndS l k own cc nL ret ini pc (i_kp ks f) := by
  refine ⟨?_, fun o lc st M s' hf => by
    unfold i_kp at hf
    split at hf
    · exact h.2.1 _ _ _ _ _ hf
    · (cases hf), fun o lc st M r M' hf => by
    unfold i_kp at hf
    split at hf
    · exact h.2.2 _ _ _ _ _ _ hf
    · cases hf⟩
  intro p e R s m args below meth c D lo n0 A ad cA RR M lc st ls H locs cells slots hC hR hl hol hos
  cases hk : kp ks lc with
  | none =>
    have e0 : ∀ o M, i_kp ks f o lc st M = none := fun o M => by unfold i_kp; rw [hk]
    exact ⟨fun pc' lc' st' M' hf => (by rw [e0] at hf; cases hf), fun r M' hf => (by rw [e0] at hf; cases hf)⟩
  | some t =>
    have ht := kp_ok hk
    have hl2 : lv_has ls nL (enL ad t) := ⟨hl.1, hl.2.1, fun q hq => by
      obtain ⟨x, hx, rfl⟩ := List.mem_map.mp hq
      exact hl.2.2 _ (List.mem_map.mpr ⟨x, ht x hx, rfl⟩)⟩
    have := h.1 p e R s m args below meth c D lo n0 A ad cA RR M t st ls H locs cells slots hC hR hl2 (fun q hq => hol q (ht q hq)) hos
    refine ⟨fun pc' lc' st' M' hf => this.1 pc' lc' st' M' (by unfold i_kp at hf; rw [hk] at hf; exact hf), fun r M' hf => this.2 r M' (by unfold i_kp at hf; rw [hk] at hf; exact hf)⟩
theorem enL_filter (ad : Nat → Nat) (lc : PL) (i : Nat) : (enL ad lc).filter (fun q => !(q.1 == i) && !(q.1 + 1 == i && q.2.category == 2)) = enL ad (lc.filter (fun q => !(q.1 == i) && !(q.1 + 1 == i && pcat q.2 == 2))) := by
  unfold enL
  rw [List.filter_map]
  congr 1
  apply List.filter_congr
  intro q _
  obtain ⟨j, v⟩ := q
  rcases v with z | z | a <;> rfl
theorem enL_filter2 (ad : Nat → Nat) (lc : PL) (i : Nat) : (enL ad lc).filter (fun q => !(q.1 == i) && (!(q.1 == i + 1) && !(q.1 + 1 == i && q.2.category == 2))) = enL ad (lc.filter (fun q => !(q.1 == i) && (!(q.1 == i + 1) && !(q.1 + 1 == i && pcat q.2 == 2)))) := by
  unfold enL
  rw [List.filter_map]
  congr 1
  apply List.filter_congr
  intro q _
  obtain ⟨j, v⟩ := q
  rcases v with z | z | a <;> rfl
theorem ok_put1 {lo n i : Nat} {v : PV} {lc : PL} (hv : okV lo n v) (h : ∀ q ∈ lc, okV lo n q.2) : ∀ q ∈ put1 i v lc, okV lo n q.2 := by
  intro q hq
  rcases List.mem_cons.mp hq with rfl | hq
  · exact hv
  · exact h q (List.mem_filter.mp hq).1
theorem ok_put2 {lo n i : Nat} {v : PV} {lc : PL} (hv : okV lo n v) (h : ∀ q ∈ lc, okV lo n q.2) : ∀ q ∈ put2 i v lc, okV lo n q.2 := by
  intro q hq
  rcases List.mem_cons.mp hq with rfl | hq
  · exact hv
  · exact h q (List.mem_filter.mp hq).1
theorem ok_cons {lo n : Nat} {v : PV} {st : List PV} (h : okV lo n v) (h2 : ∀ w ∈ st, okV lo n w) : ∀ w ∈ v :: st, okV lo n w := by
  intro w hw
  rcases List.mem_cons.mp hw with rfl | hw
  · exact h
  · exact h2 w hw
theorem ok_hd {lo n : Nat} {v : PV} {st : List PV} (h : ∀ w ∈ v :: st, okV lo n w) : okV lo n v := h v List.mem_cons_self
theorem ok_tl {lo n : Nat} {v : PV} {st : List PV} (h : ∀ w ∈ v :: st, okV lo n w) : ∀ w ∈ st, okV lo n w := fun w hw => h w (List.mem_cons_of_mem _ hw)
theorem lk_ok {lo n : Nat} {lc : PL} {i : Nat} {v : PV} (h : ∀ q ∈ lc, okV lo n q.2) (hv : lk lc i = some v) : okV lo n v := h (i, v) (lk_mem hv)
theorem snd_iload_n {kk : Fin 4} {i nx : Nat} (hd : decode cc pc = .ok (.iload_n kk, 1)) (hi : (kk : Nat) = i) (hx : pc + 1 = nx) : SndS l k own cc nL ret ini pc (i_ldI i nx) := SndP.to fun o lc st M q h => by
  unfold i_ldI at h
  split at h
  · rename_i z hv
    cases h
    refine ⟨_, _, _, rfl, fun lo n h1 h2 => ⟨h1, ok_cons (lk_ok h1 hv) h2, fun ad p e R s m args below meth c H locs cells slots Q ls hx1 hx2 _ _ hl kw => ?_⟩⟩
    exact lv_iload_n hx1 hx2 hd hi (lk_at hl hv) (by rw [hx]; exact kw ls hl)
  · cases h
theorem snd_iload {i nx : Nat} (hd : decode cc pc = .ok (.iload i, 2)) (hx : pc + 2 = nx) : SndS l k own cc nL ret ini pc (i_ldI i nx) := SndP.to fun o lc st M q h => by
  unfold i_ldI at h
  split at h
  · rename_i z hv
    cases h
    refine ⟨_, _, _, rfl, fun lo n h1 h2 => ⟨h1, ok_cons (lk_ok h1 hv) h2, fun ad p e R s m args below meth c H locs cells slots Q ls hx1 hx2 _ _ hl kw => ?_⟩⟩
    exact lv_iload hx1 hx2 hd (lk_at hl hv) (by rw [hx]; exact kw ls hl)
  · cases h
theorem snd_lload_n {kk : Fin 4} {i nx : Nat} (hd : decode cc pc = .ok (.lload_n kk, 1)) (hi : (kk : Nat) = i) (hx : pc + 1 = nx) : SndS l k own cc nL ret ini pc (i_ldL i nx) := SndP.to fun o lc st M q h => by
  unfold i_ldL at h
  split at h
  · rename_i z hv
    cases h
    refine ⟨_, _, _, rfl, fun lo n h1 h2 => ⟨h1, ok_cons (lk_ok h1 hv) h2, fun ad p e R s m args below meth c H locs cells slots Q ls hx1 hx2 _ _ hl kw => ?_⟩⟩
    exact lv_lload_n hx1 hx2 hd hi (lk_at hl hv) (by rw [hx]; exact kw ls hl)
  · cases h
theorem snd_lload {i nx : Nat} (hd : decode cc pc = .ok (.lload i, 2)) (hx : pc + 2 = nx) : SndS l k own cc nL ret ini pc (i_ldL i nx) := SndP.to fun o lc st M q h => by
  unfold i_ldL at h
  split at h
  · rename_i z hv
    cases h
    refine ⟨_, _, _, rfl, fun lo n h1 h2 => ⟨h1, ok_cons (lk_ok h1 hv) h2, fun ad p e R s m args below meth c H locs cells slots Q ls hx1 hx2 _ _ hl kw => ?_⟩⟩
    exact lv_lload hx1 hx2 hd (lk_at hl hv) (by rw [hx]; exact kw ls hl)
  · cases h
theorem snd_aload_n {kk : Fin 4} {i nx : Nat} (hd : decode cc pc = .ok (.aload_n kk, 1)) (hi : (kk : Nat) = i) (hx : pc + 1 = nx) : SndS l k own cc nL ret ini pc (i_ldR i nx) := SndP.to fun o lc st M q h => by
  unfold i_ldR at h
  split at h
  · rename_i z hv
    cases h
    refine ⟨_, _, _, rfl, fun lo n h1 h2 => ⟨h1, ok_cons (lk_ok h1 hv) h2, fun ad p e R s m args below meth c H locs cells slots Q ls hx1 hx2 _ _ hl kw => ?_⟩⟩
    exact lv_aload_n hx1 hx2 hd hi (lk_at hl hv) (by rw [hx]; exact kw ls hl)
  · cases h
theorem snd_aload {i nx : Nat} (hd : decode cc pc = .ok (.aload i, 2)) (hx : pc + 2 = nx) : SndS l k own cc nL ret ini pc (i_ldR i nx) := SndP.to fun o lc st M q h => by
  unfold i_ldR at h
  split at h
  · rename_i z hv
    cases h
    refine ⟨_, _, _, rfl, fun lo n h1 h2 => ⟨h1, ok_cons (lk_ok h1 hv) h2, fun ad p e R s m args below meth c H locs cells slots Q ls hx1 hx2 _ _ hl kw => ?_⟩⟩
    exact lv_aload hx1 hx2 hd (lk_at hl hv) (by rw [hx]; exact kw ls hl)
  · cases h
theorem snd_istore_n {kk : Fin 4} {i nx : Nat} (hd : decode cc pc = .ok (.istore_n kk, 1)) (hi : (kk : Nat) = i) (hn : i < nL) (hx : pc + 1 = nx) : SndS l k own cc nL ret ini pc (i_stI i nx) := SndP.to fun o lc st M q h => by
  unfold i_stI at h
  split at h
  · rename_i z st
    cases h
    refine ⟨_, _, _, rfl, fun lo n h1 h2 => ⟨ok_put1 (ok_hd h2) h1, ok_tl h2, fun ad p e R s m args below meth c H locs cells slots Q ls hx1 hx2 _ _ hl kw => ?_⟩⟩
    exact lv_istore_n hx1 hx2 hd hi hl hn (congrArg (List.cons _) (enL_filter ad lc i)) (fun ls' hl' => by rw [hx]; exact kw ls' hl')
  · cases h
theorem snd_istore {i nx : Nat} (hd : decode cc pc = .ok (.istore i, 2)) (hn : i < nL) (hx : pc + 2 = nx) : SndS l k own cc nL ret ini pc (i_stI i nx) := SndP.to fun o lc st M q h => by
  unfold i_stI at h
  split at h
  · rename_i z st
    cases h
    refine ⟨_, _, _, rfl, fun lo n h1 h2 => ⟨ok_put1 (ok_hd h2) h1, ok_tl h2, fun ad p e R s m args below meth c H locs cells slots Q ls hx1 hx2 _ _ hl kw => ?_⟩⟩
    exact lv_istore hx1 hx2 hd hl hn (congrArg (List.cons _) (enL_filter ad lc i)) (fun ls' hl' => by rw [hx]; exact kw ls' hl')
  · cases h
theorem snd_lstore_n {kk : Fin 4} {i nx : Nat} (hd : decode cc pc = .ok (.lstore_n kk, 1)) (hi : (kk : Nat) = i) (hn : i + 1 < nL) (hx : pc + 1 = nx) : SndS l k own cc nL ret ini pc (i_stL i nx) := SndP.to fun o lc st M q h => by
  unfold i_stL at h
  split at h
  · rename_i z st
    cases h
    refine ⟨_, _, _, rfl, fun lo n h1 h2 => ⟨ok_put2 (ok_hd h2) h1, ok_tl h2, fun ad p e R s m args below meth c H locs cells slots Q ls hx1 hx2 _ _ hl kw => ?_⟩⟩
    exact lv_lstore_n hx1 hx2 hd hi hl hn (congrArg (List.cons _) (enL_filter2 ad lc i)) (fun ls' hl' => by rw [hx]; exact kw ls' hl')
  · cases h
theorem snd_lstore {i nx : Nat} (hd : decode cc pc = .ok (.lstore i, 2)) (hn : i + 1 < nL) (hx : pc + 2 = nx) : SndS l k own cc nL ret ini pc (i_stL i nx) := SndP.to fun o lc st M q h => by
  unfold i_stL at h
  split at h
  · rename_i z st
    cases h
    refine ⟨_, _, _, rfl, fun lo n h1 h2 => ⟨ok_put2 (ok_hd h2) h1, ok_tl h2, fun ad p e R s m args below meth c H locs cells slots Q ls hx1 hx2 _ _ hl kw => ?_⟩⟩
    exact lv_lstore hx1 hx2 hd hl hn (congrArg (List.cons _) (enL_filter2 ad lc i)) (fun ls' hl' => by rw [hx]; exact kw ls' hl')
  · cases h
theorem snd_astore_n {kk : Fin 4} {i nx : Nat} (hd : decode cc pc = .ok (.astore_n kk, 1)) (hi : (kk : Nat) = i) (hn : i < nL) (hx : pc + 1 = nx) : SndS l k own cc nL ret ini pc (i_stR i nx) := SndP.to fun o lc st M q h => by
  unfold i_stR at h
  split at h
  · rename_i z st
    cases h
    refine ⟨_, _, _, rfl, fun lo n h1 h2 => ⟨ok_put1 (ok_hd h2) h1, ok_tl h2, fun ad p e R s m args below meth c H locs cells slots Q ls hx1 hx2 _ _ hl kw => ?_⟩⟩
    exact lv_astore_n hx1 hx2 hd hi hl hn (congrArg (List.cons _) (enL_filter ad lc i)) (fun ls' hl' => by rw [hx]; exact kw ls' hl')
  · cases h
theorem snd_astore {i nx : Nat} (hd : decode cc pc = .ok (.astore i, 2)) (hn : i < nL) (hx : pc + 2 = nx) : SndS l k own cc nL ret ini pc (i_stR i nx) := SndP.to fun o lc st M q h => by
  unfold i_stR at h
  split at h
  · rename_i z st
    cases h
    refine ⟨_, _, _, rfl, fun lo n h1 h2 => ⟨ok_put1 (ok_hd h2) h1, ok_tl h2, fun ad p e R s m args below meth c H locs cells slots Q ls hx1 hx2 _ _ hl kw => ?_⟩⟩
    exact lv_astore hx1 hx2 hd hl hn (congrArg (List.cons _) (enL_filter ad lc i)) (fun ls' hl' => by rw [hx]; exact kw ls' hl')
  · cases h
theorem lkk {ad : Nat → Nat} {lc : PL} {i : Nat} {v : PV} (h : lk lc i = some v) : ∃ j : Nat, (enL ad lc)[j]? = some (i, encV ad v) := by
  obtain ⟨j, hj⟩ := List.getElem?_of_mem (lk_mem h)
  exact ⟨j, by unfold enL; rw [List.getElem?_map, hj]; rfl⟩
theorem snd_iinc {i nx : Nat} {d : Int} (hd : decode cc pc = .ok (.iinc i d, 3)) (hn : i < nL) (hx : pc + 3 = nx) : SndS l k own cc nL ret ini pc (i_inc i d nx) := SndP.to fun o lc st M q h => by
  unfold i_inc at h
  split at h
  · rename_i z hv
    cases h
    refine ⟨_, _, _, rfl, fun lo n h1 h2 => ⟨ok_put1 (inA_wr _) h1, h2, fun ad p e R s m args below meth c H locs cells slots Q ls hx1 hx2 _ _ hl kw => ?_⟩⟩
    obtain ⟨j, hj⟩ := lkk (ad := ad) hv
    exact lv_iinc hx1 hx2 hd hl hj (oi_add z d) hn (congrArg (List.cons _) (enL_filter ad lc i)) (fun ls' hl' => by rw [hx]; exact kw ls' hl')
  · cases h
theorem snd_iconst {z : Int} {nx : Nat} (hd : decode cc pc = .ok (.iconst z, 1)) (hz : inA z)  (hx : pc + 1 = nx) : SndS l k own cc nL ret ini pc (i_cI z nx) := SndP.to fun o lc st M q h => by
  unfold i_cI at h
  cases h
  refine ⟨_, _, _, rfl, fun lo n h1 h2 => ⟨h1, ok_cons hz h2, fun ad p e R s m args below meth c H locs cells slots Q ls hx1 hx2 _ _ hl kw => ?_⟩⟩
  exact lv_iconst hx1 hx2 hd rfl (by rw [hx]; exact kw ls hl)
theorem snd_bipush {z : Int} {nx : Nat} (hd : decode cc pc = .ok (.bipush z, 2)) (hz : inA z) (hv : (Int8.ofInt z).toInt32 = oi z) (hx : pc + 2 = nx) : SndS l k own cc nL ret ini pc (i_cI z nx) := SndP.to fun o lc st M q h => by
  unfold i_cI at h
  cases h
  refine ⟨_, _, _, rfl, fun lo n h1 h2 => ⟨h1, ok_cons hz h2, fun ad p e R s m args below meth c H locs cells slots Q ls hx1 hx2 _ _ hl kw => ?_⟩⟩
  exact lv_bipush hx1 hx2 hd hv (by rw [hx]; exact kw ls hl)
theorem snd_sipush {z : Int} {nx : Nat} (hd : decode cc pc = .ok (.sipush z, 3)) (hz : inA z) (hv : (Int16.ofInt z).toInt32 = oi z) (hx : pc + 3 = nx) : SndS l k own cc nL ret ini pc (i_cI z nx) := SndP.to fun o lc st M q h => by
  unfold i_cI at h
  cases h
  refine ⟨_, _, _, rfl, fun lo n h1 h2 => ⟨h1, ok_cons hz h2, fun ad p e R s m args below meth c H locs cells slots Q ls hx1 hx2 _ _ hl kw => ?_⟩⟩
  exact lv_sipush hx1 hx2 hd hv (by rw [hx]; exact kw ls hl)
theorem snd_lconst {n : Fin 2} {z : Int} {nx : Nat} (hd : decode cc pc = .ok (.lconst n, 1)) (hz : inL z) (hv : Int64.ofNat (n : Nat) = ol z) (hx : pc + 1 = nx) : SndS l k own cc nL ret ini pc (i_cL z nx) := SndP.to fun o lc st M q h => by
  unfold i_cL at h
  cases h
  refine ⟨_, _, _, rfl, fun lo n h1 h2 => ⟨h1, ok_cons hz h2, fun ad p e R s m args below meth c H locs cells slots Q ls hx1 hx2 _ _ hl kw => ?_⟩⟩
  exact lv_lconst hx1 hx2 hd hv (by rw [hx]; exact kw ls hl)
theorem snd_ldc {z : Int} {nx index : Nat} (hd : decode cc pc = .ok (.ldc index, 2)) (hz : inA z) (hc : Cond.constant own index (oi z) ∈ BIG) (hx : pc + 2 = nx) : SndS l k own cc nL ret ini pc (i_cI z nx) := SndP.to fun o lc st M q h => by
  unfold i_cI at h
  cases h
  refine ⟨_, _, _, rfl, fun lo n h1 h2 => ⟨h1, ok_cons hz h2, fun ad p e R s m args below meth c H locs cells slots Q ls hx1 hx2 ho hw hl kw => ?_⟩⟩
  exact lv_ldc hx1 hx2 ho (hw _ hc) hd (by rw [hx]; exact kw ls hl)
theorem snd_ldcw {z : Int} {nx index : Nat} (hd : decode cc pc = .ok (.ldc_w index, 3)) (hz : inA z) (hc : Cond.constant own index (oi z) ∈ BIG) (hx : pc + 3 = nx) : SndS l k own cc nL ret ini pc (i_cI z nx) := SndP.to fun o lc st M q h => by
  unfold i_cI at h
  cases h
  refine ⟨_, _, _, rfl, fun lo n h1 h2 => ⟨h1, ok_cons hz h2, fun ad p e R s m args below meth c H locs cells slots Q ls hx1 hx2 ho hw hl kw => ?_⟩⟩
  exact lv_ldcw hx1 hx2 ho (hw _ hc) hd (by rw [hx]; exact kw ls hl)
theorem snd_ldc2 {z : Int} {nx index : Nat} (hd : decode cc pc = .ok (.ldc2_w index, 3)) (hz : inL z) (hc : Cond.constantLong own index (ol z) ∈ BIG) (hx : pc + 3 = nx) : SndS l k own cc nL ret ini pc (i_cL z nx) := SndP.to fun o lc st M q h => by
  unfold i_cL at h
  cases h
  refine ⟨_, _, _, rfl, fun lo n h1 h2 => ⟨h1, ok_cons hz h2, fun ad p e R s m args below meth c H locs cells slots Q ls hx1 hx2 ho hw hl kw => ?_⟩⟩
  exact lv_ldc2 hx1 hx2 ho (hw _ hc) hd (by rw [hx]; exact kw ls hl)
theorem snd_iadd {nx : Nat} (hd : decode cc pc = .ok (.iadd, 1)) (hx : pc + 1 = nx) : SndS l k own cc nL ret ini pc (i_b2 (fun a b => wr (a + b)) nx) := SndP.to fun o lc st M q h => by
  unfold i_b2 at h
  split at h
  · rename_i b a st
    cases h
    refine ⟨_, _, _, rfl, fun lo n h1 h2 => ⟨h1, ok_cons (inA_wr _) (ok_tl (ok_tl h2)), fun ad p e R s m args below meth c H locs cells slots Q ls hx1 hx2 _ _ hl kw => ?_⟩⟩
    refine lv_iadd hx1 hx2 hd ?_
    have hk := kw ls hl
    rw [← hx] at hk
    simp only [List.map_cons, encV] at hk ⊢
    rw [oi_add]; exact hk
  · cases h
theorem snd_ladd {nx : Nat} (hd : decode cc pc = .ok (.ladd, 1)) (hx : pc + 1 = nx) : SndS l k own cc nL ret ini pc (i_b2L (fun a b => wl (a + b)) nx) := SndP.to fun o lc st M q h => by
  unfold i_b2L at h
  split at h
  · rename_i b a st
    cases h
    refine ⟨_, _, _, rfl, fun lo n h1 h2 => ⟨h1, ok_cons (inL_wl _) (ok_tl (ok_tl h2)), fun ad p e R s m args below meth c H locs cells slots Q ls hx1 hx2 _ _ hl kw => ?_⟩⟩
    refine lv_ladd hx1 hx2 hd ?_
    have hk := kw ls hl
    rw [← hx] at hk
    simp only [List.map_cons, encV] at hk ⊢
    rw [ol_add]; exact hk
  · cases h
theorem snd_isub {nx : Nat} (hd : decode cc pc = .ok (.isub, 1)) (hx : pc + 1 = nx) : SndS l k own cc nL ret ini pc (i_b2 (fun a b => wr (a - b)) nx) := SndP.to fun o lc st M q h => by
  unfold i_b2 at h
  split at h
  · rename_i b a st
    cases h
    refine ⟨_, _, _, rfl, fun lo n h1 h2 => ⟨h1, ok_cons (inA_wr _) (ok_tl (ok_tl h2)), fun ad p e R s m args below meth c H locs cells slots Q ls hx1 hx2 _ _ hl kw => ?_⟩⟩
    refine lv_isub hx1 hx2 hd ?_
    have hk := kw ls hl
    rw [← hx] at hk
    simp only [List.map_cons, encV] at hk ⊢
    rw [oi_sub]; exact hk
  · cases h
theorem snd_lsub {nx : Nat} (hd : decode cc pc = .ok (.lsub, 1)) (hx : pc + 1 = nx) : SndS l k own cc nL ret ini pc (i_b2L (fun a b => wl (a - b)) nx) := SndP.to fun o lc st M q h => by
  unfold i_b2L at h
  split at h
  · rename_i b a st
    cases h
    refine ⟨_, _, _, rfl, fun lo n h1 h2 => ⟨h1, ok_cons (inL_wl _) (ok_tl (ok_tl h2)), fun ad p e R s m args below meth c H locs cells slots Q ls hx1 hx2 _ _ hl kw => ?_⟩⟩
    refine lv_lsub hx1 hx2 hd ?_
    have hk := kw ls hl
    rw [← hx] at hk
    simp only [List.map_cons, encV] at hk ⊢
    rw [ol_sub]; exact hk
  · cases h
theorem snd_imul {nx : Nat} (hd : decode cc pc = .ok (.imul, 1)) (hx : pc + 1 = nx) : SndS l k own cc nL ret ini pc (i_b2 (fun a b => wr (a * b)) nx) := SndP.to fun o lc st M q h => by
  unfold i_b2 at h
  split at h
  · rename_i b a st
    cases h
    refine ⟨_, _, _, rfl, fun lo n h1 h2 => ⟨h1, ok_cons (inA_wr _) (ok_tl (ok_tl h2)), fun ad p e R s m args below meth c H locs cells slots Q ls hx1 hx2 _ _ hl kw => ?_⟩⟩
    refine lv_imul hx1 hx2 hd ?_
    have hk := kw ls hl
    rw [← hx] at hk
    simp only [List.map_cons, encV] at hk ⊢
    rw [oi_mul]; exact hk
  · cases h
theorem snd_lmul {nx : Nat} (hd : decode cc pc = .ok (.lmul, 1)) (hx : pc + 1 = nx) : SndS l k own cc nL ret ini pc (i_b2L (fun a b => wl (a * b)) nx) := SndP.to fun o lc st M q h => by
  unfold i_b2L at h
  split at h
  · rename_i b a st
    cases h
    refine ⟨_, _, _, rfl, fun lo n h1 h2 => ⟨h1, ok_cons (inL_wl _) (ok_tl (ok_tl h2)), fun ad p e R s m args below meth c H locs cells slots Q ls hx1 hx2 _ _ hl kw => ?_⟩⟩
    refine lv_lmul hx1 hx2 hd ?_
    have hk := kw ls hl
    rw [← hx] at hk
    simp only [List.map_cons, encV] at hk ⊢
    rw [ol_mul]; exact hk
  · cases h
theorem snd_iand {nx : Nat} (hd : decode cc pc = .ok (.iand, 1)) (hx : pc + 1 = nx) : SndS l k own cc nL ret ini pc (i_b2 (band) nx) := SndP.to fun o lc st M q h => by
  unfold i_b2 at h
  split at h
  · rename_i b a st
    cases h
    refine ⟨_, _, _, rfl, fun lo n h1 h2 => ⟨h1, ok_cons ((by show inA _; rw [band_eq]; exact inA_toInt _)) (ok_tl (ok_tl h2)), fun ad p e R s m args below meth c H locs cells slots Q ls hx1 hx2 _ _ hl kw => ?_⟩⟩
    refine lv_iand hx1 hx2 hd ?_
    have hk := kw ls hl
    rw [← hx] at hk
    simp only [List.map_cons, encV] at hk ⊢
    rw [band_eq, oi_back] at hk; exact hk
  · cases h
theorem snd_land {nx : Nat} (hd : decode cc pc = .ok (.land, 1)) (hx : pc + 1 = nx) : SndS l k own cc nL ret ini pc (i_b2L (bandL) nx) := SndP.to fun o lc st M q h => by
  unfold i_b2L at h
  split at h
  · rename_i b a st
    cases h
    refine ⟨_, _, _, rfl, fun lo n h1 h2 => ⟨h1, ok_cons ((by show inL _; rw [bandL_eq]; exact inL_toInt _)) (ok_tl (ok_tl h2)), fun ad p e R s m args below meth c H locs cells slots Q ls hx1 hx2 _ _ hl kw => ?_⟩⟩
    refine lv_land hx1 hx2 hd ?_
    have hk := kw ls hl
    rw [← hx] at hk
    simp only [List.map_cons, encV] at hk ⊢
    rw [bandL_eq, ol_back] at hk; exact hk
  · cases h
theorem snd_ior {nx : Nat} (hd : decode cc pc = .ok (.ior, 1)) (hx : pc + 1 = nx) : SndS l k own cc nL ret ini pc (i_b2 (bor) nx) := SndP.to fun o lc st M q h => by
  unfold i_b2 at h
  split at h
  · rename_i b a st
    cases h
    refine ⟨_, _, _, rfl, fun lo n h1 h2 => ⟨h1, ok_cons ((by show inA _; rw [bor_eq]; exact inA_toInt _)) (ok_tl (ok_tl h2)), fun ad p e R s m args below meth c H locs cells slots Q ls hx1 hx2 _ _ hl kw => ?_⟩⟩
    refine lv_ior hx1 hx2 hd ?_
    have hk := kw ls hl
    rw [← hx] at hk
    simp only [List.map_cons, encV] at hk ⊢
    rw [bor_eq, oi_back] at hk; exact hk
  · cases h
theorem snd_lor {nx : Nat} (hd : decode cc pc = .ok (.lor, 1)) (hx : pc + 1 = nx) : SndS l k own cc nL ret ini pc (i_b2L (borL) nx) := SndP.to fun o lc st M q h => by
  unfold i_b2L at h
  split at h
  · rename_i b a st
    cases h
    refine ⟨_, _, _, rfl, fun lo n h1 h2 => ⟨h1, ok_cons ((by show inL _; rw [borL_eq]; exact inL_toInt _)) (ok_tl (ok_tl h2)), fun ad p e R s m args below meth c H locs cells slots Q ls hx1 hx2 _ _ hl kw => ?_⟩⟩
    refine lv_lor hx1 hx2 hd ?_
    have hk := kw ls hl
    rw [← hx] at hk
    simp only [List.map_cons, encV] at hk ⊢
    rw [borL_eq, ol_back] at hk; exact hk
  · cases h
theorem snd_ixor {nx : Nat} (hd : decode cc pc = .ok (.ixor, 1)) (hx : pc + 1 = nx) : SndS l k own cc nL ret ini pc (i_b2 (bxor) nx) := SndP.to fun o lc st M q h => by
  unfold i_b2 at h
  split at h
  · rename_i b a st
    cases h
    refine ⟨_, _, _, rfl, fun lo n h1 h2 => ⟨h1, ok_cons ((by show inA _; rw [bxor_eq]; exact inA_toInt _)) (ok_tl (ok_tl h2)), fun ad p e R s m args below meth c H locs cells slots Q ls hx1 hx2 _ _ hl kw => ?_⟩⟩
    refine lv_ixor hx1 hx2 hd ?_
    have hk := kw ls hl
    rw [← hx] at hk
    simp only [List.map_cons, encV] at hk ⊢
    rw [bxor_eq, oi_back] at hk; exact hk
  · cases h
theorem snd_lxor {nx : Nat} (hd : decode cc pc = .ok (.lxor, 1)) (hx : pc + 1 = nx) : SndS l k own cc nL ret ini pc (i_b2L (bxorL) nx) := SndP.to fun o lc st M q h => by
  unfold i_b2L at h
  split at h
  · rename_i b a st
    cases h
    refine ⟨_, _, _, rfl, fun lo n h1 h2 => ⟨h1, ok_cons ((by show inL _; rw [bxorL_eq]; exact inL_toInt _)) (ok_tl (ok_tl h2)), fun ad p e R s m args below meth c H locs cells slots Q ls hx1 hx2 _ _ hl kw => ?_⟩⟩
    refine lv_lxor hx1 hx2 hd ?_
    have hk := kw ls hl
    rw [← hx] at hk
    simp only [List.map_cons, encV] at hk ⊢
    rw [bxorL_eq, ol_back] at hk; exact hk
  · cases h
theorem snd_ishl {nx : Nat} (hd : decode cc pc = .ok (.ishl, 1)) (hx : pc + 1 = nx) : SndS l k own cc nL ret ini pc (i_b2 (shl) nx) := SndP.to fun o lc st M q h => by
  unfold i_b2 at h
  split at h
  · rename_i b a st
    cases h
    refine ⟨_, _, _, rfl, fun lo n h1 h2 => ⟨h1, ok_cons ((by show inA _; rw [shl_eq]; exact inA_toInt _)) (ok_tl (ok_tl h2)), fun ad p e R s m args below meth c H locs cells slots Q ls hx1 hx2 _ _ hl kw => ?_⟩⟩
    refine lv_ishl hx1 hx2 hd ?_
    have hk := kw ls hl
    rw [← hx] at hk
    simp only [List.map_cons, encV] at hk ⊢
    rw [shl_eq, oi_back] at hk; exact hk
  · cases h
theorem snd_ishr {nx : Nat} (hd : decode cc pc = .ok (.ishr, 1)) (hx : pc + 1 = nx) : SndS l k own cc nL ret ini pc (i_b2 (shr) nx) := SndP.to fun o lc st M q h => by
  unfold i_b2 at h
  split at h
  · rename_i b a st
    cases h
    refine ⟨_, _, _, rfl, fun lo n h1 h2 => ⟨h1, ok_cons ((by show inA _; rw [shr_eq]; exact inA_toInt _)) (ok_tl (ok_tl h2)), fun ad p e R s m args below meth c H locs cells slots Q ls hx1 hx2 _ _ hl kw => ?_⟩⟩
    refine lv_ishr hx1 hx2 hd ?_
    have hk := kw ls hl
    rw [← hx] at hk
    simp only [List.map_cons, encV] at hk ⊢
    rw [shr_eq, oi_back] at hk; exact hk
  · cases h
theorem snd_idiv {nx : Nat} (hd : decode cc pc = .ok (.idiv, 1)) (hx : pc + 1 = nx) : SndS l k own cc nL ret ini pc (i_d2 (fun a b => wr (a.tdiv b)) nx) := SndP.to fun o lc st M q h => by
  unfold i_d2 at h
  split at h
  · rename_i b a st
    split at h
    · cases h
    rename_i hb0
    cases h
    refine ⟨_, _, _, rfl, fun lo n h1 h2 => ⟨h1, ok_cons (inA_wr _) (ok_tl (ok_tl h2)), fun ad p e R s m args below meth c H locs cells slots Q ls hx1 hx2 _ _ hl kw => ?_⟩⟩
    refine lv_idiv hx1 hx2 hd (fun z => hb0 (by rw [← oi_0] at z; exact (oi_eq (ok_hd h2) inA_0).mp z)) ?_
    have hk := kw ls hl
    rw [← hx] at hk
    simp only [List.map_cons, encV] at hk ⊢
    rw [oi_div (ok_hd (ok_tl h2)) (ok_hd h2)]; exact hk
  · cases h
theorem snd_irem {nx : Nat} (hd : decode cc pc = .ok (.irem, 1)) (hx : pc + 1 = nx) : SndS l k own cc nL ret ini pc (i_d2 (fun a b => a.tmod b) nx) := SndP.to fun o lc st M q h => by
  unfold i_d2 at h
  split at h
  · rename_i b a st
    split at h
    · cases h
    rename_i hb0
    cases h
    refine ⟨_, _, _, rfl, fun lo n h1 h2 => ⟨h1, ok_cons (inA_tmod (ok_hd (ok_tl h2))) (ok_tl (ok_tl h2)), fun ad p e R s m args below meth c H locs cells slots Q ls hx1 hx2 _ _ hl kw => ?_⟩⟩
    refine lv_irem hx1 hx2 hd (fun z => hb0 (by rw [← oi_0] at z; exact (oi_eq (ok_hd h2) inA_0).mp z)) ?_
    have hk := kw ls hl
    rw [← hx] at hk
    simp only [List.map_cons, encV] at hk ⊢
    rw [oi_rem (ok_hd (ok_tl h2)) (ok_hd h2)]; exact hk
  · cases h
theorem snd_ldiv {nx : Nat} (hd : decode cc pc = .ok (.ldiv, 1)) (hx : pc + 1 = nx) : SndS l k own cc nL ret ini pc (i_d2L (fun a b => wl (a.tdiv b)) nx) := SndP.to fun o lc st M q h => by
  unfold i_d2L at h
  split at h
  · rename_i b a st
    split at h
    · cases h
    rename_i hb0
    cases h
    refine ⟨_, _, _, rfl, fun lo n h1 h2 => ⟨h1, ok_cons (inL_wl _) (ok_tl (ok_tl h2)), fun ad p e R s m args below meth c H locs cells slots Q ls hx1 hx2 _ _ hl kw => ?_⟩⟩
    refine lv_ldiv hx1 hx2 hd (fun z => hb0 (by rw [← ol_0] at z; exact (ol_eq (ok_hd h2) (inA_L inA_0)).mp z)) ?_
    have hk := kw ls hl
    rw [← hx] at hk
    simp only [List.map_cons, encV] at hk ⊢
    rw [ol_div (ok_hd (ok_tl h2)) (ok_hd h2)]; exact hk
  · cases h
theorem snd_lrem {nx : Nat} (hd : decode cc pc = .ok (.lrem, 1)) (hx : pc + 1 = nx) : SndS l k own cc nL ret ini pc (i_d2L (fun a b => a.tmod b) nx) := SndP.to fun o lc st M q h => by
  unfold i_d2L at h
  split at h
  · rename_i b a st
    split at h
    · cases h
    rename_i hb0
    cases h
    refine ⟨_, _, _, rfl, fun lo n h1 h2 => ⟨h1, ok_cons (inL_tmod (ok_hd (ok_tl h2))) (ok_tl (ok_tl h2)), fun ad p e R s m args below meth c H locs cells slots Q ls hx1 hx2 _ _ hl kw => ?_⟩⟩
    refine lv_lrem hx1 hx2 hd (fun z => hb0 (by rw [← ol_0] at z; exact (ol_eq (ok_hd h2) (inA_L inA_0)).mp z)) ?_
    have hk := kw ls hl
    rw [← hx] at hk
    simp only [List.map_cons, encV] at hk ⊢
    rw [ol_rem (ok_hd (ok_tl h2)) (ok_hd h2)]; exact hk
  · cases h
theorem snd_iushr {nx : Nat} (hd : decode cc pc = .ok (.iushr, 1)) (hx : pc + 1 = nx) : SndS l k own cc nL ret ini pc (i_b2 ushr nx) := SndP.to fun o lc st M q h => by
  unfold i_b2 at h
  split at h
  · rename_i b a st
    cases h
    refine ⟨_, _, _, rfl, fun lo n h1 h2 => ⟨h1, ok_cons (by show inA _; rw [ushr_eq]; exact inA_toInt _) (ok_tl (ok_tl h2)), fun ad p e R s m args below meth c H locs cells slots Q ls hx1 hx2 _ _ hl kw => ?_⟩⟩
    refine lv_iushr hx1 hx2 hd rfl ?_
    have hk := kw ls hl
    rw [← hx] at hk
    simp only [List.map_cons, encV] at hk
    rw [ushr_eq, oi_back] at hk
    exact hk
  · cases h
theorem snd_lushr {nx : Nat} (hd : decode cc pc = .ok (.lushr, 1)) (hx : pc + 1 = nx) : SndS l k own cc nL ret ini pc (i_sL ushrL nx) := SndP.to fun o lc st M q h => by
  unfold i_sL at h
  split at h
  · rename_i b a st
    cases h
    refine ⟨_, _, _, rfl, fun lo n h1 h2 => ⟨h1, ok_cons (by show inL _; rw [ushrL_eq]; exact inL_toInt _) (ok_tl (ok_tl h2)), fun ad p e R s m args below meth c H locs cells slots Q ls hx1 hx2 _ _ hl kw => ?_⟩⟩
    refine lv_lushr hx1 hx2 hd rfl ?_
    have hk := kw ls hl
    rw [← hx] at hk
    simp only [List.map_cons, encV] at hk
    rw [ushrL_eq, ol_back] at hk
    exact hk
  · cases h
theorem snd_lshl {nx : Nat} (hd : decode cc pc = .ok (.lshl, 1)) (hx : pc + 1 = nx) : SndS l k own cc nL ret ini pc (i_sL shlL nx) := SndP.to fun o lc st M q h => by
  unfold i_sL at h
  split at h
  · rename_i b a st
    cases h
    refine ⟨_, _, _, rfl, fun lo n h1 h2 => ⟨h1, ok_cons (by show inL _; rw [shlL_eq]; exact inL_toInt _) (ok_tl (ok_tl h2)), fun ad p e R s m args below meth c H locs cells slots Q ls hx1 hx2 _ _ hl kw => ?_⟩⟩
    refine lv_lshl hx1 hx2 hd rfl ?_
    have hk := kw ls hl
    rw [← hx] at hk
    simp only [List.map_cons, encV] at hk
    rw [shlL_eq, ol_back] at hk
    exact hk
  · cases h
theorem snd_lcmp {nx : Nat} (hd : decode cc pc = .ok (.lcmp, 1)) (hx : pc + 1 = nx) : SndS l k own cc nL ret ini pc (i_cmp nx) := SndP.to fun o lc st M q h => by
  unfold i_cmp at h
  split at h
  · rename_i b a st
    cases h
    refine ⟨_, _, _, rfl, fun lo n h1 h2 => ⟨h1, ok_cons (by show inA _; rw [lcp_eq]; unfold inA; split <;> (try split) <;> omega) (ok_tl (ok_tl h2)), fun ad p e R s m args below meth c H locs cells slots Q ls hx1 hx2 _ _ hl kw => ?_⟩⟩
    refine W.lcmp hx1 hx2 hd ?_
    have hk := kw ls hl
    rw [← hx] at hk
    simp only [List.map_cons, encV] at hk
    have e : oi (lcp a b) = lg_cmp (ol a) (ol b) := by
      unfold lg_cmp
      rw [lcp_eq]
      have e1 := ol_lt (ok_hd h2) (ok_hd (ok_tl h2))
      have e2 := ol_eq (ok_hd (ok_tl h2)) (ok_hd h2)
      by_cases h3 : b < a
      · rw [if_pos h3, if_pos (show ol a > ol b from e1.mpr h3)]; rfl
      · rw [if_neg h3, if_neg (show ¬ ol a > ol b from fun z => h3 (e1.mp z))]
        by_cases h4 : a = b
        · rw [if_pos h4, if_pos (e2.mpr h4)]; rfl
        · rw [if_neg h4, if_neg (fun z => h4 (e2.mp z))]; rfl
    rw [e] at hk
    exact hk
  · cases h
theorem snd_i2l {nx : Nat} (hd : decode cc pc = .ok (.i2l, 1)) (hx : pc + 1 = nx) : SndS l k own cc nL ret ini pc (i_i2l nx) := SndP.to fun o lc st M q h => by
  unfold i_i2l at h
  split at h
  · rename_i a st
    cases h
    refine ⟨_, _, _, rfl, fun lo n h1 h2 => ⟨h1, ok_cons (inA_L (ok_hd h2)) (ok_tl h2), fun ad p e R s m args below meth c H locs cells slots Q ls hx1 hx2 _ _ hl kw => ?_⟩⟩
    exact lv_i2l hx1 hx2 hd (ol_oi (ok_hd h2)) (by rw [hx]; exact kw ls hl)
  · cases h
theorem snd_l2i {nx : Nat} (hd : decode cc pc = .ok (.l2i, 1)) (hx : pc + 1 = nx) : SndS l k own cc nL ret ini pc (i_l2i nx) := SndP.to fun o lc st M q h => by
  unfold i_l2i at h
  split at h
  · rename_i a st
    cases h
    refine ⟨_, _, _, rfl, fun lo n h1 h2 => ⟨h1, ok_cons (inA_wr _) (ok_tl h2), fun ad p e R s m args below meth c H locs cells slots Q ls hx1 hx2 _ _ hl kw => ?_⟩⟩
    exact lv_l2i hx1 hx2 hd (oi_ol a) (by rw [hx]; exact kw ls hl)
  · cases h
theorem snd_dup {nx : Nat} (hd : decode cc pc = .ok (.dup, 1)) (hx : pc + 1 = nx) : SndS l k own cc nL ret ini pc (i_dup nx) := SndP.to fun o lc st M q h => by
  unfold i_dup at h
  split at h
  · rename_i a st
    cases h
    refine ⟨_, _, _, rfl, fun lo n h1 h2 => ⟨h1, ok_cons (ok_hd h2) h2, fun ad p e R s m args below meth c H locs cells slots Q ls hx1 hx2 _ _ hl kw => ?_⟩⟩
    exact lv_dup hx1 hx2 hd rfl (by rw [hx]; exact kw ls hl)
  · rename_i a st
    cases h
    refine ⟨_, _, _, rfl, fun lo n h1 h2 => ⟨h1, ok_cons (ok_hd h2) h2, fun ad p e R s m args below meth c H locs cells slots Q ls hx1 hx2 _ _ hl kw => ?_⟩⟩
    exact lv_dup hx1 hx2 hd rfl (by rw [hx]; exact kw ls hl)
  · cases h
theorem snd_pop {nx : Nat} (hd : decode cc pc = .ok (.pop, 1)) (hx : pc + 1 = nx) : SndS l k own cc nL ret ini pc (i_pop nx) := SndP.to fun o lc st M q h => by
  unfold i_pop at h
  split at h
  · rename_i a st
    cases h
    refine ⟨_, _, _, rfl, fun lo n h1 h2 => ⟨h1, ok_tl h2, fun ad p e R s m args below meth c H locs cells slots Q ls hx1 hx2 _ _ hl kw => ?_⟩⟩
    exact lv_pop hx1 hx2 hd rfl (by rw [hx]; exact kw ls hl)
  · rename_i a st
    cases h
    refine ⟨_, _, _, rfl, fun lo n h1 h2 => ⟨h1, ok_tl h2, fun ad p e R s m args below meth c H locs cells slots Q ls hx1 hx2 _ _ hl kw => ?_⟩⟩
    exact lv_pop hx1 hx2 hd rfl (by rw [hx]; exact kw ls hl)
  · cases h
theorem snd_dup2 {nx : Nat} (hd : decode cc pc = .ok (.dup2, 1)) (hx : pc + 1 = nx) : SndS l k own cc nL ret ini pc (i_dup2 nx) := SndP.to fun o lc st M q h => by
  unfold i_dup2 at h
  split at h
  · rename_i b a st
    cases h
    refine ⟨_, _, _, rfl, fun lo n h1 h2 => ⟨h1, ok_cons (ok_hd h2) (ok_cons (ok_hd (ok_tl h2)) h2), fun ad p e R s m args below meth c H locs cells slots Q ls hx1 hx2 _ _ hl kw => ?_⟩⟩
    exact lv_dup2_11 hx1 hx2 hd rfl rfl (by rw [hx]; exact kw ls hl)
  · cases h
theorem snd_goto {off : Int} {tg : Nat} (hd : decode cc pc = .ok (.goto off, 3)) (ht : (pc : Int) + off = (tg : Int)) : SndS l k own cc nL ret ini pc (i_go tg) := SndP.to fun o lc st M q h => by
  unfold i_go at h
  cases h
  refine ⟨_, _, _, rfl, fun lo n h1 h2 => ⟨h1, h2, fun ad p e R s m args below meth c H locs cells slots Q ls hx1 hx2 _ _ hl kw => ?_⟩⟩
  exact lv_goto hx1 hx2 hd ht (kw ls hl)
theorem snd_if_eq {off : Int} {tg nx : Nat} (hd : decode cc pc = .ok (.ifCond .eq off, 3)) (ht : (pc : Int) + off = (tg : Int)) (hx : pc + 3 = nx) : SndS l k own cc nL ret ini pc (i_if0 tg nx) := SndP.to fun o lc st M q h => by
  unfold i_if0 at h
  split at h
  · rename_i a st
    split at h
    · rename_i hc
      cases h
      refine ⟨_, _, _, rfl, fun lo n h1 h2 => ⟨h1, ok_tl h2, fun ad p e R s m args below meth c H locs cells slots Q ls hx1 hx2 _ _ hl kw => ?_⟩⟩
      have e0 := oi_eq (ok_hd h2) inA_0
      have e1 := oi_lt (ok_hd h2) inA_0
      have e2 := oi_lt inA_0 (ok_hd h2)
      have e3 := oi_le (ok_hd h2) inA_0
      have e4 := oi_le inA_0 (ok_hd h2)
      rw [oi_0] at e0 e1 e2 e3 e4
      exact lv_if_eq hx1 hx2 hd ht (fun _ => kw ls hl) (fun z => absurd (by first | exact e0.mpr hc | exact e1.mpr hc | exact e2.mpr hc) z)
    · rename_i hc
      cases h
      refine ⟨_, _, _, rfl, fun lo n h1 h2 => ⟨h1, ok_tl h2, fun ad p e R s m args below meth c H locs cells slots Q ls hx1 hx2 _ _ hl kw => ?_⟩⟩
      have e0 := oi_eq (ok_hd h2) inA_0
      have e1 := oi_lt (ok_hd h2) inA_0
      have e2 := oi_lt inA_0 (ok_hd h2)
      have e3 := oi_le (ok_hd h2) inA_0
      have e4 := oi_le inA_0 (ok_hd h2)
      rw [oi_0] at e0 e1 e2 e3 e4
      exact lv_if_eq hx1 hx2 hd ht (fun z => absurd (by first | exact e0.mp z | exact e1.mp z | exact e2.mp z) hc) (fun _ => by rw [hx]; exact kw ls hl)
  · cases h
theorem snd_if_ne {off : Int} {tg nx : Nat} (hd : decode cc pc = .ok (.ifCond .ne off, 3)) (ht : (pc : Int) + off = (tg : Int)) (hx : pc + 3 = nx) : SndS l k own cc nL ret ini pc (i_if0 nx tg) := SndP.to fun o lc st M q h => by
  unfold i_if0 at h
  split at h
  · rename_i a st
    split at h
    · rename_i hc
      cases h
      refine ⟨_, _, _, rfl, fun lo n h1 h2 => ⟨h1, ok_tl h2, fun ad p e R s m args below meth c H locs cells slots Q ls hx1 hx2 _ _ hl kw => ?_⟩⟩
      have e0 := oi_eq (ok_hd h2) inA_0
      have e1 := oi_lt (ok_hd h2) inA_0
      have e2 := oi_lt inA_0 (ok_hd h2)
      have e3 := oi_le (ok_hd h2) inA_0
      have e4 := oi_le inA_0 (ok_hd h2)
      rw [oi_0] at e0 e1 e2 e3 e4
      exact lv_if_ne hx1 hx2 hd ht (fun z => absurd hc (by first | exact fun y => z (e0.mpr y) | (have := e3.mp z; omega) | (have := e4.mp z; omega))) (fun _ => by rw [hx]; exact kw ls hl)
    · rename_i hc
      cases h
      refine ⟨_, _, _, rfl, fun lo n h1 h2 => ⟨h1, ok_tl h2, fun ad p e R s m args below meth c H locs cells slots Q ls hx1 hx2 _ _ hl kw => ?_⟩⟩
      have e0 := oi_eq (ok_hd h2) inA_0
      have e1 := oi_lt (ok_hd h2) inA_0
      have e2 := oi_lt inA_0 (ok_hd h2)
      have e3 := oi_le (ok_hd h2) inA_0
      have e4 := oi_le inA_0 (ok_hd h2)
      rw [oi_0] at e0 e1 e2 e3 e4
      exact lv_if_ne hx1 hx2 hd ht (fun _ => kw ls hl) (fun z => by first | exact absurd (e0.mp z) hc | exact absurd (e4.mpr (by omega)) z | exact absurd (e3.mpr (by omega)) z)
  · cases h
theorem snd_if_lt {off : Int} {tg nx : Nat} (hd : decode cc pc = .ok (.ifCond .lt off, 3)) (ht : (pc : Int) + off = (tg : Int)) (hx : pc + 3 = nx) : SndS l k own cc nL ret ini pc (i_ifl tg nx) := SndP.to fun o lc st M q h => by
  unfold i_ifl at h
  split at h
  · rename_i a st
    split at h
    · rename_i hc
      cases h
      refine ⟨_, _, _, rfl, fun lo n h1 h2 => ⟨h1, ok_tl h2, fun ad p e R s m args below meth c H locs cells slots Q ls hx1 hx2 _ _ hl kw => ?_⟩⟩
      have e0 := oi_eq (ok_hd h2) inA_0
      have e1 := oi_lt (ok_hd h2) inA_0
      have e2 := oi_lt inA_0 (ok_hd h2)
      have e3 := oi_le (ok_hd h2) inA_0
      have e4 := oi_le inA_0 (ok_hd h2)
      rw [oi_0] at e0 e1 e2 e3 e4
      exact lv_if_lt hx1 hx2 hd ht (fun _ => kw ls hl) (fun z => absurd (by first | exact e0.mpr hc | exact e1.mpr hc | exact e2.mpr hc) z)
    · rename_i hc
      cases h
      refine ⟨_, _, _, rfl, fun lo n h1 h2 => ⟨h1, ok_tl h2, fun ad p e R s m args below meth c H locs cells slots Q ls hx1 hx2 _ _ hl kw => ?_⟩⟩
      have e0 := oi_eq (ok_hd h2) inA_0
      have e1 := oi_lt (ok_hd h2) inA_0
      have e2 := oi_lt inA_0 (ok_hd h2)
      have e3 := oi_le (ok_hd h2) inA_0
      have e4 := oi_le inA_0 (ok_hd h2)
      rw [oi_0] at e0 e1 e2 e3 e4
      exact lv_if_lt hx1 hx2 hd ht (fun z => absurd (by first | exact e0.mp z | exact e1.mp z | exact e2.mp z) hc) (fun _ => by rw [hx]; exact kw ls hl)
  · cases h
theorem snd_if_ge {off : Int} {tg nx : Nat} (hd : decode cc pc = .ok (.ifCond .ge off, 3)) (ht : (pc : Int) + off = (tg : Int)) (hx : pc + 3 = nx) : SndS l k own cc nL ret ini pc (i_ifl nx tg) := SndP.to fun o lc st M q h => by
  unfold i_ifl at h
  split at h
  · rename_i a st
    split at h
    · rename_i hc
      cases h
      refine ⟨_, _, _, rfl, fun lo n h1 h2 => ⟨h1, ok_tl h2, fun ad p e R s m args below meth c H locs cells slots Q ls hx1 hx2 _ _ hl kw => ?_⟩⟩
      have e0 := oi_eq (ok_hd h2) inA_0
      have e1 := oi_lt (ok_hd h2) inA_0
      have e2 := oi_lt inA_0 (ok_hd h2)
      have e3 := oi_le (ok_hd h2) inA_0
      have e4 := oi_le inA_0 (ok_hd h2)
      rw [oi_0] at e0 e1 e2 e3 e4
      exact lv_if_ge hx1 hx2 hd ht (fun z => absurd hc (by first | exact fun y => z (e0.mpr y) | (have := e3.mp z; omega) | (have := e4.mp z; omega))) (fun _ => by rw [hx]; exact kw ls hl)
    · rename_i hc
      cases h
      refine ⟨_, _, _, rfl, fun lo n h1 h2 => ⟨h1, ok_tl h2, fun ad p e R s m args below meth c H locs cells slots Q ls hx1 hx2 _ _ hl kw => ?_⟩⟩
      have e0 := oi_eq (ok_hd h2) inA_0
      have e1 := oi_lt (ok_hd h2) inA_0
      have e2 := oi_lt inA_0 (ok_hd h2)
      have e3 := oi_le (ok_hd h2) inA_0
      have e4 := oi_le inA_0 (ok_hd h2)
      rw [oi_0] at e0 e1 e2 e3 e4
      exact lv_if_ge hx1 hx2 hd ht (fun _ => kw ls hl) (fun z => by first | exact absurd (e0.mp z) hc | exact absurd (e4.mpr (by omega)) z | exact absurd (e3.mpr (by omega)) z)
  · cases h
theorem snd_if_gt {off : Int} {tg nx : Nat} (hd : decode cc pc = .ok (.ifCond .gt off, 3)) (ht : (pc : Int) + off = (tg : Int)) (hx : pc + 3 = nx) : SndS l k own cc nL ret ini pc (i_ifg tg nx) := SndP.to fun o lc st M q h => by
  unfold i_ifg at h
  split at h
  · rename_i a st
    split at h
    · rename_i hc
      cases h
      refine ⟨_, _, _, rfl, fun lo n h1 h2 => ⟨h1, ok_tl h2, fun ad p e R s m args below meth c H locs cells slots Q ls hx1 hx2 _ _ hl kw => ?_⟩⟩
      have e0 := oi_eq (ok_hd h2) inA_0
      have e1 := oi_lt (ok_hd h2) inA_0
      have e2 := oi_lt inA_0 (ok_hd h2)
      have e3 := oi_le (ok_hd h2) inA_0
      have e4 := oi_le inA_0 (ok_hd h2)
      rw [oi_0] at e0 e1 e2 e3 e4
      exact lv_if_gt hx1 hx2 hd ht (fun _ => kw ls hl) (fun z => absurd (by first | exact e0.mpr hc | exact e1.mpr hc | exact e2.mpr hc) z)
    · rename_i hc
      cases h
      refine ⟨_, _, _, rfl, fun lo n h1 h2 => ⟨h1, ok_tl h2, fun ad p e R s m args below meth c H locs cells slots Q ls hx1 hx2 _ _ hl kw => ?_⟩⟩
      have e0 := oi_eq (ok_hd h2) inA_0
      have e1 := oi_lt (ok_hd h2) inA_0
      have e2 := oi_lt inA_0 (ok_hd h2)
      have e3 := oi_le (ok_hd h2) inA_0
      have e4 := oi_le inA_0 (ok_hd h2)
      rw [oi_0] at e0 e1 e2 e3 e4
      exact lv_if_gt hx1 hx2 hd ht (fun z => absurd (by first | exact e0.mp z | exact e1.mp z | exact e2.mp z) hc) (fun _ => by rw [hx]; exact kw ls hl)
  · cases h
theorem snd_if_le {off : Int} {tg nx : Nat} (hd : decode cc pc = .ok (.ifCond .le off, 3)) (ht : (pc : Int) + off = (tg : Int)) (hx : pc + 3 = nx) : SndS l k own cc nL ret ini pc (i_ifg nx tg) := SndP.to fun o lc st M q h => by
  unfold i_ifg at h
  split at h
  · rename_i a st
    split at h
    · rename_i hc
      cases h
      refine ⟨_, _, _, rfl, fun lo n h1 h2 => ⟨h1, ok_tl h2, fun ad p e R s m args below meth c H locs cells slots Q ls hx1 hx2 _ _ hl kw => ?_⟩⟩
      have e0 := oi_eq (ok_hd h2) inA_0
      have e1 := oi_lt (ok_hd h2) inA_0
      have e2 := oi_lt inA_0 (ok_hd h2)
      have e3 := oi_le (ok_hd h2) inA_0
      have e4 := oi_le inA_0 (ok_hd h2)
      rw [oi_0] at e0 e1 e2 e3 e4
      exact lv_if_le hx1 hx2 hd ht (fun z => absurd hc (by first | exact fun y => z (e0.mpr y) | (have := e3.mp z; omega) | (have := e4.mp z; omega))) (fun _ => by rw [hx]; exact kw ls hl)
    · rename_i hc
      cases h
      refine ⟨_, _, _, rfl, fun lo n h1 h2 => ⟨h1, ok_tl h2, fun ad p e R s m args below meth c H locs cells slots Q ls hx1 hx2 _ _ hl kw => ?_⟩⟩
      have e0 := oi_eq (ok_hd h2) inA_0
      have e1 := oi_lt (ok_hd h2) inA_0
      have e2 := oi_lt inA_0 (ok_hd h2)
      have e3 := oi_le (ok_hd h2) inA_0
      have e4 := oi_le inA_0 (ok_hd h2)
      rw [oi_0] at e0 e1 e2 e3 e4
      exact lv_if_le hx1 hx2 hd ht (fun _ => kw ls hl) (fun z => by first | exact absurd (e0.mp z) hc | exact absurd (e4.mpr (by omega)) z | exact absurd (e3.mpr (by omega)) z)
  · cases h
theorem snd_icmp_eq {off : Int} {tg nx : Nat} (hd : decode cc pc = .ok (.if_icmp .eq off, 3)) (ht : (pc : Int) + off = (tg : Int)) (hx : pc + 3 = nx) : SndS l k own cc nL ret ini pc (i_ceq tg nx) := SndP.to fun o lc st M q h => by
  unfold i_ceq at h
  split at h
  · rename_i b a st
    split at h
    · rename_i hc
      cases h
      refine ⟨_, _, _, rfl, fun lo n h1 h2 => ⟨h1, ok_tl (ok_tl h2), fun ad p e R s m args below meth c H locs cells slots Q ls hx1 hx2 _ _ hl kw => ?_⟩⟩
      have hA := ok_hd (ok_tl h2)
      have hB := ok_hd h2
      have e0 := oi_eq hA hB
      have e1 := oi_lt hA hB
      have e2 := oi_lt hB hA
      have e3 := oi_le hA hB
      have e4 := oi_le hB hA
      exact lv_icmp_eq hx1 hx2 hd ht (fun _ => kw ls hl) (fun z => absurd (by first | exact e0.mpr hc | exact e1.mpr hc | exact e2.mpr hc) z)
    · rename_i hc
      cases h
      refine ⟨_, _, _, rfl, fun lo n h1 h2 => ⟨h1, ok_tl (ok_tl h2), fun ad p e R s m args below meth c H locs cells slots Q ls hx1 hx2 _ _ hl kw => ?_⟩⟩
      have hA := ok_hd (ok_tl h2)
      have hB := ok_hd h2
      have e0 := oi_eq hA hB
      have e1 := oi_lt hA hB
      have e2 := oi_lt hB hA
      have e3 := oi_le hA hB
      have e4 := oi_le hB hA
      exact lv_icmp_eq hx1 hx2 hd ht (fun z => absurd (by first | exact e0.mp z | exact e1.mp z | exact e2.mp z) hc) (fun _ => by rw [hx]; exact kw ls hl)
  · cases h
theorem snd_icmp_ne {off : Int} {tg nx : Nat} (hd : decode cc pc = .ok (.if_icmp .ne off, 3)) (ht : (pc : Int) + off = (tg : Int)) (hx : pc + 3 = nx) : SndS l k own cc nL ret ini pc (i_ceq nx tg) := SndP.to fun o lc st M q h => by
  unfold i_ceq at h
  split at h
  · rename_i b a st
    split at h
    · rename_i hc
      cases h
      refine ⟨_, _, _, rfl, fun lo n h1 h2 => ⟨h1, ok_tl (ok_tl h2), fun ad p e R s m args below meth c H locs cells slots Q ls hx1 hx2 _ _ hl kw => ?_⟩⟩
      have hA := ok_hd (ok_tl h2)
      have hB := ok_hd h2
      have e0 := oi_eq hA hB
      have e1 := oi_lt hA hB
      have e2 := oi_lt hB hA
      have e3 := oi_le hA hB
      have e4 := oi_le hB hA
      exact lv_icmp_ne hx1 hx2 hd ht (fun z => absurd hc (by first | exact fun y => z (e0.mpr y) | (have := e3.mp z; omega) | (have := e4.mp z; omega))) (fun _ => by rw [hx]; exact kw ls hl)
    · rename_i hc
      cases h
      refine ⟨_, _, _, rfl, fun lo n h1 h2 => ⟨h1, ok_tl (ok_tl h2), fun ad p e R s m args below meth c H locs cells slots Q ls hx1 hx2 _ _ hl kw => ?_⟩⟩
      have hA := ok_hd (ok_tl h2)
      have hB := ok_hd h2
      have e0 := oi_eq hA hB
      have e1 := oi_lt hA hB
      have e2 := oi_lt hB hA
      have e3 := oi_le hA hB
      have e4 := oi_le hB hA
      exact lv_icmp_ne hx1 hx2 hd ht (fun _ => kw ls hl) (fun z => by first | exact absurd (e0.mp z) hc | exact absurd (e4.mpr (by omega)) z | exact absurd (e3.mpr (by omega)) z)
  · cases h
theorem snd_icmp_lt {off : Int} {tg nx : Nat} (hd : decode cc pc = .ok (.if_icmp .lt off, 3)) (ht : (pc : Int) + off = (tg : Int)) (hx : pc + 3 = nx) : SndS l k own cc nL ret ini pc (i_clt tg nx) := SndP.to fun o lc st M q h => by
  unfold i_clt at h
  split at h
  · rename_i b a st
    split at h
    · rename_i hc
      cases h
      refine ⟨_, _, _, rfl, fun lo n h1 h2 => ⟨h1, ok_tl (ok_tl h2), fun ad p e R s m args below meth c H locs cells slots Q ls hx1 hx2 _ _ hl kw => ?_⟩⟩
      have hA := ok_hd (ok_tl h2)
      have hB := ok_hd h2
      have e0 := oi_eq hA hB
      have e1 := oi_lt hA hB
      have e2 := oi_lt hB hA
      have e3 := oi_le hA hB
      have e4 := oi_le hB hA
      exact lv_icmp_lt hx1 hx2 hd ht (fun _ => kw ls hl) (fun z => absurd (by first | exact e0.mpr hc | exact e1.mpr hc | exact e2.mpr hc) z)
    · rename_i hc
      cases h
      refine ⟨_, _, _, rfl, fun lo n h1 h2 => ⟨h1, ok_tl (ok_tl h2), fun ad p e R s m args below meth c H locs cells slots Q ls hx1 hx2 _ _ hl kw => ?_⟩⟩
      have hA := ok_hd (ok_tl h2)
      have hB := ok_hd h2
      have e0 := oi_eq hA hB
      have e1 := oi_lt hA hB
      have e2 := oi_lt hB hA
      have e3 := oi_le hA hB
      have e4 := oi_le hB hA
      exact lv_icmp_lt hx1 hx2 hd ht (fun z => absurd (by first | exact e0.mp z | exact e1.mp z | exact e2.mp z) hc) (fun _ => by rw [hx]; exact kw ls hl)
  · cases h
theorem snd_icmp_ge {off : Int} {tg nx : Nat} (hd : decode cc pc = .ok (.if_icmp .ge off, 3)) (ht : (pc : Int) + off = (tg : Int)) (hx : pc + 3 = nx) : SndS l k own cc nL ret ini pc (i_clt nx tg) := SndP.to fun o lc st M q h => by
  unfold i_clt at h
  split at h
  · rename_i b a st
    split at h
    · rename_i hc
      cases h
      refine ⟨_, _, _, rfl, fun lo n h1 h2 => ⟨h1, ok_tl (ok_tl h2), fun ad p e R s m args below meth c H locs cells slots Q ls hx1 hx2 _ _ hl kw => ?_⟩⟩
      have hA := ok_hd (ok_tl h2)
      have hB := ok_hd h2
      have e0 := oi_eq hA hB
      have e1 := oi_lt hA hB
      have e2 := oi_lt hB hA
      have e3 := oi_le hA hB
      have e4 := oi_le hB hA
      exact lv_icmp_ge hx1 hx2 hd ht (fun z => absurd hc (by first | exact fun y => z (e0.mpr y) | (have := e3.mp z; omega) | (have := e4.mp z; omega))) (fun _ => by rw [hx]; exact kw ls hl)
    · rename_i hc
      cases h
      refine ⟨_, _, _, rfl, fun lo n h1 h2 => ⟨h1, ok_tl (ok_tl h2), fun ad p e R s m args below meth c H locs cells slots Q ls hx1 hx2 _ _ hl kw => ?_⟩⟩
      have hA := ok_hd (ok_tl h2)
      have hB := ok_hd h2
      have e0 := oi_eq hA hB
      have e1 := oi_lt hA hB
      have e2 := oi_lt hB hA
      have e3 := oi_le hA hB
      have e4 := oi_le hB hA
      exact lv_icmp_ge hx1 hx2 hd ht (fun _ => kw ls hl) (fun z => by first | exact absurd (e0.mp z) hc | exact absurd (e4.mpr (by omega)) z | exact absurd (e3.mpr (by omega)) z)
  · cases h
theorem snd_icmp_gt {off : Int} {tg nx : Nat} (hd : decode cc pc = .ok (.if_icmp .gt off, 3)) (ht : (pc : Int) + off = (tg : Int)) (hx : pc + 3 = nx) : SndS l k own cc nL ret ini pc (i_cgt tg nx) := SndP.to fun o lc st M q h => by
  unfold i_cgt at h
  split at h
  · rename_i b a st
    split at h
    · rename_i hc
      cases h
      refine ⟨_, _, _, rfl, fun lo n h1 h2 => ⟨h1, ok_tl (ok_tl h2), fun ad p e R s m args below meth c H locs cells slots Q ls hx1 hx2 _ _ hl kw => ?_⟩⟩
      have hA := ok_hd (ok_tl h2)
      have hB := ok_hd h2
      have e0 := oi_eq hA hB
      have e1 := oi_lt hA hB
      have e2 := oi_lt hB hA
      have e3 := oi_le hA hB
      have e4 := oi_le hB hA
      exact lv_icmp_gt hx1 hx2 hd ht (fun _ => kw ls hl) (fun z => absurd (by first | exact e0.mpr hc | exact e1.mpr hc | exact e2.mpr hc) z)
    · rename_i hc
      cases h
      refine ⟨_, _, _, rfl, fun lo n h1 h2 => ⟨h1, ok_tl (ok_tl h2), fun ad p e R s m args below meth c H locs cells slots Q ls hx1 hx2 _ _ hl kw => ?_⟩⟩
      have hA := ok_hd (ok_tl h2)
      have hB := ok_hd h2
      have e0 := oi_eq hA hB
      have e1 := oi_lt hA hB
      have e2 := oi_lt hB hA
      have e3 := oi_le hA hB
      have e4 := oi_le hB hA
      exact lv_icmp_gt hx1 hx2 hd ht (fun z => absurd (by first | exact e0.mp z | exact e1.mp z | exact e2.mp z) hc) (fun _ => by rw [hx]; exact kw ls hl)
  · cases h
theorem snd_icmp_le {off : Int} {tg nx : Nat} (hd : decode cc pc = .ok (.if_icmp .le off, 3)) (ht : (pc : Int) + off = (tg : Int)) (hx : pc + 3 = nx) : SndS l k own cc nL ret ini pc (i_cgt nx tg) := SndP.to fun o lc st M q h => by
  unfold i_cgt at h
  split at h
  · rename_i b a st
    split at h
    · rename_i hc
      cases h
      refine ⟨_, _, _, rfl, fun lo n h1 h2 => ⟨h1, ok_tl (ok_tl h2), fun ad p e R s m args below meth c H locs cells slots Q ls hx1 hx2 _ _ hl kw => ?_⟩⟩
      have hA := ok_hd (ok_tl h2)
      have hB := ok_hd h2
      have e0 := oi_eq hA hB
      have e1 := oi_lt hA hB
      have e2 := oi_lt hB hA
      have e3 := oi_le hA hB
      have e4 := oi_le hB hA
      exact lv_icmp_le hx1 hx2 hd ht (fun z => absurd hc (by first | exact fun y => z (e0.mpr y) | (have := e3.mp z; omega) | (have := e4.mp z; omega))) (fun _ => by rw [hx]; exact kw ls hl)
    · rename_i hc
      cases h
      refine ⟨_, _, _, rfl, fun lo n h1 h2 => ⟨h1, ok_tl (ok_tl h2), fun ad p e R s m args below meth c H locs cells slots Q ls hx1 hx2 _ _ hl kw => ?_⟩⟩
      have hA := ok_hd (ok_tl h2)
      have hB := ok_hd h2
      have e0 := oi_eq hA hB
      have e1 := oi_lt hA hB
      have e2 := oi_lt hB hA
      have e3 := oi_le hA hB
      have e4 := oi_le hB hA
      exact lv_icmp_le hx1 hx2 hd ht (fun _ => kw ls hl) (fun z => by first | exact absurd (e0.mp z) hc | exact absurd (e4.mpr (by omega)) z | exact absurd (e3.mpr (by omega)) z)
  · cases h
end
