/-! THE LAW: from its entry to its end -/
/-! THE CLAIM OUT OF ONE WALK OF THE LAW'S BODY. Your part is whole_start (and what it stands on); all else here is the same for every law, but numbers. -/
def R_law : String := "CarbonMinistryLaw"
def lw_P (b : Addr) (xs : List Int32) (args : Array Value) (s : State) : Prop := args = #[.ref b] ∧ s.IntsAt b xs ∧ xs.length ≤ 3072 ∧ (Jvm.Cond.and given_1 narrow_1).before args s = true
def lw_Q (_ : Array Value) (s : State) (o : Outcome) (t : State) : Prop := o = .returned (some (.int 1)) ∧ Framed s o t [] 600000 7302250
def lw_Z (below : List Frame) (a : Array Value) (s : State) : State → Prop := fun t => ∃ o, t.status = .running ∧ Ended t below o ∧ lw_Q a s o t
/-- the law's own end, with 1 on the stack, nothing written that was there before, its room as the claim has it -/
theorem lw_ret {p : Program} {l : Launch} {e : Env} {s : State} {m : MethodId} {below : List Frame} {meth : Method} {c : Code} {b : Nat} (hx : p.tables.exec = Jvm.exec) (hb : c.code = code) (hr : meth.sig.returnType = ret) (hlocks : meth.locks = false) {pc : Nat} {H : Heap} {ls : Array Slot} (hdg : decode code pc = .ok (.ireturn, 1)) : W p l e room_1 s m #[Value.ref b] below meth c H [] 600000 7302250 (lw_Z below #[Value.ref b] s) (F0 m pc ls [.int 1]) := by
  intro T hT X
  obtain ⟨fs, hret, hrun, hended, hW, hframe⟩ := X.leave (v := some (.int 1)) (hlocks := hlocks) (fun h => by rw [hr] at h; cases h)
  have hmeth' : T.vm.method? m = some meth := X.method'
  refine ⟨T.setFrames fs, ?_, .returned (some (.int 1)), hrun, hended, rfl, ⟨_, rfl⟩, hW, hframe⟩
  jvm_step X.here [X.here.top, hx, hb, hdg, hmeth', hr, ret, narrow_b1]
  (try refine ⟨rfl, ?_⟩); (try refine ⟨rfl, ?_⟩)
  first | (intro acts; rw [hret _ acts rfl rfl rfl]) | rw [hret _ _ rfl rfl rfl]
  exact Steps.refl _
/-- what holds at the law's entry: the machine, the code, the tables' words (any of lw_tbl by 'hts w (by decide +kernel)'), the script of L ints xs at the cell b, what the Statement gives of the start (any of its parts by flat_of_before) -/
def lw_At (p : Program) (s : State) (m : MethodId) (meth : Method) (c : Code) (b L : Nat) (xs : Nat → Int32) : Prop :=
  p.tables.exec = Jvm.exec ∧ c.code = code ∧ meth.sig.returnType = ret ∧ c.maxLocals = 4 ∧ s.vm.findClass R_law = some m.cls ∧ (∀ w ∈ lw_tbl, w.before #[Value.ref b] s = true) ∧ va_X b L xs s s.heap ∧ b < s.heap.size ∧ meth.locks = false ∧ (Jvm.Cond.and given_1 narrow_1).before #[Value.ref b] s = true
theorem start_known {s : State} {args : Array Value} (hB : ∀ w ∈ BIG, w.before args s = true) : ∃ D : va_G, va_K D vwCl [] s := by
  obtain ⟨c0, t0, -⟩ := u_known (C := RX0) (T := TX0) (N := 6) (n := 6) hB hin_0 (hB _ w_593)
  have h0 : ∀ k : Nat, ∃ q : ClassId × (Nat → Nat), ∀ r, vwCl[k]? = some r → u_Kn s r.1 r.2.1 r.2.2 q.1 q.2 := by
    intro k
    by_cases hk : k < 13
    · rcases (show k = 0 ∨ k = 1 ∨ k = 2 ∨ k = 3 ∨ k = 4 ∨ k = 5 ∨ k = 6 ∨ k = 7 ∨ k = 8 ∨ k = 9 ∨ k = 10 ∨ k = 11 ∨ k = 12 by omega) with rfl | rfl | rfl | rfl | rfl | rfl | rfl | rfl | rfl | rfl | rfl | rfl | rfl
      · obtain ⟨c, t, h⟩ := u_known (C := RX0) (T := TX0) (N := 6) (n := 6) hB hin_0 (hB _ w_593)
        exact ⟨(c, t), fun r hr => by cases hr; exact h⟩
      · obtain ⟨c, t, h⟩ := u_known (C := RX1) (T := TX1) (N := 4) (n := 4) hB hin_1 (hB _ w_374)
        exact ⟨(c, t), fun r hr => by cases hr; exact h⟩
      · obtain ⟨c, t, h⟩ := u_known (C := RX2) (T := TX2) (N := 6) (n := 6) hB hin_2 (hB _ w_228)
        exact ⟨(c, t), fun r hr => by cases hr; exact h⟩
      · obtain ⟨c, t, h⟩ := u_known (C := RX3) (T := TX3) (N := 6) (n := 6) hB hin_3 (hB _ w_453)
        exact ⟨(c, t), fun r hr => by cases hr; exact h⟩
      · obtain ⟨c, t, h⟩ := u_known (C := RX4) (T := TX4) (N := 15) (n := 15) hB hin_4 (hB _ w_535)
        exact ⟨(c, t), fun r hr => by cases hr; exact h⟩
      · obtain ⟨c, t, h⟩ := u_known (C := RX5) (T := TX5) (N := 4) (n := 4) hB hin_5 (hB _ w_380)
        exact ⟨(c, t), fun r hr => by cases hr; exact h⟩
      · obtain ⟨c, t, h⟩ := u_known (C := RX6) (T := TX6) (N := 3) (n := 3) hB hin_6 (hB _ w_482)
        exact ⟨(c, t), fun r hr => by cases hr; exact h⟩
      · obtain ⟨c, t, h⟩ := u_known (C := RX7) (T := TX7) (N := 17) (n := 17) hB hin_7 (hB _ w_222)
        exact ⟨(c, t), fun r hr => by cases hr; exact h⟩
      · obtain ⟨c, t, h⟩ := u_known (C := RX8) (T := TX8) (N := 8) (n := 8) hB hin_8 (hB _ w_502)
        exact ⟨(c, t), fun r hr => by cases hr; exact h⟩
      · obtain ⟨c, t, h⟩ := u_known (C := RX9) (T := TX9) (N := 6) (n := 6) hB hin_9 (hB _ w_413)
        exact ⟨(c, t), fun r hr => by cases hr; exact h⟩
      · obtain ⟨c, t, h⟩ := u_known (C := RX10) (T := TX10) (N := 10) (n := 10) hB hin_10 (hB _ w_176)
        exact ⟨(c, t), fun r hr => by cases hr; exact h⟩
      · obtain ⟨c, t, h⟩ := u_known (C := RX11) (T := TX11) (N := 14) (n := 14) hB hin_11 (hB _ lww_168)
        exact ⟨(c, t), fun r hr => by cases hr; exact h⟩
      · obtain ⟨c, t, h⟩ := u_known (C := RX12) (T := TX12) (N := 108) (n := 108) hB hin_12 (hB _ lww_1377)
        exact ⟨(c, t), fun r hr => by cases hr; exact h⟩
    · refine ⟨(c0, t0), fun r hr => ?_⟩
      have hl13 : vwCl.length = 13 := rfl
      rw [List.getElem?_eq_none (by omega)] at hr
      cases hr
  obtain ⟨f, hf⟩ := Classical.axiomOfChoice h0
  exact ⟨(fun k => (f k).1, fun k => (f k).2), fun k q hq => hf k q hq, fun k q h => by cases h⟩
theorem str_len : lenJ.getD 0 0 = 173 := by decide +kernel
theorem str_el : ∀ j, j < 173 → (flatC (Jvm.Cond.and given_1 narrow_1))[13 + j]? = some (Cond.eq (.elem (.field (.string "CarbonMinistry$Text" 74) "java/lang/String" "value" "[B") (.int (Int32.ofNat j))) (.int ((bytJ.getD 0 []).getD j 0))) := by decide +kernel
theorem start_str {s : State} {args : Array Value} (hts : ∀ w ∈ lw_tbl, w.before args s = true) (hgv : (Jvm.Cond.and given_1 narrow_1).before args s = true) : ∃ a : Nat, ∀ ad : Nat → Nat, ad 999 = a → strW ad s (fun q : Nat => s.heap.size ≤ q) := by
  have hA : ∀ a : Nat, a < s.heap.size → ¬ (fun q : Nat => s.heap.size ≤ q) a := fun a h => Nat.not_le.mpr h
  have hs := flat_of_before _ hgv
  have e0 : ∀ i : Nat, i < 1 → i = 0 := fun i h => by omega
  obtain ⟨adK, adV, h1, h2⟩ := vk_Sof (args := args) (s := s) (N := 1) (tm := fun _ => Term.string "CarbonMinistry$Text" 74) (len := lenJ) (byt := bytJ) (A := fun q : Nat => s.heap.size ≤ q)
    (fun i hi => by rw [e0 i hi, str_len]; decide)
    (fun i _ => hs (Cond.exactly (.string "CarbonMinistry$Text" 74) "java/lang/String") (by decide +kernel))
    (fun i _ => hs (Cond.eq (.field (.string "CarbonMinistry$Text" 74) "java/lang/String" "coder" "B") (.int 0)) (by decide +kernel))
    (fun i _ => hs (Cond.arrayOf (.field (.string "CarbonMinistry$Text" 74) "java/lang/String" "value" "[B") .byte) (by decide +kernel))
    (fun i hi => by rw [e0 i hi, str_len]; exact hs (Cond.eq (.length (.field (.string "CarbonMinistry$Text" 74) "java/lang/String" "value" "[B")) (.int 173)) (by decide +kernel))
    (fun i hi j hj => by rw [e0 i hi, str_len] at hj; rw [e0 i hi]; exact hs _ (List.mem_of_getElem? (str_el j hj)))
    (fun i j hi hj hij => absurd ((e0 i hi).trans (e0 j hj).symm) hij) hA
  refine ⟨adK 0, fun ad ha => ⟨⟨adV, fun i hi => ?_, fun i j hi hj _ => (e0 i hi).trans (e0 j hj).symm⟩, ?_, ?_, ?_⟩⟩
  · have := h1.1 0 (by decide)
    rw [e0 i hi]
    show va_O "java/lang/String" (ad 999) _ s s.heap ∧ va_OF "java/lang/String" "coder" "B" (.int 0) (ad 999) _ s s.heap ∧ va_OF "java/lang/String" "value" "[B" (.ref (adV 0)) (ad 999) _ s s.heap ∧ _
    rw [ha]
    exact this
  · exact va_Zof (hts _ lm_cs) (hts _ lm_is) (va_eqi (hs (Cond.eq (.static "java/lang/String" "COMPACT_STRINGS" "Z") (.int 1)) (by decide +kernel))) hA
  · exact va_Zqof (hts _ lm_sf) (hts _ lm_ip) (hs (Cond.isRef (.static "jdk/internal/util/Preconditions" "SIOOBE_FORMATTER" "Ljava/util/function/BiFunction;")) (by decide +kernel)) hA
  · rw [ha]; exact vk_R.of (hts _ lm_str) (h2 0 (by decide))
section
variable {D : va_G} {s : State} {ad : Nat → Nat} {cA : Nat → ClassId} {RR : Nat → Nat → Nat} {S : MS} {H : Heap} {lo n e sp : Nat}
theorem wsW_one : wsW ad cA RR S lo (lo + 1) = [(ad lo, clW ad cA RR S lo)] := by
  rw [wsW_push (Nat.le_refl lo)]
  unfold wsW
  rw [Nat.sub_self]
  rfl
def fs0 (ci : Nat) : List Value := (List.range (nfC ci)).map fun k => if ftC ci k = 1 then .long 0 else if ftC ci k = 2 then .null else .int 0
theorem clW_0 {ci : Nat} (h : kt lo = ci) (h20 : ci < 20) : clW ad cA (fun _ _ => 0) (fun _ _ => 0) lo = .inr (ci, fs0 ci) := by
  subst h
  rw [clW_obj h20]
  rfl
theorem fs0_at {ci j : Nat} (hj : j < nfC ci) : vp_V (fs0 ci) j = if ftC ci j = 1 then .long 0 else if ftC ci j = 2 then .null else .int 0 := by
  unfold vp_V fs0
  rw [List.getD_eq_getElem?_getD, get_map_range _ hj]
  rfl
theorem LW_new {ci : Nat} {q : Nat} (hlo : lo = 1 ∨ lo = 401) (hk : kt lo = ci) (h20 : ci < 20) (had : ad lo = q) (hP : va_P D vwCl [(q, .inr (ci, fs0 ci))] H) (hA : s.heap.size ≤ q) (hs : strW ad s (fun q : Nat => s.heap.size ≤ q)) : LW D s lo (lo + 1, 0, e, sp) ad cA (fun _ _ => 0) (fun _ _ => 0) H := by
  have hw : wsW ad cA (fun _ _ => 0) (fun _ _ => 0) lo (lo + 1) = [(q, .inr (ci, fs0 ci))] := by rw [wsW_one, clW_0 hk h20, had]
  refine ⟨⟨fun a k _ => by show inL 0; unfold inL; decide, fun a k _ => by show inA 0; unfold inA; decide, fun a k => Or.inl rfl, fun a k a1 a2 hf hk2 hm => ?_, Nat.le_succ _, fun _ a _ k => ⟨rfl, rfl⟩, hlo, by show lo + 1 ≤ 900; omega⟩, ?_, ?_, fun b b1 b2 b3 => ?_, hs⟩
  · rcases hm with hm | hm
    · exact absurd hm (by show ¬ (0 : Int) = 1; decide)
    · exact absurd hm.1 (by show ¬ (0 : Nat) = 1; decide)
  · show va_P D vwCl (wsW ad cA (fun _ _ => 0) (fun _ _ => 0) lo (lo + 1)) H
    rw [hw]; exact hP
  · show va_D _ (wsW ad cA (fun _ _ => 0) (fun _ _ => 0) lo (lo + 1))
    rw [hw]
    refine ⟨fun i j p r hi hj _ => ?_, fun k r hk => ?_⟩
    · have h1 := (List.getElem?_eq_some_iff.mp hi).1
      have h2 := (List.getElem?_eq_some_iff.mp hj).1
      simp only [List.length_cons, List.length_nil] at h1 h2
      omega
    · have h1 := (List.getElem?_eq_some_iff.mp hk).1
      simp only [List.length_cons, List.length_nil] at h1
      obtain rfl : k = 0 := by omega
      cases hk
      exact hA
  · have b2 : b < lo + 1 := b2
    obtain rfl : b = lo := by omega
    omega
/-- what is made is there -/
theorem LW_up (h : LW D s lo (n, 0, e, sp) ad cA RR S H) (hm : ∀ a k, lo ≤ a → a < n → ftC (kt a) k = 2 → k < szC a → S a k = 1) : LW D s lo (n, 1, e, sp) ad cA RR S H := by
  obtain ⟨⟨h1, h2, h3, h4, h5, h6, h7, h8⟩, g2, g3, g4, g5⟩ := h
  exact ⟨⟨h1, h2, h3, fun a k a1 a2 hf hk _ => h4 a k a1 a2 hf hk (Or.inl (hm a k a1 a2 hf hk)), h5, fun z => absurd z (by show ¬ (1 : Nat) = 0; decide), h7, h8⟩, g2, g3, g4, g5⟩
theorem ci_mark : ∀ a k, 1 ≤ a → a < 135 → ftC (kt a) k = 2 → k < szC a → ofW ciW a k = 1 := by
  have h : ∀ a, a < 135 → ∀ k, k < 20 → 1 ≤ a → ftC (kt a) k = 2 → k < szC a → ofW ciW a k = 1 := by decide +kernel
  intro a k a1 a2 hf hk
  have h20 : szC a ≤ 20 := sz_20 a a2 (by
    by_cases z : kt a < 20
    · exact Or.inl z
    · by_cases z2 : kt a = 24
      · exact Or.inr z2
      · exact absurd hf (ft_arr z z2 k))
  exact h a a2 k (by omega) a1 hf hk
theorem mi_mark : ∀ a k, 401 ≤ a → a < 477 → ftC (kt a) k = 2 → k < szC a → ofW miW a k = 1 := by
  have h : ∀ k, k < 108 → ftC (kt 401) k = 2 → ofW miW 401 k = 1 := by decide +kernel
  have h2 : ∀ a, a < 477 → 402 ≤ a → ¬ kt a < 20 ∧ kt a ≠ 24 := by decide +kernel
  have h3 : szC 401 = 108 := by decide +kernel
  intro a k a1 a2 hf hk
  by_cases c : a = 401
  · subst c; exact h k (by omega) hf
  · obtain ⟨x1, x2⟩ := h2 a a2 (by omega)
    exact absurd hf (ft_arr x1 x2 k)
theorem LST_same {q1 q2 : Nat} {locs : List Loc} (h : LST D s n q1 q2 H locs) : LST D s (n + 1) q1 q2 H locs := by
  obtain ⟨ad1, cA1, RR1, S, ad2, cA2, RR2, T, P, h1, h2, h3, h4, h5, h6⟩ := h
  exact ⟨ad1, cA1, RR1, S, ad2, cA2, RR2, T, P, h1, h2, h3, h4, h5, h6.same⟩
end
theorem nI_oi {n : Nat} (h : n < 100000) : nI n = oi (n : Int) := by
  apply Int32.toInt_inj.mp
  rw [oi_toInt (by unfold inA; omega)]
  exact nI_toInt (by omega)
theorem law_le {L i : Nat} (hL : L ≤ 3072) (hi : i ≤ L) (h : ¬ (Int32.ofNat L - 6) < nI i) : i + 6 ≤ L := by
  have e0 : Int32.ofNat L = oi (L : Int) := nI_oi (n := L) (by omega)
  rw [e0, nI_oi (by omega), show (6 : Int32) = oi 6 from rfl, oi_sub, oi_lt (inA_wr _) (by unfold inA; omega), wrN (by omega) (by omega)] at h
  omega
set_option maxRecDepth 20000 in
theorem law_loop {p : Program} {l : Launch} {e : Env} {s : State} {m : MethodId} {below : List Frame} {meth : Method} {c : Code} {cells slots : Nat} {b L q1 q2 : Nat} {xs : Nat → Int32} {D : va_G} (hC : Cx D RL code 4 ret false 400 p e room_1 s m #[Value.ref b] meth c) (hXs : va_X b L xs s s.heap) (hbl : b < s.heap.size) (hL : L ≤ 3072) (hcs : cells ≤ 600000 ∧ slots ≤ 7302250) : ∀ (j i n : Nat) (ls : Array Slot) (H : Heap) (locs : List Loc), i = 6 * n → i ≤ L → L < i + 6 * j → LST D s n q1 q2 H locs → lv_has ls 4 [(0, .ref b), (1, .ref q1), (2, .ref q2), (3, .int (nI i))] → W p l e room_1 s m #[Value.ref b] below meth c H locs cells slots (lw_Z below #[Value.ref b] s) (F0 m 18 ls []) := by
  have hx := hC.1
  have hb := hC.2.1
  have hbA : ¬ (fun q : Nat => s.heap.size ≤ q) b := Nat.not_le.mpr hbl
  intro j
  induction j with
  | zero => intro i n ls H locs e1 e2 e3; omega
  | succ j ih =>
    intro i n ls H locs e1 e2 e3 hX hl
    have hS : va_S (fun q : Nat => s.heap.size ≤ q) s.heap H locs := by
      obtain ⟨ad1, cA1, RR1, S, ad2, cA2, RR2, T, P, -, -, -, -, h5, -⟩ := hX
      exact h5
    refine lv_iload_n hx hb dL_law_18 rfl (lv_at hl 3 rfl) ?_
    refine lv_aload_n hx hb dL_law_19 rfl (lv_at hl 0 rfl) ?_
    refine va_slen hx hb hXs hbl hbA hS dL_law_20 ?_
    refine lv_bipush (v := 6) hx hb dL_law_21 (by decide) ?_
    refine lv_isub hx hb dL_law_23 ?_
    refine lv_icmp_gt (tgt := 1126) hx hb dL_law_24 (by decide) (fun _ => ?_) (fun hgt => ?_)
    · refine lv_iconst (v := 1) hx hb dL_law_1126 (by decide) ?_
      refine va_forget (fun q hq => hS.2.2 q hq) ?_
      refine W.widen (k := 600000) (n := 7302250) hcs.1 hcs.2 ?_
      exact lw_ret hx hb hC.2.2.2.2.2.1 hC.2.2.2.2.2.2.1 dL_law_1127
    · have hiL := law_le hL e2 hgt
      have next : ∀ (H' : Heap) (locs' : List Loc), LST D s (n + 1) q1 q2 H' locs' → W p l e room_1 s m #[Value.ref b] below meth c H' locs' cells slots (lw_Z below #[Value.ref b] s) (F0 m 1120 ls []) := fun H' locs' hN => by
        refine lv_iinc (v := nI (i + 6)) (lv' := [(3, .int (nI (i + 6))), (0, .ref b), (1, .ref q1), (2, .ref q2)]) hx hb dL_law_1120 hl (k := 3) rfl (nI_adz i 6) (by decide) rfl (fun ls' hl' => ?_)
        refine lv_goto (tgt := 18) hx hb dL_law_1123 (by decide) ?_
        exact ih (i + 6) (n + 1) ls' H' locs' (by omega) hiL (by omega) hN (lv_sub hl' [1, 2, 3, 0] rfl)
      have hroom : cells ≤ room_1.cells ∧ slots ≤ room_1.slots := hcs
      have hn : n < 512 := by omega
      refine lv_aload_n hx hb dL_law_27 rfl (lv_at hl 0 rfl) ?_
      refine lv_iload_n hx hb dL_law_28 rfl (lv_at hl 3 rfl) ?_
      refine va_sld hx hb hXs hbl hbA hS (vp_in_nI (show i < L by omega) (by omega)) dL_law_29 ?_
      refine lv_bipush (v := 63) hx hb dL_law_30 (by decide) ?_
      refine lv_iand hx hb dL_law_32 ?_
      generalize xs (nI i).toNatClampNeg &&& 63 = x
      by_cases hout : x.toInt < 0 ∨ 32 < x.toInt
      · exact lv_tableOut (tgt := 1120) hx hb dL_law_33 hout (by decide) (next H locs (LST_same hX))
      · have h1 : ¬ x.toInt < 0 := fun z => hout (Or.inl z)
        have h2 : ¬ 32 < x.toInt := fun z => hout (Or.inr z)
        rcases (show x.toInt = 0 ∨ x.toInt = 1 ∨ x.toInt = 2 ∨ x.toInt = 3 ∨ x.toInt = 4 ∨ x.toInt = 5 ∨ x.toInt = 6 ∨ x.toInt = 7 ∨ x.toInt = 8 ∨ x.toInt = 9 ∨ x.toInt = 10 ∨ x.toInt = 11 ∨ x.toInt = 12 ∨ x.toInt = 13 ∨ x.toInt = 14 ∨ x.toInt = 15 ∨ x.toInt = 16 ∨ x.toInt = 17 ∨ x.toInt = 18 ∨ x.toInt = 19 ∨ x.toInt = 20 ∨ x.toInt = 21 ∨ x.toInt = 22 ∨ x.toInt = 23 ∨ x.toInt = 24 ∨ x.toInt = 25 ∨ x.toInt = 26 ∨ x.toInt = 27 ∨ x.toInt = 28 ∨ x.toInt = 29 ∨ x.toInt = 30 ∨ x.toInt = 31 ∨ x.toInt = 32 by omega) with h | h | h | h | h | h | h | h | h | h | h | h | h | h | h | h | h | h | h | h | h | h | h | h | h | h | h | h | h | h | h | h | h
        · exact lv_tableIn (tgt := 180) hx hb dL_law_33 h1 h2 (by rw [h]; rfl) (by decide) (lcase_0 hX hC hXs hbl hl hiL hL hn hroom next)
        · exact lv_tableIn (tgt := 243) hx hb dL_law_33 h1 h2 (by rw [h]; rfl) (by decide) (lcase_1 hX hC hXs hbl hl hiL hL hn hroom next)
        · exact lv_tableIn (tgt := 266) hx hb dL_law_33 h1 h2 (by rw [h]; rfl) (by decide) (lcase_2 hX hC hXs hbl hl hiL hL hn hroom next)
        · exact lv_tableIn (tgt := 279) hx hb dL_law_33 h1 h2 (by rw [h]; rfl) (by decide) (lcase_3 hX hC hXs hbl hl hiL hL hn hroom next)
        · exact lv_tableIn (tgt := 302) hx hb dL_law_33 h1 h2 (by rw [h]; rfl) (by decide) (lcase_4 hX hC hXs hbl hl hiL hL hn hroom next)
        · exact lv_tableIn (tgt := 325) hx hb dL_law_33 h1 h2 (by rw [h]; rfl) (by decide) (lcase_5 hX hC hXs hbl hl hiL hL hn hroom next)
        · exact lv_tableIn (tgt := 368) hx hb dL_law_33 h1 h2 (by rw [h]; rfl) (by decide) (lcase_6 hX hC hXs hbl hl hiL hL hn hroom next)
        · exact lv_tableIn (tgt := 401) hx hb dL_law_33 h1 h2 (by rw [h]; rfl) (by decide) (lcase_7 hX hC hXs hbl hl hiL hL hn hroom next)
        · exact lv_tableIn (tgt := 434) hx hb dL_law_33 h1 h2 (by rw [h]; rfl) (by decide) (lcase_8 hX hC hXs hbl hl hiL hL hn hroom next)
        · exact lv_tableIn (tgt := 467) hx hb dL_law_33 h1 h2 (by rw [h]; rfl) (by decide) (lcase_9 hX hC hXs hbl hl hiL hL hn hroom next)
        · exact lv_tableIn (tgt := 500) hx hb dL_law_33 h1 h2 (by rw [h]; rfl) (by decide) (lcase_10 hX hC hXs hbl hl hiL hL hn hroom next)
        · exact lv_tableIn (tgt := 533) hx hb dL_law_33 h1 h2 (by rw [h]; rfl) (by decide) (lcase_11 hX hC hXs hbl hl hiL hL hn hroom next)
        · exact lv_tableIn (tgt := 576) hx hb dL_law_33 h1 h2 (by rw [h]; rfl) (by decide) (lcase_12 hX hC hXs hbl hl hiL hL hn hroom next)
        · exact lv_tableIn (tgt := 589) hx hb dL_law_33 h1 h2 (by rw [h]; rfl) (by decide) (lcase_13 hX hC hXs hbl hl hiL hL hn hroom next)
        · exact lv_tableIn (tgt := 622) hx hb dL_law_33 h1 h2 (by rw [h]; rfl) (by decide) (lcase_14 hX hC hXs hbl hl hiL hL hn hroom next)
        · exact lv_tableIn (tgt := 645) hx hb dL_law_33 h1 h2 (by rw [h]; rfl) (by decide) (lcase_15 hX hC hXs hbl hl hiL hL hn hroom next)
        · exact lv_tableIn (tgt := 698) hx hb dL_law_33 h1 h2 (by rw [h]; rfl) (by decide) (lcase_16 hX hC hXs hbl hl hiL hL hn hroom next)
        · exact lv_tableIn (tgt := 731) hx hb dL_law_33 h1 h2 (by rw [h]; rfl) (by decide) (lcase_17 hX hC hXs hbl hl hiL hL hn hroom next)
        · exact lv_tableIn (tgt := 764) hx hb dL_law_33 h1 h2 (by rw [h]; rfl) (by decide) (lcase_18 hX hC hXs hbl hl hiL hL hn hroom next)
        · exact lv_tableIn (tgt := 777) hx hb dL_law_33 h1 h2 (by rw [h]; rfl) (by decide) (lcase_19 hX hC hXs hbl hl hiL hL hn hroom next)
        · exact lv_tableIn (tgt := 810) hx hb dL_law_33 h1 h2 (by rw [h]; rfl) (by decide) (lcase_20 hX hC hXs hbl hl hiL hL hn hroom next)
        · exact lv_tableIn (tgt := 843) hx hb dL_law_33 h1 h2 (by rw [h]; rfl) (by decide) (lcase_21 hX hC hXs hbl hl hiL hL hn hroom next)
        · exact lv_tableIn (tgt := 886) hx hb dL_law_33 h1 h2 (by rw [h]; rfl) (by decide) (lcase_22 hX hC hXs hbl hl hiL hL hn hroom next)
        · exact lv_tableIn (tgt := 919) hx hb dL_law_33 h1 h2 (by rw [h]; rfl) (by decide) (lcase_23 hX hC hXs hbl hl hiL hL hn hroom next)
        · exact lv_tableIn (tgt := 952) hx hb dL_law_33 h1 h2 (by rw [h]; rfl) (by decide) (lcase_24 hX hC hXs hbl hl hiL hL hn hroom next)
        · exact lv_tableIn (tgt := 975) hx hb dL_law_33 h1 h2 (by rw [h]; rfl) (by decide) (lcase_25 hX hC hXs hbl hl hiL hL hn hroom next)
        · exact lv_tableIn (tgt := 998) hx hb dL_law_33 h1 h2 (by rw [h]; rfl) (by decide) (lcase_26 hX hC hXs hbl hl hiL hL hn hroom next)
        · exact lv_tableIn (tgt := 1011) hx hb dL_law_33 h1 h2 (by rw [h]; rfl) (by decide) (lcase_27 hX hC hXs hbl hl hiL hL hn hroom next)
        · exact lv_tableIn (tgt := 1034) hx hb dL_law_33 h1 h2 (by rw [h]; rfl) (by decide) (lcase_28 hX hC hXs hbl hl hiL hL hn hroom next)
        · exact lv_tableIn (tgt := 1048) hx hb dL_law_33 h1 h2 (by rw [h]; rfl) (by decide) (lcase_29 hX hC hXs hbl hl hiL hL hn hroom next)
        · exact lv_tableIn (tgt := 1061) hx hb dL_law_33 h1 h2 (by rw [h]; rfl) (by decide) (lcase_30 hX hC hXs hbl hl hiL hL hn hroom next)
        · exact lv_tableIn (tgt := 1084) hx hb dL_law_33 h1 h2 (by rw [h]; rfl) (by decide) (lcase_31 hX hC hXs hbl hl hiL hL hn hroom next)
        · exact lv_tableIn (tgt := 1097) hx hb dL_law_33 h1 h2 (by rw [h]; rfl) (by decide) (lcase_32 hX hC hXs hbl hl hiL hL hn hroom next)
set_option maxHeartbeats 4000000 in
set_option maxRecDepth 100000 in
theorem whole_start {p : Program} {e : Env} {s : State} {m : MethodId} {below : List Frame} {meth : Method} {c : Code} (l : Launch) (hflags : l.flags = flags0) {b L : Nat} {xs : Nat → Int32} (hL : L ≤ 3072) (C0 : lw_At p s m meth c b L xs) : W p l e room_1 s m #[Value.ref b] below meth c s.heap [] 0 0 (lw_Z below #[Value.ref b] s) (entryFrame m ([Value.ref b] : List Value).toArray 4) := by
  obtain ⟨hx, hb, hr, hml, hown, hts, hX, hbl, hlocks, hgv⟩ := id C0
  have hB : ∀ w ∈ BIG, w.before #[Value.ref b] s = true := fun w hw => hts w (List.mem_filter.mp hw).1
  obtain ⟨D, hK⟩ := start_known hB
  obtain ⟨a0, hstr⟩ := start_str hts hgv
  have hC : Cx D RL code 4 ret false 400 p e room_1 s m #[Value.ref b] meth c := ⟨hx, hb, hml, hown, hB, hr, hlocks, hK, fun w hw => va_tabs (nwl_tab w hw) rfl (hts w (nwl_mem w hw)), va_AO.of (hts _ lm_ao), (show 400 ≤ 2048 by decide), (show 100 * 400 ≤ 84000 by decide), by decide, fun h => by cases h⟩
  have hA : ∀ q : Nat, s.heap.size ≤ q → (fun q : Nat => s.heap.size ≤ q) q := fun _ h => h
  have hS : va_S (fun q : Nat => s.heap.size ≤ q) s.heap s.heap [] := va_S.rf
  have hP0 : va_P D vwCl [] s.heap := fun k q h => by simp at h
  have hD0 : va_D (fun q : Nat => s.heap.size ≤ q) [] := ⟨fun i j p q h => by simp at h, fun k q h => by simp at h⟩
  have hl := lv_entry ([.ref b]) (n := 4) (Nat.le_of_ble_eq_true rfl)
  rw [lg_entry_eq]
  generalize (lg_sl ([.ref b]) ++ List.replicate (4 - (lg_sl ([.ref b])).length) Slot.unset).toArray = ls at hl ⊢
  have hl : lv_has ls 4 [(0, .ref b)] := hl
  have z1 : 0 + 14 + (zs 135 - zs 2) + 108 + (zs 477 - zs 402) ≤ 7302250 := by decide +kernel
  refine va_new (D := D) (ci := 11) (fs := fs0 11) (C := RX11) (T := TX11) (N := 14) hx hb hB hin_11 tyX11 tyX11_ok hown (hB _ lww_167) (hB _ lww_168) (hB _ w_147) hK hP0 hD0 hS hA vwi_11 (fun j hj => by rw [hdv_11 j hj]; exact (fs0_at hj).symm) (show 0 + 1 ≤ 600000 by decide) (show 0 + 14 ≤ 7302250 by decide) dL_law_0 (fun q1 H hP hD hS => ?_)
  refine lv_dup hx hb dL_law_3 rfl ?_
  have w1 : LW D s 1 (2, 0, 31, 5) (fun c => if c = 999 then a0 else q1) (fun _ => D.1 0) (fun _ _ => 0) (fun _ _ => 0) H := LW_new (ci := 11) (q := q1) (Or.inl rfl) (by decide +kernel) (by decide) rfl hP (hD.2 0 _ rfl) (hstr _ rfl)
  have k1 := law_call (l := l) (below := below) (cells := 0 + 1) (slots := 0 + 14) (rest := [.ref q1]) (pc := 4) (a := [vr 1]) (r := none) (ls := ls) (n := 1) (ck_I (l := l) (k := 400) (own := RL) (cc := code) (nL := 4) (by decide) (by decide) rfl vwi_11 rfl rfl lww_169 lww_170 w_147 lww_171 (by decide) dL_law_4) (mx_17 l) hC w1 hS hl.1 (fun v hv => by rw [List.mem_singleton] at hv; subst hv; exact Or.inl ⟨by decide, by decide⟩) (by decide) rfl (fun _ => by decide +kernel) (by show 1 + 0 ≤ 8; decide) ci_call ⟨(show 0 + 1 + (135 - 2) ≤ 600000 by decide), (show 0 + 14 + (zs 135 - zs 2) ≤ 7302250 by omega)⟩ (Q := lw_Z below #[Value.ref b] s)
  refine k1 (fun ad1 cA1 RR1 H1 locs1 f1 u1 hS1 g1 n1 => ?_)
  have u1 := LW_up u1 ci_mark
  have hq1 : ad1 1 = q1 := f1 1 (Or.inl (by decide))
  refine lv_astore_n (lv' := [(1, .ref q1), (0, .ref b)]) hx hb dL_law_7 rfl hl (by decide) rfl (fun ls hl => ?_)
  have hlen : (wsW ad1 cA1 RR1 (ofW ciW) 1 135).length = 134 := by unfold wsW; rw [List.length_map, List.length_range]
  refine va_new (D := D) (ci := 12) (fs := fs0 12) (C := RX12) (T := TX12) (N := 108) hx hb hB hin_12 tyX12 tyX12_ok hown (hB _ lww_1376) (hB _ lww_1377) (hB _ w_159) hK u1.2.1 u1.2.2.1 hS1 hA vwi_12 (fun j hj => by rw [hdv_12 j hj]; exact (fs0_at hj).symm) (show 0 + 1 + (135 - 2) + 1 ≤ 600000 by decide) (show 0 + 14 + (zs 135 - zs 2) + 108 ≤ 7302250 by omega) dL_law_8 (fun q2 H2 hP2 hD2 hS2 => ?_)
  have hP2 : va_P D vwCl (wsW ad1 cA1 RR1 (ofW ciW) 1 135 ++ [(q2, .inr (12, fs0 12))]) H2 := hP2
  have hD2 : va_D (fun q : Nat => s.heap.size ≤ q) (wsW ad1 cA1 RR1 (ofW ciW) 1 135 ++ [(q2, .inr (12, fs0 12))]) := hD2
  refine lv_dup hx hb dL_law_11 rfl ?_
  have u1' : LW D s 1 CD ad1 cA1 RR1 (ofW ciW) H2 := ⟨u1.1, fun k q hk => hP2 k q (by rw [List.getElem?_append_left (List.getElem?_eq_some_iff.mp hk).1]; exact hk), u1.2.2.1, u1.2.2.2⟩
  have hlast : (wsW ad1 cA1 RR1 (ofW ciW) 1 135 ++ [(q2, Sum.inr (12, fs0 12))])[134]? = some (q2, .inr (12, fs0 12)) := by rw [List.getElem?_append_right (by omega), hlen]; rfl
  have w2 : LW D s 401 (402, 0, 0, 0) (fun c => if c = 999 then a0 else q2) (fun _ => D.1 0) (fun _ _ => 0) (fun _ _ => 0) H2 := LW_new (ci := 12) (q := q2) (Or.inr rfl) (by decide +kernel) (by decide) rfl (fun k q hk => hP2 (134 + k) q (by rw [List.getElem?_append_right (by omega), hlen, Nat.add_sub_cancel_left]; exact hk)) (hD2.2 134 _ hlast) (hstr _ rfl)
  have hap0 : ∀ a, 1 ≤ a → a < 135 → ad1 a ≠ q2 := fun a a1 a2 he => by
    have := hD2.1 (a - 1) 134 (ad1 a, clW ad1 cA1 RR1 (ofW ciW) a) _ (by rw [List.getElem?_append_left (by omega)]; exact wsW_get a1 a2) hlast he
    omega
  have k2 := law_call (l := l) (below := below) (cells := 0 + 1 + (135 - 2) + 1) (slots := 0 + 14 + (zs 135 - zs 2) + 108) (rest := [.ref q2]) (pc := 12) (a := [vr 401]) (r := none) (ls := ls) (n := 1) (ck_I (l := l) (k := 400) (own := RL) (cc := code) (nL := 4) (by decide) (by decide) rfl vwi_12 rfl rfl lww_1378 lww_1379 w_159 lww_1380 (by decide) dL_law_12) (mx_221 l) hC w2 hS2 hl.1 (fun v hv => by rw [List.mem_singleton] at hv; subst hv; exact Or.inl ⟨by decide, by decide⟩) (by decide) rfl (fun _ => by decide +kernel) (by show 1 + 0 ≤ 8; decide) mi_call ⟨(show 0 + 1 + (135 - 2) + 1 + (477 - 402) ≤ 600000 by decide), (show 0 + 14 + (zs 135 - zs 2) + 108 + (zs 477 - zs 402) ≤ 7302250 by omega)⟩ (Q := lw_Z below #[Value.ref b] s)
  refine k2 (fun ad2 cA2 RR2 H3 locs3 f2 u2 hS3 g2 n2 => ?_)
  have u2 := LW_up u2 mi_mark
  have hq2 : ad2 401 = q2 := f2 401 (Or.inl (by decide))
  have hlt : ∀ a, 1 ≤ a → a < 135 → ad1 a < H2.size := fun a a1 a2 => (u1'.2.1 (a - 1) _ (wsW_get a1 a2)).lt
  have u1'' : LW D s 1 CD ad1 cA1 RR1 (ofW ciW) H3 := u1'.kept (fun a a1 a2 hl2 => g2 (ad1 a) hl2 (fun ⟨b', x1, x2, x3⟩ => by
    have x2 : b' < 402 := x2
    obtain rfl : b' = 401 := by omega
    exact hap0 a a1 a2 x3))
  have hap : apart ad1 ad2 := fun a b' a1 a2 b1 b2 he => by
    rcases n2 b' b1 b2 with ⟨b0, x1, x2, x3⟩ | x
    · have x2 : b0 < 402 := x2
      obtain rfl : b0 = 401 := by omega
      exact hap0 a a1 a2 (he.trans x3)
    · have := hlt a a1 a2
      omega
  refine lv_astore_n (lv' := [(2, .ref q2), (1, .ref q1), (0, .ref b)]) hx hb dL_law_15 rfl hl (by decide) rfl (fun ls hl => ?_)
  refine lv_iconst (v := 0) hx hb dL_law_16 (by decide) ?_
  refine lv_istore_n (lv' := [(3, .int 0), (2, .ref q2), (1, .ref q1), (0, .ref b)]) hx hb dL_law_17 rfl hl (by decide) rfl (fun ls hl => ?_)
  exact law_loop hC hX hbl hL ⟨(show 0 + 1 + (135 - 2) + 1 + (477 - 402) ≤ 600000 by decide), z1⟩ (L + 1) 0 0 ls H3 locs3 rfl (Nat.zero_le L) (by omega) ⟨ad1, cA1, RR1, ofW ciW, ad2, cA2, RR2, ofW miW, ofW miW, u1'', u2, hap, ⟨hq1, hq2⟩, hS3, inv_0⟩ (lv_sub hl [3, 2, 1, 0] rfl)
