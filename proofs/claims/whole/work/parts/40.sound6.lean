/-! making, switches, ends, the JDK's own -/
section
variable {l : Launch} {k : Nat} {own : String} {cc : ByteArray} {nL : Nat} {ret : Option FieldType} {ini : Bool} {pc nx : Nat}
theorem kt_big {n : Nat} (h : 800 ≤ n) : kt n = 99 := by
  unfold kt
  repeat' split
  all_goals first | rfl | omega
theorem kl_small (a : Nat) : (kl a).toNat ≤ 200000 := by
  have h : ∀ b, b < 1000 → (kl b).toNat ≤ 200000 := by decide +kernel
  by_cases hb : a < 1000
  · exact h a hb
  · have e : kl a = kl 999 := by
      unfold kl
      repeat' split
      all_goals first | rfl | omega
    rw [e]; decide
theorem enc_agree {ad ad' : Nat → Nat} {lo n : Nat} {v : PV} (h : ∀ b, b < n ∨ b = 999 → ad' b = ad b) (hv : okV lo n v) : encV ad' v = encV ad v := by
  rcases v with z | z | a
  · rfl
  · rfl
  · show Value.ref _ = Value.ref _
    rw [h a (hv.imp (fun q => q.2) id)]
theorem enc_map {ad ad' : Nat → Nat} {lo n : Nat} {st : List PV} (h : ∀ b, b < n ∨ b = 999 → ad' b = ad b) (hv : ∀ v ∈ st, okV lo n v) : st.map (encV ad') = st.map (encV ad) := List.map_congr_left fun v hm => enc_agree h (hv v hm)
theorem enc_enL {ad ad' : Nat → Nat} {lo n : Nat} {lc : PL} (h : ∀ b, b < n ∨ b = 999 → ad' b = ad b) (hv : ∀ q ∈ lc, okV lo n q.2) : enL ad' lc = enL ad lc := List.map_congr_left fun q hm => by rw [enc_agree h (hv q hm)]
theorem okV_le {lo n n' : Nat} {v : PV} (h : okV lo n v) (hn : n ≤ n') : okV lo n' v := by
  rcases v with z | z | a
  · exact h
  · exact h
  · rcases h with h | h
    · exact Or.inl ⟨h.1, by omega⟩
    · exact Or.inr h
theorem strW_ad {ad ad' : Nat → Nat} {s : State} {A : Nat → Prop} (h : ad' 999 = ad 999) (hs : strW ad s A) : strW ad' s A := by
  unfold strW at hs ⊢
  rw [h]
  exact hs
theorem PFt_new {lo : Nat} {RR : Nat → Nat → Nat} {M : PM} (h : PFt lo RR M) (hph : M.2.2.1 = 0) (hk : kt M.2.1 ≤ 24) : PFt lo RR (M.1, (M.2.1 + 1, M.2.2)) := by
  obtain ⟨g1, g2, g3, g4, g5, g6, g7, g8⟩ := h
  refine ⟨g1, g2, fun b j => (g3 b j).imp id (fun q => ⟨q.1, Nat.lt_succ_of_lt q.2⟩), fun b j hb1 hb2 hb3 hb4 hb5 => ?_, Nat.le_succ_of_le g5, fun hp b hb j => g6 hp b (Nat.le_of_succ_le hb) j, g7, ?_⟩
  · have hb2 : b < M.2.1 + 1 := hb2
    by_cases e : b = M.2.1
    · have h0 := (g6 hph b (by omega) j).1
      rcases hb5 with q | q
      · have q : M.1 b j = 1 := q
        omega
      · have q1 : M.2.2.1 = 1 := q.1
        omega
    · exact g4 b j hb1 (by omega) hb3 hb4 hb5
  · show M.2.1 + 1 ≤ 900
    by_cases e : 800 ≤ M.2.1
    · rw [kt_big e] at hk; omega
    · omega
theorem Rel.new {D : va_G} {lo n0 : Nat} {A : Nat → Prop} {s : State} {ad : Nat → Nat} {cA : Nat → ClassId} {RR : Nat → Nat → Nat} {M : PM} {H H1 : Heap} {locs : List Loc} {cells slots : Nat} {q : Nat} {x : va_E} {cA0 : ClassId}
    (hR : Rel D lo n0 A s ad cA RR M H locs cells slots) (hph : M.2.2.1 = 0) (hk : kt M.2.1 ≤ 24) (hx : x = clW ad (fun b => if b = M.2.1 then cA0 else cA b) RR M.1 M.2.1) (hP : va_P D vwCl (wsW ad cA RR M.1 lo M.2.1 ++ [(q, x)]) H1) (hD : va_D A (wsW ad cA RR M.1 lo M.2.1 ++ [(q, x)])) (hS : va_S A s.heap H1 locs)
    (hA : 20 ≤ kt M.2.1 → ArrOfT s cA0 (ataC (kt M.2.1)) ∧ va_RA s cA0 (ataC (kt M.2.1))) : Rel D lo n0 A s (fun b => if b = M.2.1 then q else ad b) (fun b => if b = M.2.1 then cA0 else cA b) RR (M.1, (M.2.1 + 1, M.2.2)) H1 locs (cells + 1) (slots + szC M.2.1) := by
  obtain ⟨g1, g2, g3, g4, g5, g6, g7, g8, g9, g10⟩ := hR
  have hlo := g1.2.2.2.2.1
  have h800 : M.2.1 < 800 := by
    by_cases e : 800 ≤ M.2.1
    · rw [kt_big e] at hk; omega
    · omega
  have hrv : ∀ b j, rvW ad (RR b j) = rvW (fun b => if b = M.2.1 then q else ad b) (RR b j) := by
    intro b j
    unfold rvW
    by_cases e : RR b j = 0
    · rw [if_pos e, if_pos e]
    · have h1 := (g1.2.2.1 b j).resolve_left e
      rw [if_neg e, if_neg e]
      dsimp only
      rw [if_neg (by omega)]
  have hw : wsW ad cA RR M.1 lo M.2.1 ++ [(q, x)] = wsW (fun b => if b = M.2.1 then q else ad b) (fun b => if b = M.2.1 then cA0 else cA b) RR M.1 lo (M.2.1 + 1) := by
    rw [wsW_push hlo]
    have e1 : wsW ad cA RR M.1 lo M.2.1 = wsW (fun b => if b = M.2.1 then q else ad b) (fun b => if b = M.2.1 then cA0 else cA b) RR M.1 lo M.2.1 := by
      refine wsW_eq fun b hb1 hb2 => ⟨?_, clW_congr ?_ (fun _ => rfl) (hrv b)⟩
      · rw [if_neg (by omega)]
      · rw [if_neg (by omega)]
    rw [e1, hx]
    congr 1
    have e2 : clW ad (fun b => if b = M.2.1 then cA0 else cA b) RR M.1 M.2.1 = clW (fun b => if b = M.2.1 then q else ad b) (fun b => if b = M.2.1 then cA0 else cA b) RR M.1 M.2.1 := clW_congr rfl (fun _ => rfl) (hrv _)
    rw [e2]
    simp
  rw [hw] at hP hD
  refine ⟨PFt_new g1 hph hk, hP, hD, hS, g5, fun b hb1 hb2 hb3 => ?_, ?_, ?_, ?_, strW_ad ?_ g10⟩
  · have hb2 : b < M.2.1 + 1 := hb2
    dsimp only
    by_cases e : b = M.2.1
    · subst e
      simp only [if_true]
      exact hA hb3
    · rw [if_neg e]
      exact g6 b hb1 (by omega) hb3
  · show n0 ≤ M.2.1 + 1
    omega
  · show cells + 1 + n0 = M.2.1 + 1
    omega
  · show slots + szC M.2.1 + zs n0 = zs (M.2.1 + 1)
    rw [zs]
    omega
  · show (if 999 = M.2.1 then q else ad 999) = ad 999
    rw [if_neg (by omega)]
theorem agree_new {M : PM} {ad : Nat → Nat} {q : Nat} (hk : kt M.2.1 ≤ 24) : ∀ b, b < M.2.1 ∨ b = 999 → (if b = M.2.1 then q else ad b) = ad b := by
  intro b hb
  have : b ≠ M.2.1 := by
    rcases hb with hb | hb
    · omega
    · intro e
      rw [← e, hb, kt_999] at hk
      omega
  rw [if_neg this]
theorem snd_new {ci idx N : Nat} {C : String} {T : u_T} (hc : vwCl[ci]? = some (C, T, N)) (hN : nfC ci = N) (hin : ∀ w ∈ u_ws C T N, w ∈ BIG) (ty0 : Nat → FieldType) (hty : ∀ k, k < N → parseFieldDescriptor (T k).2.2.1 = some (ty0 k)) (hdv : ∀ j, j < N → defaultValue (ty0 j) = if ftC ci j = 1 then .long 0 else if ftC ci j = 2 then .null else .int 0)
    (hcl : Cond.classLink own idx C ∈ BIG) (hins : Cond.instantiable C N ∈ BIG) (hini : Cond.initialized C ∈ BIG) (hd : decode cc pc = .ok (.new idx, 3)) (hx : pc + 3 = nx) : SndS l k own cc nL ret ini pc (i_new ci nx) := by
  refine ⟨?_, fun o lc st M s' h => by
    unfold i_new at h
    repeat' split at h
    all_goals first | (cases h; exact Nat.le_refl _) | (cases h; exact Nat.le_succ _) | (cases h), fun o lc st M r M' h => by
    unfold i_new at h
    repeat' split at h
    all_goals first | (cases h; rfl) | cases h⟩
  intro p e R s m args below meth c D lo n0 A ad cA RR M lc st ls H locs cells slots hC hR hl2 hol hos
  refine ⟨fun pc' lc' st' M' h => ?_, fun r M' h => ?_⟩
  · unfold i_new at h
    split at h
    · rename_i hph
      split at h
      · rename_i hka
        cases h
        refine ⟨Nat.le_succ _, fun hr1 hr2 Q kk => ?_⟩
        subst hx
        have hci := cx_sz hc
        have hka2 : kt M.2.1 ≤ 24 := by omega
        have hsz : szC M.2.1 = N := by unfold szC; rw [if_pos (by omega), hka, hN]
        have hr2 : zs (M.2.1 + 1) - zs n0 ≤ R.slots := hr2
        have hr1 : M.2.1 + 1 - n0 ≤ R.cells := hr1
        rw [zs, hsz] at hr2
        obtain ⟨g1, g2, g3, g4, g5, g6, g7, g8, g9, g10⟩ := id hR
        have h0 := fun j => g1.2.2.2.2.2.1 hph M.2.1 (Nat.le_refl _) j
        refine va_new (ci := ci) (fs := (List.range N).map (fvW ad RR M.1 M.2.1)) hC.1 hC.2.1 hC.2.2.2.2.1 hin ty0 hty hC.2.2.2.1 (hC.2.2.2.2.1 _ hcl) (hC.2.2.2.2.1 _ hins) (hC.2.2.2.2.1 _ hini) hC.2.2.2.2.2.2.2.1 hR.2.1 hR.2.2.1 hR.2.2.2.1 hR.2.2.2.2.1 hc (fun j hj => ?_) (by omega) (by omega) hd (fun q H1 hP hD hS => ?_)
        · rw [hdv j hj]
          unfold vp_V
          rw [List.getD_eq_getElem?_getD, get_map_range _ hj]
          unfold fvW rvW
          rw [hka, (h0 j).1, (h0 j).2]
          rfl
        · have hR2 := hR.new (q := q) (cA0 := cA M.2.1) hph hka2 (x := .inr (ci, (List.range N).map (fvW ad RR M.1 M.2.1))) (by rw [clW_obj (by omega), hka, hN]) hP hD hS (fun h20 => absurd h20 (by omega))
          rw [hsz] at hR2
          have hag := agree_new (ad := ad) (q := q) hka2
          have kk2 := kk _ _ RR ls H1 locs (cells + 1) (slots + N) hag (fun b hb => if_neg (by omega)) hR2 (by rw [enc_enL hag hol]; exact hl2) (fun x hx => okV_le (hol x hx) (Nat.le_succ _)) (ok_cons (Or.inl ⟨g1.2.2.2.2.1, Nat.lt_succ_self _⟩) (fun v hv => okV_le (hos v hv) (Nat.le_succ _)))
          rw [List.map_cons, enc_map hag hos] at kk2
          have e : encV (fun b => if b = M.2.1 then q else ad b) (.inr (.inr M.2.1)) = .ref q := by unfold encV; simp
          rw [e] at kk2
          exact kk2
      · cases h
    · cases h
  · unfold i_new at h
    split at h
    · split at h <;> cases h
    · cases h
theorem nwa_go {t : Nat} {atype : ArrayType} {ty : FieldType} (hty : newarray.typeOf atype = ty) (hat : ataC t = ty) (ht : 20 ≤ t ∧ t ≤ 23) (hcb : componentBytes ty ≤ 8) (harr : Cond.arrayClass (newarray.typeOf atype) ∈ BIG) (hdv : ∀ (cA : ClassId) (n : Nat) (S : MS) (ad : Nat → Nat) (RR : Nat → Nat → Nat) (a : Nat), kt a = t → (∀ j, S a j = 0) → vp_cell cA (n, faW ad RR S a) = arrV cA n (fun _ => defaultValue ty))
    (hd : decode cc pc = .ok (.newarray atype, 2)) (hx : pc + 2 = nx) : SndS l k own cc nL ret ini pc (i_nwa t nx) := by
  refine ⟨?_, fun o lc st M s' h => by
    unfold i_nwa at h
    repeat' split at h
    all_goals first | (cases h; exact Nat.le_refl _) | (cases h; exact Nat.le_succ _) | (cases h), fun o lc st M r M' h => by
    unfold i_nwa at h
    repeat' split at h
    all_goals first | (cases h; rfl) | cases h⟩
  intro p e R s m args below meth c D lo n0 A ad cA RR M lc st ls H locs cells slots hC hR hl2 hol hos
  refine ⟨fun pc' lc' st' M' h => ?_, fun r M' h => ?_⟩
  · unfold i_nwa at h
    split at h
    · rename_i z st
      split at h
      · rename_i hph
        split at h
        · rename_i hka
          split at h
          · rename_i hz
            cases h
            refine ⟨Nat.le_succ _, fun hr1 hr2 Q kk => ?_⟩
            subst hx
            have hka2 : kt M.2.1 ≤ 24 := by omega
            have hsz : szC M.2.1 = (kl M.2.1).toNat := by unfold szC; rw [if_neg (by omega)]
            have hr2 : zs (M.2.1 + 1) - zs n0 ≤ R.slots := hr2
            have hr1 : M.2.1 + 1 - n0 ≤ R.cells := hr1
            rw [zs, hsz] at hr2
            obtain ⟨g1, g2, g3, g4, g5, g6, g7, g8, g9, g10⟩ := id hR
            have h0 := fun j => g1.2.2.2.2.2.1 hph M.2.1 (Nat.le_refl _) j
            have hzr := ok_hd hos
            have hnn := kl_nn M.2.1
            have hks := kl_small M.2.1
            refine va_newa (ty := ty) (rest := st.map (encV ad)) (N' := (kl M.2.1).toNat) (a0 := ((kl M.2.1).toNat, faW ad RR M.1 M.2.1)) hC.1 hC.2.1 (hC.2.2.2.2.1 _ harr) hty hC.2.2.2.2.2.2.2.1 hR.2.1 hR.2.2.1 hR.2.2.2.1 hR.2.2.2.2.1 (fun cA0 => hdv cA0 _ _ _ _ _ hka (fun j => (h0 j).1)) ?_ ?_ ?_ (by omega) (by omega) hd (fun q cA0 H1 hK hP hD hS => ?_)
            · rw [oi_neg hzr]; omega
            · rw [oi_nat hzr, hz]
            · exact Nat.le_trans (Nat.mul_le_mul hks hcb) (by decide)
            · have hR2 := hR.new (q := q) (cA0 := cA0) hph hka2 (x := .inl (cA0, ((kl M.2.1).toNat, faW ad RR M.1 M.2.1))) (by rw [clW_arr (by omega)]; simp) hP hD hS (fun _ => by rw [hka, hat]; exact hK.2 0 _ rfl)
              rw [hsz] at hR2
              have hag := agree_new (ad := ad) (q := q) hka2
              have kk2 := kk _ _ RR ls H1 locs (cells + 1) (slots + (kl M.2.1).toNat) hag (fun b hb => if_neg (by omega)) hR2 (by rw [enc_enL hag hol]; exact hl2) (fun x hx => okV_le (hol x hx) (Nat.le_succ _)) (ok_cons (Or.inl ⟨g1.2.2.2.2.1, Nat.lt_succ_self _⟩) (fun v hv => okV_le (ok_tl hos v hv) (Nat.le_succ _)))
              rw [List.map_cons, enc_map hag (ok_tl hos)] at kk2
              have e : encV (fun b => if b = M.2.1 then q else ad b) (.inr (.inr M.2.1)) = .ref q := by unfold encV; simp
              rw [e] at kk2
              exact kk2
          · cases h
        · cases h
      · cases h
    · cases h
  · unfold i_nwa at h
    split at h
    · split at h
      · split at h
        · split at h <;> cases h
        · cases h
      · cases h
    · cases h
theorem snd_nwI (harr : Cond.arrayClass .int ∈ BIG) (hd : decode cc pc = .ok (.newarray .int, 2)) (hx : pc + 2 = nx) : SndS l k own cc nL ret ini pc (i_nwa 20 nx) :=
  nwa_go (atype := .int) (ty := .int) rfl rfl (by omega) (by decide) harr (fun cA n S ad RR a hk h0 => by unfold faW; rw [hk, if_neg (by decide), if_neg (by decide), vp_cell_i]; congr 1; funext j; rw [h0 j]; rfl) hd hx
theorem snd_nwL (harr : Cond.arrayClass .long ∈ BIG) (hd : decode cc pc = .ok (.newarray .long, 2)) (hx : pc + 2 = nx) : SndS l k own cc nL ret ini pc (i_nwa 21 nx) :=
  nwa_go (atype := .long) (ty := .long) rfl rfl (by omega) (by decide) harr (fun cA n S ad RR a hk h0 => by unfold faW; rw [hk, if_pos rfl, vp_cell_l]; congr 1; funext j; rw [h0 j]; rfl) hd hx
theorem snd_nwC (harr : Cond.arrayClass .char ∈ BIG) (hd : decode cc pc = .ok (.newarray .char, 2)) (hx : pc + 2 = nx) : SndS l k own cc nL ret ini pc (i_nwa 22 nx) :=
  nwa_go (atype := .char) (ty := .char) rfl rfl (by omega) (by decide) harr (fun cA n S ad RR a hk h0 => by unfold faW; rw [hk, if_neg (by decide), if_neg (by decide), vp_cell_i]; congr 1; funext j; rw [h0 j]; rfl) hd hx
theorem snd_nwZ (harr : Cond.arrayClass .boolean ∈ BIG) (hd : decode cc pc = .ok (.newarray .boolean, 2)) (hx : pc + 2 = nx) : SndS l k own cc nL ret ini pc (i_nwa 23 nx) :=
  nwa_go (atype := .boolean) (ty := .boolean) rfl rfl (by omega) (by decide) harr (fun cA n S ad RR a hk h0 => by unfold faW; rw [hk, if_neg (by decide), if_neg (by decide), vp_cell_i]; congr 1; funext j; rw [h0 j]; rfl) hd hx
theorem snd_nwR {idx : Nat} (hcl : Cond.classLink own idx "CarbonMinistry$State" ∈ BIG) (hd : decode cc pc = .ok (.anewarray idx, 3)) (hx : pc + 3 = nx) : SndS l k own cc nL ret ini pc (i_nwa 24 nx) := by
  refine ⟨?_, fun o lc st M s' h => by
    unfold i_nwa at h
    repeat' split at h
    all_goals first | (cases h; exact Nat.le_refl _) | (cases h; exact Nat.le_succ _) | (cases h), fun o lc st M r M' h => by
    unfold i_nwa at h
    repeat' split at h
    all_goals first | (cases h; rfl) | cases h⟩
  intro p e R s m args below meth c D lo n0 A ad cA RR M lc st ls H locs cells slots hC hR hl2 hol hos
  refine ⟨fun pc' lc' st' M' h => ?_, fun r M' h => ?_⟩
  · unfold i_nwa at h
    split at h
    · rename_i z st
      split at h
      · rename_i hph
        split at h
        · rename_i hka
          split at h
          · rename_i hz
            cases h
            refine ⟨Nat.le_succ _, fun hr1 hr2 Q kk => ?_⟩
            subst hx
            have hka2 : kt M.2.1 ≤ 24 := by omega
            have hsz : szC M.2.1 = (kl M.2.1).toNat := by unfold szC; rw [if_neg (by omega)]
            have hr2 : zs (M.2.1 + 1) - zs n0 ≤ R.slots := hr2
            have hr1 : M.2.1 + 1 - n0 ≤ R.cells := hr1
            rw [zs, hsz] at hr2
            obtain ⟨g1, g2, g3, g4, g5, g6, g7, g8, g9, g10⟩ := id hR
            have h0 := fun j => g1.2.2.2.2.2.1 hph M.2.1 (Nat.le_refl _) j
            have hzr := ok_hd hos
            have hnn := kl_nn M.2.1
            have hks := kl_small M.2.1
            refine va_newq (C := "CarbonMinistry$State") (rest := st.map (encV ad)) (N' := (kl M.2.1).toNat) hC.1 hC.2.1 hC.2.2.2.1 (hC.2.2.2.2.1 _ hcl) hC.2.2.2.2.2.2.2.2.2.1 hC.2.2.2.2.2.2.2.1 hR.2.1 hR.2.2.1 hR.2.2.2.1 hR.2.2.2.2.1 ?_ ?_ ?_ (by omega) (by omega) hd (fun q cA0 H1 hK hP hD hS => ?_)
            · rw [oi_neg hzr]; omega
            · rw [oi_nat hzr, hz]
            · omega
            · have hfa : faW ad RR M.1 M.2.1 = .inr (.inr (.inr (.inr (fun _ => none)))) := by
                unfold faW
                rw [hka, if_neg (by decide), if_pos rfl]
                congr 4
                funext j
                rw [if_pos (h0 j).2]
              have hR2 := hR.new (q := q) (cA0 := cA0) hph hka2 (x := .inl (cA0, ((kl M.2.1).toNat, .inr (.inr (.inr (.inr (fun _ => none))))))) (by rw [clW_arr (by omega), hfa]; simp) hP hD hS (fun _ => by rw [hka]; exact hK.2 0 _ rfl)
              rw [hsz] at hR2
              have hag := agree_new (ad := ad) (q := q) hka2
              have kk2 := kk _ _ RR ls H1 locs (cells + 1) (slots + (kl M.2.1).toNat) hag (fun b hb => if_neg (by omega)) hR2 (by rw [enc_enL hag hol]; exact hl2) (fun x hx => okV_le (hol x hx) (Nat.le_succ _)) (ok_cons (Or.inl ⟨g1.2.2.2.2.1, Nat.lt_succ_self _⟩) (fun v hv => okV_le (ok_tl hos v hv) (Nat.le_succ _)))
              rw [List.map_cons, enc_map hag (ok_tl hos)] at kk2
              have e : encV (fun b => if b = M.2.1 then q else ad b) (.inr (.inr M.2.1)) = .ref q := by unfold encV; simp
              rw [e] at kk2
              exact kk2
          · cases h
        · cases h
      · cases h
    · cases h
  · unfold i_nwa at h
    split at h
    · split at h
      · split at h
        · split at h <;> cases h
        · cases h
      · cases h
    · cases h
theorem snd_aastore (hd : decode cc pc = .ok (.aastore, 1)) (hx : pc + 1 = nx) : SndS l k own cc nL ret ini pc (i_sR nx) := by
  refine ⟨?_, fun o lc st M s' h => by
    unfold i_sR at h
    repeat' split at h
    all_goals first | (cases h; exact Nat.le_refl _) | (cases h; exact Nat.le_succ _) | (cases h), fun o lc st M r M' h => by
    unfold i_sR at h
    repeat' split at h
    all_goals first | (cases h; rfl) | cases h⟩
  intro p e R s m args below meth c D lo n0 A ad cA RR M lc st ls H locs cells slots hC hR hl2 hol hos
  refine ⟨fun pc' lc' st' M' h => ?_, fun r M' h => ?_⟩
  · unfold i_sR at h
    split at h
    · rename_i v i a st
      split at h
      · rename_i hka
        split at h
        · rename_i hi
          split at h
          · rename_i hkv
            split at h
            · rename_i hrv
              cases h
              refine ⟨Nat.le_refl _, fun _ _ Q kk => ?_⟩
              subst hx
              obtain ⟨h1, h2⟩ := ok_ref (ok_hd (ok_tl (ok_tl hos))) (by omega)
              obtain ⟨v1, v2⟩ := ok_ref (ok_hd hos) (by omega)
              have hv0 : v ≠ 0 := fun q => by rw [q, kt_0] at hkv; omega
              obtain ⟨he, hK⟩ := arr_at hC hR h1 h2 (by omega)
              rw [hka] at hK
              have hf : faW ad RR M.1 a = .inr (.inr (.inr (.inr fun j => if RR a j = 0 then none else some (ad (RR a j))))) := by unfold faW; rw [if_neg (by omega), if_pos hka]
              rw [hf] at he
              have hi0 := ok_hd (ok_tl hos)
              have hev : (wsW ad cA RR M.1 lo M.2.1)[v - lo]? = some (ad v, .inr (9, (List.range (nfC 9)).map (fvW ad RR M.1 v))) := by rw [wsW_get v1 v2, clW_obj (by omega), hkv]
              refine va_astq (rest := st'.map (encV ad)) hC.1 hC.2.1 hK hR.2.1 hR.2.2.1 hR.2.2.2.1 (a - lo) 0 (v - lo) 9 he rfl hev rfl (vp_of hi0 hi) hd (fun H1 locs1 hP hD hS => ?_)
              have hR2 : Rel D lo n0 A s ad cA (upR RR a i.toNat v) (up M.1 a i.toNat 1, M.2) H1 locs1 cells slots := by
                refine hR.set h1 h2 rfl (PFt_ref hR.1 h2 (by rw [hka]; rfl) ⟨v1, v2⟩ hv0 hrv) ?_ (fun b hb => clW_upR_ne hb (fun j => by dsimp only; unfold up; rw [if_neg hb])) hP hD hS
                rw [clW_arr (by omega)]
                have hf2 : faW ad (upR RR a i.toNat v) (up M.1 a i.toNat 1) a = .inr (.inr (.inr (.inr fun j => if upR RR a i.toNat v a j = 0 then none else some (ad (upR RR a i.toNat v a j))))) := by unfold faW; rw [if_neg (by omega), if_pos hka]
                rw [hf2]
                congr 7
                funext j
                unfold va_up
                rw [oi_nat hi0]
                by_cases hj : j = i.toNat
                · subst hj
                  rw [if_pos rfl, upR_at, if_neg hv0]
                · rw [if_neg hj, upR_ne _ hj]
              exact kk ad cA _ ls H1 locs1 cells slots (fun _ _ => rfl) (fun _ _ => rfl) hR2 hl2 hol (ok_tl (ok_tl (ok_tl hos)))
            · cases h
          · cases h
        · cases h
      · cases h
    · cases h
  · unfold i_sR at h
    split at h
    · split at h
      · split at h
        · split at h
          · split at h <;> cases h
          · cases h
        · cases h
      · cases h
    · cases h
theorem snd_len (hd : decode cc pc = .ok (.arraylength, 1)) (hx : pc + 1 = nx) : SndS l k own cc nL ret ini pc (i_len nx) := by
  refine ⟨?_, fun o lc st M s' h => by
    unfold i_len at h
    repeat' split at h
    all_goals first | (cases h; exact Nat.le_refl _) | (cases h; exact Nat.le_succ _) | (cases h), fun o lc st M r M' h => by
    unfold i_len at h
    repeat' split at h
    all_goals first | (cases h; rfl) | cases h⟩
  intro p e R s m args below meth c D lo n0 A ad cA RR M lc st ls H locs cells slots hC hR hl2 hol hos
  refine ⟨fun pc' lc' st' M' h => ?_, fun r M' h => ?_⟩
  · unfold i_len at h
    split at h
    · rename_i a st
      split at h
      · rename_i hka
        cases h
        refine ⟨Nat.le_refl _, fun _ _ Q kk => ?_⟩
        subst hx
        obtain ⟨h1, h2⟩ := ok_ref (ok_hd hos) hka.2
        obtain ⟨he, hK⟩ := arr_at hC hR h1 h2 hka.1
        have hnn := kl_nn a
        have hks := kl_small a
        refine va_alen (rest := st.map (encV ad)) hC.1 hC.2.1 hK hR.2.1 (a - lo) 0 he rfl (v := oi (kl a)) ?_ hd ?_
        · show Int32.ofNat (kl a).toNat = Int32.ofInt (kl a)
          rw [← Int32.ofInt_eq_ofNat]
          congr 1
          omega
        · exact kk ad cA RR ls H locs cells slots (fun _ _ => rfl) (fun _ _ => rfl) hR hl2 hol (ok_cons (by show inA _; unfold inA; omega) (ok_tl hos))
      · cases h
    · cases h
  · unfold i_len at h
    split at h
    · split at h <;> cases h
    · cases h
theorem snd_obj {idx : Nat} (hl : Cond.methodLink own idx Lib.objectInit ∈ BIG) (hi : Cond.instanceMethod Lib.objectInit ∈ BIG) (hc : Cond.code Lib.objectInit ⟨#[0xb1]⟩ 1 none ∈ BIG) (hd : decode cc pc = .ok (.invokespecial idx, 3)) (hx : pc + 3 = nx) : SndS l k own cc nL ret ini pc (i_obj nx) := by
  refine ⟨?_, fun o lc st M s' h => by
    unfold i_obj at h
    repeat' split at h
    all_goals first | (cases h; exact Nat.le_refl _) | (cases h; exact Nat.le_succ _) | (cases h), fun o lc st M r M' h => by
    unfold i_obj at h
    repeat' split at h
    all_goals first | (cases h; rfl) | cases h⟩
  intro p e R s m args below meth c D lo n0 A ad cA RR M lc st ls H locs cells slots hC hR hl2 hol hos
  refine ⟨fun pc' lc' st' M' h => ?_, fun r M' h => ?_⟩
  · unfold i_obj at h
    split at h
    · rename_i a
      cases h
      refine ⟨Nat.le_refl _, fun _ _ Q kk => ?_⟩
      subst hx
      obtain ⟨x1, x2, x3, x4, x5, x6, x7, x8, x9, x10, x11, x12, x13, x14⟩ := hC
      refine W.objInit (a := ad a) (rest := []) x1 x2 x4 (x5 _ hl) (x5 _ hi) (x5 _ hc) rfl (by rw [x3]; exact hl2.1) rfl hd (by omega) ?_ ?_
      · show 2 * 0 + 0 + 12 ≤ R.locals
        omega
      · exact kk ad cA RR ls H locs cells slots (fun _ _ => rfl) (fun _ _ => rfl) hR hl2 hol (fun v hv => by cases hv)
    · cases h
  · unfold i_obj at h
    split at h <;> cases h
theorem swt_out {z : Int} {d : Nat} : ∀ {cs : List (Int × Nat)}, (∀ q ∈ cs, z ≠ q.1) → swt z cs d = d := by
  intro cs
  induction cs with
  | nil => intro _; rfl
  | cons q cs ih =>
    obtain ⟨a, t⟩ := q
    intro h
    rw [swt, if_neg (h _ List.mem_cons_self)]
    exact ih fun x hx => h x (List.mem_cons_of_mem _ hx)
theorem snd_tsw {dflt lo' hi' : Int} {offs : Array Int} {len d : Nat} {cs : List (Int × Nat)} (hd : decode cc pc = .ok (.tableswitch dflt lo' hi' offs, len)) (h0 : (pc : Int) + dflt = (d : Int)) (hk : cs.all (fun q => decide (lo' ≤ q.1 ∧ q.1 ≤ hi')) = true) (hn : hi' - lo' + 1 = (offs.size : Int)) (hin : (List.range offs.size).all (fun i => offs[i]? == some ((swt (lo' + (i : Int)) cs d : Int) - (pc : Int))) = true) : SndS l k own cc nL ret ini pc (i_sw cs d) := SndP.to fun o lc st M q h => by
  unfold i_sw at h
  split at h
  · rename_i a st
    cases h
    refine ⟨_, _, _, rfl, fun lo n h1 h2 => ⟨h1, ok_tl h2, fun ad p e R s m args below meth c H locs cells slots Q ls hx1 hx2 _ _ hl kw => ?_⟩⟩
    have ha := oi_toInt (ok_hd h2)
    have kw := kw ls hl
    by_cases hc : a < lo' ∨ hi' < a
    · have e : swt a cs d = d := swt_out fun q hq z => by
        have := List.all_eq_true.mp hk q hq
        simp only [decide_eq_true_eq] at this
        omega
      rw [e] at kw
      exact lv_tableOut hx1 hx2 hd (by rw [ha]; exact hc) h0 kw
    · have hi : (a - lo').toNat < offs.size := by omega
      have := List.all_eq_true.mp hin _ (List.mem_range.mpr hi)
      rw [beq_iff_eq] at this
      have e : lo' + ((a - lo').toNat : Int) = a := by omega
      rw [e] at this
      exact lv_tableIn hx1 hx2 hd (by rw [ha]; omega) (by rw [ha]; omega) (by rw [ha]; exact this) (by omega) kw
  · cases h
theorem swt_look {z : Int} {dflt : Int} {d : Nat} {pc : Nat} (h0 : (pc : Int) + dflt = (d : Int)) : ∀ {ps : List (Int × Int)}, (∀ q ∈ ps, 0 ≤ (pc : Int) + q.2) → (pc : Int) + Op.lookupswitch.offset ps dflt z = (swt z (ps.map fun q => (q.1, ((pc : Int) + q.2).toNat)) d : Int) := by
  intro ps
  induction ps with
  | nil => intro _; exact h0
  | cons q ps ih =>
    obtain ⟨a, o⟩ := q
    intro h
    rw [Op.lookupswitch.offset_cons, List.map_cons, swt]
    by_cases hz : a = z
    · rw [if_pos hz, if_pos hz.symm]
      have := h _ List.mem_cons_self
      dsimp only at this ⊢
      omega
    · rw [if_neg hz, if_neg (fun q => hz q.symm)]
      exact ih fun x hx => h x (List.mem_cons_of_mem _ hx)
theorem snd_lsw {dflt : Int} {ps : Array (Int × Int)} {len d : Nat} {cs : List (Int × Nat)} (hd : decode cc pc = .ok (.lookupswitch dflt ps, len)) (h0 : (pc : Int) + dflt = (d : Int)) (hp : (ps.toList.zip (ps.toList.drop 1)).all (fun (a, next) => a.1 < next.1) = true) (hnn : ps.toList.all (fun q => decide (0 ≤ (pc : Int) + q.2)) = true) (hcs : (ps.toList.map fun q => (q.1, ((pc : Int) + q.2).toNat)) = cs) : SndS l k own cc nL ret ini pc (i_sw cs d) := SndP.to fun o lc st M q h => by
  unfold i_sw at h
  split at h
  · rename_i a st
    cases h
    refine ⟨_, _, _, rfl, fun lo n h1 h2 => ⟨h1, ok_tl h2, fun ad p e R s m args below meth c H locs cells slots Q ls hx1 hx2 _ _ hl kw => ?_⟩⟩
    have ha := oi_toInt (ok_hd h2)
    have kw := kw ls hl
    subst hcs
    refine lv_lookup hx1 hx2 hd hp (by rw [ha]) ?_ kw
    exact swt_look h0 fun q hq => by
      have := List.all_eq_true.mp hnn q hq
      simpa using this
  · cases h
theorem snd_rtI (hr : ret = some .int) (hd : decode cc pc = .ok (.ireturn, 1)) : SndS l k own cc nL ret ini pc i_rtI := by
  refine ⟨?_, fun o lc st M s' h => by
    unfold i_rtI at h
    repeat' split at h
    all_goals first | (cases h; exact Nat.le_refl _) | (cases h; exact Nat.le_succ _) | (cases h), fun o lc st M r M' h => by
    unfold i_rtI at h
    repeat' split at h
    all_goals first | (cases h; rfl) | cases h⟩
  intro p e R s m args below meth c D lo n0 A ad cA RR M lc st ls H locs cells slots hC hR hl2 hol hos
  refine ⟨fun pc' lc' st' M' h => ?_, fun r M' h => ?_⟩
  · unfold i_rtI at h
    split at h <;> cases h
  · unfold i_rtI at h
    split at h
    · cases h
      refine ⟨rfl, fun v hv => by cases hv; exact ok_hd hos, fun Qc free hf hq => ?_⟩
      exact W.iret hC.1 hC.2.1 (hC.2.2.2.2.2.1.trans hr) hq hf hd hC.2.2.2.2.2.2.1
    · cases h
theorem snd_rtZ (hr : ret = some .boolean) (hd : decode cc pc = .ok (.ireturn, 1)) : SndS l k own cc nL ret ini pc i_rtZ := by
  refine ⟨?_, fun o lc st M s' h => by
    unfold i_rtZ at h
    repeat' split at h
    all_goals first | (cases h; exact Nat.le_refl _) | (cases h; exact Nat.le_succ _) | (cases h), fun o lc st M r M' h => by
    unfold i_rtZ at h
    repeat' split at h
    all_goals first | (cases h; rfl) | cases h⟩
  intro p e R s m args below meth c D lo n0 A ad cA RR M lc st ls H locs cells slots hC hR hl2 hol hos
  refine ⟨fun pc' lc' st' M' h => ?_, fun r M' h => ?_⟩
  · unfold i_rtZ at h
    split at h
    · split at h <;> cases h
    · cases h
  · unfold i_rtZ at h
    split at h
    · split at h
      · rename_i hz
        cases h
        refine ⟨rfl, fun v hv => by cases hv; exact ok_hd hos, fun Qc free hf hq => ?_⟩
        exact W.zret hC.1 hC.2.1 (hC.2.2.2.2.2.1.trans hr) (by rcases hz with rfl | rfl <;> rfl) hq hf hd hC.2.2.2.2.2.2.1
      · cases h
    · cases h
theorem snd_rtL (hr : ret = some .long) (hd : decode cc pc = .ok (.lreturn, 1)) : SndS l k own cc nL ret ini pc i_rtL := by
  refine ⟨?_, fun o lc st M s' h => by
    unfold i_rtL at h
    repeat' split at h
    all_goals first | (cases h; exact Nat.le_refl _) | (cases h; exact Nat.le_succ _) | (cases h), fun o lc st M r M' h => by
    unfold i_rtL at h
    repeat' split at h
    all_goals first | (cases h; rfl) | cases h⟩
  intro p e R s m args below meth c D lo n0 A ad cA RR M lc st ls H locs cells slots hC hR hl2 hol hos
  refine ⟨fun pc' lc' st' M' h => ?_, fun r M' h => ?_⟩
  · unfold i_rtL at h
    split at h <;> cases h
  · unfold i_rtL at h
    split at h
    · cases h
      refine ⟨rfl, fun v hv => by cases hv; exact ok_hd hos, fun Qc free hf hq => ?_⟩
      exact W.lret hC.1 hC.2.1 (hC.2.2.2.2.2.1.trans hr) hq hf hd hC.2.2.2.2.2.2.1
    · cases h
theorem snd_rtV (hr : ret = none) (hd : decode cc pc = .ok (.return_, 1)) : SndS l k own cc nL ret ini pc i_rtV := by
  refine ⟨?_, fun o lc st M s' h => by
    unfold i_rtV at h
    repeat' split at h
    all_goals first | (cases h; exact Nat.le_refl _) | (cases h; exact Nat.le_succ _) | (cases h), fun o lc st M r M' h => by
    unfold i_rtV at h
    repeat' split at h
    all_goals first | (cases h; rfl) | cases h⟩
  intro p e R s m args below meth c D lo n0 A ad cA RR M lc st ls H locs cells slots hC hR hl2 hol hos
  refine ⟨fun pc' lc' st' M' h => ?_, fun r M' h => ?_⟩
  · unfold i_rtV at h
    split at h <;> cases h
  · unfold i_rtV at h
    split at h
    · cases h
      refine ⟨rfl, fun v hv => (by cases hv), fun Qc free hf hq => ?_⟩
      exact W.vret hC.1 hC.2.1 (hC.2.2.2.2.2.1.trans hr) hq hf hd hC.2.2.2.2.2.2.1
    · cases h
end
