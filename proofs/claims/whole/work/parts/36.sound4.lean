/-! cells: fields, arrays -/
section
variable {l : Launch} {k : Nat} {own : String} {cc : ByteArray} {nL : Nat} {ret : Option FieldType} {ini : Bool} {pc : Nat}
theorem kt_999 : kt 999 = 99 := rfl
theorem ok_ref {lo n a : Nat} (h : okV lo n (.inr (.inr a))) (hk : kt a ≤ 24) : lo ≤ a ∧ a < n := by
  rcases h with h | h
  · exact h
  · subst h; rw [kt_999] at hk; omega
theorem Rel.set {D : va_G} {lo n0 : Nat} {A : Nat → Prop} {s : State} {ad : Nat → Nat} {cA : Nat → ClassId} {RR RR' : Nat → Nat → Nat} {M M' : PM} {H H1 : Heap} {locs locs1 : List Loc} {cells slots : Nat} {a : Nat} {x : va_E}
    (hR : Rel D lo n0 A s ad cA RR M H locs cells slots) (h1 : lo ≤ a) (h2 : a < M.2.1) (hn : M'.2.1 = M.2.1) (hPF : PFt lo RR' M') (hx : x = clW ad cA RR' M'.1 a) (hne : ∀ b, b ≠ a → clW ad cA RR M.1 b = clW ad cA RR' M'.1 b)
    (hP : va_P D vwCl ((wsW ad cA RR M.1 lo M.2.1).set (a - lo) (ad a, x)) H1) (hD : va_D A ((wsW ad cA RR M.1 lo M.2.1).set (a - lo) (ad a, x))) (hS : va_S A s.heap H1 locs1) : Rel D lo n0 A s ad cA RR' M' H1 locs1 cells slots := by
  obtain ⟨g1, g2, g3, g4, g5, g6, g7, g8, g9, g10⟩ := hR
  rw [wsW_set h1 h2 hx hne] at hP hD
  rw [← hn] at hP hD g6 g7 g8 g9
  exact ⟨hPF, hP, hD, hS, g5, g6, g7, g8, g9, g10⟩
theorem PFt_up {lo : Nat} {RR : Nat → Nat → Nat} {M : PM} {a k : Nat} {z : Int} (h : PFt lo RR M) (ha : a < M.2.1) (h1 : ftC (kt a) k = 1 → inL z) (h2 : ftC (kt a) k ≠ 1 → inA z) (h3 : ftC (kt a) k ≠ 2) : PFt lo RR (up M.1 a k z, M.2) := by
  obtain ⟨g1, g2, g3, g4, g5, g6, g7, g8⟩ := h
  refine ⟨fun b j hb => ?_, fun b j hb => ?_, g3, fun b j hb1 hb2 hb3 hb4 hb5 => ?_, g5, fun hph b hb j => ?_, g7, g8⟩
  · show inL (up M.1 a k z b j)
    unfold up
    by_cases e1 : b = a
    · by_cases e2 : j = k
      · rw [if_pos e1, if_pos e2]; subst e1; subst e2; exact h1 hb
      · rw [if_pos e1, if_neg e2]; exact g1 b j hb
    · rw [if_neg e1]; exact g1 b j hb
  · show inA (up M.1 a k z b j)
    unfold up
    by_cases e1 : b = a
    · by_cases e2 : j = k
      · rw [if_pos e1, if_pos e2]; subst e1; subst e2; exact h2 hb
      · rw [if_pos e1, if_neg e2]; exact g2 b j hb
    · rw [if_neg e1]; exact g2 b j hb
  · refine g4 b j hb1 hb2 hb3 hb4 ?_
    have e0 : up M.1 a k z b j = M.1 b j := by
      unfold up
      by_cases e1 : b = a
      · by_cases e2 : j = k
        · subst e1; subst e2; exact absurd hb3 h3
        · rw [if_pos e1, if_neg e2]
      · rw [if_neg e1]
    rw [← e0]; exact hb5
  · refine ⟨?_, (g6 hph b hb j).2⟩
    show up M.1 a k z b j = 0
    unfold up
    have hb : M.2.1 ≤ b := hb
    rw [if_neg (by omega)]
    exact (g6 hph b hb j).1
theorem clW_up_ne {ad : Nat → Nat} {cA : Nat → ClassId} {RR : Nat → Nat → Nat} {S : MS} {a k b : Nat} {z : Int} (h : b ≠ a) : clW ad cA RR S b = clW ad cA RR (up S a k z) b :=
  clW_congr rfl (fun j => by unfold up; rw [if_neg h]) (fun _ => rfl)
theorem up_at (S : MS) (a k : Nat) (z : Int) : up S a k z a k = z := by simp [up]
theorem up_ne (S : MS) {a k j : Nat} (z : Int) (h : j ≠ k) : up S a k z a j = S a j := by simp [up, h]
theorem cx_sz {ci C T N} (hc : vwCl[ci]? = some (C, T, N)) : ci < 20 := by
  have h := (List.getElem?_eq_some_iff.mp hc).1
  have : vwCl.length = 13 := rfl
  omega
section
variable {ci fk nx idx N : Nat} {C ref : String} {T : u_T}
theorem snd_gI (hc : vwCl[ci]? = some (C, T, N)) (hN : nfC ci = N) (hin : ∀ w ∈ u_ws C T N, w ∈ BIG) (hk : fk < N) (hl : Cond.fieldLink own idx ref (T fk).2.1 (T fk).2.2.1 ∈ BIG) (hr : (T fk).1 = ref) (hf : ftC ci fk ≠ 1 ∧ ftC ci fk ≠ 2) (hd : decode cc pc = .ok (.getfield idx, 3)) (hx : pc + 3 = nx) : SndS l k own cc nL ret ini pc (i_gI ci fk nx) := by
  refine ⟨?_, fun o lc st M s' h => by
    unfold i_gI at h
    repeat' split at h
    all_goals first | (cases h; exact Nat.le_refl _) | (cases h; exact Nat.le_succ _) | (cases h), fun o lc st M r M' h => by
    unfold i_gI at h
    repeat' split at h
    all_goals first | (cases h; rfl) | cases h⟩
  intro p e R s m args below meth c D lo n0 A ad cA RR M lc st ls H locs cells slots hC hR hl2 hol hos
  refine ⟨fun pc' lc' st' M' h => ?_, fun r M' h => ?_⟩
  · unfold i_gI at h
    split at h
    · rename_i a st
      split at h
      · rename_i hka
        cases h
        refine ⟨Nat.le_refl _, fun _ _ Q kk => ?_⟩
        have hci := cx_sz hc
        obtain ⟨h1, h2⟩ := ok_ref (ok_hd hos) (by omega)
        obtain ⟨x1, x2, x3, x4, x5, x6, x7, x8, -⟩ := hC
        refine va_get (rest := st.map (encV ad)) (v := .int (oi (M.1 a fk))) x1 x2 x5 hin x4 x8 hR.2.1 (a - lo) (fs := (List.range N).map (fvW ad RR M.1 a)) ?_ hc fk hk (x5 _ hl) (fun x hx => by rw [hr] at hx; exact hx) ?_ hd ?_
        · rw [wsW_get h1 h2, clW_obj (by omega), hka, hN]
        · rw [get_map_range _ hk]
          unfold fvW
          rw [hka, if_neg hf.1, if_neg hf.2]
        · rw [hx]
          exact kk ad cA RR ls H locs cells slots (fun _ _ => rfl) (fun _ _ => rfl) hR hl2 hol (ok_cons (hR.1.2.1 a fk (by rw [hka]; exact hf.1)) (ok_tl hos))
      · cases h
    · cases h
  · unfold i_gI at h
    split at h
    · split at h <;> cases h
    · cases h
theorem snd_gL (hc : vwCl[ci]? = some (C, T, N)) (hN : nfC ci = N) (hin : ∀ w ∈ u_ws C T N, w ∈ BIG) (hk : fk < N) (hl : Cond.fieldLink own idx ref (T fk).2.1 (T fk).2.2.1 ∈ BIG) (hr : (T fk).1 = ref) (hf : ftC ci fk = 1) (hd : decode cc pc = .ok (.getfield idx, 3)) (hx : pc + 3 = nx) : SndS l k own cc nL ret ini pc (i_gL ci fk nx) := by
  refine ⟨?_, fun o lc st M s' h => by
    unfold i_gL at h
    repeat' split at h
    all_goals first | (cases h; exact Nat.le_refl _) | (cases h; exact Nat.le_succ _) | (cases h), fun o lc st M r M' h => by
    unfold i_gL at h
    repeat' split at h
    all_goals first | (cases h; rfl) | cases h⟩
  intro p e R s m args below meth c D lo n0 A ad cA RR M lc st ls H locs cells slots hC hR hl2 hol hos
  refine ⟨fun pc' lc' st' M' h => ?_, fun r M' h => ?_⟩
  · unfold i_gL at h
    split at h
    · rename_i a st
      split at h
      · rename_i hka
        cases h
        refine ⟨Nat.le_refl _, fun _ _ Q kk => ?_⟩
        have hci := cx_sz hc
        obtain ⟨h1, h2⟩ := ok_ref (ok_hd hos) (by omega)
        obtain ⟨x1, x2, x3, x4, x5, x6, x7, x8, -⟩ := hC
        refine va_get (rest := st.map (encV ad)) (v := .long (ol (M.1 a fk))) x1 x2 x5 hin x4 x8 hR.2.1 (a - lo) (fs := (List.range N).map (fvW ad RR M.1 a)) ?_ hc fk hk (x5 _ hl) (fun x hx => by rw [hr] at hx; exact hx) ?_ hd ?_
        · rw [wsW_get h1 h2, clW_obj (by omega), hka, hN]
        · rw [get_map_range _ hk]
          unfold fvW
          rw [hka, if_pos hf]
        · rw [hx]
          exact kk ad cA RR ls H locs cells slots (fun _ _ => rfl) (fun _ _ => rfl) hR hl2 hol (ok_cons (hR.1.1 a fk (by rw [hka]; exact hf)) (ok_tl hos))
      · cases h
    · cases h
  · unfold i_gL at h
    split at h
    · split at h <;> cases h
    · cases h
/-- a reference is read: what stands there is what is written down -/
theorem gR_go (hc : vwCl[ci]? = some (C, T, N)) (hN : nfC ci = N) (hin : ∀ w ∈ u_ws C T N, w ∈ BIG) (hk : fk < N) (hl : Cond.fieldLink own idx ref (T fk).2.1 (T fk).2.2.1 ∈ BIG) (hr : (T fk).1 = ref) (hf : ftC ci fk = 2) (hd : decode cc pc = .ok (.getfield idx, 3))
    {p : Program} {e : Env} {R : Room} {s : State} {m : MethodId} {args : Array Value} {below : List Frame} {meth : Method} {c : Code} {D : va_G} {lo n0 : Nat} {A : Nat → Prop} {ad : Nat → Nat} {cA : Nat → ClassId} {RR : Nat → Nat → Nat} {M : PM} {lc : PL} {st : List PV} {ls : Array Slot} {H : Heap} {locs : List Loc} {cells slots a : Nat} {Q : State → Prop}
    (hC : Cx D own cc nL ret ini k p e R s m args meth c) (hR : Rel D lo n0 A s ad cA RR M H locs cells slots) (hl2 : lv_has ls nL (enL ad lc)) (hol : ∀ q ∈ lc, okV lo M.2.1 q.2) (hos : ∀ v ∈ (.inr (.inr a) :: st : List PV), okV lo M.2.1 v) (hka : kt a = ci) (hm : M.1 a fk = 1 ∨ (M.2.2.1 = 1 ∧ ¬ volC ci fk))
    (kk : ∀ (ad' : Nat → Nat) (cA' : Nat → ClassId) (RR' : Nat → Nat → Nat) (ls' : Array Slot) (H' : Heap) (locs' : List Loc) (cells' slots' : Nat), (∀ b, b < M.2.1 ∨ b = 999 → ad' b = ad b) → (∀ b, b < M.2.1 → cA' b = cA b) → Rel D lo n0 A s ad' cA' RR' M H' locs' cells' slots' → lv_has ls' nL (enL ad' lc) → (∀ q ∈ lc, okV lo M.2.1 q.2) → (∀ v ∈ (.inr (.inr (rfC M.2.2.2.1 M.2.2.2.2 a fk)) :: st : List PV), okV lo M.2.1 v) → W p l e R s m args below meth c H' locs' cells' slots' Q (F0 m (pc + 3) ls' ((.inr (.inr (rfC M.2.2.2.1 M.2.2.2.2 a fk)) :: st : List PV).map (encV ad')))) :
    W p l e R s m args below meth c H locs cells slots Q (F0 m pc ls ((.inr (.inr a) :: st : List PV).map (encV ad))) := by
  have hci := cx_sz hc
  obtain ⟨h1, h2⟩ := ok_ref (ok_hd hos) (by omega)
  obtain ⟨x1, x2, x3, x4, x5, x6, x7, x8, -⟩ := hC
  obtain ⟨r1, r2⟩ := hR.1.2.2.2.1 a fk h1 h2 (by rw [hka]; exact hf) (by unfold szC; rw [if_pos (by omega), hka, hN]; exact hk) (by rw [hka]; exact hm)
  refine va_get (rest := st.map (encV ad)) (v := .ref (ad (RR a fk))) x1 x2 x5 hin x4 x8 hR.2.1 (a - lo) (fs := (List.range N).map (fvW ad RR M.1 a)) ?_ hc fk hk (x5 _ hl) (fun x hx => by rw [hr] at hx; exact hx) ?_ hd ?_
  · rw [wsW_get h1 h2, clW_obj (by omega), hka, hN]
  · rw [get_map_range _ hk]
    unfold fvW rvW
    rw [hka, if_neg (by omega), if_pos hf, if_neg r2]
  · rw [r1]
    have r3 := hR.1.2.2.1 a fk
    rw [r1] at r3 r2
    exact kk ad cA RR ls H locs cells slots (fun _ _ => rfl) (fun _ _ => rfl) hR hl2 hol (ok_cons (Or.inl (r3.resolve_left r2)) (ok_tl hos))
theorem snd_gR (hc : vwCl[ci]? = some (C, T, N)) (hN : nfC ci = N) (hin : ∀ w ∈ u_ws C T N, w ∈ BIG) (hk : fk < N) (hl : Cond.fieldLink own idx ref (T fk).2.1 (T fk).2.2.1 ∈ BIG) (hr : (T fk).1 = ref) (hf : ftC ci fk = 2) (hv : ¬ volC ci fk) (hd : decode cc pc = .ok (.getfield idx, 3)) (hx : pc + 3 = nx) : SndS l k own cc nL ret ini pc (i_gR ci fk nx) := by
  refine ⟨?_, fun o lc st M s' h => by
    unfold i_gR at h
    repeat' split at h
    all_goals first | (cases h; exact Nat.le_refl _) | (cases h; exact Nat.le_succ _) | (cases h), fun o lc st M r M' h => by
    unfold i_gR at h
    repeat' split at h
    all_goals first | (cases h; rfl) | cases h⟩
  intro p e R s m args below meth c D lo n0 A ad cA RR M lc st ls H locs cells slots hC hR hl2 hol hos
  refine ⟨fun pc' lc' st' M' h => ?_, fun r M' h => ?_⟩
  · unfold i_gR at h
    split at h
    · rename_i a st
      split at h
      · rename_i hka
        split at h
        · rename_i hph
          cases h
          refine ⟨Nat.le_refl _, fun _ _ Q kk => ?_⟩
          subst hx
          exact gR_go hc hN hin hk hl hr hf hd hC hR hl2 hol hos hka (Or.inr ⟨hph, hv⟩) kk
        · split at h
          · rename_i hm
            cases h
            refine ⟨Nat.le_refl _, fun _ _ Q kk => ?_⟩
            subst hx
            exact gR_go hc hN hin hk hl hr hf hd hC hR hl2 hol hos hka (Or.inl hm) kk
          · cases h
      · cases h
    · cases h
  · unfold i_gR at h
    split at h
    · split at h
      · split at h
        · cases h
        · split at h <;> cases h
      · cases h
    · cases h
theorem snd_gV (hc : vwCl[ci]? = some (C, T, N)) (hN : nfC ci = N) (hin : ∀ w ∈ u_ws C T N, w ∈ BIG) (hk : fk < N) (hl : Cond.fieldLink own idx ref (T fk).2.1 (T fk).2.2.1 ∈ BIG) (hr : (T fk).1 = ref) (hf : ftC ci fk = 2) (hd : decode cc pc = .ok (.getfield idx, 3)) (hx : pc + 3 = nx) : SndS l k own cc nL ret ini pc (i_gV ci fk nx) := by
  refine ⟨?_, fun o lc st M s' h => by
    unfold i_gV at h
    repeat' split at h
    all_goals first | (cases h; exact Nat.le_refl _) | (cases h; exact Nat.le_succ _) | (cases h), fun o lc st M r M' h => by
    unfold i_gV at h
    repeat' split at h
    all_goals first | (cases h; rfl) | cases h⟩
  intro p e R s m args below meth c D lo n0 A ad cA RR M lc st ls H locs cells slots hC hR hl2 hol hos
  refine ⟨fun pc' lc' st' M' h => ?_, fun r M' h => ?_⟩
  · unfold i_gV at h
    split at h
    · rename_i a st
      split at h
      · rename_i hka
        split at h
        · rename_i hm
          cases h
          refine ⟨Nat.le_refl _, fun _ _ Q kk => ?_⟩
          subst hx
          exact gR_go hc hN hin hk hl hr hf hd hC hR hl2 hol hos hka (Or.inl hm) kk
        · cases h
      · cases h
    · cases h
  · unfold i_gV at h
    split at h
    · split at h
      · split at h <;> cases h
      · cases h
    · cases h
/-- a value is written into a field -/
theorem put_go (hc : vwCl[ci]? = some (C, T, N)) (hN : nfC ci = N) (hin : ∀ w ∈ u_ws C T N, w ∈ BIG) (ty0 : Nat → FieldType) (hty : ∀ k, k < N → parseFieldDescriptor (T k).2.2.1 = some (ty0 k)) (hnm : ∀ a, a < N → ∀ b, b < N → a ≠ b → (T a).2.1 ≠ (T b).2.1) (hk : fk < N) (hl : Cond.fieldLink own idx ref (T fk).2.1 (T fk).2.2.1 ∈ BIG) (hr : (T fk).1 = ref)
    (hfin : (T fk).2.2.2 = false ∨ ((T fk).2.2.2 = true ∧ ini = true ∧ ref = own)) {v : PV} (hd : decode cc pc = .ok (.putfield idx, 3))
    {p : Program} {e : Env} {R : Room} {s : State} {m : MethodId} {args : Array Value} {below : List Frame} {meth : Method} {c : Code} {D : va_G} {lo n0 : Nat} {A : Nat → Prop} {ad : Nat → Nat} {cA : Nat → ClassId} {RR RR' : Nat → Nat → Nat} {M M' : PM} {lc : PL} {st : List PV} {ls : Array Slot} {H : Heap} {locs : List Loc} {cells slots a : Nat} {Q : State → Prop}
    (hna : narrow (ty0 fk) (encV ad v) = encV ad v) (hfit : fits (ty0 fk) (encV ad v) = true)
    (hC : Cx D own cc nL ret ini k p e R s m args meth c) (hR : Rel D lo n0 A s ad cA RR M H locs cells slots) (hl2 : lv_has ls nL (enL ad lc)) (hol : ∀ q ∈ lc, okV lo M.2.1 q.2) (hos : ∀ w ∈ (v :: .inr (.inr a) :: st : List PV), okV lo M.2.1 w) (hka : kt a = ci)
    (hn : M'.2.1 = M.2.1) (hPF : PFt lo RR' M') (hv : fvW ad RR' M'.1 a fk = encV ad v) (hne : ∀ j, j ≠ fk → fvW ad RR M.1 a j = fvW ad RR' M'.1 a j) (hob : ∀ b, b ≠ a → clW ad cA RR M.1 b = clW ad cA RR' M'.1 b)
    (kk : ∀ (ad' : Nat → Nat) (cA' : Nat → ClassId) (RR' : Nat → Nat → Nat) (ls' : Array Slot) (H' : Heap) (locs' : List Loc) (cells' slots' : Nat), (∀ b, b < M.2.1 ∨ b = 999 → ad' b = ad b) → (∀ b, b < M.2.1 → cA' b = cA b) → Rel D lo n0 A s ad' cA' RR' M' H' locs' cells' slots' → lv_has ls' nL (enL ad' lc) → (∀ q ∈ lc, okV lo M'.2.1 q.2) → (∀ w ∈ st, okV lo M'.2.1 w) → W p l e R s m args below meth c H' locs' cells' slots' Q (F0 m (pc + 3) ls' (st.map (encV ad')))) :
    W p l e R s m args below meth c H locs cells slots Q (F0 m pc ls ((v :: .inr (.inr a) :: st : List PV).map (encV ad))) := by
  have hci := cx_sz hc
  obtain ⟨h1, h2⟩ := ok_ref (ok_hd (ok_tl hos)) (by omega)
  obtain ⟨x1, x2, x3, x4, x5, x6, x7, x8, x9, x10, x11, x12, x13, x14⟩ := hC
  have he : (wsW ad cA RR M.1 lo M.2.1)[a - lo]? = some (ad a, .inr (ci, (List.range N).map (fvW ad RR M.1 a))) := by rw [wsW_get h1 h2, clW_obj (by omega), hka, hN]
  have hset : (.inr (ci, ((List.range N).map (fvW ad RR M.1 a)).set fk (encV ad v)) : va_E) = clW ad cA RR' M'.1 a := by
    rw [clW_obj (by omega), hka, hN, set_map_range _ (fvW ad RR' M'.1 a) (encV ad v) hk hv hne]
  have go : ∀ (H1 : Heap) (locs1 : List Loc), va_P D vwCl ((wsW ad cA RR M.1 lo M.2.1).set (a - lo) (ad a, .inr (ci, ((List.range N).map (fvW ad RR M.1 a)).set fk (encV ad v)))) H1 → va_D A ((wsW ad cA RR M.1 lo M.2.1).set (a - lo) (ad a, .inr (ci, ((List.range N).map (fvW ad RR M.1 a)).set fk (encV ad v)))) → va_S A s.heap H1 locs1 → W p l e R s m args below meth c H1 locs1 cells slots Q (F0 m (pc + 3) ls (st.map (encV ad))) := by
    intro H1 locs1 hP hD hS
    refine kk ad cA RR' ls H1 locs1 cells slots (fun _ _ => rfl) (fun _ _ => rfl) (hR.set h1 h2 hn hPF hset hob hP hD hS) hl2 ?_ ?_
    · rw [hn]; exact hol
    · rw [hn]; exact ok_tl (ok_tl hos)
  rcases hfin with hfin | ⟨hfin, hini, hown⟩
  · exact va_put (rest := st.map (encV ad)) x1 x2 x5 hin ty0 hty hnm x4 x8 hR.2.1 hR.2.2.1 hR.2.2.2.1 (a - lo) he hc fk hk (x5 _ hl) (fun x hx => by rw [hr] at hx; exact hx) hfin (hty fk hk) hna hfit (by rw [List.length_map, List.length_range]; exact hk) hd go
  · exact va_putF (rest := st.map (encV ad)) x1 x2 x5 hin ty0 hty hnm x4 x8 hR.2.1 hR.2.2.1 hR.2.2.2.1 (a - lo) he hc fk hk (x5 _ hl) (fun x hx => by rw [hr] at hx; exact hx) hfin (x14 hini) (by rw [hr]; exact hown) (hty fk hk) hna hfit (by rw [List.length_map, List.length_range]; exact hk) hd go
theorem fvW_up {ad : Nat → Nat} {RR : Nat → Nat → Nat} {S : MS} {a j fk : Nat} {z : Int} (h : j ≠ fk) : fvW ad RR S a j = fvW ad RR (up S a fk z) a j := by
  unfold fvW
  rw [up_ne _ _ h]
theorem snd_pI (hc : vwCl[ci]? = some (C, T, N)) (hN : nfC ci = N) (hin : ∀ w ∈ u_ws C T N, w ∈ BIG) (ty0 : Nat → FieldType) (hty : ∀ k, k < N → parseFieldDescriptor (T k).2.2.1 = some (ty0 k)) (hnm : ∀ a, a < N → ∀ b, b < N → a ≠ b → (T a).2.1 ≠ (T b).2.1) (hk : fk < N) (hl : Cond.fieldLink own idx ref (T fk).2.1 (T fk).2.2.1 ∈ BIG) (hr : (T fk).1 = ref)
    (hfin : (T fk).2.2.2 = false ∨ ((T fk).2.2.2 = true ∧ ini = true ∧ ref = own)) (hf : ftC ci fk ≠ 1 ∧ ftC ci fk ≠ 2) (ht : ty0 fk = .int) (hd : decode cc pc = .ok (.putfield idx, 3)) (hx : pc + 3 = nx) : SndS l k own cc nL ret ini pc (i_pI ci fk nx) := by
  refine ⟨?_, fun o lc st M s' h => by
    unfold i_pI at h
    repeat' split at h
    all_goals first | (cases h; exact Nat.le_refl _) | (cases h; exact Nat.le_succ _) | (cases h), fun o lc st M r M' h => by
    unfold i_pI at h
    repeat' split at h
    all_goals first | (cases h; rfl) | cases h⟩
  intro p e R s m args below meth c D lo n0 A ad cA RR M lc st ls H locs cells slots hC hR hl2 hol hos
  refine ⟨fun pc' lc' st' M' h => ?_, fun r M' h => ?_⟩
  · unfold i_pI at h
    split at h
    · rename_i z a st
      split at h
      · rename_i hka
        cases h
        refine ⟨Nat.le_refl _, fun _ _ Q kk => ?_⟩
        subst hx
        have hci := cx_sz hc
        obtain ⟨h1, h2⟩ := ok_ref (ok_hd (ok_tl hos)) (by omega)
        refine put_go (M' := (up M.1 a fk z, M.2)) (RR' := RR) hc hN hin ty0 hty hnm hk hl hr hfin hd ?_ ?_ hC hR hl2 hol hos hka rfl ?_ ?_ ?_ ?_ kk
        · rw [ht]; rfl
        · rw [ht]; rfl
        · exact PFt_up hR.1 h2 (fun q => absurd (by rw [hka] at q; exact q) hf.1) (fun _ => ok_hd hos) (by rw [hka]; exact hf.2)
        · unfold fvW
          rw [hka, if_neg hf.1, if_neg hf.2]
          dsimp only
          rw [up_at]
          rfl
        · exact fun j hj => fvW_up hj
        · exact fun b hb => clW_up_ne hb
      · cases h
    · cases h
  · unfold i_pI at h
    split at h
    · split at h <;> cases h
    · cases h
theorem snd_pZ (hc : vwCl[ci]? = some (C, T, N)) (hN : nfC ci = N) (hin : ∀ w ∈ u_ws C T N, w ∈ BIG) (ty0 : Nat → FieldType) (hty : ∀ k, k < N → parseFieldDescriptor (T k).2.2.1 = some (ty0 k)) (hnm : ∀ a, a < N → ∀ b, b < N → a ≠ b → (T a).2.1 ≠ (T b).2.1) (hk : fk < N) (hl : Cond.fieldLink own idx ref (T fk).2.1 (T fk).2.2.1 ∈ BIG) (hr : (T fk).1 = ref)
    (hfin : (T fk).2.2.2 = false ∨ ((T fk).2.2.2 = true ∧ ini = true ∧ ref = own)) (hf : ftC ci fk ≠ 1 ∧ ftC ci fk ≠ 2) (ht : ty0 fk = .boolean) (hd : decode cc pc = .ok (.putfield idx, 3)) (hx : pc + 3 = nx) : SndS l k own cc nL ret ini pc (i_pZ ci fk nx) := by
  refine ⟨?_, fun o lc st M s' h => by
    unfold i_pZ at h
    repeat' split at h
    all_goals first | (cases h; exact Nat.le_refl _) | (cases h; exact Nat.le_succ _) | (cases h), fun o lc st M r M' h => by
    unfold i_pZ at h
    repeat' split at h
    all_goals first | (cases h; rfl) | cases h⟩
  intro p e R s m args below meth c D lo n0 A ad cA RR M lc st ls H locs cells slots hC hR hl2 hol hos
  refine ⟨fun pc' lc' st' M' h => ?_, fun r M' h => ?_⟩
  · unfold i_pZ at h
    split at h
    · rename_i z a st
      split at h
      · rename_i hka
        split at h
        · rename_i hz
          cases h
          refine ⟨Nat.le_refl _, fun _ _ Q kk => ?_⟩
          subst hx
          have hci := cx_sz hc
          obtain ⟨h1, h2⟩ := ok_ref (ok_hd (ok_tl hos)) (by omega)
          refine put_go (M' := (up M.1 a fk z, M.2)) (RR' := RR) hc hN hin ty0 hty hnm hk hl hr hfin hd ?_ ?_ hC hR hl2 hol hos hka rfl ?_ ?_ ?_ ?_ kk
          · rw [ht]; rcases hz with rfl | rfl <;> rfl
          · rw [ht]; rcases hz with rfl | rfl <;> rfl
          · exact PFt_up hR.1 h2 (fun q => absurd (by rw [hka] at q; exact q) hf.1) (fun _ => ok_hd hos) (by rw [hka]; exact hf.2)
          · unfold fvW
            rw [hka, if_neg hf.1, if_neg hf.2]
            dsimp only
            rw [up_at]
            rfl
          · exact fun j hj => fvW_up hj
          · exact fun b hb => clW_up_ne hb
        · cases h
      · cases h
    · cases h
  · unfold i_pZ at h
    split at h
    · split at h
      · split at h <;> cases h
      · cases h
    · cases h
theorem snd_pL (hc : vwCl[ci]? = some (C, T, N)) (hN : nfC ci = N) (hin : ∀ w ∈ u_ws C T N, w ∈ BIG) (ty0 : Nat → FieldType) (hty : ∀ k, k < N → parseFieldDescriptor (T k).2.2.1 = some (ty0 k)) (hnm : ∀ a, a < N → ∀ b, b < N → a ≠ b → (T a).2.1 ≠ (T b).2.1) (hk : fk < N) (hl : Cond.fieldLink own idx ref (T fk).2.1 (T fk).2.2.1 ∈ BIG) (hr : (T fk).1 = ref)
    (hfin : (T fk).2.2.2 = false ∨ ((T fk).2.2.2 = true ∧ ini = true ∧ ref = own)) (hf : ftC ci fk = 1) (ht : ty0 fk = .long) (hd : decode cc pc = .ok (.putfield idx, 3)) (hx : pc + 3 = nx) : SndS l k own cc nL ret ini pc (i_pL ci fk nx) := by
  refine ⟨?_, fun o lc st M s' h => by
    unfold i_pL at h
    repeat' split at h
    all_goals first | (cases h; exact Nat.le_refl _) | (cases h; exact Nat.le_succ _) | (cases h), fun o lc st M r M' h => by
    unfold i_pL at h
    repeat' split at h
    all_goals first | (cases h; rfl) | cases h⟩
  intro p e R s m args below meth c D lo n0 A ad cA RR M lc st ls H locs cells slots hC hR hl2 hol hos
  refine ⟨fun pc' lc' st' M' h => ?_, fun r M' h => ?_⟩
  · unfold i_pL at h
    split at h
    · rename_i z a st
      split at h
      · rename_i hka
        cases h
        refine ⟨Nat.le_refl _, fun _ _ Q kk => ?_⟩
        subst hx
        have hci := cx_sz hc
        obtain ⟨h1, h2⟩ := ok_ref (ok_hd (ok_tl hos)) (by omega)
        refine put_go (M' := (up M.1 a fk z, M.2)) (RR' := RR) hc hN hin ty0 hty hnm hk hl hr hfin hd ?_ ?_ hC hR hl2 hol hos hka rfl ?_ ?_ ?_ ?_ kk
        · rw [ht]; rfl
        · rw [ht]; rfl
        · exact PFt_up hR.1 h2 (fun _ => ok_hd hos) (fun q => absurd hf (by rw [hka] at q; exact q)) (by rw [hka]; omega)
        · unfold fvW
          rw [hka, if_pos hf]
          dsimp only
          rw [up_at]
          rfl
        · exact fun j hj => fvW_up hj
        · exact fun b hb => clW_up_ne hb
      · cases h
    · cases h
  · unfold i_pL at h
    split at h
    · split at h <;> cases h
    · cases h
/-- the true references, one of them changed -/
def upR (RR : Nat → Nat → Nat) (a k v : Nat) : Nat → Nat → Nat := fun b j => if b = a then (if j = k then v else RR b j) else RR b j
theorem upR_at (RR : Nat → Nat → Nat) (a k v : Nat) : upR RR a k v a k = v := by simp [upR]
theorem upR_ne (RR : Nat → Nat → Nat) {a k v j : Nat} (h : j ≠ k) : upR RR a k v a j = RR a j := by simp [upR, h]
theorem upR_ob (RR : Nat → Nat → Nat) {a k v b j : Nat} (h : b ≠ a) : upR RR a k v b j = RR b j := by simp [upR, h]
theorem clW_upR_ne {ad : Nat → Nat} {cA : Nat → ClassId} {RR : Nat → Nat → Nat} {S S' : MS} {a k b v : Nat} (h : b ≠ a) (hS : ∀ j, S b j = S' b j) : clW ad cA RR S b = clW ad cA (upR RR a k v) S' b :=
  clW_congr rfl hS (fun j => by rw [upR_ob _ h])
theorem kt_0 : kt 0 = 99 := rfl
theorem PFt_ref {lo : Nat} {RR : Nat → Nat → Nat} {M : PM} {a k v : Nat} (h : PFt lo RR M) (ha : a < M.2.1) (hf : ftC (kt a) k = 2) (hv : lo ≤ v ∧ v < M.2.1) (hv0 : v ≠ 0) (hr : v = rfC M.2.2.2.1 M.2.2.2.2 a k) : PFt lo (upR RR a k v) (up M.1 a k 1, M.2) := by
  obtain ⟨g1, g2, g3, g4, g5, g6, g7, g8⟩ := h
  refine ⟨fun b j hb => ?_, fun b j hb => ?_, fun b j => ?_, fun b j hb1 hb2 hb3 hb4 hb5 => ?_, g5, fun hph b hb j => ?_, g7, g8⟩
  · show inL (up M.1 a k 1 b j)
    unfold up
    by_cases e1 : b = a
    · by_cases e2 : j = k
      · subst e1; subst e2; rw [hf] at hb; cases hb
      · rw [if_pos e1, if_neg e2]; exact g1 b j hb
    · rw [if_neg e1]; exact g1 b j hb
  · show inA (up M.1 a k 1 b j)
    unfold up
    by_cases e1 : b = a
    · by_cases e2 : j = k
      · rw [if_pos e1, if_pos e2]; unfold inA; omega
      · rw [if_pos e1, if_neg e2]; exact g2 b j hb
    · rw [if_neg e1]; exact g2 b j hb
  · unfold upR
    by_cases e1 : b = a
    · by_cases e2 : j = k
      · rw [if_pos e1, if_pos e2]; exact Or.inr hv
      · rw [if_pos e1, if_neg e2]; exact g3 b j
    · rw [if_neg e1]; exact g3 b j
  · by_cases e1 : b = a ∧ j = k
    · obtain ⟨rfl, rfl⟩ := e1
      rw [upR_at]
      exact ⟨hr, hv0⟩
    · have e2 : upR RR a k v b j = RR b j := by
        unfold upR
        by_cases q : b = a
        · rw [if_pos q, if_neg (fun z => e1 ⟨q, z⟩)]
        · rw [if_neg q]
      have e3 : up M.1 a k 1 b j = M.1 b j := by
        unfold up
        by_cases q : b = a
        · rw [if_pos q, if_neg (fun z => e1 ⟨q, z⟩)]
        · rw [if_neg q]
      rw [e2]
      exact g4 b j hb1 hb2 hb3 hb4 (by rw [← e3]; exact hb5)
  · have hb : M.2.1 ≤ b := hb
    show up M.1 a k 1 b j = 0 ∧ upR RR a k v b j = 0
    unfold up upR
    rw [if_neg (by omega), if_neg (by omega)]
    exact g6 hph b hb j
theorem snd_pR {t : Nat} (hc : vwCl[ci]? = some (C, T, N)) (hN : nfC ci = N) (hin : ∀ w ∈ u_ws C T N, w ∈ BIG) (ty0 : Nat → FieldType) (hty : ∀ k, k < N → parseFieldDescriptor (T k).2.2.1 = some (ty0 k)) (hnm : ∀ a, a < N → ∀ b, b < N → a ≠ b → (T a).2.1 ≠ (T b).2.1) (hk : fk < N) (hl : Cond.fieldLink own idx ref (T fk).2.1 (T fk).2.2.1 ∈ BIG) (hr : (T fk).1 = ref)
    (hfin : (T fk).2.2.2 = false ∨ ((T fk).2.2.2 = true ∧ ini = true ∧ ref = own)) (hf : ftC ci fk = 2) (ht : (∃ x, ty0 fk = .object x) ∨ ∃ x, ty0 fk = .array x) (htt : t ≤ 24) (hd : decode cc pc = .ok (.putfield idx, 3)) (hx : pc + 3 = nx) : SndS l k own cc nL ret ini pc (i_pR ci fk t nx) := by
  refine ⟨?_, fun o lc st M s' h => by
    unfold i_pR at h
    repeat' split at h
    all_goals first | (cases h; exact Nat.le_refl _) | (cases h; exact Nat.le_succ _) | (cases h), fun o lc st M r M' h => by
    unfold i_pR at h
    repeat' split at h
    all_goals first | (cases h; rfl) | cases h⟩
  intro p e R s m args below meth c D lo n0 A ad cA RR M lc st ls H locs cells slots hC hR hl2 hol hos
  refine ⟨fun pc' lc' st' M' h => ?_, fun r M' h => ?_⟩
  · unfold i_pR at h
    split at h
    · rename_i v a st
      split at h
      · rename_i hka
        split at h
        · rename_i hkv
          split at h
          · rename_i hrv
            cases h
            refine ⟨Nat.le_refl _, fun _ _ Q kk => ?_⟩
            subst hx
            have hci := cx_sz hc
            obtain ⟨h1, h2⟩ := ok_ref (ok_hd (ok_tl hos)) (by omega)
            obtain ⟨v1, v2⟩ := ok_ref (ok_hd hos) (by omega)
            have hv0 : v ≠ 0 := fun q => by rw [q, kt_0] at hkv; omega
            refine put_go (M' := (up M.1 a fk 1, M.2)) (RR' := upR RR a fk v) hc hN hin ty0 hty hnm hk hl hr hfin hd ?_ ?_ hC hR hl2 hol hos hka rfl ?_ ?_ ?_ ?_ kk
            · rcases ht with ⟨x, ht⟩ | ⟨x, ht⟩ <;> (rw [ht]; rfl)
            · rcases ht with ⟨x, ht⟩ | ⟨x, ht⟩ <;> (rw [ht]; rfl)
            · exact PFt_ref hR.1 h2 (by rw [hka]; exact hf) ⟨v1, v2⟩ hv0 hrv
            · unfold fvW rvW
              rw [hka, if_neg (by omega), if_pos hf, upR_at, if_neg hv0]
              rfl
            · intro j hj
              unfold fvW
              dsimp only
              rw [up_ne _ _ hj, upR_ne _ hj]
            · exact fun b hb => clW_upR_ne hb (fun j => by dsimp only; unfold up; rw [if_neg hb])
          · cases h
        · cases h
      · cases h
    · cases h
  · unfold i_pR at h
    split at h
    · split at h
      · split at h
        · split at h <;> cases h
        · cases h
      · cases h
    · cases h
theorem rfC_e (e e' s a k : Nat) (h : ¬ (a = enC ∧ k = 0)) : rfC e s a k = rfC e' s a k := by
  unfold rfC
  by_cases h1 : a = enC
  · rw [if_pos h1, if_pos h1, if_neg (fun q => h ⟨h1, q⟩), if_neg (fun q => h ⟨h1, q⟩)]
  · rw [if_neg h1, if_neg h1]
theorem rfC_s (e s s' a k : Nat) (h : ¬ (a = maC ∧ k = 1)) : rfC e s a k = rfC e s' a k := by
  unfold rfC
  by_cases h1 : a = enC
  · rw [if_pos h1, if_pos h1]
  · rw [if_neg h1, if_neg h1]
    by_cases h2 : a = maC
    · rw [if_pos h2, if_pos h2, if_neg (fun q => h ⟨h2, q⟩), if_neg (fun q => h ⟨h2, q⟩)]
    · rw [if_neg h2, if_neg h2]
theorem PFt_two {lo : Nat} {RR : Nat → Nat → Nat} {M M' : PM} {a k v : Nat} (h : PFt lo RR M) (hv : lo ≤ v ∧ v < M.2.1) (hv0 : v ≠ 0) (h1 : M'.1 = M.1) (h2 : M'.2.1 = M.2.1) (h3 : M'.2.2.1 = M.2.2.1) (ha : a < M.2.1) (hr : ∀ b j, ¬ (b = a ∧ j = k) → rfC M'.2.2.2.1 M'.2.2.2.2 b j = rfC M.2.2.2.1 M.2.2.2.2 b j) (hs : rfC M'.2.2.2.1 M'.2.2.2.2 a k = v) : PFt lo (upR RR a k v) M' := by
  obtain ⟨g1, g2, g3, g4, g5, g6, g7, g8⟩ := h
  refine ⟨by rw [h1]; exact g1, by rw [h1]; exact g2, fun b j => ?_, fun b j hb1 hb2 hb3 hb4 hb5 => ?_, by rw [h2]; exact g5, fun hph b hb j => ?_, g7, by rw [h2]; exact g8⟩
  · rw [h2]
    unfold upR
    by_cases e1 : b = a
    · by_cases e2 : j = k
      · rw [if_pos e1, if_pos e2]; exact Or.inr hv
      · rw [if_pos e1, if_neg e2]; exact g3 b j
    · rw [if_neg e1]; exact g3 b j
  · rw [h2] at hb2
    by_cases e1 : b = a ∧ j = k
    · obtain ⟨rfl, rfl⟩ := e1
      rw [upR_at]
      exact ⟨hs.symm, hv0⟩
    · have e2 : upR RR a k v b j = RR b j := by
        unfold upR
        by_cases q : b = a
        · rw [if_pos q, if_neg (fun z => e1 ⟨q, z⟩)]
        · rw [if_neg q]
      rw [e2, hr b j e1]
      rw [h1, h3] at hb5
      exact g4 b j hb1 hb2 hb3 hb4 hb5
  · rw [h2] at hb
    rw [h3] at hph
    rw [h1]
    refine ⟨(g6 hph b hb j).1, ?_⟩
    rw [upR_ob _ (by omega)]
    exact (g6 hph b hb j).2
theorem snd_pE {t : Nat} (hc : vwCl[3]? = some (C, T, N)) (hN : nfC 3 = N) (hin : ∀ w ∈ u_ws C T N, w ∈ BIG) (ty0 : Nat → FieldType) (hty : ∀ k, k < N → parseFieldDescriptor (T k).2.2.1 = some (ty0 k)) (hnm : ∀ a, a < N → ∀ b, b < N → a ≠ b → (T a).2.1 ≠ (T b).2.1) (hk : 0 < N) (hl : Cond.fieldLink own idx ref (T 0).2.1 (T 0).2.2.1 ∈ BIG) (hr : (T 0).1 = ref)
    (hfin : (T 0).2.2.2 = false ∨ ((T 0).2.2.2 = true ∧ ini = true ∧ ref = own)) (ht : (∃ x, ty0 0 = .object x) ∨ ∃ x, ty0 0 = .array x) (htt : t ≤ 24) (hd : decode cc pc = .ok (.putfield idx, 3)) (hx : pc + 3 = nx) : SndS l k own cc nL ret ini pc (i_pE 3 0 t nx) := by
  refine ⟨?_, fun o lc st M s' h => by
    unfold i_pE at h
    repeat' split at h
    all_goals first | (cases h; exact Nat.le_refl _) | (cases h; exact Nat.le_succ _) | (cases h), fun o lc st M r M' h => by
    unfold i_pE at h
    repeat' split at h
    all_goals first | (cases h; rfl) | cases h⟩
  intro p e R s m args below meth c D lo n0 A ad cA RR M lc st ls H locs cells slots hC hR hl2 hol hos
  refine ⟨fun pc' lc' st' M' h => ?_, fun r M' h => ?_⟩
  · unfold i_pE at h
    split at h
    · rename_i v a st
      split at h
      · rename_i hka
        split at h
        · rename_i hkv
          cases h
          refine ⟨Nat.le_refl _, fun _ _ Q kk => ?_⟩
          subst hx
          obtain ⟨rfl, -, -⟩ := hka
          obtain ⟨h1, h2⟩ := ok_ref (ok_hd (ok_tl hos)) (by decide)
          obtain ⟨v1, v2⟩ := ok_ref (ok_hd hos) (by omega)
          have hv0 : v ≠ 0 := fun q => by rw [q, kt_0] at hkv; omega
          refine put_go (M' := (M.1, (M.2.1, M.2.2.1, v, M.2.2.2.2))) (RR' := upR RR enC 0 v) hc hN hin ty0 hty hnm hk hl hr hfin hd ?_ ?_ hC hR hl2 hol hos rfl rfl ?_ ?_ ?_ ?_ kk
          · rcases ht with ⟨x, ht⟩ | ⟨x, ht⟩ <;> (rw [ht]; rfl)
          · rcases ht with ⟨x, ht⟩ | ⟨x, ht⟩ <;> (rw [ht]; rfl)
          · exact PFt_two hR.1 ⟨v1, v2⟩ hv0 rfl rfl rfl h2 (fun b j hb => rfC_e _ _ _ b j hb) (by unfold rfC; rw [if_pos rfl, if_pos rfl])
          · unfold fvW rvW
            rw [if_neg (by decide), if_pos (by decide), upR_at, if_neg hv0]
            rfl
          · intro j hj
            unfold fvW
            rw [upR_ne _ hj]
          · exact fun b hb => clW_upR_ne hb (fun j => rfl)
        · cases h
      · cases h
    · cases h
  · unfold i_pE at h
    split at h
    · split at h
      · split at h <;> cases h
      · cases h
    · cases h
theorem snd_pS {t : Nat} (hc : vwCl[11]? = some (C, T, N)) (hN : nfC 11 = N) (hin : ∀ w ∈ u_ws C T N, w ∈ BIG) (ty0 : Nat → FieldType) (hty : ∀ k, k < N → parseFieldDescriptor (T k).2.2.1 = some (ty0 k)) (hnm : ∀ a, a < N → ∀ b, b < N → a ≠ b → (T a).2.1 ≠ (T b).2.1) (hk : 1 < N) (hl : Cond.fieldLink own idx ref (T 1).2.1 (T 1).2.2.1 ∈ BIG) (hr : (T 1).1 = ref)
    (hfin : (T 1).2.2.2 = false ∨ ((T 1).2.2.2 = true ∧ ini = true ∧ ref = own)) (ht : (∃ x, ty0 1 = .object x) ∨ ∃ x, ty0 1 = .array x) (htt : t ≤ 24) (hd : decode cc pc = .ok (.putfield idx, 3)) (hx : pc + 3 = nx) : SndS l k own cc nL ret ini pc (i_pS 11 1 t nx) := by
  refine ⟨?_, fun o lc st M s' h => by
    unfold i_pS at h
    repeat' split at h
    all_goals first | (cases h; exact Nat.le_refl _) | (cases h; exact Nat.le_succ _) | (cases h), fun o lc st M r M' h => by
    unfold i_pS at h
    repeat' split at h
    all_goals first | (cases h; rfl) | cases h⟩
  intro p e R s m args below meth c D lo n0 A ad cA RR M lc st ls H locs cells slots hC hR hl2 hol hos
  refine ⟨fun pc' lc' st' M' h => ?_, fun r M' h => ?_⟩
  · unfold i_pS at h
    split at h
    · rename_i v a st
      split at h
      · rename_i hka
        split at h
        · rename_i hkv
          cases h
          refine ⟨Nat.le_refl _, fun _ _ Q kk => ?_⟩
          subst hx
          obtain ⟨rfl, -, -⟩ := hka
          obtain ⟨h1, h2⟩ := ok_ref (ok_hd (ok_tl hos)) (by decide)
          obtain ⟨v1, v2⟩ := ok_ref (ok_hd hos) (by omega)
          have hv0 : v ≠ 0 := fun q => by rw [q, kt_0] at hkv; omega
          refine put_go (M' := (M.1, (M.2.1, M.2.2.1, M.2.2.2.1, v))) (RR' := upR RR maC 1 v) hc hN hin ty0 hty hnm hk hl hr hfin hd ?_ ?_ hC hR hl2 hol hos rfl rfl ?_ ?_ ?_ ?_ kk
          · rcases ht with ⟨x, ht⟩ | ⟨x, ht⟩ <;> (rw [ht]; rfl)
          · rcases ht with ⟨x, ht⟩ | ⟨x, ht⟩ <;> (rw [ht]; rfl)
          · exact PFt_two hR.1 ⟨v1, v2⟩ hv0 rfl rfl rfl h2 (fun b j hb => rfC_s _ _ _ b j hb) (by unfold rfC; rw [if_neg (by decide), if_pos rfl, if_pos rfl])
          · unfold fvW rvW
            rw [if_neg (by decide), if_pos (by decide), upR_at, if_neg hv0]
            rfl
          · intro j hj
            unfold fvW
            rw [upR_ne _ hj]
          · exact fun b hb => clW_upR_ne hb (fun j => rfl)
        · cases h
      · cases h
    · cases h
  · unfold i_pS at h
    split at h
    · split at h
      · split at h <;> cases h
      · cases h
    · cases h
end
end
