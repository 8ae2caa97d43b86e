section
variable {l : Launch} {k : Nat} {own : String} {cc : ByteArray} {nL : Nat} {ret : Option FieldType} {ini : Bool} {pc : Nat} {nx : Nat}
theorem kl_nn (a : Nat) : 0 ≤ kl a := by
  have h : ∀ b, b < 1000 → 0 ≤ kl b := by decide +kernel
  by_cases hb : a < 1000
  · exact h a hb
  · have e : kl a = kl 999 := by
      unfold kl
      repeat' split
      all_goals first | rfl | omega
    rw [e]; decide
/-- what an array's cell is -/
theorem arr_at {D : va_G} {lo n0 : Nat} {A : Nat → Prop} {s : State} {ad : Nat → Nat} {cA : Nat → ClassId} {RR : Nat → Nat → Nat} {M : PM} {H : Heap} {locs : List Loc} {cells slots a : Nat} {own : String} {cc : ByteArray} {nL : Nat} {ret : Option FieldType} {ini : Bool} {k : Nat} {p : Program} {e : Env} {R : Room} {m : MethodId} {args : Array Value} {meth : Method} {c : Code}
    (hC : Cx D own cc nL ret ini k p e R s m args meth c) (hR : Rel D lo n0 A s ad cA RR M H locs cells slots) (h1 : lo ≤ a) (h2 : a < M.2.1) (ht : 20 ≤ kt a) : (wsW ad cA RR M.1 lo M.2.1)[a - lo]? = some (ad a, .inl (cA a, (kl a).toNat, faW ad RR M.1 a)) ∧ va_K D vwCl [(cA a, ataC (kt a))] s := by
  refine ⟨by rw [wsW_get h1 h2, clW_arr (by omega)], hC.2.2.2.2.2.2.2.1.1, fun j q hq => ?_⟩
  have hj : j < 1 := (List.getElem?_eq_some_iff.mp hq).1
  rw [show j = 0 by omega] at hq
  cases hq
  exact hR.2.2.2.2.2.1 a h1 h2 ht

theorem snd_iaload (hd : decode cc pc = .ok (.iaload, 1)) (hx : pc + 1 = nx) : SndS l k own cc nL ret ini pc (i_aI 20 nx) := by
  refine ⟨?_, fun o lc st M s' h => by
    unfold i_aI at h
    repeat' split at h
    all_goals first | (cases h; exact Nat.le_refl _) | (cases h; exact Nat.le_succ _) | (cases h), fun o lc st M r M' h => by
    unfold i_aI at h
    repeat' split at h
    all_goals first | (cases h; rfl) | cases h⟩
  intro p e R s m args below meth c D lo n0 A ad cA RR M lc st ls H locs cells slots hC hR hl2 hol hos
  refine ⟨fun pc' lc' st' M' h => ?_, fun r M' h => ?_⟩
  · unfold i_aI at h
    split at h
    · rename_i i a st
      split at h
      · rename_i hka
        split at h
        · rename_i hi
          cases h
          refine ⟨Nat.le_refl _, fun _ _ Q kk => ?_⟩
          subst hx
          obtain ⟨h1, h2⟩ := ok_ref (ok_hd (ok_tl hos)) (by omega)
          obtain ⟨he, hK⟩ := arr_at hC hR h1 h2 (by omega)
          rw [hka] at hK
          have hf : faW ad RR M.1 a = .inl fun j => oi (M.1 a j) := by unfold faW; rw [hka]; rfl
          rw [hf] at he
          refine va_iald (rest := st.map (encV ad)) hC.1 hC.2.1 hK hR.2.1 (a - lo) 0 he rfl (vp_of (ok_hd hos) hi) hd ?_
          rw [oi_nat (ok_hd hos)]
          exact kk ad cA RR ls H locs cells slots (fun _ _ => rfl) (fun _ _ => rfl) hR hl2 hol (ok_cons (hR.1.2.1 a i.toNat (by rw [hka]; exact (show (0 : Nat) ≠ 1 by decide))) (ok_tl (ok_tl hos)))
        · cases h
      · cases h
    · cases h
  · unfold i_aI at h
    split at h
    · split at h
      · split at h <;> cases h
      · cases h
    · cases h
theorem snd_caload (hd : decode cc pc = .ok (.caload, 1)) (hx : pc + 1 = nx) : SndS l k own cc nL ret ini pc (i_aI 22 nx) := by
  refine ⟨?_, fun o lc st M s' h => by
    unfold i_aI at h
    repeat' split at h
    all_goals first | (cases h; exact Nat.le_refl _) | (cases h; exact Nat.le_succ _) | (cases h), fun o lc st M r M' h => by
    unfold i_aI at h
    repeat' split at h
    all_goals first | (cases h; rfl) | cases h⟩
  intro p e R s m args below meth c D lo n0 A ad cA RR M lc st ls H locs cells slots hC hR hl2 hol hos
  refine ⟨fun pc' lc' st' M' h => ?_, fun r M' h => ?_⟩
  · unfold i_aI at h
    split at h
    · rename_i i a st
      split at h
      · rename_i hka
        split at h
        · rename_i hi
          cases h
          refine ⟨Nat.le_refl _, fun _ _ Q kk => ?_⟩
          subst hx
          obtain ⟨h1, h2⟩ := ok_ref (ok_hd (ok_tl hos)) (by omega)
          obtain ⟨he, hK⟩ := arr_at hC hR h1 h2 (by omega)
          rw [hka] at hK
          have hf : faW ad RR M.1 a = .inl fun j => oi (M.1 a j) := by unfold faW; rw [hka]; rfl
          rw [hf] at he
          refine va_cald (rest := st.map (encV ad)) hC.1 hC.2.1 hK hR.2.1 (a - lo) 0 he rfl (vp_of (ok_hd hos) hi) hd ?_
          rw [oi_nat (ok_hd hos)]
          exact kk ad cA RR ls H locs cells slots (fun _ _ => rfl) (fun _ _ => rfl) hR hl2 hol (ok_cons (hR.1.2.1 a i.toNat (by rw [hka]; exact (show (0 : Nat) ≠ 1 by decide))) (ok_tl (ok_tl hos)))
        · cases h
      · cases h
    · cases h
  · unfold i_aI at h
    split at h
    · split at h
      · split at h <;> cases h
      · cases h
    · cases h
theorem snd_zaload (hd : decode cc pc = .ok (.baload, 1)) (hx : pc + 1 = nx) : SndS l k own cc nL ret ini pc (i_aI 23 nx) := by
  refine ⟨?_, fun o lc st M s' h => by
    unfold i_aI at h
    repeat' split at h
    all_goals first | (cases h; exact Nat.le_refl _) | (cases h; exact Nat.le_succ _) | (cases h), fun o lc st M r M' h => by
    unfold i_aI at h
    repeat' split at h
    all_goals first | (cases h; rfl) | cases h⟩
  intro p e R s m args below meth c D lo n0 A ad cA RR M lc st ls H locs cells slots hC hR hl2 hol hos
  refine ⟨fun pc' lc' st' M' h => ?_, fun r M' h => ?_⟩
  · unfold i_aI at h
    split at h
    · rename_i i a st
      split at h
      · rename_i hka
        split at h
        · rename_i hi
          cases h
          refine ⟨Nat.le_refl _, fun _ _ Q kk => ?_⟩
          subst hx
          obtain ⟨h1, h2⟩ := ok_ref (ok_hd (ok_tl hos)) (by omega)
          obtain ⟨he, hK⟩ := arr_at hC hR h1 h2 (by omega)
          rw [hka] at hK
          have hf : faW ad RR M.1 a = .inl fun j => oi (M.1 a j) := by unfold faW; rw [hka]; rfl
          rw [hf] at he
          refine va_zald (rest := st.map (encV ad)) hC.1 hC.2.1 hK hR.2.1 (a - lo) 0 he rfl (vp_of (ok_hd hos) hi) hd ?_
          rw [oi_nat (ok_hd hos)]
          exact kk ad cA RR ls H locs cells slots (fun _ _ => rfl) (fun _ _ => rfl) hR hl2 hol (ok_cons (hR.1.2.1 a i.toNat (by rw [hka]; exact (show (0 : Nat) ≠ 1 by decide))) (ok_tl (ok_tl hos)))
        · cases h
      · cases h
    · cases h
  · unfold i_aI at h
    split at h
    · split at h
      · split at h <;> cases h
      · cases h
    · cases h
theorem snd_laload (hd : decode cc pc = .ok (.laload, 1)) (hx : pc + 1 = nx) : SndS l k own cc nL ret ini pc (i_aL nx) := by
  refine ⟨?_, fun o lc st M s' h => by
    unfold i_aL at h
    repeat' split at h
    all_goals first | (cases h; exact Nat.le_refl _) | (cases h; exact Nat.le_succ _) | (cases h), fun o lc st M r M' h => by
    unfold i_aL at h
    repeat' split at h
    all_goals first | (cases h; rfl) | cases h⟩
  intro p e R s m args below meth c D lo n0 A ad cA RR M lc st ls H locs cells slots hC hR hl2 hol hos
  refine ⟨fun pc' lc' st' M' h => ?_, fun r M' h => ?_⟩
  · unfold i_aL at h
    split at h
    · rename_i i a st
      split at h
      · rename_i hka
        split at h
        · rename_i hi
          cases h
          refine ⟨Nat.le_refl _, fun _ _ Q kk => ?_⟩
          subst hx
          obtain ⟨h1, h2⟩ := ok_ref (ok_hd (ok_tl hos)) (by omega)
          obtain ⟨he, hK⟩ := arr_at hC hR h1 h2 (by omega)
          rw [hka] at hK
          have hf : faW ad RR M.1 a = .inr (.inl fun j => ol (M.1 a j)) := by unfold faW; rw [if_pos hka]
          rw [hf] at he
          refine va_lald (rest := st.map (encV ad)) hC.1 hC.2.1 hK hR.2.1 (a - lo) 0 he rfl (vp_of (ok_hd hos) hi) hd ?_
          rw [oi_nat (ok_hd hos)]
          exact kk ad cA RR ls H locs cells slots (fun _ _ => rfl) (fun _ _ => rfl) hR hl2 hol (ok_cons (hR.1.1 a i.toNat (by rw [hka]; rfl)) (ok_tl (ok_tl hos)))
        · cases h
      · cases h
    · cases h
  · unfold i_aL at h
    split at h
    · split at h
      · split at h <;> cases h
      · cases h
    · cases h
theorem snd_aaload (hd : decode cc pc = .ok (.aaload, 1)) (hx : pc + 1 = nx) : SndS l k own cc nL ret ini pc (i_aR nx) := by
  refine ⟨?_, fun o lc st M s' h => by
    unfold i_aR at h
    repeat' split at h
    all_goals first | (cases h; exact Nat.le_refl _) | (cases h; exact Nat.le_succ _) | (cases h), fun o lc st M r M' h => by
    unfold i_aR at h
    repeat' split at h
    all_goals first | (cases h; rfl) | cases h⟩
  intro p e R s m args below meth c D lo n0 A ad cA RR M lc st ls H locs cells slots hC hR hl2 hol hos
  refine ⟨fun pc' lc' st' M' h => ?_, fun r M' h => ?_⟩
  · unfold i_aR at h
    split at h
    · rename_i i a st
      split at h
      · rename_i hka
        split at h
        · rename_i hi
          split at h
          · rename_i hph
            cases h
            refine ⟨Nat.le_refl _, fun _ _ Q kk => ?_⟩
            subst hx
            obtain ⟨h1, h2⟩ := ok_ref (ok_hd (ok_tl hos)) (by omega)
            obtain ⟨he, hK⟩ := arr_at hC hR h1 h2 (by omega)
            rw [hka] at hK
            have hf : faW ad RR M.1 a = .inr (.inr (.inr (.inr fun j => if RR a j = 0 then none else some (ad (RR a j))))) := by unfold faW; rw [if_neg (by omega), if_pos hka]
            rw [hf] at he
            obtain ⟨r1, r2⟩ := hR.1.2.2.2.1 a i.toNat h1 h2 (by rw [hka]; rfl) (by unfold szC; rw [if_neg (by omega)]; have := kl_nn a; omega) (Or.inr ⟨hph, by rw [hka]; unfold volC; omega⟩)
            refine va_aldq (rest := st.map (encV ad)) hC.1 hC.2.1 hK hR.2.1 (a - lo) 0 he rfl (vp_of (ok_hd hos) hi) hd ?_
            rw [oi_nat (ok_hd hos)]
            have r3 := hR.1.2.2.1 a i.toNat
            rw [if_neg r2]
            rw [r1] at r3 r2 ⊢
            exact kk ad cA RR ls H locs cells slots (fun _ _ => rfl) (fun _ _ => rfl) hR hl2 hol (ok_cons (Or.inl (r3.resolve_left r2)) (ok_tl (ok_tl hos)))
          · cases h
        · cases h
      · cases h
    · cases h
  · unfold i_aR at h
    split at h
    · split at h
      · split at h
        · split at h <;> cases h
        · cases h
      · cases h
    · cases h
theorem snd_iastore (hd : decode cc pc = .ok (.iastore, 1)) (hx : pc + 1 = nx) : SndS l k own cc nL ret ini pc (i_sI nx) := by
  refine ⟨?_, fun o lc st M s' h => by
    unfold i_sI at h
    repeat' split at h
    all_goals first | (cases h; exact Nat.le_refl _) | (cases h; exact Nat.le_succ _) | (cases h), fun o lc st M r M' h => by
    unfold i_sI at h
    repeat' split at h
    all_goals first | (cases h; rfl) | cases h⟩
  intro p e R s m args below meth c D lo n0 A ad cA RR M lc st ls H locs cells slots hC hR hl2 hol hos
  refine ⟨fun pc' lc' st' M' h => ?_, fun r M' h => ?_⟩
  · unfold i_sI at h
    split at h
    · rename_i z i a st
      split at h
      · rename_i hka
        split at h
        · rename_i hi
          cases h
          refine ⟨Nat.le_refl _, fun _ _ Q kk => ?_⟩
          subst hx
          obtain ⟨h1, h2⟩ := ok_ref (ok_hd (ok_tl (ok_tl hos))) (by omega)
          obtain ⟨he, hK⟩ := arr_at hC hR h1 h2 (by omega)
          rw [hka] at hK
          have hf : faW ad RR M.1 a = .inl fun j => oi (M.1 a j) := by unfold faW; rw [hka]; rfl
          rw [hf] at he
          have hi0 := ok_hd (ok_tl hos)
          refine va_iast (rest := st'.map (encV ad)) hC.1 hC.2.1 hK hR.2.1 hR.2.2.1 hR.2.2.2.1 (a - lo) 0 he rfl (vp_of hi0 hi) hd (fun H1 locs1 hP hD hS => ?_)
          have hR2 : Rel D lo n0 A s ad cA RR (up M.1 a i.toNat z, M.2) H1 locs1 cells slots := by
            refine hR.set h1 h2 rfl (PFt_up hR.1 h2 (fun q => absurd q (by rw [hka]; exact (show (0 : Nat) ≠ 1 by decide))) (fun _ => ok_hd hos) (by rw [hka]; exact (show (0 : Nat) ≠ 2 by decide))) ?_ (fun b hb => clW_up_ne hb) hP hD hS
            rw [clW_arr (by omega)]
            have hf2 : faW ad RR (up M.1 a i.toNat z) a = .inl fun j => oi (up M.1 a i.toNat z a j) := by unfold faW; rw [hka]; rfl
            rw [hf2]
            congr 4
            funext j
            unfold upd
            rw [oi_nat hi0]
            by_cases hj : j = i.toNat
            · subst hj
              rw [if_pos rfl, up_at]
            · rw [if_neg hj, up_ne _ _ hj]
          exact kk ad cA RR ls H1 locs1 cells slots (fun _ _ => rfl) (fun _ _ => rfl) hR2 hl2 hol (ok_tl (ok_tl (ok_tl hos)))
        · cases h
      · cases h
    · cases h
  · unfold i_sI at h
    split at h
    · split at h
      · split at h
        · cases h
        · cases h
      · cases h
    · cases h
theorem snd_zastore (hd : decode cc pc = .ok (.bastore, 1)) (hx : pc + 1 = nx) : SndS l k own cc nL ret ini pc (i_sZ nx) := by
  refine ⟨?_, fun o lc st M s' h => by
    unfold i_sZ at h
    repeat' split at h
    all_goals first | (cases h; exact Nat.le_refl _) | (cases h; exact Nat.le_succ _) | (cases h), fun o lc st M r M' h => by
    unfold i_sZ at h
    repeat' split at h
    all_goals first | (cases h; rfl) | cases h⟩
  intro p e R s m args below meth c D lo n0 A ad cA RR M lc st ls H locs cells slots hC hR hl2 hol hos
  refine ⟨fun pc' lc' st' M' h => ?_, fun r M' h => ?_⟩
  · unfold i_sZ at h
    split at h
    · rename_i z i a st
      split at h
      · rename_i hka
        split at h
        · rename_i hi
          split at h
          · rename_i hz
            cases h
            refine ⟨Nat.le_refl _, fun _ _ Q kk => ?_⟩
            subst hx
            obtain ⟨h1, h2⟩ := ok_ref (ok_hd (ok_tl (ok_tl hos))) (by omega)
            obtain ⟨he, hK⟩ := arr_at hC hR h1 h2 (by omega)
            rw [hka] at hK
            have hf : faW ad RR M.1 a = .inl fun j => oi (M.1 a j) := by unfold faW; rw [hka]; rfl
            rw [hf] at he
            have hi0 := ok_hd (ok_tl hos)
            refine va_zast (rest := st'.map (encV ad)) hC.1 hC.2.1 hK hR.2.1 hR.2.2.1 hR.2.2.2.1 (a - lo) 0 he rfl (vp_of hi0 hi) hd (fun H1 locs1 hP hD hS => ?_)
            have hR2 : Rel D lo n0 A s ad cA RR (up M.1 a i.toNat z, M.2) H1 locs1 cells slots := by
              refine hR.set h1 h2 rfl (PFt_up hR.1 h2 (fun q => absurd q (by rw [hka]; exact (show (0 : Nat) ≠ 1 by decide))) (fun _ => ok_hd hos) (by rw [hka]; exact (show (0 : Nat) ≠ 2 by decide))) ?_ (fun b hb => clW_up_ne hb) hP hD hS
              rw [clW_arr (by omega)]
              have hf2 : faW ad RR (up M.1 a i.toNat z) a = .inl fun j => oi (up M.1 a i.toNat z a j) := by unfold faW; rw [hka]; rfl
              rw [hf2]
              congr 4
              funext j
              unfold upd
              rw [oi_nat hi0]
              by_cases hj : j = i.toNat
              · subst hj
                rw [if_pos rfl, up_at]
                rcases hz with rfl | rfl <;> rfl
              · rw [if_neg hj, up_ne _ _ hj]
            exact kk ad cA RR ls H1 locs1 cells slots (fun _ _ => rfl) (fun _ _ => rfl) hR2 hl2 hol (ok_tl (ok_tl (ok_tl hos)))
          · cases h
        · cases h
      · cases h
    · cases h
  · unfold i_sZ at h
    split at h
    · split at h
      · split at h
        · split at h <;> cases h
        · cases h
      · cases h
    · cases h
theorem nar_char {z : Int} (h : 0 ≤ z ∧ z < 128) : vp_nar .char (oi z) = oi z := by
  have key : ∀ n : Nat, n < 128 → vp_nar .char (oi (n : Int)) = oi (n : Int) := by decide +kernel
  have := key z.toNat (by omega)
  rw [show ((z.toNat : Nat) : Int) = z by omega] at this
  exact this
theorem snd_castore (hd : decode cc pc = .ok (.castore, 1)) (hx : pc + 1 = nx) : SndS l k own cc nL ret ini pc (i_sC nx) := by
  refine ⟨?_, fun o lc st M s' h => by
    unfold i_sC at h
    repeat' split at h
    all_goals first | (cases h; exact Nat.le_refl _) | (cases h; exact Nat.le_succ _) | (cases h), fun o lc st M r M' h => by
    unfold i_sC at h
    repeat' split at h
    all_goals first | (cases h; rfl) | cases h⟩
  intro p e R s m args below meth c D lo n0 A ad cA RR M lc st ls H locs cells slots hC hR hl2 hol hos
  refine ⟨fun pc' lc' st' M' h => ?_, fun r M' h => ?_⟩
  · unfold i_sC at h
    split at h
    · rename_i z i a st
      split at h
      · rename_i hka
        split at h
        · rename_i hi
          split at h
          · rename_i hz
            cases h
            refine ⟨Nat.le_refl _, fun _ _ Q kk => ?_⟩
            subst hx
            obtain ⟨h1, h2⟩ := ok_ref (ok_hd (ok_tl (ok_tl hos))) (by omega)
            obtain ⟨he, hK⟩ := arr_at hC hR h1 h2 (by omega)
            rw [hka] at hK
            have hf : faW ad RR M.1 a = .inl fun j => oi (M.1 a j) := by unfold faW; rw [hka]; rfl
            rw [hf] at he
            have hi0 := ok_hd (ok_tl hos)
            refine va_cast (rest := st'.map (encV ad)) hC.1 hC.2.1 hK hR.2.1 hR.2.2.1 hR.2.2.2.1 (a - lo) 0 he rfl (vp_of hi0 hi) hd (fun H1 locs1 hP hD hS => ?_)
            have hR2 : Rel D lo n0 A s ad cA RR (up M.1 a i.toNat z, M.2) H1 locs1 cells slots := by
              refine hR.set h1 h2 rfl (PFt_up hR.1 h2 (fun q => absurd q (by rw [hka]; exact (show (0 : Nat) ≠ 1 by decide))) (fun _ => ok_hd hos) (by rw [hka]; exact (show (0 : Nat) ≠ 2 by decide))) ?_ (fun b hb => clW_up_ne hb) hP hD hS
              rw [clW_arr (by omega)]
              have hf2 : faW ad RR (up M.1 a i.toNat z) a = .inl fun j => oi (up M.1 a i.toNat z a j) := by unfold faW; rw [hka]; rfl
              rw [hf2]
              congr 4
              funext j
              unfold upd
              rw [oi_nat hi0]
              by_cases hj : j = i.toNat
              · subst hj
                rw [if_pos rfl, up_at]
                exact nar_char hz
              · rw [if_neg hj, up_ne _ _ hj]
            exact kk ad cA RR ls H1 locs1 cells slots (fun _ _ => rfl) (fun _ _ => rfl) hR2 hl2 hol (ok_tl (ok_tl (ok_tl hos)))
          · cases h
        · cases h
      · cases h
    · cases h
  · unfold i_sC at h
    split at h
    · split at h
      · split at h
        · split at h <;> cases h
        · cases h
      · cases h
    · cases h
theorem snd_lastore (hd : decode cc pc = .ok (.lastore, 1)) (hx : pc + 1 = nx) : SndS l k own cc nL ret ini pc (i_sLn nx) := by
  refine ⟨?_, fun o lc st M s' h => by
    unfold i_sLn at h
    repeat' split at h
    all_goals first | (cases h; exact Nat.le_refl _) | (cases h; exact Nat.le_succ _) | (cases h), fun o lc st M r M' h => by
    unfold i_sLn at h
    repeat' split at h
    all_goals first | (cases h; rfl) | cases h⟩
  intro p e R s m args below meth c D lo n0 A ad cA RR M lc st ls H locs cells slots hC hR hl2 hol hos
  refine ⟨fun pc' lc' st' M' h => ?_, fun r M' h => ?_⟩
  · unfold i_sLn at h
    split at h
    · rename_i z i a st
      split at h
      · rename_i hka
        split at h
        · rename_i hi
          cases h
          refine ⟨Nat.le_refl _, fun _ _ Q kk => ?_⟩
          subst hx
          obtain ⟨h1, h2⟩ := ok_ref (ok_hd (ok_tl (ok_tl hos))) (by omega)
          obtain ⟨he, hK⟩ := arr_at hC hR h1 h2 (by omega)
          rw [hka] at hK
          have hf : faW ad RR M.1 a = .inr (.inl fun j => ol (M.1 a j)) := by unfold faW; rw [if_pos hka]
          rw [hf] at he
          have hi0 := ok_hd (ok_tl hos)
          refine va_last (rest := st'.map (encV ad)) hC.1 hC.2.1 hK hR.2.1 hR.2.2.1 hR.2.2.2.1 (a - lo) 0 he rfl (vp_of hi0 hi) hd (fun H1 locs1 hP hD hS => ?_)
          have hR2 : Rel D lo n0 A s ad cA RR (up M.1 a i.toNat z, M.2) H1 locs1 cells slots := by
            refine hR.set h1 h2 rfl (PFt_up hR.1 h2 (fun _ => ok_hd hos) (fun q => absurd (by rw [hka]; rfl) q) (by rw [hka]; exact (show (1 : Nat) ≠ 2 by decide))) ?_ (fun b hb => clW_up_ne hb) hP hD hS
            rw [clW_arr (by omega)]
            have hf2 : faW ad RR (up M.1 a i.toNat z) a = .inr (.inl fun j => ol (up M.1 a i.toNat z a j)) := by unfold faW; rw [if_pos hka]
            rw [hf2]
            congr 5
            funext j
            unfold vp_updL
            rw [oi_nat hi0]
            by_cases hj : j = i.toNat
            · subst hj
              rw [if_pos rfl, up_at]
            · rw [if_neg hj, up_ne _ _ hj]
          exact kk ad cA RR ls H1 locs1 cells slots (fun _ _ => rfl) (fun _ _ => rfl) hR2 hl2 hol (ok_tl (ok_tl (ok_tl hos)))
        · cases h
      · cases h
    · cases h
  · unfold i_sLn at h
    split at h
    · split at h
      · split at h
        · cases h
        · cases h
      · cases h
    · cases h
end
