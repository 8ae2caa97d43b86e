/-! the JDK's own -/
section
variable {l : Launch} {k : Nat} {own : String} {cc : ByteArray} {nL : Nat} {ret : Option FieldType} {ini : Bool} {pc nx : Nat}
theorem cat_le (ad : Nat → Nat) : ∀ (L : List PV), ((L.map (encV ad)).map fun v => v.category).sum ≤ 2 * L.length := by
  intro L
  induction L with
  | nil => exact Nat.le_refl _
  | cons v L ih =>
    rw [List.map_cons, List.map_cons, List.sum_cons, List.length_cons]
    have : (encV ad v).category ≤ 2 := by rcases v with z | z | a <;> simp [encV, Value.category]
    omega

theorem snd_max {idx : Nat} (hk : 1 ≤ k) (h1 : Cond.methodLink own idx Lib.Math.max.name ∈ BIG) (h2 : Cond.static Lib.Math.max.name ∈ BIG) (h3 : Cond.initialized "java/lang/Math" ∈ BIG) (h4 : Cond.code Lib.Math.max.name Lib.Math.max.code 2 (some .int) ∈ BIG) (hd : decode cc pc = .ok (.invokestatic idx, 3)) (hx : pc + 3 = nx) : SndS l k own cc nL ret ini pc (i_m2 imx nx) := by
  refine ⟨?_, fun o lc st M s' h => by
    unfold i_m2 i_b2 at h
    repeat' split at h
    all_goals first | (cases h; exact Nat.le_refl _) | (cases h; exact Nat.le_succ _) | (cases h), fun o lc st M r M' h => by
    unfold i_m2 i_b2 at h
    repeat' split at h
    all_goals first | (cases h; rfl) | cases h⟩
  intro p e R s m args below meth c D lo n0 A ad cA RR M lc st ls H locs cells slots hC hR hl2 hol hos
  refine ⟨fun pc' lc' st' M' h => ?_, fun r M' h => ?_⟩
  · unfold i_m2 at h
    split at h
    · cases h
    · rename_i h8
      unfold i_b2 at h
      split at h
      · rename_i b a st0
        cases h
        refine ⟨Nat.le_refl _, fun hr1 hr2 Q kk => ?_⟩
        subst hx
        have hA := ok_hd (ok_tl hos)
        have hB := ok_hd hos
        have hw := hC.2.2.2.2.1
        have hfr := hC.2.2.2.2.2.2.2.2.2.2.1
        have hlo := hC.2.2.2.2.2.2.2.2.2.2.2.1
        have q1 := hR.2.2.2.2.2.2.2.1
        have q2 := hR.2.2.2.2.2.2.2.2.1
        have hct := cat_le ad st0
        simp only [List.length_cons] at h8
        refine va_mmax (rest := st0.map (encV ad)) hC.1 hC.2.1 (hC.2.2.1.trans hl2.1.symm) hC.2.2.2.1 (hw _ h1) (hw _ h2) (hw _ h3) (hw _ h4) (by omega) (by omega) (by omega) (by omega) hd ?_
        have hin : okV lo M.2.1 (vi (imx a b)) := by
          show inA _
          rw [imx_eq]
          split
          · first | exact hB | exact hA
          · first | exact hA | exact hB
        have := kk ad cA RR ls H locs cells slots (fun _ _ => rfl) (fun _ _ => rfl) hR hl2 hol (ok_cons hin (ok_tl (ok_tl hos)))
        have e : (if oi a < oi b then oi b else oi a) = oi (imx a b) := by
          rw [imx_eq]
          have hlt := oi_lt hA hB; have hgt := oi_lt hB hA
          simp only [hlt, hgt]
          repeat' split
          all_goals first | rfl | (exfalso; omega) | (congr 1; omega)
        rw [e]
        exact this
      · cases h
  · unfold i_m2 at h
    split at h
    · cases h
    · unfold i_b2 at h
      split at h <;> cases h

theorem snd_min {idx : Nat} (hk : 1 ≤ k) (h1 : Cond.methodLink own idx Lib.Math.min.name ∈ BIG) (h2 : Cond.static Lib.Math.min.name ∈ BIG) (h3 : Cond.initialized "java/lang/Math" ∈ BIG) (h4 : Cond.code Lib.Math.min.name Lib.Math.min.code 2 (some .int) ∈ BIG) (hd : decode cc pc = .ok (.invokestatic idx, 3)) (hx : pc + 3 = nx) : SndS l k own cc nL ret ini pc (i_m2 imn nx) := by
  refine ⟨?_, fun o lc st M s' h => by
    unfold i_m2 i_b2 at h
    repeat' split at h
    all_goals first | (cases h; exact Nat.le_refl _) | (cases h; exact Nat.le_succ _) | (cases h), fun o lc st M r M' h => by
    unfold i_m2 i_b2 at h
    repeat' split at h
    all_goals first | (cases h; rfl) | cases h⟩
  intro p e R s m args below meth c D lo n0 A ad cA RR M lc st ls H locs cells slots hC hR hl2 hol hos
  refine ⟨fun pc' lc' st' M' h => ?_, fun r M' h => ?_⟩
  · unfold i_m2 at h
    split at h
    · cases h
    · rename_i h8
      unfold i_b2 at h
      split at h
      · rename_i b a st0
        cases h
        refine ⟨Nat.le_refl _, fun hr1 hr2 Q kk => ?_⟩
        subst hx
        have hA := ok_hd (ok_tl hos)
        have hB := ok_hd hos
        have hw := hC.2.2.2.2.1
        have hfr := hC.2.2.2.2.2.2.2.2.2.2.1
        have hlo := hC.2.2.2.2.2.2.2.2.2.2.2.1
        have q1 := hR.2.2.2.2.2.2.2.1
        have q2 := hR.2.2.2.2.2.2.2.2.1
        have hct := cat_le ad st0
        simp only [List.length_cons] at h8
        refine va_mmin (rest := st0.map (encV ad)) hC.1 hC.2.1 (hC.2.2.1.trans hl2.1.symm) hC.2.2.2.1 (hw _ h1) (hw _ h2) (hw _ h3) (hw _ h4) (by omega) (by omega) (by omega) (by omega) hd ?_
        have hin : okV lo M.2.1 (vi (imn a b)) := by
          show inA _
          rw [imn_eq]
          split
          · first | exact hB | exact hA
          · first | exact hA | exact hB
        have := kk ad cA RR ls H locs cells slots (fun _ _ => rfl) (fun _ _ => rfl) hR hl2 hol (ok_cons hin (ok_tl (ok_tl hos)))
        have e : (if oi b < oi a then oi b else oi a) = oi (imn a b) := by
          rw [imn_eq]
          have hlt := oi_lt hA hB; have hgt := oi_lt hB hA
          simp only [hlt, hgt]
          repeat' split
          all_goals first | rfl | (exfalso; omega) | (congr 1; omega)
        rw [e]
        exact this
      · cases h
  · unfold i_m2 at h
    split at h
    · cases h
    · unfold i_b2 at h
      split at h <;> cases h

theorem snd_maxL {idx : Nat} (hk : 1 ≤ k) (h1 : Cond.methodLink own idx Lib.MathLoose.max_long.x ∈ BIG) (h2 : Cond.static Lib.MathLoose.max_long.x ∈ BIG) (h3 : Cond.initialized "java/lang/Math" ∈ BIG) (h4 : Cond.code Lib.MathLoose.max_long.x Lib.MathLoose.max_long.code 4 (some .long) ∈ BIG) (hd : decode cc pc = .ok (.invokestatic idx, 3)) (hx : pc + 3 = nx) : SndS l k own cc nL ret ini pc (i_m2L imx nx) := by
  refine ⟨?_, fun o lc st M s' h => by
    unfold i_m2L i_b2L at h
    repeat' split at h
    all_goals first | (cases h; exact Nat.le_refl _) | (cases h; exact Nat.le_succ _) | (cases h), fun o lc st M r M' h => by
    unfold i_m2L i_b2L at h
    repeat' split at h
    all_goals first | (cases h; rfl) | cases h⟩
  intro p e R s m args below meth c D lo n0 A ad cA RR M lc st ls H locs cells slots hC hR hl2 hol hos
  refine ⟨fun pc' lc' st' M' h => ?_, fun r M' h => ?_⟩
  · unfold i_m2L at h
    split at h
    · cases h
    · rename_i h8
      unfold i_b2L at h
      split at h
      · rename_i b a st0
        cases h
        refine ⟨Nat.le_refl _, fun hr1 hr2 Q kk => ?_⟩
        subst hx
        have hA := ok_hd (ok_tl hos)
        have hB := ok_hd hos
        have hw := hC.2.2.2.2.1
        have hfr := hC.2.2.2.2.2.2.2.2.2.2.1
        have hlo := hC.2.2.2.2.2.2.2.2.2.2.2.1
        have q1 := hR.2.2.2.2.2.2.2.1
        have q2 := hR.2.2.2.2.2.2.2.2.1
        have hct := cat_le ad st0
        simp only [List.length_cons] at h8
        refine va_mmax_long (rest := st0.map (encV ad)) hC.1 hC.2.1 (hC.2.2.1.trans hl2.1.symm) hC.2.2.2.1 (hw _ h1) (hw _ h2) (hw _ h3) (hw _ h4) (by omega) (by omega) (by omega) (by omega) hd ?_
        have hin : okV lo M.2.1 (vl (imx a b)) := by
          show inL _
          rw [imx_eq]
          split
          · first | exact hB | exact hA
          · first | exact hA | exact hB
        have := kk ad cA RR ls H locs cells slots (fun _ _ => rfl) (fun _ _ => rfl) hR hl2 hol (ok_cons hin (ok_tl (ok_tl hos)))
        have e : (if ol b < ol a then ol a else ol b) = ol (imx a b) := by
          rw [imx_eq]
          have hlt := ol_lt hA hB; have hgt := ol_lt hB hA
          simp only [hlt, hgt]
          repeat' split
          all_goals first | rfl | (exfalso; omega) | (congr 1; omega)
        rw [e]
        exact this
      · cases h
  · unfold i_m2L at h
    split at h
    · cases h
    · unfold i_b2L at h
      split at h <;> cases h

theorem snd_minL {idx : Nat} (hk : 1 ≤ k) (h1 : Cond.methodLink own idx Lib.MathLoose.min_long.x ∈ BIG) (h2 : Cond.static Lib.MathLoose.min_long.x ∈ BIG) (h3 : Cond.initialized "java/lang/Math" ∈ BIG) (h4 : Cond.code Lib.MathLoose.min_long.x Lib.MathLoose.min_long.code 4 (some .long) ∈ BIG) (hd : decode cc pc = .ok (.invokestatic idx, 3)) (hx : pc + 3 = nx) : SndS l k own cc nL ret ini pc (i_m2L imn nx) := by
  refine ⟨?_, fun o lc st M s' h => by
    unfold i_m2L i_b2L at h
    repeat' split at h
    all_goals first | (cases h; exact Nat.le_refl _) | (cases h; exact Nat.le_succ _) | (cases h), fun o lc st M r M' h => by
    unfold i_m2L i_b2L at h
    repeat' split at h
    all_goals first | (cases h; rfl) | cases h⟩
  intro p e R s m args below meth c D lo n0 A ad cA RR M lc st ls H locs cells slots hC hR hl2 hol hos
  refine ⟨fun pc' lc' st' M' h => ?_, fun r M' h => ?_⟩
  · unfold i_m2L at h
    split at h
    · cases h
    · rename_i h8
      unfold i_b2L at h
      split at h
      · rename_i b a st0
        cases h
        refine ⟨Nat.le_refl _, fun hr1 hr2 Q kk => ?_⟩
        subst hx
        have hA := ok_hd (ok_tl hos)
        have hB := ok_hd hos
        have hw := hC.2.2.2.2.1
        have hfr := hC.2.2.2.2.2.2.2.2.2.2.1
        have hlo := hC.2.2.2.2.2.2.2.2.2.2.2.1
        have q1 := hR.2.2.2.2.2.2.2.1
        have q2 := hR.2.2.2.2.2.2.2.2.1
        have hct := cat_le ad st0
        simp only [List.length_cons] at h8
        refine va_mmin_long (rest := st0.map (encV ad)) hC.1 hC.2.1 (hC.2.2.1.trans hl2.1.symm) hC.2.2.2.1 (hw _ h1) (hw _ h2) (hw _ h3) (hw _ h4) (by omega) (by omega) (by omega) (by omega) hd ?_
        have hin : okV lo M.2.1 (vl (imn a b)) := by
          show inL _
          rw [imn_eq]
          split
          · first | exact hB | exact hA
          · first | exact hA | exact hB
        have := kk ad cA RR ls H locs cells slots (fun _ _ => rfl) (fun _ _ => rfl) hR hl2 hol (ok_cons hin (ok_tl (ok_tl hos)))
        have e : (if ol b < ol a then ol b else ol a) = ol (imn a b) := by
          rw [imn_eq]
          have hlt := ol_lt hA hB; have hgt := ol_lt hB hA
          simp only [hlt, hgt]
          repeat' split
          all_goals first | rfl | (exfalso; omega) | (congr 1; omega)
        rw [e]
        exact this
      · cases h
  · unfold i_m2L at h
    split at h
    · cases h
    · unfold i_b2L at h
      split at h <;> cases h

theorem cpy_ne {S : MS} {a b : Nat} {sp dp n : Int} {c : Nat} (h : c ≠ b) : cpy S a b sp dp n c = S c := by
  funext k
  unfold cpy
  rw [if_neg h]
theorem clW_cpy_ne {ad : Nat → Nat} {cA : Nat → ClassId} {RR : Nat → Nat → Nat} {S : MS} {a b : Nat} {sp dp n : Int} {c : Nat} (h : c ≠ b) : clW ad cA RR S c = clW ad cA RR (cpy S a b sp dp n) c :=
  clW_congr rfl (fun k => by rw [cpy_ne h]) (fun _ => rfl)
theorem PFt_cpy {lo : Nat} {RR : Nat → Nat → Nat} {M : PM} {a b : Nat} {sp dp n : Int} (h : PFt lo RR M) (hb : b < M.2.1) (hk : kt a = kt b) (ht : kt a = 20 ∨ kt a = 21) : PFt lo RR (cpy M.1 a b sp dp n, M.2) := by
  obtain ⟨g1, g2, g3, g4, g5, g6, g7, g8⟩ := h
  have hf : ∀ i j, ftC (kt b) i = ftC (kt b) j ∧ ftC (kt b) i ≠ 2 := by
    intro i j
    rw [← hk]
    rcases ht with e | e <;> rw [e] <;> exact ⟨rfl, fun z => by cases z⟩
  refine ⟨fun c j hc => ?_, fun c j hc => ?_, g3, fun c j hb1 hb2 hb3 hb4 hb5 => ?_, g5, fun hph c hc j => ?_, g7, g8⟩
  · show inL (cpy M.1 a b sp dp n c j)
    by_cases e : c = b
    · unfold cpy
      rw [if_pos e]
      split
      · exact g1 a _ (by rw [hk, (hf _ j).1, ← e]; exact hc)
      · exact g1 c j hc
    · rw [cpy_ne e]; exact g1 c j hc
  · show inA (cpy M.1 a b sp dp n c j)
    by_cases e : c = b
    · unfold cpy
      rw [if_pos e]
      split
      · exact g2 a _ (by rw [hk, (hf _ j).1, ← e]; exact hc)
      · exact g2 c j hc
    · rw [cpy_ne e]; exact g2 c j hc
  · by_cases e : c = b
    · exact absurd (e ▸ hb3) (hf j j).2
    · have hb5 : cpy M.1 a b sp dp n c j = 1 ∨ _ := hb5
      rw [cpy_ne e] at hb5
      exact g4 c j hb1 hb2 hb3 hb4 hb5
  · have hc : M.2.1 ≤ c := hc
    show cpy M.1 a b sp dp n c j = 0 ∧ _
    rw [cpy_ne (by omega)]
    exact g6 hph c hc j
theorem cpy_va {α : Type} (o : Int → α) (S : MS) {a b : Nat} {sp dp n : Int} (hs : 0 ≤ sp) (hd : 0 ≤ dp) (hn : 0 ≤ n) : va_cpy (fun j => o (S a j)) (fun j => o (S b j)) sp.toNat dp.toNat n.toNat = fun j => o (cpy S a b sp dp n b j) := by
  funext j
  unfold va_cpy cpy
  rw [if_pos rfl]
  by_cases e : dp ≤ (j : Int) ∧ (j : Int) < dp + n
  · rw [if_pos e, if_pos (by omega)]
    rw [show sp.toNat + (j - dp.toNat) = (sp + ((j : Int) - dp)).toNat by omega]
  · rw [if_neg e, if_neg (by omega)]
theorem arr_at2 {D : va_G} {lo n0 : Nat} {A : Nat → Prop} {s : State} {ad : Nat → Nat} {cA : Nat → ClassId} {RR : Nat → Nat → Nat} {M : PM} {H : Heap} {locs : List Loc} {cells slots a b : Nat} {own : String} {cc : ByteArray} {nL : Nat} {ret : Option FieldType} {ini : Bool} {k : Nat} {p : Program} {e : Env} {R : Room} {m : MethodId} {args : Array Value} {meth : Method} {c : Code}
    (hC : Cx D own cc nL ret ini k p e R s m args meth c) (hR : Rel D lo n0 A s ad cA RR M H locs cells slots) (h1 : lo ≤ a) (h2 : a < M.2.1) (ht : 20 ≤ kt a) (h1' : lo ≤ b) (h2' : b < M.2.1) (ht' : 20 ≤ kt b) : va_K D vwCl [(cA a, ataC (kt a)), (cA b, ataC (kt b))] s := by
  refine ⟨hC.2.2.2.2.2.2.2.1.1, fun j q hq => ?_⟩
  have hj : j < 2 := (List.getElem?_eq_some_iff.mp hq).1
  rcases (show j = 0 ∨ j = 1 by omega) with rfl | rfl
  · cases hq; exact hR.2.2.2.2.2.1 a h1 h2 ht
  · cases hq; exact hR.2.2.2.2.2.1 b h1' h2' ht'
theorem snd_cpy {idx : Nat} (hk : 1 ≤ k) (h1 : Cond.methodLink own idx arraycopyName ∈ BIG) (h2 : Cond.static arraycopyName ∈ BIG) (h3 : Cond.initialized "java/lang/System" ∈ BIG) (h4 : Cond.native arraycopyName ∈ BIG) (hd : decode cc pc = .ok (.invokestatic idx, 3)) (hx : pc + 3 = nx) : SndS l k own cc nL ret ini pc (i_cpy nx) := by
  refine ⟨?_, fun o lc st M s' h => by
    unfold i_cpy at h
    repeat' split at h
    all_goals first | (cases h; exact Nat.le_refl _) | (cases h; exact Nat.le_succ _) | (cases h), fun o lc st M r M' h => by
    unfold i_cpy at h
    repeat' split at h
    all_goals first | (cases h; rfl) | cases h⟩
  intro p e R s m args below meth c D lo n0 A ad cA RR M lc st ls H locs cells slots hC hR hl2 hol hos
  refine ⟨fun pc' lc' st' M' h => ?_, fun r M' h => ?_⟩
  · unfold i_cpy at h
    split at h
    · cases h
    · rename_i h12
      split at h
      · rename_i n dp b sp a st0
        split at h
        · rename_i hc1
          split at h
          · rename_i hc2
            cases h
            refine ⟨Nat.le_refl _, fun hr1 hr2 Q kk => ?_⟩
            subst hx
            obtain ⟨c1, c2, c3⟩ := hc1
            obtain ⟨d1, d2, d3, d4, d5⟩ := hc2
            have hN := ok_hd hos
            have hDp := ok_hd (ok_tl hos)
            have hSp := ok_hd (ok_tl (ok_tl (ok_tl hos)))
            obtain ⟨b1, b2⟩ := ok_ref (ok_hd (ok_tl (ok_tl hos))) (by omega)
            obtain ⟨a1, a2⟩ := ok_ref (ok_hd (ok_tl (ok_tl (ok_tl (ok_tl hos))))) (by omega)
            obtain ⟨hea, -⟩ := arr_at hC hR a1 a2 (by omega)
            obtain ⟨heb, -⟩ := arr_at hC hR b1 b2 (by omega)
            have hK := arr_at2 hC hR a1 a2 (by omega) b1 b2 (by omega)
            have hw := hC.2.2.2.2.1
            have hfr := hC.2.2.2.2.2.2.2.2.2.2.1
            have hlo := hC.2.2.2.2.2.2.2.2.2.2.2.1
            have hct := cat_le ad st'
            simp only [List.length_cons] at h12
            have hnw : nativeFrameWords "java/lang/System" "arraycopy" 5 = 7 := by decide
            have nS := oi_nat hSp
            have nD := oi_nat hDp
            have nN := oi_nat hN
            have kk2 := kk ad cA RR ls
            have hkb := kl_nn b
            have hka := kl_nn a
            rcases c2 with e | e
            · have fa : faW ad RR M.1 a = .inl fun j => oi (M.1 a j) := by unfold faW; rw [e]; rfl
              have fb : faW ad RR M.1 b = .inl fun j => oi (M.1 b j) := by unfold faW; rw [← c1, e]; rfl
              rw [fa] at hea
              rw [fb] at heb
              rw [← c1, e] at hK
              refine va_copyi (rest := st'.map (encV ad)) hC.1 hC.2.1 (hC.2.2.1.trans hl2.1.symm) hC.2.2.2.1 (hw _ h1) (hw _ h4) (hw _ h2) (hw _ h3) hK hR.2.1 hR.2.2.1 hR.2.2.2.1 (a - lo) (b - lo) 0 1 hea heb rfl rfl rfl (by rw [oi_neg hSp]; omega) (by rw [oi_neg hDp]; omega) (by rw [oi_neg hN]; omega) (by omega) (by omega) (fun _ _ => rfl) (by omega) (by omega) hd (fun H1 locs1 hP hD hS => ?_)
              rw [nS, nD, nN, cpy_va oi M.1 d1 d2 d3] at hP hD
              have hR2 : Rel D lo n0 A s ad cA RR (cpy M.1 a b sp dp n, M.2) H1 locs1 cells slots := by
                refine hR.set b1 b2 rfl (PFt_cpy hR.1 b2 c1 (Or.inl e)) ?_ (fun b hb => clW_cpy_ne hb) hP hD hS
                rw [clW_arr (by omega)]
                have hf2 : faW ad RR (cpy M.1 a b sp dp n) b = .inl fun j => oi (cpy M.1 a b sp dp n b j) := by unfold faW; rw [← c1, e]; rfl
                rw [hf2]
              exact kk2 H1 locs1 cells slots (fun _ _ => rfl) (fun _ _ => rfl) hR2 hl2 hol (ok_tl (ok_tl (ok_tl (ok_tl (ok_tl hos)))))
            · have fa : faW ad RR M.1 a = .inr (.inl fun j => ol (M.1 a j)) := by unfold faW; rw [if_pos e]
              have fb : faW ad RR M.1 b = .inr (.inl fun j => ol (M.1 b j)) := by unfold faW; rw [if_pos (c1.symm.trans e)]
              rw [fa] at hea
              rw [fb] at heb
              rw [← c1, e] at hK
              refine va_copyl (rest := st'.map (encV ad)) hC.1 hC.2.1 (hC.2.2.1.trans hl2.1.symm) hC.2.2.2.1 (hw _ h1) (hw _ h4) (hw _ h2) (hw _ h3) hK hR.2.1 hR.2.2.1 hR.2.2.2.1 (a - lo) (b - lo) 0 1 hea heb rfl rfl rfl (by rw [oi_neg hSp]; omega) (by rw [oi_neg hDp]; omega) (by rw [oi_neg hN]; omega) (by omega) (by omega) (fun _ _ => rfl) (by omega) (by omega) hd (fun H1 locs1 hP hD hS => ?_)
              rw [nS, nD, nN, cpy_va ol M.1 d1 d2 d3] at hP hD
              have hR2 : Rel D lo n0 A s ad cA RR (cpy M.1 a b sp dp n, M.2) H1 locs1 cells slots := by
                refine hR.set b1 b2 rfl (PFt_cpy hR.1 b2 c1 (Or.inr e)) ?_ (fun b hb => clW_cpy_ne hb) hP hD hS
                rw [clW_arr (by omega)]
                have hf2 : faW ad RR (cpy M.1 a b sp dp n) b = .inr (.inl fun j => ol (cpy M.1 a b sp dp n b j)) := by unfold faW; rw [if_pos (c1.symm.trans e)]
                rw [hf2]
              exact kk2 H1 locs1 cells slots (fun _ _ => rfl) (fun _ _ => rfl) hR2 hl2 hol (ok_tl (ok_tl (ok_tl (ok_tl (ok_tl hos)))))
          · cases h
        · cases h
      · cases h
  · unfold i_cpy at h
    split at h
    · cases h
    · split at h
      · split at h
        · split at h <;> cases h
        · cases h
      · cases h
theorem snd_cS (hd : decode cc pc = .ok (.ldc 74, 2)) (ho : own = "CarbonMinistry$Text") (hx : pc + 2 = nx) : SndS l k own cc nL ret ini pc (i_cS nx) := by
  refine ⟨?_, fun o lc st M s' h => by
    unfold i_cS at h
    repeat' split at h
    all_goals first | (cases h; exact Nat.le_refl _) | (cases h; exact Nat.le_succ _) | (cases h), fun o lc st M r M' h => by
    unfold i_cS at h
    repeat' split at h
    all_goals first | (cases h; rfl) | cases h⟩
  intro p e R s m args below meth c D lo n0 A ad cA RR M lc st ls H locs cells slots hC hR hl2 hol hos
  refine ⟨fun pc' lc' st' M' h => ?_, fun r M' h => ?_⟩
  · unfold i_cS at h
    cases h
    refine ⟨Nat.le_refl _, fun hr1 hr2 Q kk => ?_⟩
    subst hx
    subst ho
    exact va_ldcS hC.1 hC.2.1 hC.2.2.2.1 hR.2.2.2.2.2.2.2.2.2.2.2.2 hd (kk ad cA RR ls H locs cells slots (fun _ _ => rfl) (fun _ _ => rfl) hR hl2 hol (ok_cons (Or.inr rfl) hos))
  · unfold i_cS at h
    cases h
end
