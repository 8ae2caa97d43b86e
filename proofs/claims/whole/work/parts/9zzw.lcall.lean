/-! THE LAW: a call of one of the two, from the law's own frame -/
section
variable {l : Launch} {k : Nat} {own : String} {cc : ByteArray} {nL : Nat} {ret : Option FieldType} {pc : Nat} {k' : Nat} {y : MethodName} {cc' : ByteArray} {nL' : Nat} {ret' : Option FieldType} {n ci : Nat}
theorem law_call (hck : CKind l k own cc nL pc ci k' y cc' nL' ret' n) (hM : MX l k' y cc' nL' ret') {p : Program} {e : Env} {R : Room} {s : State} {m : MethodId} {args : Array Value} {below : List Frame} {meth : Method} {c : Code} {D : va_G} {lo : Nat} {ad : Nat → Nat} {cA : Nat → ClassId} {RR : Nat → Nat → Nat} {S S' : MS} {C C' : MC} {a : List PV} {r : Option PV} {ls : Array Slot} {H : Heap} {locs : List Loc} {cells slots : Nat} {rest : List Value}
    (hC : Cx D own cc nL ret false k p e R s m args meth c) (hX : LW D s lo C ad cA RR S H) (hS : va_S (fun q : Nat => s.heap.size ≤ q) s.heap H locs) (hls : ls.size = nL) (hoa : ∀ v ∈ a, okV lo C.1 v) (h0 : (a.map pcat).sum ≤ nL') (hn : a.length = n) (hci : ci < 20 → kt (hdR a) = ci) (hrest : (rest.map fun v => v.category).sum ≤ 8) (hcall : call k' a (S, C) = some (r, (S', C'))) (hroom : cells + (C'.1 - C.1) ≤ R.cells ∧ slots + (zs C'.1 - zs C.1) ≤ R.slots) {Q : State → Prop}
    (kk : ∀ (ad' : Nat → Nat) (cA' : Nat → ClassId) (RR' : Nat → Nat → Nat) (H' : Heap) (locs' : List Loc), (∀ b, b < C.1 ∨ b = 999 → ad' b = ad b) → LW D s lo C' ad' cA' RR' S' H' → va_S (fun q : Nat => s.heap.size ≤ q) s.heap H' locs' → (∀ q : Nat, q < H.size → ¬ (∃ b, lo ≤ b ∧ b < C.1 ∧ q = ad b) → H'[q]? = H[q]?) → (∀ b, lo ≤ b → b < C'.1 → (∃ b0, lo ≤ b0 ∧ b0 < C.1 ∧ ad' b = ad b0) ∨ H.size ≤ ad' b) → W p l e R s m args below meth c H' locs' (cells + (C'.1 - C.1)) (slots + (zs C'.1 - zs C.1)) Q (F0 m (pc + 3) ls ((r.map (encV ad')).toList ++ rest))) :
    W p l e R s m args below meth c H locs cells slots Q (F0 m pc ls ((a.map (encV ad)).reverse ++ rest)) := by
  obtain ⟨g1, g2, g3, g6, g10⟩ := id hX
  obtain ⟨hmono, hMet⟩ := hM _ _ _ _ hcall h0 D lo H.size ad cA RR g1 hoa
  have hAK : ∀ q, AKs ad cA RR (S, C) lo H.size q → s.heap.size ≤ q := fun q hq => by
    rcases hq with ⟨j, x, hj⟩ | hq
    · exact g3.2 j _ hj
    · exact Nat.le_trans hS.1 hq
  have hrun := hck ret false p e R s m args below meth c D hC (PcK D lo H.size ad cA RR a (S, C)) (QcK D lo H.size ad cA RR (S, C) r (S', C')) (C'.1 - C.1) (zs C'.1 - zs C.1) (AKs ad cA RR (S, C) lo H.size) H locs cells slots ls (a.map (encV ad)) rest hMet (PcK_blind _ _ _ _ _ _ _ _)
    (fun U hU hW => ⟨rfl, by rw [hU], by rw [hU]; exact g2, va_K.moved hW.alike hC.2.2.2.2.2.2.2.1, g3.weaken (fun _ _ _ _ => trivial), fun b b1 b2 b3 => ⟨arrOfT_moved hW.alike (g6 b b1 b2 b3).1, (g6 b b1 b2 b3).2.moved hW.alike⟩, nwl_warm hW hC.2.2.2.2.2.2.2.2.1, hC.2.2.2.2.2.2.2.2.2.1.moved hW.alike, strW_to g10 hS hAK hU hW⟩)
    (by rw [List.length_map]; exact hn)
    (fun hci2 => by
      have h5 := hci hci2
      cases hA : a with
      | nil => rw [hA] at h5; exact absurd h5 (by show ¬ kt 0 = ci; rw [kt_0]; omega)
      | cons v L =>
        rw [hA] at h5
        rcases v with z | z | b
        · exact absurd h5 (by show ¬ kt 0 = ci; rw [kt_0]; omega)
        · exact absurd h5 (by show ¬ kt 0 = ci; rw [kt_0]; omega)
        · have h5 : kt b = ci := h5
          obtain ⟨b1, b2⟩ := ok_ref (hoa (.inr (.inr b)) (by rw [hA]; exact List.mem_cons_self)) (by omega)
          obtain ⟨q, hq⟩ : ∃ q, vwCl[ci]? = some q := by
            have h13 : ∀ b, b < 1000 → kt b < 13 ∨ 20 ≤ kt b := by decide +kernel
            have := h13 b (by have := g1.2.2.2.2.2.2.2; have : C.1 ≤ 900 := this; omega)
            have hl13 : vwCl.length = 13 := rfl
            exact ⟨_, List.getElem?_eq_getElem (by omega)⟩
          obtain ⟨cell, c1, c2, c3⟩ := va_recv hC.2.2.2.2.2.2.2.1 g2 hq (q0 := b - lo) (a := ad b) (by rw [wsW_get b1 b2, clW_obj (by omega), h5])
          exact ⟨ad b, L.map (encV ad), cell, q.1, q.2.1, q.2.2, rfl, hq, c1, c2, c3⟩)
    hls hrest hroom.1 hroom.2
  intro T hT X
  obtain ⟨v, st₀, t, T', L, h0', X', hL, e1, e2, ⟨ad', cA', RR', q1, q2, q3, q4, q5, q6, q7, q8, q9, q10⟩, stp⟩ := hrun T hT X
  have hal : s.vm.Alike t.vm := by rw [← e2]; exact X'.warmed.alike
  rw [h0'] at q9 q10
  have hv : v = r.map (encV ad') := by injection q3
  subst hv
  have hS2 : va_S (fun q : Nat => s.heap.size ≤ q) s.heap T'.heap (locs ++ L) := by
    refine ⟨Nat.le_trans hS.1 (by rw [e1]; exact q9), fun q a1 a2 => ?_, fun x hx => ?_⟩
    · rw [e1, q10 q (Nat.lt_of_lt_of_le a1 hS.1) (fun z => a2 (hAK q z))]
      exact hS.2.1 q a1 a2
    · rcases List.mem_append.mp hx with hx | hx
      · exact hS.2.2 x hx
      · exact hAK _ (hL x hx)
  have hLW : LW D s lo C' ad' cA' RR' S' T'.heap := ⟨q5, by rw [e1]; exact q6, q7.weaken (fun _ _ _ h => hAK _ h), fun b b1 b2 b3 => ⟨arrOfT_moved hal.symm (q8 b b1 b2 b3).1, (q8 b b1 b2 b3).2.moved hal.symm⟩, strW_ad (q1 999 (Or.inr rfl)) g10⟩
  obtain ⟨t2, a1, b1⟩ := kk ad' cA' RR' T'.heap (locs ++ L) q1 hLW hS2 (fun q x1 x2 => by
    rw [e1]
    refine q10 q x1 (fun z => ?_)
    rcases z with ⟨j, w, hj⟩ | z
    · obtain ⟨b, b1, b2, -, hb⟩ := wsW_at hj
      exact x2 ⟨b, b1, b2, (Prod.mk.inj hb).1⟩
    · omega) (fun b b1 b2 => by
      rcases q7.2 (b - lo) _ (wsW_get b1 b2) with ⟨j, w, hj⟩ | z
      · obtain ⟨b0, c1, c2, -, hb⟩ := wsW_at hj
        exact Or.inl ⟨b0, c1, c2, (Prod.mk.inj hb).1⟩
      · exact Or.inr z) T' rfl X'
  exact ⟨t2, stp t2 a1, b1⟩
theorem mL_call {S S' : MS} {C : MC} {ar : List PV} {z : Int} (h : mL k ar S C = some (z, S')) : call k ar (S, C) = some (some (.inr (.inl z)), (S', C)) := by
  unfold mL at h
  cases hc : call k ar (S, C) with
  | none => rw [hc] at h; cases h
  | some q =>
    rw [hc, Option.bind_some] at h
    obtain ⟨v, S1, C1⟩ := q
    cases v with
    | none => simp [cvL] at h
    | some v =>
      cases v with
      | inl v => simp [cvL] at h
      | inr v =>
        cases v with
        | inr v => simp [cvL] at h
        | inl y =>
          simp only [cvL] at h
          by_cases e : C1 = C
          · rw [if_pos e] at h
            injection h with h
            injection h with h1 h2
            rw [h1, h2, e]
          · rw [if_neg e] at h; cases h
end
