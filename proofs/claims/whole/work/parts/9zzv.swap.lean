/-! THE LAW: a world between calls; the two plans change places in it -/
section
variable {D : va_G} {s : State} {ad ad' : Nat → Nat} {cA cA' : Nat → ClassId} {RR RR' : Nat → Nat → Nat} {S S' : MS} {H H' : Heap} {a b k lo : Nat} {C : MC}
theorem sw_sw (c : Nat) : sw (sw c) = c := by unfold sw; (repeat' split) <;> omega
theorem sw_kt (c : Nat) : kt (sw c) = kt c := by
  have h : ∀ c, c < 48 → kt (sw c) = kt c := by decide +kernel
  by_cases e : c < 48
  · exact h c e
  · rw [show sw c = c by unfold sw; rw [if_neg (by omega), if_neg (by omega)]]
theorem sw_kl (c : Nat) : kl (sw c) = kl c := by
  have h : ∀ c, c < 48 → kl (sw c) = kl c := by decide +kernel
  by_cases e : c < 48
  · exact h c e
  · rw [show sw c = c by unfold sw; rw [if_neg (by omega), if_neg (by omega)]]
theorem sw_in {c : Nat} (h : 1 ≤ c ∧ c < 135) : 1 ≤ sw c ∧ sw c < 135 := by unfold sw; (repeat' split) <;> omega
theorem sw_0 (c : Nat) : sw c = 0 ↔ c = 0 := by unfold sw; (repeat' split) <;> omega
theorem sw_szC (c : Nat) : szC (sw c) = szC c := by unfold szC; rw [sw_kt, sw_kl]
theorem ft_arr {c : Nat} (h : ¬ c < 20) (h2 : c ≠ 24) (k : Nat) : ftC c k ≠ 2 := by
  unfold ftC
  rw [if_neg (by omega), if_neg (by omega)]
  (repeat' split) <;> first | decide | omega
theorem rvW_sw (r : Nat) : rvW (fun c => ad (sw c)) (sw r) = rvW ad r := by
  unfold rvW
  by_cases h : r = 0
  · subst h; rfl
  · rw [if_neg (by rw [sw_0]; exact h), if_neg h]
    show Value.ref (ad (sw (sw r))) = _
    rw [sw_sw]
theorem clW_sw (hS : ∀ k, ftC (kt a) k ≠ 2 → S' a k = S (sw a) k) : clW (fun c => ad (sw c)) (fun c => cA (sw c)) (fun a k => sw (RR (sw a) k)) S' a = clW ad cA RR S (sw a) := by
  unfold clW
  rw [sw_kt, sw_kl]
  by_cases h20 : kt a < 20
  · rw [if_pos h20, if_pos h20]
    congr 3
    funext k
    unfold fvW
    rw [sw_kt]
    by_cases h1 : ftC (kt a) k = 1
    · rw [if_pos h1, if_pos h1, hS k (by rw [h1]; decide)]
    · rw [if_neg h1, if_neg h1]
      by_cases h2 : ftC (kt a) k = 2
      · rw [if_pos h2, if_pos h2, rvW_sw]
      · rw [if_neg h2, if_neg h2, hS k h2]
  · rw [if_neg h20, if_neg h20]
    congr 3
    unfold faW
    rw [sw_kt]
    by_cases h21 : kt a = 21
    · rw [if_pos h21, if_pos h21]
      congr 2
      funext j
      rw [hS j (ft_arr h20 (by omega) j)]
    · rw [if_neg h21, if_neg h21]
      by_cases h24 : kt a = 24
      · rw [if_pos h24, if_pos h24]
        congr 4
        funext j
        show (if sw (RR (sw a) j) = 0 then none else some (ad (sw (sw (RR (sw a) j))))) = (if RR (sw a) j = 0 then none else some (ad (RR (sw a) j)))
        rw [sw_sw]
        by_cases e : RR (sw a) j = 0
        · rw [if_pos (by rw [e]; rfl), if_pos e]
        · rw [if_neg (by rw [sw_0]; exact e), if_neg e]
      · rw [if_neg h24, if_neg h24]
        congr 1
        funext j
        rw [hS j (ft_arr h20 h24 j)]
theorem swS_val (a k : Nat) : (swS S a k = S (sw a) k ∧ ¬((a = 22 ∧ k = 2) ∨ (a = 23 ∧ k = 1))) ∨ (swS S a k = 0 ∧ ((a = 22 ∧ k = 2) ∨ (a = 23 ∧ k = 1))) := by
  unfold swS up
  by_cases h1 : a = 23
  · subst h1
    by_cases h2 : k = 1
    · subst h2; exact Or.inr ⟨rfl, Or.inr ⟨rfl, rfl⟩⟩
    · rw [if_pos rfl, if_neg h2, if_neg (by decide)]; exact Or.inl ⟨rfl, by omega⟩
  · rw [if_neg h1]
    by_cases h3 : a = 22
    · subst h3
      by_cases h2 : k = 2
      · subst h2; exact Or.inr ⟨rfl, Or.inl ⟨rfl, rfl⟩⟩
      · rw [if_pos rfl, if_neg h2]; exact Or.inl ⟨rfl, by omega⟩
    · rw [if_neg h3]; exact Or.inl ⟨rfl, by omega⟩
theorem rf_sw : ∀ a, a < 135 → ∀ k, k < 20 → (ftC (kt a) k = 2 ∧ k < szC a ∧ ¬((a = 22 ∧ k = 2) ∨ (a = 23 ∧ k = 1))) → sw (rfC 5 31 (sw a) k) = rfC 31 5 a k := by decide +kernel
theorem sz_20 : ∀ a, a < 135 → (kt a < 20 ∨ kt a = 24) → szC a ≤ 20 := by decide +kernel
theorem ft_2223 : ftC (kt 22) 2 = 2 ∧ ftC (kt 23) 1 = 2 ∧ volC (kt 22) 2 ∧ volC (kt 23) 1 := ⟨by decide +kernel, by decide +kernel, Or.inl ⟨by decide +kernel, rfl⟩, Or.inr ⟨by decide +kernel, rfl⟩⟩
theorem PFt_sw (h : PFt 1 RR (S, (135, 1, 5, 31))) : PFt 1 (fun a k => sw (RR (sw a) k)) (swS S, (135, 1, 31, 5)) := by
  obtain ⟨h1, h2, h3, h4, h5, h6, h7, h8⟩ := h
  refine ⟨fun a k hf => ?_, fun a k hf => ?_, fun a k => ?_, fun a k a1 a2 hf hk hm => ?_, h5, fun z => absurd z (show ¬ (1 : Nat) = 0 by decide), h7, h8⟩
  · show inL (swS S a k)
    rcases swS_val (S := S) a k with ⟨e, -⟩ | ⟨e, -⟩
    · rw [e]; exact h1 (sw a) k (by rw [sw_kt]; exact hf)
    · rw [e]; unfold inL; decide
  · show inA (swS S a k)
    rcases swS_val (S := S) a k with ⟨e, -⟩ | ⟨e, -⟩
    · rw [e]; exact h2 (sw a) k (by rw [sw_kt]; exact hf)
    · rw [e]; unfold inA; decide
  · rcases h3 (sw a) k with e | e
    · exact Or.inl (by show sw (RR (sw a) k) = 0; rw [e]; rfl)
    · exact Or.inr (sw_in e)
  · have hne : ¬((a = 22 ∧ k = 2) ∨ (a = 23 ∧ k = 1)) := by
      rcases swS_val (S := S) a k with ⟨-, e⟩ | ⟨e, hx⟩
      · exact e
      · rcases hm with hm | hm
        · have hm : swS S a k = 1 := hm
          rw [e] at hm; exact absurd hm (by decide)
        · rcases hx with ⟨rfl, rfl⟩ | ⟨rfl, rfl⟩
          · exact absurd ft_2223.2.2.1 hm.2
          · exact absurd ft_2223.2.2.2 hm.2
    obtain ⟨s1, s2⟩ := sw_in ⟨a1, a2⟩
    have hs : swS S a k = S (sw a) k := by
      rcases swS_val (S := S) a k with ⟨e, -⟩ | ⟨-, e⟩
      · exact e
      · exact absurd e hne
    obtain ⟨g1, g2⟩ := h4 (sw a) k s1 s2 (by rw [sw_kt]; exact hf) (by rw [sw_szC]; exact hk) (by
      rcases hm with hm | hm
      · exact Or.inl (by show S (sw a) k = 1; rw [← hs]; exact hm)
      · exact Or.inr (by rw [sw_kt]; exact hm))
    have h20 : szC a ≤ 20 := sz_20 a a2 (by
      by_cases z : kt a < 20
      · exact Or.inl z
      · by_cases z2 : kt a = 24
        · exact Or.inr z2
        · exact absurd hf (ft_arr z z2 k))
    have g1 : RR (sw a) k = rfC 5 31 (sw a) k := g1
    refine ⟨?_, fun z => g2 ((sw_0 _).mp z)⟩
    show sw (RR (sw a) k) = rfC 31 5 a k
    rw [g1]
    exact rf_sw a a2 k (by omega) ⟨hf, hk, hne⟩
/-- a world between calls -/
def LW (D : va_G) (s : State) (lo : Nat) (C : MC) (ad : Nat → Nat) (cA : Nat → ClassId) (RR : Nat → Nat → Nat) (S : MS) (H : Heap) : Prop :=
  PFt lo RR (S, C) ∧ va_P D vwCl (wsW ad cA RR S lo C.1) H ∧ va_D (fun q : Nat => s.heap.size ≤ q) (wsW ad cA RR S lo C.1) ∧ (∀ b, lo ≤ b → b < C.1 → 20 ≤ kt b → ArrOfT s (cA b) (ataC (kt b)) ∧ va_RA s (cA b) (ataC (kt b))) ∧ strW ad s (fun q : Nat => s.heap.size ≤ q)
theorem LW_sw (h : LW D s 1 CE ad cA RR S H) : LW D s 1 CD (fun c => ad (sw c)) (fun c => cA (sw c)) (fun a k => sw (RR (sw a) k)) (swS S) H := by
  obtain ⟨h1, h2, ⟨h3, h3'⟩, h4, h5⟩ := h
  have hcl : ∀ a, clW (fun c => ad (sw c)) (fun c => cA (sw c)) (fun a k => sw (RR (sw a) k)) (swS S) a = clW ad cA RR S (sw a) := fun a => clW_sw (fun k hk => by
    rcases swS_val (S := S) a k with ⟨e, -⟩ | ⟨-, e⟩
    · exact e
    · rcases e with ⟨rfl, rfl⟩ | ⟨rfl, rfl⟩
      · exact absurd ft_2223.1 hk
      · exact absurd ft_2223.2.1 hk)
  refine ⟨PFt_sw h1, fun k q hk => ?_, ⟨fun i j p q hi hj hpq => ?_, fun k q hk => ?_⟩, fun b b1 b2 b3 => ?_, ?_⟩
  · obtain ⟨a, a1, a2, -, rfl⟩ := wsW_at hk
    obtain ⟨s1, s2⟩ := sw_in ⟨a1, a2⟩
    rw [hcl a]
    exact h2 (sw a - 1) (ad (sw a), clW ad cA RR S (sw a)) (wsW_get s1 s2)
  · obtain ⟨a, a1, a2, ea, rfl⟩ := wsW_at hi
    obtain ⟨b, b1, b2, eb, rfl⟩ := wsW_at hj
    obtain ⟨s1, s2⟩ := sw_in ⟨a1, a2⟩
    obtain ⟨t1, t2⟩ := sw_in ⟨b1, b2⟩
    have := h3 (sw a - 1) (sw b - 1) _ _ (wsW_get s1 s2) (wsW_get t1 t2) hpq
    have e : sw a = sw b := by omega
    have e2 : a = b := by rw [← sw_sw a, e, sw_sw]
    omega
  · obtain ⟨a, a1, a2, -, rfl⟩ := wsW_at hk
    obtain ⟨s1, s2⟩ := sw_in ⟨a1, a2⟩
    exact h3' (sw a - 1) (ad (sw a), clW ad cA RR S (sw a)) (wsW_get s1 s2)
  · obtain ⟨s1, s2⟩ := sw_in ⟨b1, b2⟩
    have := h4 (sw b) s1 s2 (by rw [sw_kt]; exact b3)
    rw [sw_kt] at this
    exact this
  · exact strW_ad rfl h5
/-- another world is left as it is -/
theorem LW.kept (h : LW D s lo C ad cA RR S H) (hk : ∀ b, lo ≤ b → b < C.1 → ad b < H.size → H'[ad b]? = H[ad b]?) : LW D s lo C ad cA RR S H' := by
  obtain ⟨h1, h2, h3, h4, h5⟩ := h
  refine ⟨h1, h2.kept (fun k x hx => ?_), h3, h4, h5⟩
  have hl := (h2 k x hx).lt
  obtain ⟨a, a1, a2, -, rfl⟩ := wsW_at hx
  exact hk a a1 a2 hl
end
