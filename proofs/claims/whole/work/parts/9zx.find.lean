/-! MINISTRY: which name it is, both -/
section
variable {n : Nat} {P S T : MS} {g : Nat → Int} {E : Nat} {q : Int}
/-- the first from i on that is c, but for one -/
def fixN (f : Nat → Int) (c but : Int) : Nat → Nat → Int
  | 0, _ => -1
  | n + 1, i => if (i : Int) = but then fixN f c but n (i + 1) else if f i = c then (i : Int) else fixN f c but n (i + 1)
theorem fixN_eq {f f' : Nat → Int} {c v but : Int} : ∀ (j i : Nat), (∀ k, i ≤ k → k < i + j → (f k = c ↔ f' k = v)) → fixN f c but j i = fixN f' v but j i := by
  intro j
  induction j with
  | zero => intro i _; rfl
  | succ j ih =>
    intro i h
    have h1 := h i (Nat.le_refl _) (by omega)
    have h2 := ih (i + 1) (fun k a b => h k (by omega) (by omega))
    show (if (i : Int) = but then fixN f c but j (i + 1) else if f i = c then (i : Int) else fixN f c but j (i + 1)) = (if (i : Int) = but then fixN f' v but j (i + 1) else if f' i = v then (i : Int) else fixN f' v but j (i + 1))
    rw [h2]
    by_cases c0 : f i = c
    · rw [if_pos c0, if_pos (h1.mp c0)]
    · rw [if_neg c0, if_neg (fun q => c0 (h1.mpr q))]
theorem fixN_b {f : Nat → Int} {c but : Int} : ∀ (j i : Nat), fixN f c but j i = -1 ∧ (∀ k, i ≤ k → k < i + j → (k : Int) ≠ but → f k ≠ c) ∨ ∃ k : Nat, fixN f c but j i = (k : Int) ∧ i ≤ k ∧ k < i + j ∧ f k = c ∧ (k : Int) ≠ but := by
  intro j
  induction j with
  | zero => intro i; exact Or.inl ⟨rfl, fun k a b => by omega⟩
  | succ j ih =>
    intro i
    show (if (i : Int) = but then fixN f c but j (i + 1) else if f i = c then (i : Int) else fixN f c but j (i + 1)) = -1 ∧ _ ∨ ∃ k : Nat, (if (i : Int) = but then fixN f c but j (i + 1) else if f i = c then (i : Int) else fixN f c but j (i + 1)) = (k : Int) ∧ _
    have go : ((i : Int) = but ∨ f i ≠ c) → fixN f c but j (i + 1) = -1 ∧ (∀ k, i ≤ k → k < i + (j + 1) → (k : Int) ≠ but → f k ≠ c) ∨ ∃ k : Nat, fixN f c but j (i + 1) = (k : Int) ∧ i ≤ k ∧ k < i + (j + 1) ∧ f k = c ∧ (k : Int) ≠ but := fun hi => by
      rcases ih (i + 1) with ⟨a, b⟩ | ⟨k, a1, a2, a3, a4, a5⟩
      · refine Or.inl ⟨a, fun k k1 k2 k3 => ?_⟩
        by_cases e : k = i
        · subst e
          rcases hi with hi | hi
          · exact absurd hi k3
          · exact hi
        · exact b k (by omega) (by omega) k3
      · exact Or.inr ⟨k, a1, by omega, by omega, a4, a5⟩
    by_cases c0 : (i : Int) = but
    · rw [if_pos c0]; exact go (Or.inl c0)
    · rw [if_neg c0]
      by_cases c1 : f i = c
      · rw [if_pos c1]; exact Or.inr ⟨i, rfl, Nat.le_refl _, by omega, c1, c0⟩
      · rw [if_neg c1]; exact go (Or.inr c1)
theorem c_idxO {m : Nat} {c : Int} (hm : m ≤ 8) : ∀ (j i : Nat), i + j = m → Cl_indexOf_officerName_2 c m i S = some (fixN (S 6) c (-1) j i, S) := by
  intro j
  induction j with
  | zero => intro i e; rw [e_Cl_indexOf_officerName_2, if_neg (by omega)]; rfl
  | succ j ih =>
    intro i e
    rw [e_Cl_indexOf_officerName_2, if_pos (by omega), if_pos (by omega), if_pos (by omega), Int.toNat_natCast, wr_suc2 (show i < 8 by omega) (by decide)]
    show _ = some ((if (i : Int) = -1 then fixN (S 6) c (-1) j (i + 1) else if S 6 i = c then (i : Int) else fixN (S 6) c (-1) j (i + 1)), S)
    rw [if_neg (show ¬ (i : Int) = -1 by omega)]
    by_cases c0 : S 6 i = c
    · rw [if_pos c0, if_pos c0]
    · rw [if_neg c0, if_neg c0]; exact ih (i + 1) (by omega)
theorem c_idxF {m : Nat} {c : Int} (hm : m ≤ 4) : ∀ (j i : Nat), i + j = m → Cl_indexOf_feelingName_2 c m i S = some (fixN (S 9) c (-1) j i, S) := by
  intro j
  induction j with
  | zero => intro i e; rw [e_Cl_indexOf_feelingName_2, if_neg (by omega)]; rfl
  | succ j ih =>
    intro i e
    rw [e_Cl_indexOf_feelingName_2, if_pos (by omega), if_pos (by omega), if_pos (by omega), Int.toNat_natCast, wr_suc2 (show i < 4 by omega) (by decide)]
    show _ = some ((if (i : Int) = -1 then fixN (S 9) c (-1) j (i + 1) else if S 9 i = c then (i : Int) else fixN (S 9) c (-1) j (i + 1)), S)
    rw [if_neg (show ¬ (i : Int) = -1 by omega)]
    by_cases c0 : S 9 i = c
    · rw [if_pos c0, if_pos c0]
    · rw [if_neg c0, if_neg c0]; exact ih (i + 1) (by omega)
theorem m_nm8 {m kd : Nat} {v but : Int} (hk : kd < 2) (hm : m ≤ 8) (hT : T 430 kd = (m : Int)) : ∀ (j i : Nat), i + j = m → Mo_named_8 kd but v i T = if fixN (fun k => T 431 (8 * kd + k)) v but j i = -1 then (if T 401 5 = 0 then ((m_Mo_fail 3 (T 401 37) T).bind fun p1 => some (0, p1)) else some (0, T)) else some (fixN (fun k => T 431 (8 * kd + k)) v but j i, T) := by
  intro j
  induction j with
  | zero =>
    intro i e
    rw [e_Mo_named_8, if_pos (by omega), Int.toNat_natCast, hT, if_neg (by omega), if_pos (show fixN (fun k => T 431 (8 * kd + k)) v but 0 i = -1 from rfl)]
  | succ j ih =>
    intro i e
    rw [e_Mo_named_8, if_pos (by omega), Int.toNat_natCast, hT, if_pos (by omega), rw8 (show kd < 8 by omega) (show i < 8 by omega), wr_suc2 (show i < 8 by omega) (by decide)]
    show _ = if (if (i : Int) = but then fixN (fun k => T 431 (8 * kd + k)) v but j (i + 1) else if T 431 (8 * kd + i) = v then (i : Int) else fixN (fun k => T 431 (8 * kd + k)) v but j (i + 1)) = -1 then _ else some ((if (i : Int) = but then fixN (fun k => T 431 (8 * kd + k)) v but j (i + 1) else if T 431 (8 * kd + i) = v then (i : Int) else fixN (fun k => T 431 (8 * kd + k)) v but j (i + 1)), T)
    by_cases c0 : (i : Int) = but
    · simp only [if_pos c0]; exact ih (i + 1) (by omega)
    · simp only [if_neg c0]
      rw [if_pos (show (0 : Int) ≤ ((8 * kd + i : Nat) : Int) ∧ ((8 * kd + i : Nat) : Int) < 32 by omega), Int.toNat_natCast]
      by_cases c1 : T 431 (8 * kd + i) = v
      · simp only [if_pos c1]
        rw [if_pos (lcp_0.mpr c1), if_neg (show ¬ (i : Int) = -1 by omega)]
      · simp only [if_neg c1]
        rw [if_neg (fun q => c1 (lcp_0.mp q))]
        exact ih (i + 1) (by omega)
/-- with a fault, the names that are there are gone over and nothing more -/
theorem bad_new15 {v : Int} {kd m : Nat} (hk : kd < 2) (hm : m ≤ 8) (hT : T 430 kd = (m : Int)) (hb : T 401 5 ≠ 0) : ∀ (j i : Nat), i + j = m → Mo_newName_15 v kd i T = Mo_newName_7 v ((kd + 1 : Nat) : Int) T := by
  intro j
  induction j with
  | zero => intro i e; rw [e_Mo_newName_15, if_pos (by omega), Int.toNat_natCast, hT, if_neg (by omega), wr_suc2 hk (by decide)]
  | succ j ih => intro i e; rw [e_Mo_newName_15, if_pos (by omega), Int.toNat_natCast, hT, if_pos (by omega), if_neg hb, wr_suc2 (show i < 8 by omega) (by decide)]; exact ih (i + 1) (by omega)
theorem bad_new7 {v : Int} {m0 m1 : Nat} (h0 : m0 ≤ 8) (h1 : m1 ≤ 8) (hT0 : T 430 0 = (m0 : Int)) (hT1 : T 430 1 = (m1 : Int)) (hb : T 401 5 ≠ 0) : Mo_newName_7 v 0 T = some (v, T) ∧ Mo_newName_7 v 1 T = some (v, T) := by
  have e2 : Mo_newName_7 v 2 T = some (v, T) := by rw [e_Mo_newName_7, if_neg (by decide)]
  have e1 : Mo_newName_7 v 1 T = some (v, T) := by
    have := bad_new15 (v := v) (kd := 1) (by decide) h1 hT1 hb m1 0 (Nat.zero_add _)
    have this : Mo_newName_15 v 1 0 T = Mo_newName_7 v 2 T := this
    rw [e_Mo_newName_7, if_pos (by decide), this, e2]
  have := bad_new15 (v := v) (kd := 0) (by decide) h0 hT0 hb m0 0 (Nat.zero_add _)
  have this : Mo_newName_15 v 0 0 T = Mo_newName_7 v 1 T := this
  exact ⟨by rw [e_Mo_newName_7, if_pos (by decide), this, e1], e1⟩
theorem m_new15 {v : Int} {kd m : Nat} (hk : kd < 2) (hm : m ≤ 8) (hT : T 430 kd = (m : Int)) (h5 : T 401 5 = 0) : ∀ (j i : Nat), i + j = m → (fixN (fun k => T 431 (8 * kd + k)) v (-1) j i = -1 → Mo_newName_15 v kd i T = Mo_newName_7 v ((kd + 1 : Nat) : Int) T) ∧ (fixN (fun k => T 431 (8 * kd + k)) v (-1) j i ≠ -1 → Mo_newName_15 v kd i T = Mo_newName_7 v ((kd + 1 : Nat) : Int) (up (up T 401 5 3) 401 6 (T 401 37))) := by
  intro j
  induction j with
  | zero =>
    intro i e
    refine ⟨fun _ => by rw [e_Mo_newName_15, if_pos (by omega), Int.toNat_natCast, hT, if_neg (by omega), wr_suc2 hk (by decide)], fun h => absurd rfl h⟩
  | succ j ih =>
    intro i e
    have hx : fixN (fun k => T 431 (8 * kd + k)) v (-1) (j + 1) i = if T 431 (8 * kd + i) = v then (i : Int) else fixN (fun k => T 431 (8 * kd + k)) v (-1) j (i + 1) := by
      show (if (i : Int) = -1 then _ else _) = _
      rw [if_neg (show ¬ (i : Int) = -1 by omega)]
    have st : Mo_newName_15 v kd i T = if lcp (T 431 (8 * kd + i)) v = 0 then ((m_Mo_fail 3 (T 401 37) T).bind fun p1 => Mo_newName_15 v kd ((i + 1 : Nat) : Int) p1) else Mo_newName_15 v kd ((i + 1 : Nat) : Int) T := by
      rw [e_Mo_newName_15, if_pos (by omega), Int.toNat_natCast, hT, if_pos (by omega), if_pos h5, rw8 (show kd < 8 by omega) (show i < 8 by omega), if_pos (show (0 : Int) ≤ ((8 * kd + i : Nat) : Int) ∧ ((8 * kd + i : Nat) : Int) < 32 by omega), Int.toNat_natCast, wr_suc2 (show i < 8 by omega) (by decide)]
    rw [hx, st]
    by_cases c1 : T 431 (8 * kd + i) = v
    · rw [if_pos c1, if_pos (lcp_0.mpr c1), m_fail h5, Option.bind_some]
      refine ⟨fun h => by omega, fun _ => ?_⟩
      exact bad_new15 (T := up (up T 401 5 3) 401 6 (T 401 37)) hk hm (by rw [up_c (by decide), up_c (by decide)]; exact hT) (by rw [up_k (by decide), up_s]; decide) j (i + 1) (by omega)
    · rw [if_neg c1, if_neg (fun q => c1 (lcp_0.mp q))]
      exact ih (i + 1) (by omega)
end
