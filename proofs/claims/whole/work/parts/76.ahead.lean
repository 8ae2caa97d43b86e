/-! AHEAD: in thought -/
/-- n whole days (in thought: nothing kept) -/
def flowIt (P : MS) : Nat → (Nat → Int) → Nat → Int
  | 0, m => m
  | n + 1, m => dayP (goW P (flowIt P n m))
def oneW (P : MS) (f : Nat) : Nat → (Nat → Int) → Nat → Int
  | 0, m => m
  | n + 1, m => dayP (goF P (oneW P f n m) f)
theorem dayP_0 (w : Nat → Int) : dayP w 0 = w 0 + 1 := by unfold dayP; rw [if_pos rfl]
theorem dayP_k {w : Nat → Int} {i : Nat} (h : i ≠ 0) : dayP w i = w i := by unfold dayP; rw [if_neg h]
theorem flowIt_0 (P : MS) (m : Nat → Int) : ∀ n : Nat, flowIt P n m 0 = m 0 + n := by
  intro n
  induction n with
  | zero => show m 0 = m 0 + 0; omega
  | succ n ih => rw [flowIt, dayP_0, goW_o _ _ (Or.inl (by decide)), ih]; omega
theorem flowIt_k (P : MS) (m : Nat → Int) {i : Nat} (h0 : i ≠ 0) (h : i < 25 ∨ 57 ≤ i) : ∀ n : Nat, flowIt P n m i = m i := by
  intro n
  induction n with
  | zero => rfl
  | succ n ih => rw [flowIt, dayP_k h0, goW_o _ _ h, ih]
theorem flowIt_WV {P : MS} (hP : PLN P) {m : Nat → Int} (hW : WV P m) : ∀ n : Nat, m 0 + n ≤ 2000 → WV P (flowIt P n m) := by
  intro n
  induction n with
  | zero => intro _; exact hW
  | succ n ih =>
    intro h
    refine WV_day (goW_WV hP (ih (by omega))) ?_
    rw [goW_o _ _ (Or.inl (by decide)), flowIt_0]
    omega
theorem oneW_0 (P : MS) (f : Nat) (m : Nat → Int) : ∀ n : Nat, oneW P f n m 0 = m 0 + n := by
  intro n
  induction n with
  | zero => show m 0 = m 0 + 0; omega
  | succ n ih => rw [oneW, dayP_0, goF_out (Or.inl (by decide)), ih]; omega
theorem oneW_k (P : MS) (f : Nat) (m : Nat → Int) {i : Nat} (h0 : i ≠ 0) (h : i < 25 ∨ 57 ≤ i) : ∀ n : Nat, oneW P f n m i = m i := by
  intro n
  induction n with
  | zero => rfl
  | succ n ih => rw [oneW, dayP_k h0, goF_out h, ih]
theorem oneW_WV {P : MS} (hP : PLN P) {f : Nat} (hf : f < 4) {m : Nat → Int} (hW : WV P m) : ∀ n : Nat, m 0 + n ≤ 2000 → WV P (oneW P f n m) := by
  intro n
  induction n with
  | zero => intro _; exact hW
  | succ n ih =>
    intro h
    refine WV_day (goF_WV hP (ih (by omega)) hf) ?_
    rw [goF_out (Or.inl (by decide)), oneW_0]
    omega
/-- one feeling alone goes as it goes among all -/
theorem one_flow {P : MS} (hP : PLN P) {f : Nat} (hf : f < 4) {m : Nat → Int} (hW : WV P m) : ∀ n : Nat, m 0 + n ≤ 2000 → ∀ o, o < 8 → oneW P f n m (25 + 4 * o + f) = flowIt P n m (25 + 4 * o + f) := by
  intro n
  have hC := nCa_le hP
  induction n with
  | zero => intro _ o _; rfl
  | succ n ih =>
    intro h o ho
    rw [oneW, flowIt, dayP_k (by omega), dayP_k (by omega), goF_col hP (oneW_WV hP hf hW n (by omega)) hf ho, goW_s P _ ho hf, goW_s P _ ho hf, oneW_0, flowIt_0]
    refine nxt_congr hP (fun k hk => ?_) (fun k hk => ?_) (fun x hx => ih (by omega) x hx) ho
    · show oneW P f n m (1 + 2 * k) = flowIt P n m (1 + 2 * k)
      rw [oneW_k _ _ _ (by omega) (Or.inl (by omega)), flowIt_k _ _ (by omega) (Or.inl (by omega))]
    · show oneW P f n m (2 + 2 * k) = flowIt P n m (2 + 2 * k)
      rw [oneW_k _ _ _ (by omega) (Or.inl (by omega)), flowIt_k _ _ (by omega) (Or.inl (by omega))]
/-! the reference, in thought -/
theorem m_aside1 : ∀ (n v : Nat) (T : MS), v + n = 57 → ∃ T', Mo_putsAside_7 v T = some T' ∧ (∀ i, i < v → T' 439 i = T 439 i) ∧ (∀ i, v ≤ i → i < 57 → T' 439 i = T 438 i) ∧ ∀ c, c ≠ 439 → T' c = T c := by
  intro n
  induction n with
  | zero =>
    intro v T hv
    rw [e_Mo_putsAside_7, if_neg (by omega)]
    exact ⟨T, rfl, fun _ _ => rfl, fun i h1 h2 => by omega, fun _ _ => rfl⟩
  | succ n ih =>
    intro v T hv
    rw [e_Mo_putsAside_7, if_pos (by omega), if_pos (by omega), if_pos (by omega), Int.toNat_natCast, wrN (by omega) (by omega)]
    obtain ⟨T', q1, q2, q3, q4⟩ := ih (v + 1) (up T 439 v (T 438 v)) (by omega)
    refine ⟨T', q1, fun i hi => by rw [q2 i (by omega), up_k (by omega)], fun i h1 h2 => ?_, fun c hc => by rw [q4 c hc, up_c hc]⟩
    by_cases e : i = v
    · subst e; rw [q2 i (by omega), up_s]
    · rw [q3 i (by omega) h2, up_c (by decide)]
theorem m_aside (T : MS) : ∃ T', m_Mo_putsAside T = some T' ∧ (∀ i, i < 57 → T' 439 i = T 438 i) ∧ T' 401 56 = 1 ∧ (∀ c, c ≠ 439 → c ≠ 401 → T' c = T c) ∧ ∀ k, k ≠ 56 → T' 401 k = T 401 k := by
  obtain ⟨T', q1, q2, q3, q4⟩ := m_aside1 57 0 (up T 401 56 1) rfl
  exact ⟨T', by rw [e_Mo_putsAside]; exact q1, fun i hi => by rw [q3 i (by omega) hi, up_c (by decide)], by rw [q4 401 (by decide), up_s], fun c h1 h2 => by rw [q4 c h1, up_c h2], fun k hk => by rw [q4 401 (by decide), up_k hk]⟩
theorem m_anew1 : ∀ (n v : Nat) (T : MS), v + n = 57 → ∃ T', Mo_triesAnew_2 v T = some T' ∧ (∀ i, T' 438 i = if v ≤ i ∧ i < 57 then T 439 i else T 438 i) ∧ ∀ c, c ≠ 438 → T' c = T c := by
  intro n
  induction n with
  | zero =>
    intro v T hv
    rw [e_Mo_triesAnew_2, if_neg (by omega)]
    exact ⟨T, rfl, fun i => by rw [if_neg (by omega)], fun _ _ => rfl⟩
  | succ n ih =>
    intro v T hv
    rw [e_Mo_triesAnew_2, if_pos (by omega), if_pos (by omega), if_pos (by omega), Int.toNat_natCast, wrN (by omega) (by omega)]
    obtain ⟨T', q1, q2, q3⟩ := ih (v + 1) (up T 438 v (T 439 v)) (by omega)
    refine ⟨T', q1, fun i => ?_, fun c hc => by rw [q3 c hc, up_c hc]⟩
    rw [q2 i, up_c (by decide)]
    by_cases e : i = v
    · subst e; rw [if_neg (by omega), up_s, if_pos (by omega)]
    · rw [up_k e]
      by_cases c : v + 1 ≤ i ∧ i < 57
      · rw [if_pos c, if_pos (by omega)]
      · rw [if_neg c, if_neg (by omega)]
theorem m_anew (T : MS) : ∃ T', m_Mo_triesAnew T = some T' ∧ (∀ i, T' 438 i = if i < 57 then T 439 i else T 438 i) ∧ ∀ c, c ≠ 438 → T' c = T c := by
  obtain ⟨T', q1, q2, q3⟩ := m_anew1 57 0 T rfl
  exact ⟨T', by rw [e_Mo_triesAnew]; exact q1, fun i => by rw [q2 i]; by_cases c : i < 57 <;> simp [c], q3⟩
/-- in thought: aside as it was, what is above untouched -/
def TH (m : Nat → Int) (T : MS) : Prop := (∀ i, i < 57 → T 439 i = m i) ∧ (∀ i, 57 ≤ i → T 438 i = m i) ∧ T 401 56 = 1
theorem TH.fg {m : Nat → Int} {T T' : MS} (h : TH m T) (f : FG T T') (g : ∀ i, 57 ≤ i → T' 438 i = T 438 i) : TH m T' :=
  ⟨by rw [f.1 439 (by decide) (by decide) (by decide) (by decide)]; exact h.1, fun i hi => by rw [g i hi]; exact h.2.1 i hi, by rw [f.2 56 (by decide) (by decide) (by decide) (by decide) (by decide) (by decide) (by decide) (by decide)]; exact h.2.2⟩
theorem m_back {m : Nat → Int} {T : MS} (h : TH m T) : ∃ T', m_Mo_takesBack T = some T' ∧ T' 438 = m ∧ T' 401 56 = 0 ∧ (∀ c, c ≠ 438 → c ≠ 401 → T' c = T c) ∧ ∀ k, k ≠ 56 → T' 401 k = T 401 k := by
  obtain ⟨T1, q1, q2, q3⟩ := m_anew T
  rw [e_Mo_takesBack, q1, Option.bind_some]
  refine ⟨_, rfl, ?_, up_s _ _ _ _, fun c h1 h2 => by rw [up_c h2, q3 c h1], fun k hk => by rw [up_k hk, q3 401 (by decide)]⟩
  funext i
  rw [up_c (by decide), q2 i]
  by_cases c : i < 57
  · rw [if_pos c, h.1 i c]
  · rw [if_neg c, h.2.1 i (by omega)]
section
variable {P : MS} {f : Nat}
theorem m_one1 (hP : PLN P) (hf : f < 4) {m : Nat → Int} (hW : WV P m) {N : Nat} (hN : m 0 + N ≤ 2000) : ∀ (n v : Nat) (T : MS), v + n = N → RP P T → T 438 = oneW P f v m →
    ∃ T', Mo_oneGoes_2 f N v T = some T' ∧ T' 438 = oneW P f N m ∧ FG T T' ∧ T' 401 57 = T 401 57 := by
  intro n
  have h0 := hW.1
  induction n with
  | zero =>
    intro v T hv hR hm
    rw [e_Mo_oneGoes_2, if_neg (by omega)]
    exact ⟨T, rfl, by rw [hm, show v = N by omega], FG.rf T, rfl⟩
  | succ n ih =>
    intro v T hv hR hm
    obtain ⟨T1, a1, a2, a3, a4⟩ := m_feelGoes (f := f) hP hR (by rw [hm]; exact oneW_WV hP hf hW v (by omega)) hf
    have h10 : T1 438 0 = m 0 + v := by rw [a2, goF_out (Or.inl (by decide)), hm, oneW_0]
    rw [e_Mo_oneGoes_2, if_pos (by omega), a1, Option.bind_some, wrN (z := (v : Int) + 1) (by omega) (by omega), h10, wrN (by omega) (by omega)]
    obtain ⟨T', b1, b2, b3, b4⟩ := ih (v + 1) (up T1 438 0 (m 0 + v + 1)) (by omega) ((hR.fg a3).fg FG_438) (by
      funext i
      rw [oneW]
      by_cases e : i = 0
      · subst e; rw [up_s, dayP_0, goF_out (Or.inl (by decide)), oneW_0]
      · rw [up_k e, a2, hm, dayP_k e])
    exact ⟨T', b1, b2, a3.tr (FG_438.tr b3), by rw [b4, up_c (by decide), a4]⟩
theorem m_oneGoes (hP : PLN P) (hf : f < 4) {T : MS} (hR : RP P T) (hW : WV P (T 438)) {N : Nat} (hN : T 438 0 + N ≤ 2000) : ∃ T', m_Mo_oneGoes f N T = some T' ∧ T' 438 = oneW P f N (T 438) ∧ FG T T' ∧ T' 401 57 = T 401 57 := by
  rw [e_Mo_oneGoes]
  exact m_one1 hP hf hW hN N 0 T (by omega) hR rfl
end
