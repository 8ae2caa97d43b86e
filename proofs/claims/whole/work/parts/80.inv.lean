/-! WHAT HOLDS BETWEEN CALLS, of the class's memory S and the reference's T, behind n calls, by the plan P -/
def TXr (S T : MS) : Prop := S 2 1 = T 401 1 ∧ (0 ≤ S 2 1 ∧ S 2 1 ≤ 1600) ∧ ∀ k : Nat, (k : Int) < S 2 1 → S 3 k = T 402 k ∧ 0 ≤ S 3 k ∧ S 3 k ≤ 255
def RFr (n : Nat) (S T : MS) : Prop := ∀ k, k < 6 → S 134 k = T 403 k ∧ 0 ≤ S 134 k ∧ S 134 k ≤ n
def FTr (S T : MS) : Prop := S 2 8 = T 401 7 ∧ S 2 9 = T 401 8
def SDr (S T : MS) : Prop := S 1 13 = T 401 73 ∧ 0 ≤ S 1 13 ∧ S 1 13 < 2147483648
def IMr (S T : MS) : Prop := S 1 11 = T 401 107 ∧ (0 ≤ S 1 11 ∧ S 1 11 ≤ 59) ∧ ∀ k : Nat, (k : Int) < S 1 11 → S 133 k = T 476 k
/-- a name, as the class and as the reference write it -/
def nm5 (L : List Int) : Int := ((((((L.getD 0 0) * 32 + L.getD 1 0) * 32 + L.getD 2 0) * 32 + L.getD 3 0) * 32 + L.getD 4 0) * 32 + L.getD 5 0)
def nm27 (L : List Int) : Int := L.foldl (fun v x => 27 * v + x) 0
def NMR (c v : Int) : Prop := ∃ L : List Int, 1 ≤ L.length ∧ L.length ≤ 6 ∧ (∀ x ∈ L, 1 ≤ x ∧ x ≤ 26) ∧ c = nm5 L ∧ v = nm27 L
def NMr (P S : MS) : Prop := (∀ o, o < nOf P → NMR (S 32 o) (P 431 (16 + o))) ∧ ∀ f, f < nFe P → NMR (S 35 f) (P 431 (24 + f))
def WDr (n : Nat) (P S T : MS) : Prop := WV P (T 438) ∧ T 438 0 ≤ 999 ∧ SWn S 24 (T 438) ∧ KR (S 24 5) (S 26) (T 438) ∧ S 24 5 ≤ 4000 * (n : Int) ∧ T 401 56 = 0
def THr (n : Nat) (S T : MS) : Prop := (0 ≤ S 27 5 ∧ S 27 5 ≤ 4000 * (n : Int)) ∧ (0 ≤ T 401 57 ∧ T 401 57 ≤ 4000 * (n : Int))
def ENr (n : Nat) (P S : MS) : Prop := EM P S ∧ S 30 3 ≤ 1 + 1000 * (n : Int)
/-- a state that is kept for undoing -/
def HSr (n : Nat) (P S : MS) (a : Nat) (r : Nat → Int) : Prop := WV P r ∧ r 0 ≤ 999 ∧ SWn S a r ∧ KR (S a 5) (S (a + 2)) r ∧ S a 5 ≤ 4000 * (n : Int)
def HIr (n : Nat) (P S T : MS) : Prop := S 51 2 = T 401 71 ∧ (0 ≤ S 51 2 ∧ S 51 2 ≤ 20) ∧ (0 ≤ S 51 1 ∧ S 51 1 < 20) ∧ (0 ≤ T 401 72 ∧ T 401 72 < 20) ∧
  ∀ i : Nat, (i : Int) < S 51 2 → HSr n P S (53 + 3 * (((S 51 1).toNat + 19 - i) % 20)) (fun k => T 450 (218 * (((T 401 72).toNat + 20 - i) % 20) + k))
/-! who felt it first -/
def colT (P : MS) (w : Nat → Int) : Nat → (Nat → Int) → Nat → Int
  | 0, c => c
  | t + 1, c => nxt P (w 0 + t) (inW w) (tuW w) (colT P w t c)
def unC (o : Nat) (s : Int) (x : Nat) : Int := if x = o then s else 0
def srC (k : Nat) : Nat → Int := unC (k / 99) (1 + ((k % 99 : Nat) : Int))
def fitS (P T : MS) (w : Nat → Int) (k : Nat) : Prop := ∀ i : Nat, (i : Int) < T 401 64 → w 0 + T 446 (3 * i) ≤ 999 ∧ colT P w (T 446 (3 * i)).toNat (srC k) (T 446 (3 * i + 1)).toNat = T 446 (3 * i + 2)
noncomputable def srcL (P T : MS) (w : Nat → Int) : List Nat := by
  classical
  exact (List.range (99 * nOf P)).filter (fun k => decide (fitS P T w k))
def alkR (val : Nat → Int) : List Nat → (Int → Int) → Int → Int
  | [], _, b => b
  | k :: ks, t, b => alkR val ks (fun v => if v = val k then t v + 1 else t v) (if b < t (val k) + 1 then t (val k) + 1 else b)
/-- officers below o, on this day: the best so far -/
def telO (most : Nat → Int) (day : Int) : Nat → Int × Int × Int → Int × Int × Int
  | 0, b => b
  | o + 1, b => if (telO most day o b).1 ≠ -1 ∧ (telO most day o b).2.2 ≤ most o then telO most day o b else (day, (o : Int), most o)
def telD (P : MS) (w : Nat → Int) (L : List Nat) : Nat → Int × Int × Int
  | 0 => (-1, -1, 0)
  | d + 1 => telO (fun o => alkR (fun k => colT P w (d + 1) (srC k) o) L (fun _ => 0) 0) ((d : Int) + 1) (nOf P) (telD P w L d)
/-- how many days ahead may tell -/
def telN (w : Nat → Int) : Nat := if w 0 + 30 ≤ 999 then 30 else (999 - w 0).toNat
def ROr (P S T : MS) : Prop := S 118 5 = T 401 64 ∧ (0 ≤ S 118 5 ∧ S 118 5 ≤ 16) ∧ ∀ i : Nat, (i : Int) < S 118 5 → (S 119 i = T 446 (3 * i) ∧ 0 ≤ S 119 i ∧ S 119 i ≤ 30) ∧ (S 120 i = T 446 (3 * i + 1) ∧ 0 ≤ S 120 i ∧ S 120 i < P 430 4) ∧ (S 121 i = T 446 (3 * i + 2) ∧ 0 ≤ S 121 i ∧ S 121 i ≤ 99)
def FDr (P S T : MS) : Prop := ROr P S T ∧ (S 118 13 = 0 ∨ S 118 13 = 1) ∧ (S 118 14 = 0 ∨ S 118 14 = 1) ∧
  (S 118 13 = 1 → S 118 8 = ((srcL P T (T 438)).length : Nat) ∧ ∀ i, i < (srcL P T (T 438)).length → S 122 i = 100 * (((srcL P T (T 438)).getD i 0 / 99 : Nat) : Int) + 1 + (((srcL P T (T 438)).getD i 0 % 99 : Nat) : Int)) ∧
  (S 118 14 = 1 → S 118 13 = 1 ∧ S 118 10 = (telD P (T 438) (srcL P T (T 438)) (telN (T 438))).1 ∧ S 118 11 = (telD P (T 438) (srcL P T (T 438)) (telN (T 438))).2.1 ∧ S 118 12 = (telD P (T 438) (srcL P T (T 438)) (telN (T 438))).2.2)
/-- the marks, the spare plan's rows that are never written, the words -/
def wdM : List (Nat × List Int) := [(404, [111, 102, 102, 105, 99, 101, 114]), (405, [115, 104, 97, 112, 101]), (406, [112, 114, 101, 115, 115]), (407, [102, 101, 101, 108, 105, 110, 103]), (408, [99, 97, 114, 98, 111, 110]), (409, [116, 111]), (410, [115, 104, 101, 101, 116, 115]), (411, [102, 101, 108, 116]), (412, [111, 102]), (413, [105, 115]), (414, [112, 97, 115, 115, 101, 115]), (415, [102, 97, 100, 101, 115]), (416, [97, 99, 116, 115]), (417, [115, 108, 105, 112]), (418, [115, 116, 114, 101, 110, 103, 116, 104]), (419, [100, 97, 121]), (420, [102, 101, 101, 108]), (421, [110, 117, 109, 98, 101, 114]), (422, [102, 101, 101, 108, 115]), (423, [115, 116, 101, 112, 115]), (424, [111, 114]), (425, [97, 110, 100]), (426, [110, 111, 116]), (427, [97, 108, 108]), (428, [109, 105, 110]), (429, [109, 97, 120]), (451, [102, 105, 114, 115, 116]), (452, [108, 97, 115, 116]), (453, [111, 102, 116, 101, 110]), (454, [116, 111, 116, 97, 108]), (455, [109, 111, 115, 116]), (456, [108, 101, 97, 115, 116]), (457, [110, 111, 116]), (458, [97, 110, 100]), (459, [111, 114]), (460, [97, 108, 108]), (461, [109, 105, 110]), (462, [109, 97, 120]), (463, [112, 114, 101, 115, 115]), (464, [115, 104, 97, 112, 101]), (465, [100, 97, 121]), (466, [115, 116, 114, 101, 110, 103, 116, 104]), (467, [115, 104, 101, 101, 116, 115]), (468, [102, 101, 101, 108]), (469, [102, 101, 101, 108, 105, 110, 103]), (470, [110, 117, 109, 98, 101, 114]), (471, [102, 101, 101, 108, 115]), (472, [115, 116, 101, 112, 115])]
/-- a mark that may be anything -/
def okk (_ : Int) : Int := 0
def MKr (S T : MS) : Prop := (okk (S 22 2) = 0 ∧ okk (S 23 1) = 0 ∧ S 132 1 = 1) ∧ ((∀ k, k < 4 → S 17 k = 0) ∧ (∀ k, k < 8 → S 18 k = 0) ∧ ∀ k, k < 16 → 0 ≤ T 432 k ∧ T 432 k ≤ 9) ∧ ∀ q ∈ wdM, ∀ k, k < q.2.length → T q.1 k = q.2.getD k 0
def Inv (n : Nat) (P S T : MS) : Prop := (PLN P ∧ RP P T ∧ NMr P S) ∧ (TXr S T ∧ FTr S T ∧ RFr n S T) ∧ (SDr S T ∧ IMr S T ∧ MKr S T) ∧ (WDr n P S T ∧ THr n S T ∧ ENr n P S) ∧ HIr n P S T ∧ FDr P S T
section
variable {n : Nat} {P S T S' T' : MS}
theorem Inv.pln (h : Inv n P S T) : PLN P := h.1.1
theorem Inv.rp (h : Inv n P S T) : RP P T := h.1.2.1
theorem Inv.nm (h : Inv n P S T) : NMr P S := h.1.2.2
theorem Inv.tx (h : Inv n P S T) : TXr S T := h.2.1.1
theorem Inv.ft (h : Inv n P S T) : FTr S T := h.2.1.2.1
theorem Inv.rf (h : Inv n P S T) : RFr n S T := h.2.1.2.2
theorem Inv.sd (h : Inv n P S T) : SDr S T := h.2.2.1.1
theorem Inv.im (h : Inv n P S T) : IMr S T := h.2.2.1.2.1
theorem Inv.mk0 (h : Inv n P S T) : MKr S T := h.2.2.1.2.2
theorem Inv.wd (h : Inv n P S T) : WDr n P S T := h.2.2.2.1.1
theorem Inv.th (h : Inv n P S T) : THr n S T := h.2.2.2.1.2.1
theorem Inv.en (h : Inv n P S T) : ENr n P S := h.2.2.2.1.2.2
theorem Inv.hi (h : Inv n P S T) : HIr n P S T := h.2.2.2.2.1
theorem Inv.fd (h : Inv n P S T) : FDr P S T := h.2.2.2.2.2
theorem Inv.mk1 (a1 : PLN P) (a2 : RP P T) (a3 : NMr P S) (b1 : TXr S T) (b2 : FTr S T) (b3 : RFr n S T) (c1 : SDr S T) (c2 : IMr S T) (c3 : MKr S T) (d1 : WDr n P S T) (d2 : THr n S T) (d3 : ENr n P S) (e : HIr n P S T) (f : FDr P S T) : Inv n P S T := ⟨⟨a1, a2, a3⟩, ⟨b1, b2, b3⟩, ⟨c1, c2, c3⟩, ⟨d1, d2, d3⟩, e, f⟩
theorem TXr.fr (h : TXr S T) (e1 : S' 2 1 = S 2 1) (e2 : S' 3 = S 3) (e3 : T' 401 1 = T 401 1) (e4 : T' 402 = T 402) : TXr S' T' := by unfold TXr at h ⊢; rw [e1, e2, e3, e4]; exact h
theorem RFr.fr (h : RFr n S T) (e1 : S' 134 = S 134) (e2 : T' 403 = T 403) : RFr (n + 1) S' T' := by
  intro k hk
  rw [e1, e2]
  have := h k hk
  omega
theorem FTr.fr (h : FTr S T) (e1 : S' 2 8 = S 2 8) (e2 : S' 2 9 = S 2 9) (e3 : T' 401 7 = T 401 7) (e4 : T' 401 8 = T 401 8) : FTr S' T' := by unfold FTr at h ⊢; rw [e1, e2, e3, e4]; exact h
theorem SDr.fr (h : SDr S T) (e1 : S' 1 13 = S 1 13) (e2 : T' 401 73 = T 401 73) : SDr S' T' := by unfold SDr at h ⊢; rw [e1, e2]; exact h
theorem IMr.fr (h : IMr S T) (e1 : S' 1 11 = S 1 11) (e2 : S' 133 = S 133) (e3 : T' 401 107 = T 401 107) (e4 : T' 476 = T 476) : IMr S' T' := by unfold IMr at h ⊢; rw [e1, e2, e3, e4]; exact h
theorem NMr.fr (h : NMr P S) (e1 : S' 32 = S 32) (e2 : S' 35 = S 35) : NMr P S' := by unfold NMr at h ⊢; rw [e1, e2]; exact h
theorem MKr.fr (h : MKr S T) (e1 : S' 22 = S 22) (e2 : S' 23 1 = S 23 1) (e3 : S' 132 1 = S 132 1) (e4 : S' 17 = S 17) (e5 : S' 18 = S 18) (e6 : ∀ c, (404 ≤ c ∧ c ≤ 429) ∨ (451 ≤ c ∧ c ≤ 472) ∨ c = 432 → T' c = T c) : MKr S' T' := by
  obtain ⟨h1, h2, h3⟩ := h
  refine ⟨by rw [e1, e2, e3]; exact h1, by rw [e4, e5, e6 432 (Or.inr (Or.inr rfl))]; exact h2, fun q hq k hk => ?_⟩
  have hr : ∀ q ∈ wdM, (404 ≤ q.1 ∧ q.1 ≤ 429) ∨ (451 ≤ q.1 ∧ q.1 ≤ 472) := by decide
  rw [e6 q.1 (by have := hr q hq; omega)]
  exact h3 q hq k hk
theorem HIr.fr (h : HIr n P S T) (e1 : S' 51 1 = S 51 1) (e2 : S' 51 2 = S 51 2) (e3 : ∀ c, 53 ≤ c → c ≤ 112 → S' c = S c) (e4 : T' 401 71 = T 401 71) (e5 : T' 401 72 = T 401 72) (e6 : T' 450 = T 450) : HIr (n + 1) P S' T' := by
  obtain ⟨h1, h2, h3, h4, h5⟩ := h
  refine ⟨by rw [e2, e4]; exact h1, by rw [e2]; exact h2, by rw [e1]; exact h3, by rw [e5]; exact h4, fun i hi => ?_⟩
  rw [e2] at hi
  rw [e1, e5, e6]
  obtain ⟨g1, g2, g3, g4, g5⟩ := h5 i hi
  have hm : ((S 51 1).toNat + 19 - i) % 20 < 20 := Nat.mod_lt _ (by decide)
  generalize ((S 51 1).toNat + 19 - i) % 20 = a at *
  refine ⟨g1, g2, g3.fr (by rw [e3 _ (by omega) (by omega)]) (by rw [e3 _ (by omega) (by omega)]) (by rw [e3 _ (by omega) (by omega)]) (e3 _ (by omega) (by omega)), ?_, ?_⟩
  · rw [e3 _ (by omega) (by omega), e3 (53 + 3 * a + 2) (by omega) (by omega)]; exact g4
  · rw [e3 _ (by omega) (by omega)]; omega
theorem fitS_congr (e1 : T' 401 64 = T 401 64) (e2 : T' 446 = T 446) (w : Nat → Int) : fitS P T' w = fitS P T w := by
  funext k
  unfold fitS
  rw [e1, e2]
theorem srcL_congr (e1 : T' 401 64 = T 401 64) (e2 : T' 446 = T 446) (w : Nat → Int) : srcL P T' w = srcL P T w := by
  unfold srcL
  rw [fitS_congr e1 e2 w]
theorem FDr.fr (h : FDr P S T) (e1 : S' 118 = S 118) (e2 : S' 119 = S 119) (e3 : S' 120 = S 120) (e4 : S' 121 = S 121) (e5 : S' 122 = S 122) (e6 : T' 401 64 = T 401 64) (e7 : T' 446 = T 446) (e8 : T' 438 = T 438) : FDr P S' T' := by
  unfold FDr ROr at h ⊢
  rw [e1, e2, e3, e4, e5, e6, e7, e8, srcL_congr e6 e7]
  exact h
/-- what looking ahead may change, in the class -/
def LKc (S S' : MS) : Prop := (∀ c, c ∉ [27, 28, 29, 30, 42, 45, 48, 49, 50, 113, 114, 115, 116, 117, 123, 124, 126, 127, 128, 129, 130, 131] → S' c = S c) ∧ ∀ k, k ≠ 3 → k ≠ 4 → S' 30 k = S 30 k
def LKm (T T' : MS) : Prop := (∀ c, c ∉ [401, 439, 440, 441, 442, 443, 444, 445, 447, 448, 449, 475] → T' c = T c) ∧ ∀ k, k ∉ [48, 51, 52, 53, 54, 55, 57, 67, 103] → T' 401 k = T 401 k
theorem LKc.rf (S : MS) : LKc S S := ⟨fun _ _ => rfl, fun _ _ _ => rfl⟩
theorem LKm.rf (T : MS) : LKm T T := ⟨fun _ _ => rfl, fun _ _ => rfl⟩
theorem LKc.tr {S'' : MS} (h : LKc S S') (g : LKc S' S'') : LKc S S'' := ⟨fun c hc => (g.1 c hc).trans (h.1 c hc), fun k h1 h2 => (g.2 k h1 h2).trans (h.2 k h1 h2)⟩
theorem LKm.tr {T'' : MS} (h : LKm T T') (g : LKm T' T'') : LKm T T'' := ⟨fun c hc => (g.1 c hc).trans (h.1 c hc), fun k hk => (g.2 k hk).trans (h.2 k hk)⟩
theorem FW_then.lk (h : FW_then S S') : LKc S S' := ⟨fun c hc => by
  simp only [List.mem_cons, List.not_mem_nil, or_false, not_or] at hc
  obtain ⟨a1, a2, a3, a4, a5, a6, a7, a8, a9, -⟩ := hc
  exact h.1 c a1 a2 a3 a4 a5 a6 a7 a8 a9, h.2⟩
/-- behind a call that looks -/
theorem Inv.look (h : Inv n P S T) (hc : LKc S S') (hm : LKm T T') (hE : EM P S') (hB : S' 30 3 ≤ S 30 3 + 1000) (ht : 0 ≤ S' 27 5 ∧ S' 27 5 ≤ S 27 5 + 4000) (ha : 0 ≤ T' 401 57 ∧ T' 401 57 ≤ 4000 * ((n + 1 : Nat) : Int)) : Inv (n + 1) P S' T' := by
  have s : ∀ c, c ∉ [27, 28, 29, 30, 42, 45, 48, 49, 50, 113, 114, 115, 116, 117, 123, 124, 126, 127, 128, 129, 130, 131] → S' c = S c := hc.1
  have t : ∀ c, c ∉ [401, 439, 440, 441, 442, 443, 444, 445, 447, 448, 449, 475] → T' c = T c := hm.1
  have u : ∀ k, k ∉ [48, 51, 52, 53, 54, 55, 57, 67, 103] → T' 401 k = T 401 k := hm.2
  refine Inv.mk1 h.pln (h.rp.fr (t 430 (by decide)) (t 431 (by decide)) (t 432 (by decide)) (t 433 (by decide)) (t 435 (by decide)) (t 436 (by decide)) (t 437 (by decide))) (h.nm.fr (s 32 (by decide)) (s 35 (by decide)))
    (h.tx.fr (by rw [s 2 (by decide)]) (s 3 (by decide)) (u 1 (by decide)) (t 402 (by decide))) (h.ft.fr (by rw [s 2 (by decide)]) (by rw [s 2 (by decide)]) (u 7 (by decide)) (u 8 (by decide))) (h.rf.fr (s 134 (by decide)) (t 403 (by decide)))
    (h.sd.fr (by rw [s 1 (by decide)]) (u 73 (by decide))) (h.im.fr (by rw [s 1 (by decide)]) (s 133 (by decide)) (u 107 (by decide)) (t 476 (by decide))) (h.mk0.fr (s 22 (by decide)) (by rw [s 23 (by decide)]) (by rw [s 132 (by decide)]) (s 17 (by decide)) (s 18 (by decide)) (fun c hx => t c (by simp only [List.mem_cons, List.not_mem_nil, or_false, not_or]; omega)))
    ?_ ⟨by have := h.th.1; omega, ha⟩ ⟨hE, by have := h.en.2; omega⟩
    (h.hi.fr (by rw [s 51 (by decide)]) (by rw [s 51 (by decide)]) (fun c h1 h2 => s c (by simp only [List.mem_cons, List.not_mem_nil, or_false, not_or]; omega)) (u 71 (by decide)) (u 72 (by decide)) (t 450 (by decide)))
    (h.fd.fr (s 118 (by decide)) (s 119 (by decide)) (s 120 (by decide)) (s 121 (by decide)) (s 122 (by decide)) (u 64 (by decide)) (t 446 (by decide)) (t 438 (by decide)))
  obtain ⟨w1, w2, w3, w4, w5, w6⟩ := h.wd
  refine ⟨by rw [t 438 (by decide)]; exact w1, by rw [t 438 (by decide)]; exact w2, ?_, by rw [s 24 (by decide), s 26 (by decide), t 438 (by decide)]; exact w4, by rw [s 24 (by decide)]; omega, by rw [u 56 (by decide)]; exact w6⟩
  rw [t 438 (by decide)]
  exact w3.fr (by rw [s 24 (by decide)]) (by rw [s 24 (by decide)]) (by rw [s 24 (by decide)]) (s 25 (by decide))
/-- nothing changed -/
theorem Inv.same (h : Inv n P S T) : Inv (n + 1) P S T := h.look (LKc.rf S) (LKm.rf T) h.en.1 (by omega) (by have := h.th.1; omega) (by have := h.th.2; omega)
end
