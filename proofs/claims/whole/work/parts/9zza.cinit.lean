/-! THE START: the class made, step by step -/
section
variable {k K pc nx : Nat} {ar st rest : List PV} {l l' : PL} {tb : Nat → Option PF} {z : Int} {S S' : MS}
theorem RN_cV0 {n n' e s : Nat} (hk : k < K) (h : stp tb (TT K) pc l st (S, (n, 0, e, s)) = crV (TT K) k ar (S, (n, 0, e, s)) nx l' rest) (hc : call k ar (S, (n, 0, e, s)) = some (none, (S', (n', 0, e, s)))) (hn : n ≤ n') : RN tb (TT K) (pc, l, st, S, (n, 0, e, s)) = RN tb (TT K) (nx, l', rest, S', (n', 0, e, s)) := by
  rw [RN_stp, h]
  unfold crV
  rw [TT_lt hk, hc]
  simp [hn]
theorem RN_cI0 {n n' e s : Nat} (hk : k < K) (h : stp tb (TT K) pc l st (S, (n, 0, e, s)) = crI (TT K) k ar (S, (n, 0, e, s)) nx l' rest) (hc : call k ar (S, (n, 0, e, s)) = some (some (.inl z), (S', (n', 0, e, s)))) (hn : n ≤ n') : RN tb (TT K) (pc, l, st, S, (n, 0, e, s)) = RN tb (TT K) (nx, l', .inl z :: rest, S', (n', 0, e, s)) := by
  rw [RN_stp, h]
  unfold crI
  rw [TT_lt hk, hc]
  simp [hn]
end
def cis0 : MS := fun _ _ => 0
def cis1 : MS := up (up (up (up (up (up cis0 2 0 1) 2 1 0) 2 2 1) 2 3 0) 2 4 0) 2 5 35
def cis2 : MS := up (up (up (up cis1 2 6 0) 2 7 0) 2 8 0) 2 9 (-1)
set_option maxRecDepth 100000 in
theorem cic1 : call 2 [vr 2] (cis0, (3, 0, 31, 5)) = some (none, (cis2, (5, 0, 31, 5))) := by
  show RN tb_2 (TT 2) (0, [(0, vr 2)], [], cis0, (3, 0, 31, 5)) = _
  refine Eq.trans (it_RN 24 (3, 0, 31, 5) 0 [(0, vr 2)] [] cis0 (45, [(0, vr 2)], [vi 0, vr 2], cis1, (5, 0, 31, 5)) rfl) ?_
  refine Eq.trans (it_RN 10 (5, 0, 31, 5) 45 [(0, vr 2)] [vi 0, vr 2] cis1 (63, [(0, vr 2)], [], cis2, (5, 0, 31, 5)) rfl) ?_
  exact RN_ret rfl
def cis3 : MS := up cis2 1 0 1
def cis4 : MS := up (up (up (up (up (up (up cis3 5 0 0) 5 1 0) 5 2 0) 5 3 0) 5 4 0) 5 5 0) 5 6 1
def cis5 : MS := up (up (up (up (up (up cis4 5 7 1) 5 8 1) 5 9 1) 5 10 1) 5 11 1) 5 12 1
def cis6 : MS := up cis5 5 13 1
def cis7 : MS := up (up (up (up (up cis6 14 0 1) 14 1 0) 14 2 1) 14 3 1) 14 4 1
def cis8 : MS := up cis7 14 5 1
set_option maxRecDepth 100000 in
theorem cic2 : call 3 [vr 14] (cis6, (15, 0, 31, 5)) = some (none, (cis8, (20, 0, 31, 5))) := by
  show RN tb_3 (TT 3) (0, [(0, vr 14)], [], cis6, (15, 0, 31, 5)) = _
  refine Eq.trans (it_RN 24 (15, 0, 31, 5) 0 [(0, vr 14)] [] cis6 (46, [(0, vr 14)], [vr 19, vr 14], cis7, (20, 0, 31, 5)) rfl) ?_
  refine Eq.trans (it_RN 1 (20, 0, 31, 5) 46 [(0, vr 14)] [vr 19, vr 14] cis7 (49, [(0, vr 14)], [], cis8, (20, 0, 31, 5)) rfl) ?_
  exact RN_ret rfl
def cis9 : MS := up (up (up cis8 5 14 1) 5 15 1) 5 16 1
def cis10 : MS := up (up (up (up (up (up cis9 5 0 0) 5 1 0) 5 2 0) 5 3 0) 5 4 0) 5 5 0
def cis11 : MS := up (up (up cis10 13 0 0) 13 1 0) 13 2 0
def cis12 : MS := up (up cis11 13 3 0) 14 1 0
def cis13 : MS := up cis12 20 0 0
set_option maxRecDepth 100000 in
theorem cic3 : call 4 [vr 5, vi 0] (cis12, (22, 0, 31, 5)) = some (none, (cis13, (22, 0, 31, 5))) := by
  show RN tb_4 (TT 4) (0, [(0, vr 5), (1, vi 0)], [], cis12, (22, 0, 31, 5)) = _
  refine Eq.trans (it_RN 12 (22, 0, 31, 5) 0 [(0, vr 5), (1, vi 0)] [] cis12 (22, [(0, vr 5), (1, vi 0)], [], cis13, (22, 0, 31, 5)) rfl) ?_
  exact RN_ret rfl
def cis14 : MS := up (up cis13 15 0 (-4)) 14 1 1
set_option maxRecDepth 100000 in
theorem cic4 : call 5 [vr 14, vi (-4)] (cis13, (22, 0, 31, 5)) = some (some (vi 1), (cis14, (22, 0, 31, 5))) := by
  show RN tb_5 (TT 5) (0, [(0, vr 14), (1, vi (-4))], [], cis13, (22, 0, 31, 5)) = _
  refine Eq.trans (it_RN 19 (22, 0, 31, 5) 0 [(0, vr 14), (1, vi (-4))] [] cis13 (35, [(0, vr 14), (1, vi (-4))], [vi 1], cis14, (22, 0, 31, 5)) rfl) ?_
  exact RN_ret rfl
def cis15 : MS := up (up cis14 15 1 (-5)) 14 1 2
set_option maxRecDepth 100000 in
theorem cic5 : call 5 [vr 14, vi (-5)] (cis14, (22, 0, 31, 5)) = some (some (vi 1), (cis15, (22, 0, 31, 5))) := by
  show RN tb_5 (TT 5) (0, [(0, vr 14), (1, vi (-5))], [], cis14, (22, 0, 31, 5)) = _
  refine Eq.trans (it_RN 19 (22, 0, 31, 5) 0 [(0, vr 14), (1, vi (-5))] [] cis14 (35, [(0, vr 14), (1, vi (-5))], [vi 1], cis15, (22, 0, 31, 5)) rfl) ?_
  exact RN_ret rfl
def cis16 : MS := up (up cis15 15 2 (-22)) 14 1 3
set_option maxRecDepth 100000 in
theorem cic6 : call 5 [vr 14, vi (-22)] (cis15, (22, 0, 31, 5)) = some (some (vi 1), (cis16, (22, 0, 31, 5))) := by
  show RN tb_5 (TT 5) (0, [(0, vr 14), (1, vi (-22))], [], cis15, (22, 0, 31, 5)) = _
  refine Eq.trans (it_RN 19 (22, 0, 31, 5) 0 [(0, vr 14), (1, vi (-22))] [] cis15 (35, [(0, vr 14), (1, vi (-22))], [vi 1], cis16, (22, 0, 31, 5)) rfl) ?_
  exact RN_ret rfl
def cis17 : MS := up cis16 21 0 3
set_option maxRecDepth 100000 in
theorem cic7 : call 6 [vr 5, vi 0] (cis16, (22, 0, 31, 5)) = some (none, (cis17, (22, 0, 31, 5))) := by
  show RN tb_6 (TT 6) (0, [(0, vr 5), (1, vi 0)], [], cis16, (22, 0, 31, 5)) = _
  refine Eq.trans (it_RN 12 (22, 0, 31, 5) 0 [(0, vr 5), (1, vi 0)] [] cis16 (22, [(0, vr 5), (1, vi 0)], [], cis17, (22, 0, 31, 5)) rfl) ?_
  exact RN_ret rfl
def cis18 : MS := up cis17 20 1 3
set_option maxRecDepth 100000 in
theorem cic8 : call 4 [vr 5, vi 1] (cis17, (22, 0, 31, 5)) = some (none, (cis18, (22, 0, 31, 5))) := by
  show RN tb_4 (TT 4) (0, [(0, vr 5), (1, vi 1)], [], cis17, (22, 0, 31, 5)) = _
  refine Eq.trans (it_RN 12 (22, 0, 31, 5) 0 [(0, vr 5), (1, vi 1)] [] cis17 (22, [(0, vr 5), (1, vi 1)], [], cis18, (22, 0, 31, 5)) rfl) ?_
  exact RN_ret rfl
def cis19 : MS := up (up cis18 15 3 0) 14 1 4
set_option maxRecDepth 100000 in
theorem cic9 : call 5 [vr 14, vi 0] (cis18, (22, 0, 31, 5)) = some (some (vi 1), (cis19, (22, 0, 31, 5))) := by
  show RN tb_5 (TT 5) (0, [(0, vr 14), (1, vi 0)], [], cis18, (22, 0, 31, 5)) = _
  refine Eq.trans (it_RN 19 (22, 0, 31, 5) 0 [(0, vr 14), (1, vi 0)] [] cis18 (35, [(0, vr 14), (1, vi 0)], [vi 1], cis19, (22, 0, 31, 5)) rfl) ?_
  exact RN_ret rfl
def cis20 : MS := up cis19 21 1 4
set_option maxRecDepth 100000 in
theorem cic10 : call 6 [vr 5, vi 1] (cis19, (22, 0, 31, 5)) = some (none, (cis20, (22, 0, 31, 5))) := by
  show RN tb_6 (TT 6) (0, [(0, vr 5), (1, vi 1)], [], cis19, (22, 0, 31, 5)) = _
  refine Eq.trans (it_RN 12 (22, 0, 31, 5) 0 [(0, vr 5), (1, vi 1)] [] cis19 (22, [(0, vr 5), (1, vi 1)], [], cis20, (22, 0, 31, 5)) rfl) ?_
  exact RN_ret rfl
def cis21 : MS := up cis20 20 2 4
set_option maxRecDepth 100000 in
theorem cic11 : call 4 [vr 5, vi 2] (cis20, (22, 0, 31, 5)) = some (none, (cis21, (22, 0, 31, 5))) := by
  show RN tb_4 (TT 4) (0, [(0, vr 5), (1, vi 2)], [], cis20, (22, 0, 31, 5)) = _
  refine Eq.trans (it_RN 12 (22, 0, 31, 5) 0 [(0, vr 5), (1, vi 2)] [] cis20 (22, [(0, vr 5), (1, vi 2)], [], cis21, (22, 0, 31, 5)) rfl) ?_
  exact RN_ret rfl
def cis22 : MS := up (up cis21 15 4 (-6)) 14 1 5
set_option maxRecDepth 100000 in
theorem cic12 : call 5 [vr 14, vi (-6)] (cis21, (22, 0, 31, 5)) = some (some (vi 1), (cis22, (22, 0, 31, 5))) := by
  show RN tb_5 (TT 5) (0, [(0, vr 14), (1, vi (-6))], [], cis21, (22, 0, 31, 5)) = _
  refine Eq.trans (it_RN 19 (22, 0, 31, 5) 0 [(0, vr 14), (1, vi (-6))] [] cis21 (35, [(0, vr 14), (1, vi (-6))], [vi 1], cis22, (22, 0, 31, 5)) rfl) ?_
  exact RN_ret rfl
def cis23 : MS := up (up cis22 15 5 50) 14 1 6
set_option maxRecDepth 100000 in
theorem cic13 : call 5 [vr 14, vi 50] (cis22, (22, 0, 31, 5)) = some (some (vi 1), (cis23, (22, 0, 31, 5))) := by
  show RN tb_5 (TT 5) (0, [(0, vr 14), (1, vi 50)], [], cis22, (22, 0, 31, 5)) = _
  refine Eq.trans (it_RN 19 (22, 0, 31, 5) 0 [(0, vr 14), (1, vi 50)] [] cis22 (35, [(0, vr 14), (1, vi 50)], [vi 1], cis23, (22, 0, 31, 5)) rfl) ?_
  exact RN_ret rfl
def cis24 : MS := up (up cis23 15 6 (-28)) 14 1 7
set_option maxRecDepth 100000 in
theorem cic14 : call 5 [vr 14, vi (-28)] (cis23, (22, 0, 31, 5)) = some (some (vi 1), (cis24, (22, 0, 31, 5))) := by
  show RN tb_5 (TT 5) (0, [(0, vr 14), (1, vi (-28))], [], cis23, (22, 0, 31, 5)) = _
  refine Eq.trans (it_RN 19 (22, 0, 31, 5) 0 [(0, vr 14), (1, vi (-28))] [] cis23 (35, [(0, vr 14), (1, vi (-28))], [vi 1], cis24, (22, 0, 31, 5)) rfl) ?_
  exact RN_ret rfl
def cis25 : MS := up cis24 21 2 7
set_option maxRecDepth 100000 in
theorem cic15 : call 6 [vr 5, vi 2] (cis24, (22, 0, 31, 5)) = some (none, (cis25, (22, 0, 31, 5))) := by
  show RN tb_6 (TT 6) (0, [(0, vr 5), (1, vi 2)], [], cis24, (22, 0, 31, 5)) = _
  refine Eq.trans (it_RN 12 (22, 0, 31, 5) 0 [(0, vr 5), (1, vi 2)] [] cis24 (22, [(0, vr 5), (1, vi 2)], [], cis25, (22, 0, 31, 5)) rfl) ?_
  exact RN_ret rfl
set_option maxRecDepth 100000 in
theorem cic16 : call 7 [vr 5] (cis9, (22, 0, 31, 5)) = some (none, (cis25, (22, 0, 31, 5))) := by
  show RN tb_7 (TT 7) (0, [(0, vr 5)], [], cis9, (22, 0, 31, 5)) = _
  refine Eq.trans (it_RN 24 (22, 0, 31, 5) 0 [(0, vr 5)] [] cis9 (38, [(0, vr 5), (1, vi 0)], [vr 5], cis10, (22, 0, 31, 5)) rfl) ?_
  refine Eq.trans (it_RN 24 (22, 0, 31, 5) 38 [(0, vr 5), (1, vi 0)] [vr 5] cis10 (44, [(0, vr 5), (1, vi 2)], [], cis11, (22, 0, 31, 5)) rfl) ?_
  refine Eq.trans (it_RN 21 (22, 0, 31, 5) 44 [(0, vr 5), (1, vi 2)] [] cis11 (60, [(0, vr 5), (1, vi 4)], [vi 0, vr 5], cis12, (22, 0, 31, 5)) rfl) ?_
  refine Eq.trans (RN_cV0 (k := 4) (ar := [vr 5, vi 0]) (nx := 63) (l' := [(0, vr 5), (1, vi 4)]) (rest := []) (by decide) rfl cic3 (by decide)) ?_
  refine Eq.trans (it_RN 3 (22, 0, 31, 5) 63 [(0, vr 5), (1, vi 4)] [] cis13 (69, [(0, vr 5), (1, vi 4)], [vi (-4), vr 14], cis13, (22, 0, 31, 5)) rfl) ?_
  refine Eq.trans (RN_cI0 (k := 5) (ar := [vr 14, vi (-4)]) (nx := 72) (l' := [(0, vr 5), (1, vi 4)]) (rest := []) (by decide) rfl cic4 (by decide)) ?_
  refine Eq.trans (it_RN 4 (22, 0, 31, 5) 72 [(0, vr 5), (1, vi 4)] [vi 1] cis14 (79, [(0, vr 5), (1, vi 4)], [vi (-5), vr 14], cis14, (22, 0, 31, 5)) rfl) ?_
  refine Eq.trans (RN_cI0 (k := 5) (ar := [vr 14, vi (-5)]) (nx := 82) (l' := [(0, vr 5), (1, vi 4)]) (rest := []) (by decide) rfl cic5 (by decide)) ?_
  refine Eq.trans (it_RN 4 (22, 0, 31, 5) 82 [(0, vr 5), (1, vi 4)] [vi 1] cis15 (89, [(0, vr 5), (1, vi 4)], [vi (-22), vr 14], cis15, (22, 0, 31, 5)) rfl) ?_
  refine Eq.trans (RN_cI0 (k := 5) (ar := [vr 14, vi (-22)]) (nx := 92) (l' := [(0, vr 5), (1, vi 4)]) (rest := []) (by decide) rfl cic6 (by decide)) ?_
  refine Eq.trans (it_RN 3 (22, 0, 31, 5) 92 [(0, vr 5), (1, vi 4)] [vi 1] cis16 (95, [(0, vr 5), (1, vi 4)], [vi 0, vr 5], cis16, (22, 0, 31, 5)) rfl) ?_
  refine Eq.trans (RN_cV0 (k := 6) (ar := [vr 5, vi 0]) (nx := 98) (l' := [(0, vr 5), (1, vi 4)]) (rest := []) (by decide) rfl cic7 (by decide)) ?_
  refine Eq.trans (it_RN 2 (22, 0, 31, 5) 98 [(0, vr 5), (1, vi 4)] [] cis17 (100, [(0, vr 5), (1, vi 4)], [vi 1, vr 5], cis17, (22, 0, 31, 5)) rfl) ?_
  refine Eq.trans (RN_cV0 (k := 4) (ar := [vr 5, vi 1]) (nx := 103) (l' := [(0, vr 5), (1, vi 4)]) (rest := []) (by decide) rfl cic8 (by decide)) ?_
  refine Eq.trans (it_RN 3 (22, 0, 31, 5) 103 [(0, vr 5), (1, vi 4)] [] cis18 (108, [(0, vr 5), (1, vi 4)], [vi 0, vr 14], cis18, (22, 0, 31, 5)) rfl) ?_
  refine Eq.trans (RN_cI0 (k := 5) (ar := [vr 14, vi 0]) (nx := 111) (l' := [(0, vr 5), (1, vi 4)]) (rest := []) (by decide) rfl cic9 (by decide)) ?_
  refine Eq.trans (it_RN 3 (22, 0, 31, 5) 111 [(0, vr 5), (1, vi 4)] [vi 1] cis19 (114, [(0, vr 5), (1, vi 4)], [vi 1, vr 5], cis19, (22, 0, 31, 5)) rfl) ?_
  refine Eq.trans (RN_cV0 (k := 6) (ar := [vr 5, vi 1]) (nx := 117) (l' := [(0, vr 5), (1, vi 4)]) (rest := []) (by decide) rfl cic10 (by decide)) ?_
  refine Eq.trans (it_RN 2 (22, 0, 31, 5) 117 [(0, vr 5), (1, vi 4)] [] cis20 (119, [(0, vr 5), (1, vi 4)], [vi 2, vr 5], cis20, (22, 0, 31, 5)) rfl) ?_
  refine Eq.trans (RN_cV0 (k := 4) (ar := [vr 5, vi 2]) (nx := 122) (l' := [(0, vr 5), (1, vi 4)]) (rest := []) (by decide) rfl cic11 (by decide)) ?_
  refine Eq.trans (it_RN 3 (22, 0, 31, 5) 122 [(0, vr 5), (1, vi 4)] [] cis21 (128, [(0, vr 5), (1, vi 4)], [vi (-6), vr 14], cis21, (22, 0, 31, 5)) rfl) ?_
  refine Eq.trans (RN_cI0 (k := 5) (ar := [vr 14, vi (-6)]) (nx := 131) (l' := [(0, vr 5), (1, vi 4)]) (rest := []) (by decide) rfl cic12 (by decide)) ?_
  refine Eq.trans (it_RN 4 (22, 0, 31, 5) 131 [(0, vr 5), (1, vi 4)] [vi 1] cis22 (138, [(0, vr 5), (1, vi 4)], [vi 50, vr 14], cis22, (22, 0, 31, 5)) rfl) ?_
  refine Eq.trans (RN_cI0 (k := 5) (ar := [vr 14, vi 50]) (nx := 141) (l' := [(0, vr 5), (1, vi 4)]) (rest := []) (by decide) rfl cic13 (by decide)) ?_
  refine Eq.trans (it_RN 4 (22, 0, 31, 5) 141 [(0, vr 5), (1, vi 4)] [vi 1] cis23 (148, [(0, vr 5), (1, vi 4)], [vi (-28), vr 14], cis23, (22, 0, 31, 5)) rfl) ?_
  refine Eq.trans (RN_cI0 (k := 5) (ar := [vr 14, vi (-28)]) (nx := 151) (l' := [(0, vr 5), (1, vi 4)]) (rest := []) (by decide) rfl cic14 (by decide)) ?_
  refine Eq.trans (it_RN 3 (22, 0, 31, 5) 151 [(0, vr 5), (1, vi 4)] [vi 1] cis24 (154, [(0, vr 5), (1, vi 4)], [vi 2, vr 5], cis24, (22, 0, 31, 5)) rfl) ?_
  refine Eq.trans (RN_cV0 (k := 6) (ar := [vr 5, vi 2]) (nx := 157) (l' := [(0, vr 5), (1, vi 4)]) (rest := []) (by decide) rfl cic15 (by decide)) ?_
  exact RN_ret rfl
set_option maxRecDepth 100000 in
theorem cic17 : call 8 [vr 5] (cis3, (6, 0, 31, 5)) = some (none, (cis25, (22, 0, 31, 5))) := by
  show RN tb_8 (TT 8) (0, [(0, vr 5)], [], cis3, (6, 0, 31, 5)) = _
  refine Eq.trans (it_RN 24 (6, 0, 31, 5) 0 [(0, vr 5)] [] cis3 (42, [(0, vr 5)], [], cis4, (7, 0, 31, 5)) rfl) ?_
  refine Eq.trans (it_RN 24 (7, 0, 31, 5) 42 [(0, vr 5)] [] cis4 (89, [(0, vr 5)], [], cis5, (13, 0, 31, 5)) rfl) ?_
  refine Eq.trans (it_RN 7 (13, 0, 31, 5) 89 [(0, vr 5)] [] cis5 (101, [(0, vr 5)], [vr 14, vr 14, vr 5], cis6, (15, 0, 31, 5)) rfl) ?_
  refine Eq.trans (RN_cV0 (k := 3) (ar := [vr 14]) (nx := 104) (l' := [(0, vr 5)]) (rest := [vr 14, vr 5]) (by decide) rfl cic2 (by decide)) ?_
  refine Eq.trans (it_RN 10 (20, 0, 31, 5) 104 [(0, vr 5)] [vr 14, vr 5] cis8 (122, [(0, vr 5)], [vr 5], cis9, (22, 0, 31, 5)) rfl) ?_
  refine Eq.trans (RN_cV0 (k := 7) (ar := [vr 5]) (nx := 125) (l' := [(0, vr 5)]) (rest := []) (by decide) rfl cic16 (by decide)) ?_
  exact RN_ret rfl
def cis26 : MS := up cis25 1 1 1
def cis27 : MS := up (up (up cis26 22 3 0) 22 0 1) 22 2 1
def cis28 : MS := up (up (up (up cis27 23 2 0) 23 3 0) 23 0 1) 23 1 1
set_option maxRecDepth 100000 in
theorem cic18 : call 9 [vr 23, vr 2, vr 14] (cis27, (24, 0, 31, 5)) = some (none, (cis28, (24, 0, 31, 5))) := by
  show RN tb_9 (TT 9) (0, [(0, vr 23), (1, vr 2), (2, vr 14)], [], cis27, (24, 0, 31, 5)) = _
  refine Eq.trans (it_RN 14 (24, 0, 31, 5) 0 [(0, vr 23), (1, vr 2), (2, vr 14)] [] cis27 (24, [(0, vr 23), (1, vr 2), (2, vr 14)], [], cis28, (24, 0, 31, 5)) rfl) ?_
  exact RN_ret rfl
def cis29 : MS := up cis28 22 1 1
set_option maxRecDepth 100000 in
theorem cic19 : call 10 [vr 22, vr 2, vr 5] (cis26, (23, 0, 31, 5)) = some (none, (cis29, (24, 0, 31, 5))) := by
  show RN tb_10 (TT 10) (0, [(0, vr 22), (1, vr 2), (2, vr 5)], [], cis26, (23, 0, 31, 5)) = _
  refine Eq.trans (it_RN 17 (23, 0, 31, 5) 0 [(0, vr 22), (1, vr 2), (2, vr 5)] [] cis26 (29, [(0, vr 22), (1, vr 2), (2, vr 5)], [vr 14, vr 2, vr 23, vr 23, vr 22], cis27, (24, 0, 31, 5)) rfl) ?_
  refine Eq.trans (RN_cV0 (k := 9) (ar := [vr 23, vr 2, vr 14]) (nx := 32) (l' := [(0, vr 22), (1, vr 2), (2, vr 5)]) (rest := [vr 23, vr 22]) (by decide) rfl cic18 (by decide)) ?_
  refine Eq.trans (it_RN 1 (24, 0, 31, 5) 32 [(0, vr 22), (1, vr 2), (2, vr 5)] [vr 23, vr 22] cis28 (35, [(0, vr 22), (1, vr 2), (2, vr 5)], [], cis29, (24, 0, 31, 5)) rfl) ?_
  exact RN_ret rfl
def cis30 : MS := up cis29 1 2 1
def cis31 : MS := up (up (up (up (up (up cis30 24 0 0) 24 1 0) 24 2 0) 24 3 1) 24 4 1) 24 5 0
set_option maxRecDepth 100000 in
theorem cic20 : call 11 [vr 24] (cis30, (25, 0, 31, 5)) = some (none, (cis31, (27, 0, 31, 5))) := by
  show RN tb_11 (TT 11) (0, [(0, vr 24)], [], cis30, (25, 0, 31, 5)) = _
  refine Eq.trans (it_RN 22 (25, 0, 31, 5) 0 [(0, vr 24)] [] cis30 (39, [(0, vr 24)], [], cis31, (27, 0, 31, 5)) rfl) ?_
  exact RN_ret rfl
def cis32 : MS := up cis31 1 3 1
def cis33 : MS := up (up (up (up (up (up cis32 27 0 0) 27 1 0) 27 2 0) 27 3 1) 27 4 1) 27 5 0
set_option maxRecDepth 100000 in
theorem cic21 : call 11 [vr 27] (cis32, (28, 0, 31, 5)) = some (none, (cis33, (30, 0, 31, 5))) := by
  show RN tb_11 (TT 11) (0, [(0, vr 27)], [], cis32, (28, 0, 31, 5)) = _
  refine Eq.trans (it_RN 22 (28, 0, 31, 5) 0 [(0, vr 27)] [] cis32 (39, [(0, vr 27)], [], cis33, (30, 0, 31, 5)) rfl) ?_
  exact RN_ret rfl
def cis34 : MS := up cis33 1 4 1
def cis35 : MS := up (up (up (up (up (up (up cis34 31 0 0) 31 1 0) 31 2 0) 31 3 0) 31 4 0) 31 5 0) 31 6 1
def cis36 : MS := up (up (up (up (up (up cis35 31 7 1) 31 8 1) 31 9 1) 31 10 1) 31 11 1) 31 12 1
def cis37 : MS := up cis36 31 13 1
def cis38 : MS := up (up (up (up (up cis37 40 0 1) 40 1 0) 40 2 1) 40 3 1) 40 4 1
def cis39 : MS := up cis38 40 5 1
set_option maxRecDepth 100000 in
theorem cic22 : call 3 [vr 40] (cis37, (41, 0, 31, 5)) = some (none, (cis39, (46, 0, 31, 5))) := by
  show RN tb_3 (TT 3) (0, [(0, vr 40)], [], cis37, (41, 0, 31, 5)) = _
  refine Eq.trans (it_RN 24 (41, 0, 31, 5) 0 [(0, vr 40)] [] cis37 (46, [(0, vr 40)], [vr 45, vr 40], cis38, (46, 0, 31, 5)) rfl) ?_
  refine Eq.trans (it_RN 1 (46, 0, 31, 5) 46 [(0, vr 40)] [vr 45, vr 40] cis38 (49, [(0, vr 40)], [], cis39, (46, 0, 31, 5)) rfl) ?_
  exact RN_ret rfl
def cis40 : MS := up (up (up cis39 31 14 1) 31 15 1) 31 16 1
def cis41 : MS := up (up (up (up (up (up cis40 31 0 0) 31 1 0) 31 2 0) 31 3 0) 31 4 0) 31 5 0
def cis42 : MS := up (up (up cis41 39 0 0) 39 1 0) 39 2 0
def cis43 : MS := up (up cis42 39 3 0) 40 1 0
def cis44 : MS := up cis43 46 0 0
set_option maxRecDepth 100000 in
theorem cic23 : call 4 [vr 31, vi 0] (cis43, (48, 0, 31, 5)) = some (none, (cis44, (48, 0, 31, 5))) := by
  show RN tb_4 (TT 4) (0, [(0, vr 31), (1, vi 0)], [], cis43, (48, 0, 31, 5)) = _
  refine Eq.trans (it_RN 12 (48, 0, 31, 5) 0 [(0, vr 31), (1, vi 0)] [] cis43 (22, [(0, vr 31), (1, vi 0)], [], cis44, (48, 0, 31, 5)) rfl) ?_
  exact RN_ret rfl
def cis45 : MS := up (up cis44 41 0 (-4)) 40 1 1
set_option maxRecDepth 100000 in
theorem cic24 : call 5 [vr 40, vi (-4)] (cis44, (48, 0, 31, 5)) = some (some (vi 1), (cis45, (48, 0, 31, 5))) := by
  show RN tb_5 (TT 5) (0, [(0, vr 40), (1, vi (-4))], [], cis44, (48, 0, 31, 5)) = _
  refine Eq.trans (it_RN 19 (48, 0, 31, 5) 0 [(0, vr 40), (1, vi (-4))] [] cis44 (35, [(0, vr 40), (1, vi (-4))], [vi 1], cis45, (48, 0, 31, 5)) rfl) ?_
  exact RN_ret rfl
def cis46 : MS := up (up cis45 41 1 (-5)) 40 1 2
set_option maxRecDepth 100000 in
theorem cic25 : call 5 [vr 40, vi (-5)] (cis45, (48, 0, 31, 5)) = some (some (vi 1), (cis46, (48, 0, 31, 5))) := by
  show RN tb_5 (TT 5) (0, [(0, vr 40), (1, vi (-5))], [], cis45, (48, 0, 31, 5)) = _
  refine Eq.trans (it_RN 19 (48, 0, 31, 5) 0 [(0, vr 40), (1, vi (-5))] [] cis45 (35, [(0, vr 40), (1, vi (-5))], [vi 1], cis46, (48, 0, 31, 5)) rfl) ?_
  exact RN_ret rfl
def cis47 : MS := up (up cis46 41 2 (-22)) 40 1 3
set_option maxRecDepth 100000 in
theorem cic26 : call 5 [vr 40, vi (-22)] (cis46, (48, 0, 31, 5)) = some (some (vi 1), (cis47, (48, 0, 31, 5))) := by
  show RN tb_5 (TT 5) (0, [(0, vr 40), (1, vi (-22))], [], cis46, (48, 0, 31, 5)) = _
  refine Eq.trans (it_RN 19 (48, 0, 31, 5) 0 [(0, vr 40), (1, vi (-22))] [] cis46 (35, [(0, vr 40), (1, vi (-22))], [vi 1], cis47, (48, 0, 31, 5)) rfl) ?_
  exact RN_ret rfl
def cis48 : MS := up cis47 47 0 3
set_option maxRecDepth 100000 in
theorem cic27 : call 6 [vr 31, vi 0] (cis47, (48, 0, 31, 5)) = some (none, (cis48, (48, 0, 31, 5))) := by
  show RN tb_6 (TT 6) (0, [(0, vr 31), (1, vi 0)], [], cis47, (48, 0, 31, 5)) = _
  refine Eq.trans (it_RN 12 (48, 0, 31, 5) 0 [(0, vr 31), (1, vi 0)] [] cis47 (22, [(0, vr 31), (1, vi 0)], [], cis48, (48, 0, 31, 5)) rfl) ?_
  exact RN_ret rfl
def cis49 : MS := up cis48 46 1 3
set_option maxRecDepth 100000 in
theorem cic28 : call 4 [vr 31, vi 1] (cis48, (48, 0, 31, 5)) = some (none, (cis49, (48, 0, 31, 5))) := by
  show RN tb_4 (TT 4) (0, [(0, vr 31), (1, vi 1)], [], cis48, (48, 0, 31, 5)) = _
  refine Eq.trans (it_RN 12 (48, 0, 31, 5) 0 [(0, vr 31), (1, vi 1)] [] cis48 (22, [(0, vr 31), (1, vi 1)], [], cis49, (48, 0, 31, 5)) rfl) ?_
  exact RN_ret rfl
def cis50 : MS := up (up cis49 41 3 0) 40 1 4
set_option maxRecDepth 100000 in
theorem cic29 : call 5 [vr 40, vi 0] (cis49, (48, 0, 31, 5)) = some (some (vi 1), (cis50, (48, 0, 31, 5))) := by
  show RN tb_5 (TT 5) (0, [(0, vr 40), (1, vi 0)], [], cis49, (48, 0, 31, 5)) = _
  refine Eq.trans (it_RN 19 (48, 0, 31, 5) 0 [(0, vr 40), (1, vi 0)] [] cis49 (35, [(0, vr 40), (1, vi 0)], [vi 1], cis50, (48, 0, 31, 5)) rfl) ?_
  exact RN_ret rfl
def cis51 : MS := up cis50 47 1 4
set_option maxRecDepth 100000 in
theorem cic30 : call 6 [vr 31, vi 1] (cis50, (48, 0, 31, 5)) = some (none, (cis51, (48, 0, 31, 5))) := by
  show RN tb_6 (TT 6) (0, [(0, vr 31), (1, vi 1)], [], cis50, (48, 0, 31, 5)) = _
  refine Eq.trans (it_RN 12 (48, 0, 31, 5) 0 [(0, vr 31), (1, vi 1)] [] cis50 (22, [(0, vr 31), (1, vi 1)], [], cis51, (48, 0, 31, 5)) rfl) ?_
  exact RN_ret rfl
def cis52 : MS := up cis51 46 2 4
set_option maxRecDepth 100000 in
theorem cic31 : call 4 [vr 31, vi 2] (cis51, (48, 0, 31, 5)) = some (none, (cis52, (48, 0, 31, 5))) := by
  show RN tb_4 (TT 4) (0, [(0, vr 31), (1, vi 2)], [], cis51, (48, 0, 31, 5)) = _
  refine Eq.trans (it_RN 12 (48, 0, 31, 5) 0 [(0, vr 31), (1, vi 2)] [] cis51 (22, [(0, vr 31), (1, vi 2)], [], cis52, (48, 0, 31, 5)) rfl) ?_
  exact RN_ret rfl
def cis53 : MS := up (up cis52 41 4 (-6)) 40 1 5
set_option maxRecDepth 100000 in
theorem cic32 : call 5 [vr 40, vi (-6)] (cis52, (48, 0, 31, 5)) = some (some (vi 1), (cis53, (48, 0, 31, 5))) := by
  show RN tb_5 (TT 5) (0, [(0, vr 40), (1, vi (-6))], [], cis52, (48, 0, 31, 5)) = _
  refine Eq.trans (it_RN 19 (48, 0, 31, 5) 0 [(0, vr 40), (1, vi (-6))] [] cis52 (35, [(0, vr 40), (1, vi (-6))], [vi 1], cis53, (48, 0, 31, 5)) rfl) ?_
  exact RN_ret rfl
def cis54 : MS := up (up cis53 41 5 50) 40 1 6
set_option maxRecDepth 100000 in
theorem cic33 : call 5 [vr 40, vi 50] (cis53, (48, 0, 31, 5)) = some (some (vi 1), (cis54, (48, 0, 31, 5))) := by
  show RN tb_5 (TT 5) (0, [(0, vr 40), (1, vi 50)], [], cis53, (48, 0, 31, 5)) = _
  refine Eq.trans (it_RN 19 (48, 0, 31, 5) 0 [(0, vr 40), (1, vi 50)] [] cis53 (35, [(0, vr 40), (1, vi 50)], [vi 1], cis54, (48, 0, 31, 5)) rfl) ?_
  exact RN_ret rfl
def cis55 : MS := up (up cis54 41 6 (-28)) 40 1 7
set_option maxRecDepth 100000 in
theorem cic34 : call 5 [vr 40, vi (-28)] (cis54, (48, 0, 31, 5)) = some (some (vi 1), (cis55, (48, 0, 31, 5))) := by
  show RN tb_5 (TT 5) (0, [(0, vr 40), (1, vi (-28))], [], cis54, (48, 0, 31, 5)) = _
  refine Eq.trans (it_RN 19 (48, 0, 31, 5) 0 [(0, vr 40), (1, vi (-28))] [] cis54 (35, [(0, vr 40), (1, vi (-28))], [vi 1], cis55, (48, 0, 31, 5)) rfl) ?_
  exact RN_ret rfl
def cis56 : MS := up cis55 47 2 7
set_option maxRecDepth 100000 in
theorem cic35 : call 6 [vr 31, vi 2] (cis55, (48, 0, 31, 5)) = some (none, (cis56, (48, 0, 31, 5))) := by
  show RN tb_6 (TT 6) (0, [(0, vr 31), (1, vi 2)], [], cis55, (48, 0, 31, 5)) = _
  refine Eq.trans (it_RN 12 (48, 0, 31, 5) 0 [(0, vr 31), (1, vi 2)] [] cis55 (22, [(0, vr 31), (1, vi 2)], [], cis56, (48, 0, 31, 5)) rfl) ?_
  exact RN_ret rfl
set_option maxRecDepth 100000 in
theorem cic36 : call 7 [vr 31] (cis40, (48, 0, 31, 5)) = some (none, (cis56, (48, 0, 31, 5))) := by
  show RN tb_7 (TT 7) (0, [(0, vr 31)], [], cis40, (48, 0, 31, 5)) = _
  refine Eq.trans (it_RN 24 (48, 0, 31, 5) 0 [(0, vr 31)] [] cis40 (38, [(0, vr 31), (1, vi 0)], [vr 31], cis41, (48, 0, 31, 5)) rfl) ?_
  refine Eq.trans (it_RN 24 (48, 0, 31, 5) 38 [(0, vr 31), (1, vi 0)] [vr 31] cis41 (44, [(0, vr 31), (1, vi 2)], [], cis42, (48, 0, 31, 5)) rfl) ?_
  refine Eq.trans (it_RN 21 (48, 0, 31, 5) 44 [(0, vr 31), (1, vi 2)] [] cis42 (60, [(0, vr 31), (1, vi 4)], [vi 0, vr 31], cis43, (48, 0, 31, 5)) rfl) ?_
  refine Eq.trans (RN_cV0 (k := 4) (ar := [vr 31, vi 0]) (nx := 63) (l' := [(0, vr 31), (1, vi 4)]) (rest := []) (by decide) rfl cic23 (by decide)) ?_
  refine Eq.trans (it_RN 3 (48, 0, 31, 5) 63 [(0, vr 31), (1, vi 4)] [] cis44 (69, [(0, vr 31), (1, vi 4)], [vi (-4), vr 40], cis44, (48, 0, 31, 5)) rfl) ?_
  refine Eq.trans (RN_cI0 (k := 5) (ar := [vr 40, vi (-4)]) (nx := 72) (l' := [(0, vr 31), (1, vi 4)]) (rest := []) (by decide) rfl cic24 (by decide)) ?_
  refine Eq.trans (it_RN 4 (48, 0, 31, 5) 72 [(0, vr 31), (1, vi 4)] [vi 1] cis45 (79, [(0, vr 31), (1, vi 4)], [vi (-5), vr 40], cis45, (48, 0, 31, 5)) rfl) ?_
  refine Eq.trans (RN_cI0 (k := 5) (ar := [vr 40, vi (-5)]) (nx := 82) (l' := [(0, vr 31), (1, vi 4)]) (rest := []) (by decide) rfl cic25 (by decide)) ?_
  refine Eq.trans (it_RN 4 (48, 0, 31, 5) 82 [(0, vr 31), (1, vi 4)] [vi 1] cis46 (89, [(0, vr 31), (1, vi 4)], [vi (-22), vr 40], cis46, (48, 0, 31, 5)) rfl) ?_
  refine Eq.trans (RN_cI0 (k := 5) (ar := [vr 40, vi (-22)]) (nx := 92) (l' := [(0, vr 31), (1, vi 4)]) (rest := []) (by decide) rfl cic26 (by decide)) ?_
  refine Eq.trans (it_RN 3 (48, 0, 31, 5) 92 [(0, vr 31), (1, vi 4)] [vi 1] cis47 (95, [(0, vr 31), (1, vi 4)], [vi 0, vr 31], cis47, (48, 0, 31, 5)) rfl) ?_
  refine Eq.trans (RN_cV0 (k := 6) (ar := [vr 31, vi 0]) (nx := 98) (l' := [(0, vr 31), (1, vi 4)]) (rest := []) (by decide) rfl cic27 (by decide)) ?_
  refine Eq.trans (it_RN 2 (48, 0, 31, 5) 98 [(0, vr 31), (1, vi 4)] [] cis48 (100, [(0, vr 31), (1, vi 4)], [vi 1, vr 31], cis48, (48, 0, 31, 5)) rfl) ?_
  refine Eq.trans (RN_cV0 (k := 4) (ar := [vr 31, vi 1]) (nx := 103) (l' := [(0, vr 31), (1, vi 4)]) (rest := []) (by decide) rfl cic28 (by decide)) ?_
  refine Eq.trans (it_RN 3 (48, 0, 31, 5) 103 [(0, vr 31), (1, vi 4)] [] cis49 (108, [(0, vr 31), (1, vi 4)], [vi 0, vr 40], cis49, (48, 0, 31, 5)) rfl) ?_
  refine Eq.trans (RN_cI0 (k := 5) (ar := [vr 40, vi 0]) (nx := 111) (l' := [(0, vr 31), (1, vi 4)]) (rest := []) (by decide) rfl cic29 (by decide)) ?_
  refine Eq.trans (it_RN 3 (48, 0, 31, 5) 111 [(0, vr 31), (1, vi 4)] [vi 1] cis50 (114, [(0, vr 31), (1, vi 4)], [vi 1, vr 31], cis50, (48, 0, 31, 5)) rfl) ?_
  refine Eq.trans (RN_cV0 (k := 6) (ar := [vr 31, vi 1]) (nx := 117) (l' := [(0, vr 31), (1, vi 4)]) (rest := []) (by decide) rfl cic30 (by decide)) ?_
  refine Eq.trans (it_RN 2 (48, 0, 31, 5) 117 [(0, vr 31), (1, vi 4)] [] cis51 (119, [(0, vr 31), (1, vi 4)], [vi 2, vr 31], cis51, (48, 0, 31, 5)) rfl) ?_
  refine Eq.trans (RN_cV0 (k := 4) (ar := [vr 31, vi 2]) (nx := 122) (l' := [(0, vr 31), (1, vi 4)]) (rest := []) (by decide) rfl cic31 (by decide)) ?_
  refine Eq.trans (it_RN 3 (48, 0, 31, 5) 122 [(0, vr 31), (1, vi 4)] [] cis52 (128, [(0, vr 31), (1, vi 4)], [vi (-6), vr 40], cis52, (48, 0, 31, 5)) rfl) ?_
  refine Eq.trans (RN_cI0 (k := 5) (ar := [vr 40, vi (-6)]) (nx := 131) (l' := [(0, vr 31), (1, vi 4)]) (rest := []) (by decide) rfl cic32 (by decide)) ?_
  refine Eq.trans (it_RN 4 (48, 0, 31, 5) 131 [(0, vr 31), (1, vi 4)] [vi 1] cis53 (138, [(0, vr 31), (1, vi 4)], [vi 50, vr 40], cis53, (48, 0, 31, 5)) rfl) ?_
  refine Eq.trans (RN_cI0 (k := 5) (ar := [vr 40, vi 50]) (nx := 141) (l' := [(0, vr 31), (1, vi 4)]) (rest := []) (by decide) rfl cic33 (by decide)) ?_
  refine Eq.trans (it_RN 4 (48, 0, 31, 5) 141 [(0, vr 31), (1, vi 4)] [vi 1] cis54 (148, [(0, vr 31), (1, vi 4)], [vi (-28), vr 40], cis54, (48, 0, 31, 5)) rfl) ?_
  refine Eq.trans (RN_cI0 (k := 5) (ar := [vr 40, vi (-28)]) (nx := 151) (l' := [(0, vr 31), (1, vi 4)]) (rest := []) (by decide) rfl cic34 (by decide)) ?_
  refine Eq.trans (it_RN 3 (48, 0, 31, 5) 151 [(0, vr 31), (1, vi 4)] [vi 1] cis55 (154, [(0, vr 31), (1, vi 4)], [vi 2, vr 31], cis55, (48, 0, 31, 5)) rfl) ?_
  refine Eq.trans (RN_cV0 (k := 6) (ar := [vr 31, vi 2]) (nx := 157) (l' := [(0, vr 31), (1, vi 4)]) (rest := []) (by decide) rfl cic35 (by decide)) ?_
  exact RN_ret rfl
set_option maxRecDepth 100000 in
theorem cic37 : call 8 [vr 31] (cis34, (32, 0, 31, 5)) = some (none, (cis56, (48, 0, 31, 5))) := by
  show RN tb_8 (TT 8) (0, [(0, vr 31)], [], cis34, (32, 0, 31, 5)) = _
  refine Eq.trans (it_RN 24 (32, 0, 31, 5) 0 [(0, vr 31)] [] cis34 (42, [(0, vr 31)], [], cis35, (33, 0, 31, 5)) rfl) ?_
  refine Eq.trans (it_RN 24 (33, 0, 31, 5) 42 [(0, vr 31)] [] cis35 (89, [(0, vr 31)], [], cis36, (39, 0, 31, 5)) rfl) ?_
  refine Eq.trans (it_RN 7 (39, 0, 31, 5) 89 [(0, vr 31)] [] cis36 (101, [(0, vr 31)], [vr 40, vr 40, vr 31], cis37, (41, 0, 31, 5)) rfl) ?_
  refine Eq.trans (RN_cV0 (k := 3) (ar := [vr 40]) (nx := 104) (l' := [(0, vr 31)]) (rest := [vr 40, vr 31]) (by decide) rfl cic22 (by decide)) ?_
  refine Eq.trans (it_RN 10 (46, 0, 31, 5) 104 [(0, vr 31)] [vr 40, vr 31] cis39 (122, [(0, vr 31)], [vr 31], cis40, (48, 0, 31, 5)) rfl) ?_
  refine Eq.trans (RN_cV0 (k := 7) (ar := [vr 31]) (nx := 125) (l' := [(0, vr 31)]) (rest := []) (by decide) rfl cic36 (by decide)) ?_
  exact RN_ret rfl
def cis57 : MS := up (up (up (up (up (up cis56 30 1 1) 30 2 1) 30 3 1) 30 4 0) 30 5 1) 30 0 1
set_option maxRecDepth 100000 in
theorem cic38 : call 12 [vr 30, vr 31] (cis56, (48, 0, 31, 5)) = some (none, (cis57, (51, 0, 31, 5))) := by
  show RN tb_12 (TT 12) (0, [(0, vr 30), (1, vr 31)], [], cis56, (48, 0, 31, 5)) = _
  refine Eq.trans (it_RN 23 (48, 0, 31, 5) 0 [(0, vr 30), (1, vr 31)] [] cis56 (45, [(0, vr 30), (1, vr 31)], [], cis57, (51, 0, 31, 5)) rfl) ?_
  exact RN_ret rfl
def cis58 : MS := up cis57 1 5 1
def cis59 : MS := up (up (up cis58 51 0 1) 51 1 0) 51 2 0
def cis60 : MS := up (up (up (up (up (up cis59 53 0 0) 53 1 0) 53 2 0) 53 3 1) 53 4 1) 53 5 0
set_option maxRecDepth 100000 in
theorem cic39 : call 11 [vr 53] (cis59, (54, 0, 31, 5)) = some (none, (cis60, (56, 0, 31, 5))) := by
  show RN tb_11 (TT 11) (0, [(0, vr 53)], [], cis59, (54, 0, 31, 5)) = _
  refine Eq.trans (it_RN 22 (54, 0, 31, 5) 0 [(0, vr 53)] [] cis59 (39, [(0, vr 53)], [], cis60, (56, 0, 31, 5)) rfl) ?_
  exact RN_ret rfl
def cis61 : MS := up cis60 52 0 1
def cis62 : MS := up (up (up (up (up (up cis61 56 0 0) 56 1 0) 56 2 0) 56 3 1) 56 4 1) 56 5 0
set_option maxRecDepth 100000 in
theorem cic40 : call 11 [vr 56] (cis61, (57, 0, 31, 5)) = some (none, (cis62, (59, 0, 31, 5))) := by
  show RN tb_11 (TT 11) (0, [(0, vr 56)], [], cis61, (57, 0, 31, 5)) = _
  refine Eq.trans (it_RN 22 (57, 0, 31, 5) 0 [(0, vr 56)] [] cis61 (39, [(0, vr 56)], [], cis62, (59, 0, 31, 5)) rfl) ?_
  exact RN_ret rfl
def cis63 : MS := up cis62 52 1 1
def cis64 : MS := up (up (up (up (up (up cis63 59 0 0) 59 1 0) 59 2 0) 59 3 1) 59 4 1) 59 5 0
set_option maxRecDepth 100000 in
theorem cic41 : call 11 [vr 59] (cis63, (60, 0, 31, 5)) = some (none, (cis64, (62, 0, 31, 5))) := by
  show RN tb_11 (TT 11) (0, [(0, vr 59)], [], cis63, (60, 0, 31, 5)) = _
  refine Eq.trans (it_RN 22 (60, 0, 31, 5) 0 [(0, vr 59)] [] cis63 (39, [(0, vr 59)], [], cis64, (62, 0, 31, 5)) rfl) ?_
  exact RN_ret rfl
def cis65 : MS := up cis64 52 2 1
def cis66 : MS := up (up (up (up (up (up cis65 62 0 0) 62 1 0) 62 2 0) 62 3 1) 62 4 1) 62 5 0
set_option maxRecDepth 100000 in
theorem cic42 : call 11 [vr 62] (cis65, (63, 0, 31, 5)) = some (none, (cis66, (65, 0, 31, 5))) := by
  show RN tb_11 (TT 11) (0, [(0, vr 62)], [], cis65, (63, 0, 31, 5)) = _
  refine Eq.trans (it_RN 22 (63, 0, 31, 5) 0 [(0, vr 62)] [] cis65 (39, [(0, vr 62)], [], cis66, (65, 0, 31, 5)) rfl) ?_
  exact RN_ret rfl
def cis67 : MS := up cis66 52 3 1
def cis68 : MS := up (up (up (up (up (up cis67 65 0 0) 65 1 0) 65 2 0) 65 3 1) 65 4 1) 65 5 0
set_option maxRecDepth 100000 in
theorem cic43 : call 11 [vr 65] (cis67, (66, 0, 31, 5)) = some (none, (cis68, (68, 0, 31, 5))) := by
  show RN tb_11 (TT 11) (0, [(0, vr 65)], [], cis67, (66, 0, 31, 5)) = _
  refine Eq.trans (it_RN 22 (66, 0, 31, 5) 0 [(0, vr 65)] [] cis67 (39, [(0, vr 65)], [], cis68, (68, 0, 31, 5)) rfl) ?_
  exact RN_ret rfl
def cis69 : MS := up cis68 52 4 1
def cis70 : MS := up (up (up (up (up (up cis69 68 0 0) 68 1 0) 68 2 0) 68 3 1) 68 4 1) 68 5 0
set_option maxRecDepth 100000 in
theorem cic44 : call 11 [vr 68] (cis69, (69, 0, 31, 5)) = some (none, (cis70, (71, 0, 31, 5))) := by
  show RN tb_11 (TT 11) (0, [(0, vr 68)], [], cis69, (69, 0, 31, 5)) = _
  refine Eq.trans (it_RN 22 (69, 0, 31, 5) 0 [(0, vr 68)] [] cis69 (39, [(0, vr 68)], [], cis70, (71, 0, 31, 5)) rfl) ?_
  exact RN_ret rfl
def cis71 : MS := up cis70 52 5 1
def cis72 : MS := up (up (up (up (up (up cis71 71 0 0) 71 1 0) 71 2 0) 71 3 1) 71 4 1) 71 5 0
set_option maxRecDepth 100000 in
theorem cic45 : call 11 [vr 71] (cis71, (72, 0, 31, 5)) = some (none, (cis72, (74, 0, 31, 5))) := by
  show RN tb_11 (TT 11) (0, [(0, vr 71)], [], cis71, (72, 0, 31, 5)) = _
  refine Eq.trans (it_RN 22 (72, 0, 31, 5) 0 [(0, vr 71)] [] cis71 (39, [(0, vr 71)], [], cis72, (74, 0, 31, 5)) rfl) ?_
  exact RN_ret rfl
def cis73 : MS := up cis72 52 6 1
def cis74 : MS := up (up (up (up (up (up cis73 74 0 0) 74 1 0) 74 2 0) 74 3 1) 74 4 1) 74 5 0
set_option maxRecDepth 100000 in
theorem cic46 : call 11 [vr 74] (cis73, (75, 0, 31, 5)) = some (none, (cis74, (77, 0, 31, 5))) := by
  show RN tb_11 (TT 11) (0, [(0, vr 74)], [], cis73, (75, 0, 31, 5)) = _
  refine Eq.trans (it_RN 22 (75, 0, 31, 5) 0 [(0, vr 74)] [] cis73 (39, [(0, vr 74)], [], cis74, (77, 0, 31, 5)) rfl) ?_
  exact RN_ret rfl
def cis75 : MS := up cis74 52 7 1
def cis76 : MS := up (up (up (up (up (up cis75 77 0 0) 77 1 0) 77 2 0) 77 3 1) 77 4 1) 77 5 0
set_option maxRecDepth 100000 in
theorem cic47 : call 11 [vr 77] (cis75, (78, 0, 31, 5)) = some (none, (cis76, (80, 0, 31, 5))) := by
  show RN tb_11 (TT 11) (0, [(0, vr 77)], [], cis75, (78, 0, 31, 5)) = _
  refine Eq.trans (it_RN 22 (78, 0, 31, 5) 0 [(0, vr 77)] [] cis75 (39, [(0, vr 77)], [], cis76, (80, 0, 31, 5)) rfl) ?_
  exact RN_ret rfl
def cis77 : MS := up cis76 52 8 1
def cis78 : MS := up (up (up (up (up (up cis77 80 0 0) 80 1 0) 80 2 0) 80 3 1) 80 4 1) 80 5 0
set_option maxRecDepth 100000 in
theorem cic48 : call 11 [vr 80] (cis77, (81, 0, 31, 5)) = some (none, (cis78, (83, 0, 31, 5))) := by
  show RN tb_11 (TT 11) (0, [(0, vr 80)], [], cis77, (81, 0, 31, 5)) = _
  refine Eq.trans (it_RN 22 (81, 0, 31, 5) 0 [(0, vr 80)] [] cis77 (39, [(0, vr 80)], [], cis78, (83, 0, 31, 5)) rfl) ?_
  exact RN_ret rfl
def cis79 : MS := up cis78 52 9 1
def cis80 : MS := up (up (up (up (up (up cis79 83 0 0) 83 1 0) 83 2 0) 83 3 1) 83 4 1) 83 5 0
set_option maxRecDepth 100000 in
theorem cic49 : call 11 [vr 83] (cis79, (84, 0, 31, 5)) = some (none, (cis80, (86, 0, 31, 5))) := by
  show RN tb_11 (TT 11) (0, [(0, vr 83)], [], cis79, (84, 0, 31, 5)) = _
  refine Eq.trans (it_RN 22 (84, 0, 31, 5) 0 [(0, vr 83)] [] cis79 (39, [(0, vr 83)], [], cis80, (86, 0, 31, 5)) rfl) ?_
  exact RN_ret rfl
def cis81 : MS := up cis80 52 10 1
def cis82 : MS := up (up (up (up (up (up cis81 86 0 0) 86 1 0) 86 2 0) 86 3 1) 86 4 1) 86 5 0
set_option maxRecDepth 100000 in
theorem cic50 : call 11 [vr 86] (cis81, (87, 0, 31, 5)) = some (none, (cis82, (89, 0, 31, 5))) := by
  show RN tb_11 (TT 11) (0, [(0, vr 86)], [], cis81, (87, 0, 31, 5)) = _
  refine Eq.trans (it_RN 22 (87, 0, 31, 5) 0 [(0, vr 86)] [] cis81 (39, [(0, vr 86)], [], cis82, (89, 0, 31, 5)) rfl) ?_
  exact RN_ret rfl
def cis83 : MS := up cis82 52 11 1
def cis84 : MS := up (up (up (up (up (up cis83 89 0 0) 89 1 0) 89 2 0) 89 3 1) 89 4 1) 89 5 0
set_option maxRecDepth 100000 in
theorem cic51 : call 11 [vr 89] (cis83, (90, 0, 31, 5)) = some (none, (cis84, (92, 0, 31, 5))) := by
  show RN tb_11 (TT 11) (0, [(0, vr 89)], [], cis83, (90, 0, 31, 5)) = _
  refine Eq.trans (it_RN 22 (90, 0, 31, 5) 0 [(0, vr 89)] [] cis83 (39, [(0, vr 89)], [], cis84, (92, 0, 31, 5)) rfl) ?_
  exact RN_ret rfl
def cis85 : MS := up cis84 52 12 1
def cis86 : MS := up (up (up (up (up (up cis85 92 0 0) 92 1 0) 92 2 0) 92 3 1) 92 4 1) 92 5 0
set_option maxRecDepth 100000 in
theorem cic52 : call 11 [vr 92] (cis85, (93, 0, 31, 5)) = some (none, (cis86, (95, 0, 31, 5))) := by
  show RN tb_11 (TT 11) (0, [(0, vr 92)], [], cis85, (93, 0, 31, 5)) = _
  refine Eq.trans (it_RN 22 (93, 0, 31, 5) 0 [(0, vr 92)] [] cis85 (39, [(0, vr 92)], [], cis86, (95, 0, 31, 5)) rfl) ?_
  exact RN_ret rfl
def cis87 : MS := up cis86 52 13 1
def cis88 : MS := up (up (up (up (up (up cis87 95 0 0) 95 1 0) 95 2 0) 95 3 1) 95 4 1) 95 5 0
set_option maxRecDepth 100000 in
theorem cic53 : call 11 [vr 95] (cis87, (96, 0, 31, 5)) = some (none, (cis88, (98, 0, 31, 5))) := by
  show RN tb_11 (TT 11) (0, [(0, vr 95)], [], cis87, (96, 0, 31, 5)) = _
  refine Eq.trans (it_RN 22 (96, 0, 31, 5) 0 [(0, vr 95)] [] cis87 (39, [(0, vr 95)], [], cis88, (98, 0, 31, 5)) rfl) ?_
  exact RN_ret rfl
def cis89 : MS := up cis88 52 14 1
def cis90 : MS := up (up (up (up (up (up cis89 98 0 0) 98 1 0) 98 2 0) 98 3 1) 98 4 1) 98 5 0
set_option maxRecDepth 100000 in
theorem cic54 : call 11 [vr 98] (cis89, (99, 0, 31, 5)) = some (none, (cis90, (101, 0, 31, 5))) := by
  show RN tb_11 (TT 11) (0, [(0, vr 98)], [], cis89, (99, 0, 31, 5)) = _
  refine Eq.trans (it_RN 22 (99, 0, 31, 5) 0 [(0, vr 98)] [] cis89 (39, [(0, vr 98)], [], cis90, (101, 0, 31, 5)) rfl) ?_
  exact RN_ret rfl
def cis91 : MS := up cis90 52 15 1
def cis92 : MS := up (up (up (up (up (up cis91 101 0 0) 101 1 0) 101 2 0) 101 3 1) 101 4 1) 101 5 0
set_option maxRecDepth 100000 in
theorem cic55 : call 11 [vr 101] (cis91, (102, 0, 31, 5)) = some (none, (cis92, (104, 0, 31, 5))) := by
  show RN tb_11 (TT 11) (0, [(0, vr 101)], [], cis91, (102, 0, 31, 5)) = _
  refine Eq.trans (it_RN 22 (102, 0, 31, 5) 0 [(0, vr 101)] [] cis91 (39, [(0, vr 101)], [], cis92, (104, 0, 31, 5)) rfl) ?_
  exact RN_ret rfl
def cis93 : MS := up cis92 52 16 1
def cis94 : MS := up (up (up (up (up (up cis93 104 0 0) 104 1 0) 104 2 0) 104 3 1) 104 4 1) 104 5 0
set_option maxRecDepth 100000 in
theorem cic56 : call 11 [vr 104] (cis93, (105, 0, 31, 5)) = some (none, (cis94, (107, 0, 31, 5))) := by
  show RN tb_11 (TT 11) (0, [(0, vr 104)], [], cis93, (105, 0, 31, 5)) = _
  refine Eq.trans (it_RN 22 (105, 0, 31, 5) 0 [(0, vr 104)] [] cis93 (39, [(0, vr 104)], [], cis94, (107, 0, 31, 5)) rfl) ?_
  exact RN_ret rfl
def cis95 : MS := up cis94 52 17 1
def cis96 : MS := up (up (up (up (up (up cis95 107 0 0) 107 1 0) 107 2 0) 107 3 1) 107 4 1) 107 5 0
set_option maxRecDepth 100000 in
theorem cic57 : call 11 [vr 107] (cis95, (108, 0, 31, 5)) = some (none, (cis96, (110, 0, 31, 5))) := by
  show RN tb_11 (TT 11) (0, [(0, vr 107)], [], cis95, (108, 0, 31, 5)) = _
  refine Eq.trans (it_RN 22 (108, 0, 31, 5) 0 [(0, vr 107)] [] cis95 (39, [(0, vr 107)], [], cis96, (110, 0, 31, 5)) rfl) ?_
  exact RN_ret rfl
def cis97 : MS := up cis96 52 18 1
def cis98 : MS := up (up (up (up (up (up cis97 110 0 0) 110 1 0) 110 2 0) 110 3 1) 110 4 1) 110 5 0
set_option maxRecDepth 100000 in
theorem cic58 : call 11 [vr 110] (cis97, (111, 0, 31, 5)) = some (none, (cis98, (113, 0, 31, 5))) := by
  show RN tb_11 (TT 11) (0, [(0, vr 110)], [], cis97, (111, 0, 31, 5)) = _
  refine Eq.trans (it_RN 22 (111, 0, 31, 5) 0 [(0, vr 110)] [] cis97 (39, [(0, vr 110)], [], cis98, (113, 0, 31, 5)) rfl) ?_
  exact RN_ret rfl
def cis99 : MS := up cis98 52 19 1
set_option maxRecDepth 100000 in
theorem cic59 : call 13 [vr 51] (cis58, (52, 0, 31, 5)) = some (none, (cis99, (113, 0, 31, 5))) := by
  show RN tb_13 (TT 13) (0, [(0, vr 51)], [], cis58, (52, 0, 31, 5)) = _
  refine Eq.trans (it_RN 22 (52, 0, 31, 5) 0 [(0, vr 51)] [] cis58 (40, [(0, vr 51), (1, vi 0)], [vr 53, vr 53, vi 0, vr 52], cis59, (54, 0, 31, 5)) rfl) ?_
  refine Eq.trans (RN_cV0 (k := 11) (ar := [vr 53]) (nx := 43) (l' := [(0, vr 51), (1, vi 0)]) (rest := [vr 53, vi 0, vr 52]) (by decide) rfl cic39 (by decide)) ?_
  refine Eq.trans (it_RN 11 (56, 0, 31, 5) 43 [(0, vr 51), (1, vi 0)] [vr 53, vi 0, vr 52] cis60 (40, [(0, vr 51), (1, vi 1)], [vr 56, vr 56, vi 1, vr 52], cis61, (57, 0, 31, 5)) rfl) ?_
  refine Eq.trans (RN_cV0 (k := 11) (ar := [vr 56]) (nx := 43) (l' := [(0, vr 51), (1, vi 1)]) (rest := [vr 56, vi 1, vr 52]) (by decide) rfl cic40 (by decide)) ?_
  refine Eq.trans (it_RN 11 (59, 0, 31, 5) 43 [(0, vr 51), (1, vi 1)] [vr 56, vi 1, vr 52] cis62 (40, [(0, vr 51), (1, vi 2)], [vr 59, vr 59, vi 2, vr 52], cis63, (60, 0, 31, 5)) rfl) ?_
  refine Eq.trans (RN_cV0 (k := 11) (ar := [vr 59]) (nx := 43) (l' := [(0, vr 51), (1, vi 2)]) (rest := [vr 59, vi 2, vr 52]) (by decide) rfl cic41 (by decide)) ?_
  refine Eq.trans (it_RN 11 (62, 0, 31, 5) 43 [(0, vr 51), (1, vi 2)] [vr 59, vi 2, vr 52] cis64 (40, [(0, vr 51), (1, vi 3)], [vr 62, vr 62, vi 3, vr 52], cis65, (63, 0, 31, 5)) rfl) ?_
  refine Eq.trans (RN_cV0 (k := 11) (ar := [vr 62]) (nx := 43) (l' := [(0, vr 51), (1, vi 3)]) (rest := [vr 62, vi 3, vr 52]) (by decide) rfl cic42 (by decide)) ?_
  refine Eq.trans (it_RN 11 (65, 0, 31, 5) 43 [(0, vr 51), (1, vi 3)] [vr 62, vi 3, vr 52] cis66 (40, [(0, vr 51), (1, vi 4)], [vr 65, vr 65, vi 4, vr 52], cis67, (66, 0, 31, 5)) rfl) ?_
  refine Eq.trans (RN_cV0 (k := 11) (ar := [vr 65]) (nx := 43) (l' := [(0, vr 51), (1, vi 4)]) (rest := [vr 65, vi 4, vr 52]) (by decide) rfl cic43 (by decide)) ?_
  refine Eq.trans (it_RN 11 (68, 0, 31, 5) 43 [(0, vr 51), (1, vi 4)] [vr 65, vi 4, vr 52] cis68 (40, [(0, vr 51), (1, vi 5)], [vr 68, vr 68, vi 5, vr 52], cis69, (69, 0, 31, 5)) rfl) ?_
  refine Eq.trans (RN_cV0 (k := 11) (ar := [vr 68]) (nx := 43) (l' := [(0, vr 51), (1, vi 5)]) (rest := [vr 68, vi 5, vr 52]) (by decide) rfl cic44 (by decide)) ?_
  refine Eq.trans (it_RN 11 (71, 0, 31, 5) 43 [(0, vr 51), (1, vi 5)] [vr 68, vi 5, vr 52] cis70 (40, [(0, vr 51), (1, vi 6)], [vr 71, vr 71, vi 6, vr 52], cis71, (72, 0, 31, 5)) rfl) ?_
  refine Eq.trans (RN_cV0 (k := 11) (ar := [vr 71]) (nx := 43) (l' := [(0, vr 51), (1, vi 6)]) (rest := [vr 71, vi 6, vr 52]) (by decide) rfl cic45 (by decide)) ?_
  refine Eq.trans (it_RN 11 (74, 0, 31, 5) 43 [(0, vr 51), (1, vi 6)] [vr 71, vi 6, vr 52] cis72 (40, [(0, vr 51), (1, vi 7)], [vr 74, vr 74, vi 7, vr 52], cis73, (75, 0, 31, 5)) rfl) ?_
  refine Eq.trans (RN_cV0 (k := 11) (ar := [vr 74]) (nx := 43) (l' := [(0, vr 51), (1, vi 7)]) (rest := [vr 74, vi 7, vr 52]) (by decide) rfl cic46 (by decide)) ?_
  refine Eq.trans (it_RN 11 (77, 0, 31, 5) 43 [(0, vr 51), (1, vi 7)] [vr 74, vi 7, vr 52] cis74 (40, [(0, vr 51), (1, vi 8)], [vr 77, vr 77, vi 8, vr 52], cis75, (78, 0, 31, 5)) rfl) ?_
  refine Eq.trans (RN_cV0 (k := 11) (ar := [vr 77]) (nx := 43) (l' := [(0, vr 51), (1, vi 8)]) (rest := [vr 77, vi 8, vr 52]) (by decide) rfl cic47 (by decide)) ?_
  refine Eq.trans (it_RN 11 (80, 0, 31, 5) 43 [(0, vr 51), (1, vi 8)] [vr 77, vi 8, vr 52] cis76 (40, [(0, vr 51), (1, vi 9)], [vr 80, vr 80, vi 9, vr 52], cis77, (81, 0, 31, 5)) rfl) ?_
  refine Eq.trans (RN_cV0 (k := 11) (ar := [vr 80]) (nx := 43) (l' := [(0, vr 51), (1, vi 9)]) (rest := [vr 80, vi 9, vr 52]) (by decide) rfl cic48 (by decide)) ?_
  refine Eq.trans (it_RN 11 (83, 0, 31, 5) 43 [(0, vr 51), (1, vi 9)] [vr 80, vi 9, vr 52] cis78 (40, [(0, vr 51), (1, vi 10)], [vr 83, vr 83, vi 10, vr 52], cis79, (84, 0, 31, 5)) rfl) ?_
  refine Eq.trans (RN_cV0 (k := 11) (ar := [vr 83]) (nx := 43) (l' := [(0, vr 51), (1, vi 10)]) (rest := [vr 83, vi 10, vr 52]) (by decide) rfl cic49 (by decide)) ?_
  refine Eq.trans (it_RN 11 (86, 0, 31, 5) 43 [(0, vr 51), (1, vi 10)] [vr 83, vi 10, vr 52] cis80 (40, [(0, vr 51), (1, vi 11)], [vr 86, vr 86, vi 11, vr 52], cis81, (87, 0, 31, 5)) rfl) ?_
  refine Eq.trans (RN_cV0 (k := 11) (ar := [vr 86]) (nx := 43) (l' := [(0, vr 51), (1, vi 11)]) (rest := [vr 86, vi 11, vr 52]) (by decide) rfl cic50 (by decide)) ?_
  refine Eq.trans (it_RN 11 (89, 0, 31, 5) 43 [(0, vr 51), (1, vi 11)] [vr 86, vi 11, vr 52] cis82 (40, [(0, vr 51), (1, vi 12)], [vr 89, vr 89, vi 12, vr 52], cis83, (90, 0, 31, 5)) rfl) ?_
  refine Eq.trans (RN_cV0 (k := 11) (ar := [vr 89]) (nx := 43) (l' := [(0, vr 51), (1, vi 12)]) (rest := [vr 89, vi 12, vr 52]) (by decide) rfl cic51 (by decide)) ?_
  refine Eq.trans (it_RN 11 (92, 0, 31, 5) 43 [(0, vr 51), (1, vi 12)] [vr 89, vi 12, vr 52] cis84 (40, [(0, vr 51), (1, vi 13)], [vr 92, vr 92, vi 13, vr 52], cis85, (93, 0, 31, 5)) rfl) ?_
  refine Eq.trans (RN_cV0 (k := 11) (ar := [vr 92]) (nx := 43) (l' := [(0, vr 51), (1, vi 13)]) (rest := [vr 92, vi 13, vr 52]) (by decide) rfl cic52 (by decide)) ?_
  refine Eq.trans (it_RN 11 (95, 0, 31, 5) 43 [(0, vr 51), (1, vi 13)] [vr 92, vi 13, vr 52] cis86 (40, [(0, vr 51), (1, vi 14)], [vr 95, vr 95, vi 14, vr 52], cis87, (96, 0, 31, 5)) rfl) ?_
  refine Eq.trans (RN_cV0 (k := 11) (ar := [vr 95]) (nx := 43) (l' := [(0, vr 51), (1, vi 14)]) (rest := [vr 95, vi 14, vr 52]) (by decide) rfl cic53 (by decide)) ?_
  refine Eq.trans (it_RN 11 (98, 0, 31, 5) 43 [(0, vr 51), (1, vi 14)] [vr 95, vi 14, vr 52] cis88 (40, [(0, vr 51), (1, vi 15)], [vr 98, vr 98, vi 15, vr 52], cis89, (99, 0, 31, 5)) rfl) ?_
  refine Eq.trans (RN_cV0 (k := 11) (ar := [vr 98]) (nx := 43) (l' := [(0, vr 51), (1, vi 15)]) (rest := [vr 98, vi 15, vr 52]) (by decide) rfl cic54 (by decide)) ?_
  refine Eq.trans (it_RN 11 (101, 0, 31, 5) 43 [(0, vr 51), (1, vi 15)] [vr 98, vi 15, vr 52] cis90 (40, [(0, vr 51), (1, vi 16)], [vr 101, vr 101, vi 16, vr 52], cis91, (102, 0, 31, 5)) rfl) ?_
  refine Eq.trans (RN_cV0 (k := 11) (ar := [vr 101]) (nx := 43) (l' := [(0, vr 51), (1, vi 16)]) (rest := [vr 101, vi 16, vr 52]) (by decide) rfl cic55 (by decide)) ?_
  refine Eq.trans (it_RN 11 (104, 0, 31, 5) 43 [(0, vr 51), (1, vi 16)] [vr 101, vi 16, vr 52] cis92 (40, [(0, vr 51), (1, vi 17)], [vr 104, vr 104, vi 17, vr 52], cis93, (105, 0, 31, 5)) rfl) ?_
  refine Eq.trans (RN_cV0 (k := 11) (ar := [vr 104]) (nx := 43) (l' := [(0, vr 51), (1, vi 17)]) (rest := [vr 104, vi 17, vr 52]) (by decide) rfl cic56 (by decide)) ?_
  refine Eq.trans (it_RN 11 (107, 0, 31, 5) 43 [(0, vr 51), (1, vi 17)] [vr 104, vi 17, vr 52] cis94 (40, [(0, vr 51), (1, vi 18)], [vr 107, vr 107, vi 18, vr 52], cis95, (108, 0, 31, 5)) rfl) ?_
  refine Eq.trans (RN_cV0 (k := 11) (ar := [vr 107]) (nx := 43) (l' := [(0, vr 51), (1, vi 18)]) (rest := [vr 107, vi 18, vr 52]) (by decide) rfl cic57 (by decide)) ?_
  refine Eq.trans (it_RN 11 (110, 0, 31, 5) 43 [(0, vr 51), (1, vi 18)] [vr 107, vi 18, vr 52] cis96 (40, [(0, vr 51), (1, vi 19)], [vr 110, vr 110, vi 19, vr 52], cis97, (111, 0, 31, 5)) rfl) ?_
  refine Eq.trans (RN_cV0 (k := 11) (ar := [vr 110]) (nx := 43) (l' := [(0, vr 51), (1, vi 19)]) (rest := [vr 110, vi 19, vr 52]) (by decide) rfl cic58 (by decide)) ?_
  refine Eq.trans (it_RN 6 (113, 0, 31, 5) 43 [(0, vr 51), (1, vi 19)] [vr 110, vi 19, vr 52] cis98 (50, [(0, vr 51), (1, vi 20)], [], cis99, (113, 0, 31, 5)) rfl) ?_
  exact RN_ret rfl
def cis100 : MS := up cis99 1 6 1
def cis101 : MS := up (up (up (up (up (up cis100 113 2 1) 113 3 1) 113 4 0) 113 5 1) 113 6 1) 113 7 0
def cis102 : MS := up (up cis101 113 0 1) 113 1 1
set_option maxRecDepth 100000 in
theorem cic60 : call 14 [vr 113, vr 30, vr 24] (cis100, (114, 0, 31, 5)) = some (none, (cis102, (118, 0, 31, 5))) := by
  show RN tb_14 (TT 14) (0, [(0, vr 113), (1, vr 30), (2, vr 24)], [], cis100, (114, 0, 31, 5)) = _
  refine Eq.trans (it_RN 24 (114, 0, 31, 5) 0 [(0, vr 113), (1, vr 30), (2, vr 24)] [] cis100 (48, [(0, vr 113), (1, vr 30), (2, vr 24)], [], cis101, (118, 0, 31, 5)) rfl) ?_
  refine Eq.trans (it_RN 6 (118, 0, 31, 5) 48 [(0, vr 113), (1, vr 30), (2, vr 24)] [] cis101 (58, [(0, vr 113), (1, vr 30), (2, vr 24)], [], cis102, (118, 0, 31, 5)) rfl) ?_
  exact RN_ret rfl
def cis103 : MS := up cis102 1 7 1
def cis104 : MS := up (up (up (up (up cis103 118 2 1) 118 3 1) 118 4 1) 118 5 0) 118 6 1
def cis105 : MS := up (up (up (up (up (up (up (up cis104 118 7 1) 118 8 0) 118 9 1) 118 10 0) 118 11 0) 118 12 0) 118 13 0) 118 14 0
def cis106 : MS := up (up cis105 118 0 1) 118 1 1
set_option maxRecDepth 100000 in
theorem cic61 : call 15 [vr 118, vr 30, vr 24] (cis103, (119, 0, 31, 5)) = some (none, (cis106, (125, 0, 31, 5))) := by
  show RN tb_15 (TT 15) (0, [(0, vr 118), (1, vr 30), (2, vr 24)], [], cis103, (119, 0, 31, 5)) = _
  refine Eq.trans (it_RN 24 (119, 0, 31, 5) 0 [(0, vr 118), (1, vr 30), (2, vr 24)] [] cis103 (48, [(0, vr 118), (1, vr 30), (2, vr 24)], [vr 123, vr 118], cis104, (124, 0, 31, 5)) rfl) ?_
  refine Eq.trans (it_RN 24 (124, 0, 31, 5) 48 [(0, vr 118), (1, vr 30), (2, vr 24)] [vr 123, vr 118] cis104 (90, [(0, vr 118), (1, vr 30), (2, vr 24)], [vr 118], cis105, (125, 0, 31, 5)) rfl) ?_
  refine Eq.trans (it_RN 5 (125, 0, 31, 5) 90 [(0, vr 118), (1, vr 30), (2, vr 24)] [vr 118] cis105 (99, [(0, vr 118), (1, vr 30), (2, vr 24)], [], cis106, (125, 0, 31, 5)) rfl) ?_
  exact RN_ret rfl
def cis107 : MS := up cis106 1 8 1
def cis108 : MS := up (up (up (up (up cis107 126 0 1) 126 1 0) 126 2 1) 126 3 1) 126 4 1
def cis109 : MS := up cis108 126 5 1
set_option maxRecDepth 100000 in
theorem cic62 : call 3 [vr 126] (cis107, (127, 0, 31, 5)) = some (none, (cis109, (132, 0, 31, 5))) := by
  show RN tb_3 (TT 3) (0, [(0, vr 126)], [], cis107, (127, 0, 31, 5)) = _
  refine Eq.trans (it_RN 24 (127, 0, 31, 5) 0 [(0, vr 126)] [] cis107 (46, [(0, vr 126)], [vr 131, vr 126], cis108, (132, 0, 31, 5)) rfl) ?_
  refine Eq.trans (it_RN 1 (132, 0, 31, 5) 46 [(0, vr 126)] [vr 131, vr 126] cis108 (49, [(0, vr 126)], [], cis109, (132, 0, 31, 5)) rfl) ?_
  exact RN_ret rfl
def cis110 : MS := up (up (up (up (up cis109 125 4 1) 125 0 1) 125 1 1) 125 2 1) 125 3 1
def cis111 : MS := up (up (up (up cis110 132 2 0) 132 3 0) 132 0 1) 132 1 1
set_option maxRecDepth 100000 in
theorem cic63 : call 9 [vr 132, vr 2, vr 126] (cis110, (133, 0, 31, 5)) = some (none, (cis111, (133, 0, 31, 5))) := by
  show RN tb_9 (TT 9) (0, [(0, vr 132), (1, vr 2), (2, vr 126)], [], cis110, (133, 0, 31, 5)) = _
  refine Eq.trans (it_RN 14 (133, 0, 31, 5) 0 [(0, vr 132), (1, vr 2), (2, vr 126)] [] cis110 (24, [(0, vr 132), (1, vr 2), (2, vr 126)], [], cis111, (133, 0, 31, 5)) rfl) ?_
  exact RN_ret rfl
def cis112 : MS := up cis111 125 5 1
set_option maxRecDepth 100000 in
theorem cic64 : call 16 [vr 125, vr 2, vr 30, vr 24, vr 113] (cis107, (126, 0, 31, 5)) = some (none, (cis112, (133, 0, 31, 5))) := by
  show RN tb_16 (TT 16) (0, [(0, vr 125), (1, vr 2), (2, vr 30), (3, vr 24), (4, vr 113)], [], cis107, (126, 0, 31, 5)) = _
  refine Eq.trans (it_RN 5 (126, 0, 31, 5) 0 [(0, vr 125), (1, vr 2), (2, vr 30), (3, vr 24), (4, vr 113)] [] cis107 (9, [(0, vr 125), (1, vr 2), (2, vr 30), (3, vr 24), (4, vr 113)], [vr 126, vr 126, vr 125], cis107, (127, 0, 31, 5)) rfl) ?_
  refine Eq.trans (RN_cV0 (k := 3) (ar := [vr 126]) (nx := 12) (l' := [(0, vr 125), (1, vr 2), (2, vr 30), (3, vr 24), (4, vr 113)]) (rest := [vr 126, vr 125]) (by decide) rfl cic62 (by decide)) ?_
  refine Eq.trans (it_RN 19 (132, 0, 31, 5) 12 [(0, vr 125), (1, vr 2), (2, vr 30), (3, vr 24), (4, vr 113)] [vr 126, vr 125] cis109 (46, [(0, vr 125), (1, vr 2), (2, vr 30), (3, vr 24), (4, vr 113)], [vr 126, vr 2, vr 132, vr 132, vr 125], cis110, (133, 0, 31, 5)) rfl) ?_
  refine Eq.trans (RN_cV0 (k := 9) (ar := [vr 132, vr 2, vr 126]) (nx := 49) (l' := [(0, vr 125), (1, vr 2), (2, vr 30), (3, vr 24), (4, vr 113)]) (rest := [vr 132, vr 125]) (by decide) rfl cic63 (by decide)) ?_
  refine Eq.trans (it_RN 1 (133, 0, 31, 5) 49 [(0, vr 125), (1, vr 2), (2, vr 30), (3, vr 24), (4, vr 113)] [vr 132, vr 125] cis111 (52, [(0, vr 125), (1, vr 2), (2, vr 30), (3, vr 24), (4, vr 113)], [], cis112, (133, 0, 31, 5)) rfl) ?_
  exact RN_ret rfl
def cis113 : MS := up (up (up (up (up cis112 1 9 1) 1 10 1) 1 11 0) 1 12 1) 1 13 1
set_option maxRecDepth 100000 in
theorem cic65 : call 17 [vr 1] (cis0, (2, 0, 31, 5)) = some (none, (cis113, (135, 0, 31, 5))) := by
  show RN tb_17 (TT 17) (0, [(0, vr 1)], [], cis0, (2, 0, 31, 5)) = _
  refine Eq.trans (it_RN 5 (2, 0, 31, 5) 0 [(0, vr 1)] [] cis0 (9, [(0, vr 1)], [vr 2, vr 2, vr 1], cis0, (3, 0, 31, 5)) rfl) ?_
  refine Eq.trans (RN_cV0 (k := 2) (ar := [vr 2]) (nx := 12) (l' := [(0, vr 1)]) (rest := [vr 2, vr 1]) (by decide) rfl cic1 (by decide)) ?_
  refine Eq.trans (it_RN 4 (5, 0, 31, 5) 12 [(0, vr 1)] [vr 2, vr 1] cis2 (20, [(0, vr 1)], [vr 5, vr 5, vr 1], cis3, (6, 0, 31, 5)) rfl) ?_
  refine Eq.trans (RN_cV0 (k := 8) (ar := [vr 5]) (nx := 23) (l' := [(0, vr 1)]) (rest := [vr 5, vr 1]) (by decide) rfl cic17 (by decide)) ?_
  refine Eq.trans (it_RN 8 (22, 0, 31, 5) 23 [(0, vr 1)] [vr 5, vr 1] cis25 (39, [(0, vr 1)], [vr 5, vr 2, vr 22, vr 22, vr 1], cis26, (23, 0, 31, 5)) rfl) ?_
  refine Eq.trans (RN_cV0 (k := 10) (ar := [vr 22, vr 2, vr 5]) (nx := 42) (l' := [(0, vr 1)]) (rest := [vr 22, vr 1]) (by decide) rfl cic19 (by decide)) ?_
  refine Eq.trans (it_RN 4 (24, 0, 31, 5) 42 [(0, vr 1)] [vr 22, vr 1] cis29 (50, [(0, vr 1)], [vr 24, vr 24, vr 1], cis30, (25, 0, 31, 5)) rfl) ?_
  refine Eq.trans (RN_cV0 (k := 11) (ar := [vr 24]) (nx := 53) (l' := [(0, vr 1)]) (rest := [vr 24, vr 1]) (by decide) rfl cic20 (by decide)) ?_
  refine Eq.trans (it_RN 4 (27, 0, 31, 5) 53 [(0, vr 1)] [vr 24, vr 1] cis31 (61, [(0, vr 1)], [vr 27, vr 27, vr 1], cis32, (28, 0, 31, 5)) rfl) ?_
  refine Eq.trans (RN_cV0 (k := 11) (ar := [vr 27]) (nx := 64) (l' := [(0, vr 1)]) (rest := [vr 27, vr 1]) (by decide) rfl cic21 (by decide)) ?_
  refine Eq.trans (it_RN 6 (30, 0, 31, 5) 64 [(0, vr 1)] [vr 27, vr 1] cis33 (76, [(0, vr 1)], [vr 31, vr 31, vr 30, vr 30, vr 1], cis34, (32, 0, 31, 5)) rfl) ?_
  refine Eq.trans (RN_cV0 (k := 8) (ar := [vr 31]) (nx := 79) (l' := [(0, vr 1)]) (rest := [vr 31, vr 30, vr 30, vr 1]) (by decide) rfl cic37 (by decide)) ?_
  refine Eq.trans (RN_cV0 (k := 12) (ar := [vr 30, vr 31]) (nx := 82) (l' := [(0, vr 1)]) (rest := [vr 30, vr 1]) (by decide) rfl cic38 (by decide)) ?_
  refine Eq.trans (it_RN 4 (51, 0, 31, 5) 82 [(0, vr 1)] [vr 30, vr 1] cis57 (90, [(0, vr 1)], [vr 51, vr 51, vr 1], cis58, (52, 0, 31, 5)) rfl) ?_
  refine Eq.trans (RN_cV0 (k := 13) (ar := [vr 51]) (nx := 93) (l' := [(0, vr 1)]) (rest := [vr 51, vr 1]) (by decide) rfl cic59 (by decide)) ?_
  refine Eq.trans (it_RN 8 (113, 0, 31, 5) 93 [(0, vr 1)] [vr 51, vr 1] cis99 (109, [(0, vr 1)], [vr 24, vr 30, vr 113, vr 113, vr 1], cis100, (114, 0, 31, 5)) rfl) ?_
  refine Eq.trans (RN_cV0 (k := 14) (ar := [vr 113, vr 30, vr 24]) (nx := 112) (l' := [(0, vr 1)]) (rest := [vr 113, vr 1]) (by decide) rfl cic60 (by decide)) ?_
  refine Eq.trans (it_RN 8 (118, 0, 31, 5) 112 [(0, vr 1)] [vr 113, vr 1] cis102 (128, [(0, vr 1)], [vr 24, vr 30, vr 118, vr 118, vr 1], cis103, (119, 0, 31, 5)) rfl) ?_
  refine Eq.trans (RN_cV0 (k := 15) (ar := [vr 118, vr 30, vr 24]) (nx := 131) (l' := [(0, vr 1)]) (rest := [vr 118, vr 1]) (by decide) rfl cic61 (by decide)) ?_
  refine Eq.trans (it_RN 12 (125, 0, 31, 5) 131 [(0, vr 1)] [vr 118, vr 1] cis106 (155, [(0, vr 1)], [vr 113, vr 24, vr 30, vr 2, vr 125, vr 125, vr 1], cis107, (126, 0, 31, 5)) rfl) ?_
  refine Eq.trans (RN_cV0 (k := 16) (ar := [vr 125, vr 2, vr 30, vr 24, vr 113]) (nx := 158) (l' := [(0, vr 1)]) (rest := [vr 125, vr 1]) (by decide) rfl cic64 (by decide)) ?_
  refine Eq.trans (it_RN 15 (133, 0, 31, 5) 158 [(0, vr 1)] [vr 125, vr 1] cis112 (187, [(0, vr 1)], [], cis113, (135, 0, 31, 5)) rfl) ?_
  exact RN_ret rfl
