/-! MINISTRY: what follows the exchange of the two plans -/
abbrev CE : MC := (135, 1, 5, 31)
noncomputable def m_St_clear_now_x  (S : MS) : Option MS := mV 122 [vr 24] S CE
noncomputable def St_clear_now_x_22 (v1 : Int) (S : MS) : Option MS := RX cvV tb_122 122 CE 22 [(0, vr 24), (1, vi v1)] [] S
noncomputable def m_St_begin_now_s_x  (S : MS) : Option MS := mV 123 [vr 24, vr 5] S CE
noncomputable def m_Hi_clear_x  (S : MS) : Option MS := mV 124 [vr 51] S CE
noncomputable def m_Fi_forget_x  (S : MS) : Option MS := mV 125 [vr 118] S CE
theorem e_St_clear_now_x  (S : MS) : m_St_clear_now_x  S = St_clear_now_x_22 0 (up (up (up (up S 24 0 0) 24 1 0) 24 2 0) 24 5 0) := by
  show RX cvV tb_122 122 CE 0 [(0, vr 24)] [] S = _
  exact rxr 14 22 [(1, vi 0), (0, vr 24)] [] (up (up (up (up S 24 0 0) 24 1 0) 24 2 0) 24 5 0) rfl (rxq [0, 1] _ [(0, vr 24), (1, vi 0)] rfl rfl rfl)
theorem e_St_clear_now_x_22 (v1 : Int) (S : MS) : St_clear_now_x_22 v1 S = if v1 < 4 then (if 0 ≤ v1 ∧ v1 < 4 then St_clear_now_x_22 (wr (v1 + 1)) (up S 25 v1.toNat 0) else none) else some S := by
  show RX cvV tb_122 122 CE 22 [(0, vr 24), (1, vi v1)] [] S = _
  exact rxr 2 24 [(0, vr 24), (1, vi v1)] [vi 4, vi v1] S rfl (rxb (v1 < 4) 27 [(0, vr 24), (1, vi v1)] [] 40 [(0, vr 24), (1, vi v1)] [] rfl (rxr 4 33 [(0, vr 24), (1, vi v1)] [vl 0, vi v1, vr 25] S rfl (rxk (0 ≤ v1 ∧ v1 < 4) 34 [(0, vr 24), (1, vi v1)] [] (up S 25 v1.toNat 0) rfl (rxr 2 22 [(1, vi (wr (v1 + 1))), (0, vr 24)] [] (up S 25 v1.toNat 0) rfl (rxq [0, 1] _ [(0, vr 24), (1, vi (wr (v1 + 1)))] rfl rfl rfl)))) (rxtV S rfl))
theorem e_St_begin_now_s_x  (S : MS) : m_St_begin_now_s_x  S = (m_St_clear_now_x S).bind fun p1 => some (cpy (up p1 24 1 (wr ((shl 1 (p1 5 2)) - 1))) 13 25 0 0 4) := by
  show RX cvV tb_123 123 CE 0 [(0, vr 24), (1, vr 5)] [] S = _
  exact rxr 1 1 [(0, vr 24), (1, vr 5)] [vr 24] S rfl (rxcV 122 [vr 24] 4 [(0, vr 24), (1, vr 5)] [] (by decide) rfl (fun p1 => rxr 16 30 [(0, vr 24), (1, vr 5)] [] (cpy (up p1 24 1 (wr ((shl 1 (p1 5 2)) - 1))) 13 25 0 0 4) rfl (rxtV (cpy (up p1 24 1 (wr ((shl 1 (p1 5 2)) - 1))) 13 25 0 0 4) rfl)))
theorem e_Hi_clear_x  (S : MS) : m_Hi_clear_x  S = some (up (up S 51 2 0) 51 1 0) := by
  show RX cvV tb_124 124 CE 0 [(0, vr 51)] [] S = _
  exact rxr 6 10 [(0, vr 51)] [] (up (up S 51 2 0) 51 1 0) rfl (rxtV (up (up S 51 2 0) 51 1 0) rfl)
theorem e_Fi_forget_x  (S : MS) : m_Fi_forget_x  S = some (up (up S 118 13 0) 118 14 0) := by
  show RX cvV tb_125 125 CE 0 [(0, vr 118)] [] S = _
  exact rxr 6 10 [(0, vr 118)] [] (up (up S 118 13 0) 118 14 0) rfl (rxtV (up (up S 118 13 0) 118 14 0) rfl)
