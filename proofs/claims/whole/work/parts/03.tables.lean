def tq_cl : List vw_C := [(RX0, TX0, 3), (RX1, TX1, 5), (RX2, TX2, 11), (RX3, TX3, 2), (RX4, TX4, 19), (RX5, TX5, 10), (RX6, TX6, 3), (RX7, TX7, 6), (RX8, TX8, 7), (RX9, TX9, 8), (RX10, TX10, 5), (RX11, TX11, 14), (RX12, TX12, 56)]
def tq_cn : Nat → String := fun k => [RX0, RX1, RX2, RX3, RX4, RX5, RX6, RX7, RX8, RX9, RX10, RX11, RX12, RL, RJ9, RJ13, RJ6, RJ7].getD k ""
def tq_sh : tq_Sh := [.inr (11, [(0, 1), (0, 2), (0, 8), (0, 12), (0, 16), (0, 19), (0, 23), (0, 28), (0, 38), (0, 42), (0, 46), (0, 48), (0, 50), (1, 0)]), .inr (1, [(1, 0), (1, 0), (1, 1), (2, 0), (1, 0)]), .inr (5, [(0, 1), (0, 3), (0, 4), (0, 5), (0, 6), (0, 7), (1, 0), (1, 0), (2, 0), (2, 0)]), .inl (3, 2304), .inl (3, 4608), .inl (3, 512), .inl (3, 512), .inl (3, 128), .inr (2, [(0, 1), (0, 9), (0, 10), (0, 11), (1, 1), (2, 0), (2, 0), (1, 1), (2, 0), (2, 0), (1, 0)]), .inl (3, 10), .inl (3, 10), .inl (1, 10), .inr (7, [(0, 1), (0, 13), (0, 14), (0, 15), (2, 0), (2, 0)]), .inl (0, 81), .inl (0, 81), .inl (0, 81), .inr (3, [(0, 17), (0, 18)]), .inl (3, 1024), .inl (3, 3), .inr (9, [(0, 1), (0, 20), (0, 21), (0, 22), (1, 0), (2, 0), (2, 0), (2, 0)]), .inl (0, 64), .inl (0, 64), .inl (0, 64), .inr (8, [(0, 24), (0, 25), (0, 26), (0, 27), (2, 0), (1, 0), (1, 0)]), .inl (3, 48), .inl (0, 6), .inl (0, 6), .inl (0, 6), .inr (4, [(0, 1), (0, 23), (0, 29), (0, 30), (0, 31), (0, 32), (0, 33), (0, 34), (0, 35), (0, 36), (0, 37), (1, 0), (1, 0), (1, 0), (1, 0), (1, 0), (1, 0), (2, 0), (2, 0)]), .inl (3, 1152), .inl (0, 25), .inl (0, 24), .inl (0, 64), .inl (0, 192), .inl (3, 2048), .inl (3, 2048), .inl (3, 288), .inl (0, 8), .inr (6, [(0, 39), (0, 40), (0, 41)]), .inl (0, 234), .inl (3, 64), .inl (3, 64), .inr (10, [(0, 1), (0, 43), (0, 44), (0, 45), (2, 0)]), .inl (3, 256), .inl (3, 1024), .inl (3, 1024), .inr (0, [(0, 47), (1, 0), (1, 1)]), .inl (0, 34), .inr (0, [(0, 49), (1, 0), (1, 1)]), .inl (0, 34), .inl (2, 320), .inr (12, [(1, 0), (1, 0), (1, 0), (1, 1), (0, 52), (0, 53), (0, 54), (0, 55), (1, 1), (0, 56), (1, 1), (0, 57), (1, 0), (0, 58), (0, 59), (1, 0), (0, 60), (0, 61), (1, 0), (0, 62), (0, 63), (0, 64), (0, 65), (0, 66), (1, 0), (2, 0), (1, 0), (0, 67), (0, 68), (0, 69), (1, 0), (0, 70), (0, 71), (0, 72), (0, 73), (1, 0), (1, 0), (1, 1), (0, 74), (1, 0), (0, 75), (1, 0), (2, 0), (0, 76), (0, 77), (0, 78), (0, 79), (0, 80), (0, 81), (1, 0), (0, 82), (0, 83), (0, 84), (0, 85), (0, 86), (2, 0)]), .inl (1, 64), .inl (1, 64), .inl (3, 256), .inl (3, 256), .inl (2, 64), .inl (2, 64), .inl (1, 10), .inl (2, 640), .inl (2, 600), .inl (1, 64), .inl (0, 64), .inl (0, 81), .inl (0, 81), .inl (0, 81), .inl (0, 64), .inl (0, 6), .inl (0, 6), .inl (3, 48), .inl (3, 4096), .inl (0, 4096), .inl (0, 4096), .inl (0, 6), .inl (0, 64), .inl (0, 64), .inl (3, 64), .inl (0, 64), .inl (3, 48), .inl (3, 48), .inl (3, 48), .inl (3, 48), .inl (3, 960), .inl (3, 40), .inl (0, 24), .inl (3, 262144), .inl (3, 262144), .inl (3, 1), .inl (4, 1)]
theorem tq_sh_ok : tq_shok tq_sh := by
  have h : ∀ x ∈ tq_sh, (match x with | .inl _ => true | .inr o => decide (o.2.length ≤ 64)) = true := by decide +kernel
  intro i c fs hi
  have h1 := h _ (List.mem_of_getElem? hi)
  simpa using h1
theorem tq_in {w : Cond} (h : w ∈ tables_1) : w ∈ lw_tbl := List.mem_append_right _ h
theorem tq_i1 {w : Cond} (i : Nat) (h0 : tables_1_1[i]? = some w) : w ∈ lw_tbl := by
  have h : w ∈ tables_1_1 := List.mem_of_getElem? h0
  exact tq_in (List.mem_append_left _ h)
theorem tq_i2 {w : Cond} (i : Nat) (h0 : tables_1_2[i]? = some w) : w ∈ lw_tbl := by
  have h : w ∈ tables_1_2 := List.mem_of_getElem? h0
  exact tq_in (List.mem_append_right _ (List.mem_append_left _ h))
theorem tq_i3 {w : Cond} (i : Nat) (h0 : tables_1_3[i]? = some w) : w ∈ lw_tbl := by
  have h : w ∈ tables_1_3 := List.mem_of_getElem? h0
  exact tq_in (List.mem_append_right _ (List.mem_append_right _ (List.mem_append_left _ h)))
theorem tq_i4 {w : Cond} (i : Nat) (h0 : tables_1_4[i]? = some w) : w ∈ lw_tbl := by
  have h : w ∈ tables_1_4 := List.mem_of_getElem? h0
  exact tq_in (List.mem_append_right _ (List.mem_append_right _ (List.mem_append_right _ (List.mem_append_left _ h))))
theorem tq_i5 {w : Cond} (i : Nat) (h0 : tables_1_5[i]? = some w) : w ∈ lw_tbl := by
  have h : w ∈ tables_1_5 := List.mem_of_getElem? h0
  exact tq_in (List.mem_append_right _ (List.mem_append_right _ (List.mem_append_right _ (List.mem_append_right _ (List.mem_append_left _ h)))))
theorem tq_i6 {w : Cond} (i : Nat) (h0 : tables_1_6[i]? = some w) : w ∈ lw_tbl := by
  have h : w ∈ tables_1_6 := List.mem_of_getElem? h0
  exact tq_in (List.mem_append_right _ (List.mem_append_right _ (List.mem_append_right _ (List.mem_append_right _ (List.mem_append_right _ (List.mem_append_left _ h))))))
theorem tq_i7 {w : Cond} (i : Nat) (h0 : tables_1_7[i]? = some w) : w ∈ lw_tbl := by
  have h : w ∈ tables_1_7 := List.mem_of_getElem? h0
  exact tq_in (List.mem_append_right _ (List.mem_append_right _ (List.mem_append_right _ (List.mem_append_right _ (List.mem_append_right _ (List.mem_append_right _ (List.mem_append_left _ h)))))))
theorem tq_i8 {w : Cond} (i : Nat) (h0 : tables_1_8[i]? = some w) : w ∈ lw_tbl := by
  have h : w ∈ tables_1_8 := List.mem_of_getElem? h0
  exact tq_in (List.mem_append_right _ (List.mem_append_right _ (List.mem_append_right _ (List.mem_append_right _ (List.mem_append_right _ (List.mem_append_right _ (List.mem_append_right _ (List.mem_append_left _ h))))))))
theorem tq_i9 {w : Cond} (i : Nat) (h0 : tables_1_9[i]? = some w) : w ∈ lw_tbl := by
  have h : w ∈ tables_1_9 := List.mem_of_getElem? h0
  exact tq_in (List.mem_append_right _ (List.mem_append_right _ (List.mem_append_right _ (List.mem_append_right _ (List.mem_append_right _ (List.mem_append_right _ (List.mem_append_right _ (List.mem_append_right _ (List.mem_append_left _ h)))))))))
theorem tq_i10 {w : Cond} (i : Nat) (h0 : tables_1_10[i]? = some w) : w ∈ lw_tbl := by
  have h : w ∈ tables_1_10 := List.mem_of_getElem? h0
  exact tq_in (List.mem_append_right _ (List.mem_append_right _ (List.mem_append_right _ (List.mem_append_right _ (List.mem_append_right _ (List.mem_append_right _ (List.mem_append_right _ (List.mem_append_right _ (List.mem_append_right _ (h))))))))))

def tq_clP (q : vw_C) : Prop := (∀ w ∈ u_ws q.1 q.2.1 q.2.2, w ∈ lw_tbl) ∧ (∃ ty : Nat → FieldType, ∀ k, k < q.2.2 → parseFieldDescriptor (q.2.1 k).2.2.1 = some (ty k)) ∧ (∀ a, a < q.2.2 → ∀ b, b < q.2.2 → a ≠ b → (q.2.1 a).2.1 ≠ (q.2.1 b).2.1)
theorem tq_cl_X0 : tq_clP (RX0, TX0, 3) := ⟨by show ∀ w ∈ [u_lay RX0 TX0 0, u_lay RX0 TX0 1, u_lay RX0 TX0 2], w ∈ lw_tbl; exact List.forall_mem_cons.mpr ⟨tq_i2 155 rfl, List.forall_mem_cons.mpr ⟨tq_i2 157 rfl, List.forall_mem_cons.mpr ⟨tq_i2 159 rfl, fun _ h => nomatch h⟩⟩⟩, ⟨tyX0, tyX0_ok⟩, nmX0⟩
theorem tq_cl_X1 : tq_clP (RX1, TX1, 5) := ⟨by show ∀ w ∈ [u_lay RX1 TX1 0, u_lay RX1 TX1 1, u_lay RX1 TX1 2, u_lay RX1 TX1 3, u_lay RX1 TX1 4], w ∈ lw_tbl; exact List.forall_mem_cons.mpr ⟨tq_i1 76 rfl, List.forall_mem_cons.mpr ⟨tq_i1 78 rfl, List.forall_mem_cons.mpr ⟨tq_i1 80 rfl, List.forall_mem_cons.mpr ⟨tq_i1 82 rfl, List.forall_mem_cons.mpr ⟨tq_i1 84 rfl, fun _ h => nomatch h⟩⟩⟩⟩⟩, ⟨tyX1, tyX1_ok⟩, nmX1⟩
theorem tq_cl_X2 : tq_clP (RX2, TX2, 11) := ⟨by show ∀ w ∈ [u_lay RX2 TX2 0, u_lay RX2 TX2 1, u_lay RX2 TX2 2, u_lay RX2 TX2 3, u_lay RX2 TX2 4, u_lay RX2 TX2 5, u_lay RX2 TX2 6, u_lay RX2 TX2 7, u_lay RX2 TX2 8, u_lay RX2 TX2 9, u_lay RX2 TX2 10], w ∈ lw_tbl; exact List.forall_mem_cons.mpr ⟨tq_i1 151 rfl, List.forall_mem_cons.mpr ⟨tq_i1 153 rfl, List.forall_mem_cons.mpr ⟨tq_i1 155 rfl, List.forall_mem_cons.mpr ⟨tq_i1 157 rfl, List.forall_mem_cons.mpr ⟨tq_i1 159 rfl, List.forall_mem_cons.mpr ⟨tq_i1 161 rfl, List.forall_mem_cons.mpr ⟨tq_i1 163 rfl, List.forall_mem_cons.mpr ⟨tq_i1 165 rfl, List.forall_mem_cons.mpr ⟨tq_i1 167 rfl, List.forall_mem_cons.mpr ⟨tq_i1 169 rfl, List.forall_mem_cons.mpr ⟨tq_i1 171 rfl, fun _ h => nomatch h⟩⟩⟩⟩⟩⟩⟩⟩⟩⟩⟩, ⟨tyX2, tyX2_ok⟩, nmX2⟩
theorem tq_cl_X3 : tq_clP (RX3, TX3, 2) := ⟨by show ∀ w ∈ [u_lay RX3 TX3 0, u_lay RX3 TX3 1], w ∈ lw_tbl; exact List.forall_mem_cons.mpr ⟨tq_i1 209 rfl, List.forall_mem_cons.mpr ⟨tq_i1 211 rfl, fun _ h => nomatch h⟩⟩, ⟨tyX3, tyX3_ok⟩, nmX3⟩
theorem tq_cl_X4 : tq_clP (RX4, TX4, 19) := ⟨by show ∀ w ∈ [u_lay RX4 TX4 0, u_lay RX4 TX4 1, u_lay RX4 TX4 2, u_lay RX4 TX4 3, u_lay RX4 TX4 4, u_lay RX4 TX4 5, u_lay RX4 TX4 6, u_lay RX4 TX4 7, u_lay RX4 TX4 8, u_lay RX4 TX4 9, u_lay RX4 TX4 10, u_lay RX4 TX4 11, u_lay RX4 TX4 12, u_lay RX4 TX4 13, u_lay RX4 TX4 14, u_lay RX4 TX4 15, u_lay RX4 TX4 16, u_lay RX4 TX4 17, u_lay RX4 TX4 18], w ∈ lw_tbl; exact List.forall_mem_cons.mpr ⟨tq_i2 69 rfl, List.forall_mem_cons.mpr ⟨tq_i2 71 rfl, List.forall_mem_cons.mpr ⟨tq_i2 73 rfl, List.forall_mem_cons.mpr ⟨tq_i2 75 rfl, List.forall_mem_cons.mpr ⟨tq_i2 77 rfl, List.forall_mem_cons.mpr ⟨tq_i2 79 rfl, List.forall_mem_cons.mpr ⟨tq_i2 81 rfl, List.forall_mem_cons.mpr ⟨tq_i2 83 rfl, List.forall_mem_cons.mpr ⟨tq_i2 85 rfl, List.forall_mem_cons.mpr ⟨tq_i2 87 rfl, List.forall_mem_cons.mpr ⟨tq_i2 89 rfl, List.forall_mem_cons.mpr ⟨tq_i2 91 rfl, List.forall_mem_cons.mpr ⟨tq_i2 93 rfl, List.forall_mem_cons.mpr ⟨tq_i2 95 rfl, List.forall_mem_cons.mpr ⟨tq_i2 97 rfl, List.forall_mem_cons.mpr ⟨tq_i2 99 rfl, List.forall_mem_cons.mpr ⟨tq_i2 101 rfl, List.forall_mem_cons.mpr ⟨tq_i2 103 rfl, List.forall_mem_cons.mpr ⟨tq_i2 105 rfl, fun _ h => nomatch h⟩⟩⟩⟩⟩⟩⟩⟩⟩⟩⟩⟩⟩⟩⟩⟩⟩⟩⟩, ⟨tyX4, tyX4_ok⟩, nmX4⟩
theorem tq_cl_X5 : tq_clP (RX5, TX5, 10) := ⟨by show ∀ w ∈ [u_lay RX5 TX5 0, u_lay RX5 TX5 1, u_lay RX5 TX5 2, u_lay RX5 TX5 3, u_lay RX5 TX5 4, u_lay RX5 TX5 5, u_lay RX5 TX5 6, u_lay RX5 TX5 7, u_lay RX5 TX5 8, u_lay RX5 TX5 9], w ∈ lw_tbl; exact List.forall_mem_cons.mpr ⟨tq_i1 105 rfl, List.forall_mem_cons.mpr ⟨tq_i1 107 rfl, List.forall_mem_cons.mpr ⟨tq_i1 109 rfl, List.forall_mem_cons.mpr ⟨tq_i1 111 rfl, List.forall_mem_cons.mpr ⟨tq_i1 113 rfl, List.forall_mem_cons.mpr ⟨tq_i1 115 rfl, List.forall_mem_cons.mpr ⟨tq_i1 117 rfl, List.forall_mem_cons.mpr ⟨tq_i1 119 rfl, List.forall_mem_cons.mpr ⟨tq_i1 121 rfl, List.forall_mem_cons.mpr ⟨tq_i1 123 rfl, fun _ h => nomatch h⟩⟩⟩⟩⟩⟩⟩⟩⟩⟩, ⟨tyX5, tyX5_ok⟩, nmX5⟩
theorem tq_cl_X6 : tq_clP (RX6, TX6, 3) := ⟨by show ∀ w ∈ [u_lay RX6 TX6 0, u_lay RX6 TX6 1, u_lay RX6 TX6 2], w ∈ lw_tbl; exact List.forall_mem_cons.mpr ⟨tq_i2 117 rfl, List.forall_mem_cons.mpr ⟨tq_i2 119 rfl, List.forall_mem_cons.mpr ⟨tq_i2 121 rfl, fun _ h => nomatch h⟩⟩⟩, ⟨tyX6, tyX6_ok⟩, nmX6⟩
theorem tq_cl_X7 : tq_clP (RX7, TX7, 6) := ⟨by show ∀ w ∈ [u_lay RX7 TX7 0, u_lay RX7 TX7 1, u_lay RX7 TX7 2, u_lay RX7 TX7 3, u_lay RX7 TX7 4, u_lay RX7 TX7 5], w ∈ lw_tbl; exact List.forall_mem_cons.mpr ⟨tq_i1 187 rfl, List.forall_mem_cons.mpr ⟨tq_i1 189 rfl, List.forall_mem_cons.mpr ⟨tq_i1 191 rfl, List.forall_mem_cons.mpr ⟨tq_i1 193 rfl, List.forall_mem_cons.mpr ⟨tq_i1 195 rfl, List.forall_mem_cons.mpr ⟨tq_i1 197 rfl, fun _ h => nomatch h⟩⟩⟩⟩⟩⟩, ⟨tyX7, tyX7_ok⟩, nmX7⟩
theorem tq_cl_X8 : tq_clP (RX8, TX8, 7) := ⟨by show ∀ w ∈ [u_lay RX8 TX8 0, u_lay RX8 TX8 1, u_lay RX8 TX8 2, u_lay RX8 TX8 3, u_lay RX8 TX8 4, u_lay RX8 TX8 5, u_lay RX8 TX8 6], w ∈ lw_tbl; exact List.forall_mem_cons.mpr ⟨tq_i2 28 rfl, List.forall_mem_cons.mpr ⟨tq_i2 30 rfl, List.forall_mem_cons.mpr ⟨tq_i2 32 rfl, List.forall_mem_cons.mpr ⟨tq_i2 34 rfl, List.forall_mem_cons.mpr ⟨tq_i2 36 rfl, List.forall_mem_cons.mpr ⟨tq_i2 38 rfl, List.forall_mem_cons.mpr ⟨tq_i2 40 rfl, fun _ h => nomatch h⟩⟩⟩⟩⟩⟩⟩, ⟨tyX8, tyX8_ok⟩, nmX8⟩
theorem tq_cl_X9 : tq_clP (RX9, TX9, 8) := ⟨by show ∀ w ∈ [u_lay RX9 TX9 0, u_lay RX9 TX9 1, u_lay RX9 TX9 2, u_lay RX9 TX9 3, u_lay RX9 TX9 4, u_lay RX9 TX9 5, u_lay RX9 TX9 6, u_lay RX9 TX9 7], w ∈ lw_tbl; exact List.forall_mem_cons.mpr ⟨tq_i1 231 rfl, List.forall_mem_cons.mpr ⟨tq_i1 233 rfl, List.forall_mem_cons.mpr ⟨tq_i1 235 rfl, List.forall_mem_cons.mpr ⟨tq_i1 237 rfl, List.forall_mem_cons.mpr ⟨tq_i1 239 rfl, List.forall_mem_cons.mpr ⟨tq_i2 1 rfl, List.forall_mem_cons.mpr ⟨tq_i2 3 rfl, List.forall_mem_cons.mpr ⟨tq_i2 5 rfl, fun _ h => nomatch h⟩⟩⟩⟩⟩⟩⟩⟩, ⟨tyX9, tyX9_ok⟩, nmX9⟩
theorem tq_cl_X10 : tq_clP (RX10, TX10, 5) := ⟨by show ∀ w ∈ [u_lay RX10 TX10 0, u_lay RX10 TX10 1, u_lay RX10 TX10 2, u_lay RX10 TX10 3, u_lay RX10 TX10 4], w ∈ lw_tbl; exact List.forall_mem_cons.mpr ⟨tq_i2 135 rfl, List.forall_mem_cons.mpr ⟨tq_i2 137 rfl, List.forall_mem_cons.mpr ⟨tq_i2 139 rfl, List.forall_mem_cons.mpr ⟨tq_i2 141 rfl, List.forall_mem_cons.mpr ⟨tq_i2 143 rfl, fun _ h => nomatch h⟩⟩⟩⟩⟩, ⟨tyX10, tyX10_ok⟩, nmX10⟩
theorem tq_cl_X11 : tq_clP (RX11, TX11, 14) := ⟨by show ∀ w ∈ [u_lay RX11 TX11 0, u_lay RX11 TX11 1, u_lay RX11 TX11 2, u_lay RX11 TX11 3, u_lay RX11 TX11 4, u_lay RX11 TX11 5, u_lay RX11 TX11 6, u_lay RX11 TX11 7, u_lay RX11 TX11 8, u_lay RX11 TX11 9, u_lay RX11 TX11 10, u_lay RX11 TX11 11, u_lay RX11 TX11 12, u_lay RX11 TX11 13], w ∈ lw_tbl; exact List.forall_mem_cons.mpr ⟨tq_i2 176 rfl, List.forall_mem_cons.mpr ⟨tq_i2 178 rfl, List.forall_mem_cons.mpr ⟨tq_i2 180 rfl, List.forall_mem_cons.mpr ⟨tq_i2 182 rfl, List.forall_mem_cons.mpr ⟨tq_i2 184 rfl, List.forall_mem_cons.mpr ⟨tq_i2 186 rfl, List.forall_mem_cons.mpr ⟨tq_i2 188 rfl, List.forall_mem_cons.mpr ⟨tq_i2 190 rfl, List.forall_mem_cons.mpr ⟨tq_i2 192 rfl, List.forall_mem_cons.mpr ⟨tq_i2 194 rfl, List.forall_mem_cons.mpr ⟨tq_i2 196 rfl, List.forall_mem_cons.mpr ⟨tq_i2 198 rfl, List.forall_mem_cons.mpr ⟨tq_i2 200 rfl, List.forall_mem_cons.mpr ⟨tq_i2 202 rfl, fun _ h => nomatch h⟩⟩⟩⟩⟩⟩⟩⟩⟩⟩⟩⟩⟩⟩, ⟨tyX11, tyX11_ok⟩, nmX11⟩
theorem tq_cl_X12 : tq_clP (RX12, TX12, 56) := ⟨by show ∀ w ∈ [u_lay RX12 TX12 0, u_lay RX12 TX12 1, u_lay RX12 TX12 2, u_lay RX12 TX12 3, u_lay RX12 TX12 4, u_lay RX12 TX12 5, u_lay RX12 TX12 6, u_lay RX12 TX12 7, u_lay RX12 TX12 8, u_lay RX12 TX12 9, u_lay RX12 TX12 10, u_lay RX12 TX12 11, u_lay RX12 TX12 12, u_lay RX12 TX12 13, u_lay RX12 TX12 14, u_lay RX12 TX12 15, u_lay RX12 TX12 16, u_lay RX12 TX12 17, u_lay RX12 TX12 18, u_lay RX12 TX12 19, u_lay RX12 TX12 20, u_lay RX12 TX12 21, u_lay RX12 TX12 22, u_lay RX12 TX12 23, u_lay RX12 TX12 24, u_lay RX12 TX12 25, u_lay RX12 TX12 26, u_lay RX12 TX12 27, u_lay RX12 TX12 28, u_lay RX12 TX12 29, u_lay RX12 TX12 30, u_lay RX12 TX12 31, u_lay RX12 TX12 32, u_lay RX12 TX12 33, u_lay RX12 TX12 34, u_lay RX12 TX12 35, u_lay RX12 TX12 36, u_lay RX12 TX12 37, u_lay RX12 TX12 38, u_lay RX12 TX12 39, u_lay RX12 TX12 40, u_lay RX12 TX12 41, u_lay RX12 TX12 42, u_lay RX12 TX12 43, u_lay RX12 TX12 44, u_lay RX12 TX12 45, u_lay RX12 TX12 46, u_lay RX12 TX12 47, u_lay RX12 TX12 48, u_lay RX12 TX12 49, u_lay RX12 TX12 50, u_lay RX12 TX12 51, u_lay RX12 TX12 52, u_lay RX12 TX12 53, u_lay RX12 TX12 54, u_lay RX12 TX12 55], w ∈ lw_tbl; exact List.forall_mem_cons.mpr ⟨tq_i8 43 rfl, List.forall_mem_cons.mpr ⟨tq_i8 45 rfl, List.forall_mem_cons.mpr ⟨tq_i8 47 rfl, List.forall_mem_cons.mpr ⟨tq_i8 49 rfl, List.forall_mem_cons.mpr ⟨tq_i8 51 rfl, List.forall_mem_cons.mpr ⟨tq_i8 53 rfl, List.forall_mem_cons.mpr ⟨tq_i8 55 rfl, List.forall_mem_cons.mpr ⟨tq_i8 57 rfl, List.forall_mem_cons.mpr ⟨tq_i8 59 rfl, List.forall_mem_cons.mpr ⟨tq_i8 61 rfl, List.forall_mem_cons.mpr ⟨tq_i8 63 rfl, List.forall_mem_cons.mpr ⟨tq_i8 65 rfl, List.forall_mem_cons.mpr ⟨tq_i8 67 rfl, List.forall_mem_cons.mpr ⟨tq_i8 69 rfl, List.forall_mem_cons.mpr ⟨tq_i8 71 rfl, List.forall_mem_cons.mpr ⟨tq_i8 73 rfl, List.forall_mem_cons.mpr ⟨tq_i8 75 rfl, List.forall_mem_cons.mpr ⟨tq_i8 77 rfl, List.forall_mem_cons.mpr ⟨tq_i8 79 rfl, List.forall_mem_cons.mpr ⟨tq_i8 81 rfl, List.forall_mem_cons.mpr ⟨tq_i8 83 rfl, List.forall_mem_cons.mpr ⟨tq_i8 85 rfl, List.forall_mem_cons.mpr ⟨tq_i8 87 rfl, List.forall_mem_cons.mpr ⟨tq_i8 89 rfl, List.forall_mem_cons.mpr ⟨tq_i8 91 rfl, List.forall_mem_cons.mpr ⟨tq_i8 93 rfl, List.forall_mem_cons.mpr ⟨tq_i8 95 rfl, List.forall_mem_cons.mpr ⟨tq_i8 97 rfl, List.forall_mem_cons.mpr ⟨tq_i8 99 rfl, List.forall_mem_cons.mpr ⟨tq_i8 101 rfl, List.forall_mem_cons.mpr ⟨tq_i8 103 rfl, List.forall_mem_cons.mpr ⟨tq_i8 105 rfl, List.forall_mem_cons.mpr ⟨tq_i8 107 rfl, List.forall_mem_cons.mpr ⟨tq_i8 109 rfl, List.forall_mem_cons.mpr ⟨tq_i8 111 rfl, List.forall_mem_cons.mpr ⟨tq_i8 113 rfl, List.forall_mem_cons.mpr ⟨tq_i8 115 rfl, List.forall_mem_cons.mpr ⟨tq_i8 117 rfl, List.forall_mem_cons.mpr ⟨tq_i8 119 rfl, List.forall_mem_cons.mpr ⟨tq_i8 121 rfl, List.forall_mem_cons.mpr ⟨tq_i8 123 rfl, List.forall_mem_cons.mpr ⟨tq_i8 125 rfl, List.forall_mem_cons.mpr ⟨tq_i8 127 rfl, List.forall_mem_cons.mpr ⟨tq_i8 129 rfl, List.forall_mem_cons.mpr ⟨tq_i8 131 rfl, List.forall_mem_cons.mpr ⟨tq_i8 133 rfl, List.forall_mem_cons.mpr ⟨tq_i8 135 rfl, List.forall_mem_cons.mpr ⟨tq_i8 137 rfl, List.forall_mem_cons.mpr ⟨tq_i8 139 rfl, List.forall_mem_cons.mpr ⟨tq_i8 141 rfl, List.forall_mem_cons.mpr ⟨tq_i8 143 rfl, List.forall_mem_cons.mpr ⟨tq_i8 145 rfl, List.forall_mem_cons.mpr ⟨tq_i8 147 rfl, List.forall_mem_cons.mpr ⟨tq_i8 149 rfl, List.forall_mem_cons.mpr ⟨tq_i8 151 rfl, List.forall_mem_cons.mpr ⟨tq_i8 153 rfl, fun _ h => nomatch h⟩⟩⟩⟩⟩⟩⟩⟩⟩⟩⟩⟩⟩⟩⟩⟩⟩⟩⟩⟩⟩⟩⟩⟩⟩⟩⟩⟩⟩⟩⟩⟩⟩⟩⟩⟩⟩⟩⟩⟩⟩⟩⟩⟩⟩⟩⟩⟩⟩⟩⟩⟩⟩⟩⟩⟩, ⟨tyX12, tyX12_ok⟩, nmX12⟩
theorem tq_cl_ok : ∀ q ∈ tq_cl, tq_clP q := List.forall_mem_cons.mpr ⟨tq_cl_X0, List.forall_mem_cons.mpr ⟨tq_cl_X1, List.forall_mem_cons.mpr ⟨tq_cl_X2, List.forall_mem_cons.mpr ⟨tq_cl_X3, List.forall_mem_cons.mpr ⟨tq_cl_X4, List.forall_mem_cons.mpr ⟨tq_cl_X5, List.forall_mem_cons.mpr ⟨tq_cl_X6, List.forall_mem_cons.mpr ⟨tq_cl_X7, List.forall_mem_cons.mpr ⟨tq_cl_X8, List.forall_mem_cons.mpr ⟨tq_cl_X9, List.forall_mem_cons.mpr ⟨tq_cl_X10, List.forall_mem_cons.mpr ⟨tq_cl_X11, List.forall_mem_cons.mpr ⟨tq_cl_X12, fun _ h => nomatch h⟩⟩⟩⟩⟩⟩⟩⟩⟩⟩⟩⟩⟩
def tq_lfP (own : String) (q : Nat × Nat × Nat × Bool) : Prop := ∃ (C : String) (T : u_T) (N : Nat), tq_cl[q.2.1]? = some (C, T, N) ∧ q.2.2.1 < N ∧ (T q.2.2.1).1 = C ∧ (match q.2.2.2 with
  | true => ∃ host, Cond.fieldLinkNest own q.1 C (T q.2.2.1).2.1 (T q.2.2.1).2.2.1 host ∈ lw_tbl
  | false => Cond.fieldLink own q.1 C (T q.2.2.1).2.1 (T q.2.2.1).2.2.1 ∈ lw_tbl)
def tq_lf0 : List (Nat × Nat × Nat × Bool) := [(9, 0, 0, false), (13, 0, 1, false), (17, 0, 2, false)]
theorem tq_lf0_ok : ∀ q ∈ tq_lf0, tq_lfP RX0 q := List.forall_mem_cons.mpr ⟨⟨RX0, TX0, 3, rfl, by decide, rfl, tq_i2 152 rfl⟩, List.forall_mem_cons.mpr ⟨⟨RX0, TX0, 3, rfl, by decide, rfl, tq_i2 153 rfl⟩, List.forall_mem_cons.mpr ⟨⟨RX0, TX0, 3, rfl, by decide, rfl, tq_i2 154 rfl⟩, fun _ h => nomatch h⟩⟩⟩
def tq_lf1 : List (Nat × Nat × Nat × Bool) := [(7, 1, 0, false), (13, 1, 1, false), (16, 1, 2, false), (20, 1, 3, false), (24, 1, 4, false)]
theorem tq_lf1_ok : ∀ q ∈ tq_lf1, tq_lfP RX1 q := List.forall_mem_cons.mpr ⟨⟨RX1, TX1, 5, rfl, by decide, rfl, tq_i1 44 rfl⟩, List.forall_mem_cons.mpr ⟨⟨RX1, TX1, 5, rfl, by decide, rfl, tq_i1 52 rfl⟩, List.forall_mem_cons.mpr ⟨⟨RX1, TX1, 5, rfl, by decide, rfl, tq_i1 60 rfl⟩, List.forall_mem_cons.mpr ⟨⟨RX1, TX1, 5, rfl, by decide, rfl, tq_i1 65 rfl⟩, List.forall_mem_cons.mpr ⟨⟨RX1, TX1, 5, rfl, by decide, rfl, tq_i1 72 rfl⟩, fun _ h => nomatch h⟩⟩⟩⟩⟩
def tq_lf2 : List (Nat × Nat × Nat × Bool) := [(7, 2, 0, false), (13, 2, 1, false), (17, 2, 2, false), (20, 2, 3, false), (24, 2, 10, false), (28, 2, 4, false), (32, 2, 7, false), (35, 2, 5, false), (39, 2, 6, false), (45, 2, 8, false), (48, 2, 9, false), (57, 1, 0, true), (60, 1, 2, true), (65, 1, 1, true)]
theorem tq_lf2_ok : ∀ q ∈ tq_lf2, tq_lfP RX2 q := List.forall_mem_cons.mpr ⟨⟨RX2, TX2, 11, rfl, by decide, rfl, tq_i1 133 rfl⟩, List.forall_mem_cons.mpr ⟨⟨RX2, TX2, 11, rfl, by decide, rfl, tq_i1 134 rfl⟩, List.forall_mem_cons.mpr ⟨⟨RX2, TX2, 11, rfl, by decide, rfl, tq_i1 135 rfl⟩, List.forall_mem_cons.mpr ⟨⟨RX2, TX2, 11, rfl, by decide, rfl, tq_i1 136 rfl⟩, List.forall_mem_cons.mpr ⟨⟨RX2, TX2, 11, rfl, by decide, rfl, tq_i1 149 rfl⟩, List.forall_mem_cons.mpr ⟨⟨RX2, TX2, 11, rfl, by decide, rfl, tq_i1 137 rfl⟩, List.forall_mem_cons.mpr ⟨⟨RX2, TX2, 11, rfl, by decide, rfl, tq_i1 143 rfl⟩, List.forall_mem_cons.mpr ⟨⟨RX2, TX2, 11, rfl, by decide, rfl, tq_i1 139 rfl⟩, List.forall_mem_cons.mpr ⟨⟨RX2, TX2, 11, rfl, by decide, rfl, tq_i1 141 rfl⟩, List.forall_mem_cons.mpr ⟨⟨RX2, TX2, 11, rfl, by decide, rfl, tq_i1 145 rfl⟩, List.forall_mem_cons.mpr ⟨⟨RX2, TX2, 11, rfl, by decide, rfl, tq_i1 147 rfl⟩, List.forall_mem_cons.mpr ⟨⟨RX1, TX1, 5, rfl, by decide, rfl, ⟨"Tilecount", tq_i1 49 rfl⟩⟩, List.forall_mem_cons.mpr ⟨⟨RX1, TX1, 5, rfl, by decide, rfl, ⟨"Tilecount", tq_i1 64 rfl⟩⟩, List.forall_mem_cons.mpr ⟨⟨RX1, TX1, 5, rfl, by decide, rfl, ⟨"Tilecount", tq_i1 58 rfl⟩⟩, fun _ h => nomatch h⟩⟩⟩⟩⟩⟩⟩⟩⟩⟩⟩⟩⟩⟩
def tq_lf3 : List (Nat × Nat × Nat × Bool) := [(9, 3, 0, false), (13, 3, 1, false), (28, 1, 3, true), (77, 1, 1, true), (81, 1, 0, true)]
theorem tq_lf3_ok : ∀ q ∈ tq_lf3, tq_lfP RX3 q := List.forall_mem_cons.mpr ⟨⟨RX3, TX3, 2, rfl, by decide, rfl, tq_i1 207 rfl⟩, List.forall_mem_cons.mpr ⟨⟨RX3, TX3, 2, rfl, by decide, rfl, tq_i1 208 rfl⟩, List.forall_mem_cons.mpr ⟨⟨RX1, TX1, 5, rfl, by decide, rfl, ⟨"Tilecount", tq_i1 70 rfl⟩⟩, List.forall_mem_cons.mpr ⟨⟨RX1, TX1, 5, rfl, by decide, rfl, ⟨"Tilecount", tq_i1 57 rfl⟩⟩, List.forall_mem_cons.mpr ⟨⟨RX1, TX1, 5, rfl, by decide, rfl, ⟨"Tilecount", tq_i1 50 rfl⟩⟩, fun _ h => nomatch h⟩⟩⟩⟩⟩
def tq_lf4 : List (Nat × Nat × Nat × Bool) := [(11, 4, 0, false), (15, 4, 1, false), (19, 4, 2, false), (23, 4, 3, false), (27, 4, 4, false), (32, 4, 5, false), (37, 4, 6, false), (40, 4, 7, false), (43, 4, 8, false), (46, 4, 9, false), (49, 4, 10, false), (52, 4, 15, false), (56, 4, 16, false), (59, 1, 4, true), (62, 8, 6, true), (80, 4, 18, false), (84, 4, 12, false), (87, 4, 17, false), (111, 4, 14, false), (119, 1, 3, true), (126, 1, 2, true), (130, 1, 0, true), (133, 1, 1, true), (140, 4, 13, false), (143, 8, 5, true), (150, 8, 2, true), (167, 8, 3, true), (175, 8, 1, true), (178, 8, 0, true), (224, 4, 11, false)]
theorem tq_lf4_ok : ∀ q ∈ tq_lf4, tq_lfP RX4 q := List.forall_mem_cons.mpr ⟨⟨RX4, TX4, 19, rfl, by decide, rfl, tq_i2 49 rfl⟩, List.forall_mem_cons.mpr ⟨⟨RX4, TX4, 19, rfl, by decide, rfl, tq_i2 50 rfl⟩, List.forall_mem_cons.mpr ⟨⟨RX4, TX4, 19, rfl, by decide, rfl, tq_i2 51 rfl⟩, List.forall_mem_cons.mpr ⟨⟨RX4, TX4, 19, rfl, by decide, rfl, tq_i2 52 rfl⟩, List.forall_mem_cons.mpr ⟨⟨RX4, TX4, 19, rfl, by decide, rfl, tq_i2 53 rfl⟩, List.forall_mem_cons.mpr ⟨⟨RX4, TX4, 19, rfl, by decide, rfl, tq_i2 54 rfl⟩, List.forall_mem_cons.mpr ⟨⟨RX4, TX4, 19, rfl, by decide, rfl, tq_i2 55 rfl⟩, List.forall_mem_cons.mpr ⟨⟨RX4, TX4, 19, rfl, by decide, rfl, tq_i2 56 rfl⟩, List.forall_mem_cons.mpr ⟨⟨RX4, TX4, 19, rfl, by decide, rfl, tq_i2 57 rfl⟩, List.forall_mem_cons.mpr ⟨⟨RX4, TX4, 19, rfl, by decide, rfl, tq_i2 58 rfl⟩, List.forall_mem_cons.mpr ⟨⟨RX4, TX4, 19, rfl, by decide, rfl, tq_i2 59 rfl⟩, List.forall_mem_cons.mpr ⟨⟨RX4, TX4, 19, rfl, by decide, rfl, tq_i2 64 rfl⟩, List.forall_mem_cons.mpr ⟨⟨RX4, TX4, 19, rfl, by decide, rfl, tq_i2 65 rfl⟩, List.forall_mem_cons.mpr ⟨⟨RX1, TX1, 5, rfl, by decide, rfl, ⟨"Tilecount", tq_i1 73 rfl⟩⟩, List.forall_mem_cons.mpr ⟨⟨RX8, TX8, 7, rfl, by decide, rfl, ⟨"Tilecount", tq_i2 27 rfl⟩⟩, List.forall_mem_cons.mpr ⟨⟨RX4, TX4, 19, rfl, by decide, rfl, tq_i2 68 rfl⟩, List.forall_mem_cons.mpr ⟨⟨RX4, TX4, 19, rfl, by decide, rfl, tq_i2 61 rfl⟩, List.forall_mem_cons.mpr ⟨⟨RX4, TX4, 19, rfl, by decide, rfl, tq_i2 66 rfl⟩, List.forall_mem_cons.mpr ⟨⟨RX4, TX4, 19, rfl, by decide, rfl, tq_i2 63 rfl⟩, List.forall_mem_cons.mpr ⟨⟨RX1, TX1, 5, rfl, by decide, rfl, ⟨"Tilecount", tq_i1 69 rfl⟩⟩, List.forall_mem_cons.mpr ⟨⟨RX1, TX1, 5, rfl, by decide, rfl, ⟨"Tilecount", tq_i1 62 rfl⟩⟩, List.forall_mem_cons.mpr ⟨⟨RX1, TX1, 5, rfl, by decide, rfl, ⟨"Tilecount", tq_i1 48 rfl⟩⟩, List.forall_mem_cons.mpr ⟨⟨RX1, TX1, 5, rfl, by decide, rfl, ⟨"Tilecount", tq_i1 56 rfl⟩⟩, List.forall_mem_cons.mpr ⟨⟨RX4, TX4, 19, rfl, by decide, rfl, tq_i2 62 rfl⟩, List.forall_mem_cons.mpr ⟨⟨RX8, TX8, 7, rfl, by decide, rfl, ⟨"Tilecount", tq_i2 24 rfl⟩⟩, List.forall_mem_cons.mpr ⟨⟨RX8, TX8, 7, rfl, by decide, rfl, ⟨"Tilecount", tq_i2 19 rfl⟩⟩, List.forall_mem_cons.mpr ⟨⟨RX8, TX8, 7, rfl, by decide, rfl, ⟨"Tilecount", tq_i2 21 rfl⟩⟩, List.forall_mem_cons.mpr ⟨⟨RX8, TX8, 7, rfl, by decide, rfl, ⟨"Tilecount", tq_i2 17 rfl⟩⟩, List.forall_mem_cons.mpr ⟨⟨RX8, TX8, 7, rfl, by decide, rfl, ⟨"Tilecount", tq_i2 15 rfl⟩⟩, List.forall_mem_cons.mpr ⟨⟨RX4, TX4, 19, rfl, by decide, rfl, tq_i2 60 rfl⟩, fun _ h => nomatch h⟩⟩⟩⟩⟩⟩⟩⟩⟩⟩⟩⟩⟩⟩⟩⟩⟩⟩⟩⟩⟩⟩⟩⟩⟩⟩⟩⟩⟩⟩
def tq_lf5 : List (Nat × Nat × Nat × Bool) := [(7, 5, 0, false), (15, 5, 1, false), (19, 5, 2, false), (22, 5, 3, false), (25, 5, 4, false), (28, 5, 5, false), (31, 5, 6, false), (35, 5, 7, false), (38, 5, 8, false), (42, 5, 9, false), (45, 1, 3, true), (48, 1, 0, true), (51, 1, 1, true), (54, 1, 2, true), (58, 1, 4, true)]
theorem tq_lf5_ok : ∀ q ∈ tq_lf5, tq_lfP RX5 q := List.forall_mem_cons.mpr ⟨⟨RX5, TX5, 10, rfl, by decide, rfl, tq_i1 93 rfl⟩, List.forall_mem_cons.mpr ⟨⟨RX5, TX5, 10, rfl, by decide, rfl, tq_i1 94 rfl⟩, List.forall_mem_cons.mpr ⟨⟨RX5, TX5, 10, rfl, by decide, rfl, tq_i1 95 rfl⟩, List.forall_mem_cons.mpr ⟨⟨RX5, TX5, 10, rfl, by decide, rfl, tq_i1 96 rfl⟩, List.forall_mem_cons.mpr ⟨⟨RX5, TX5, 10, rfl, by decide, rfl, tq_i1 97 rfl⟩, List.forall_mem_cons.mpr ⟨⟨RX5, TX5, 10, rfl, by decide, rfl, tq_i1 98 rfl⟩, List.forall_mem_cons.mpr ⟨⟨RX5, TX5, 10, rfl, by decide, rfl, tq_i1 99 rfl⟩, List.forall_mem_cons.mpr ⟨⟨RX5, TX5, 10, rfl, by decide, rfl, tq_i1 100 rfl⟩, List.forall_mem_cons.mpr ⟨⟨RX5, TX5, 10, rfl, by decide, rfl, tq_i1 101 rfl⟩, List.forall_mem_cons.mpr ⟨⟨RX5, TX5, 10, rfl, by decide, rfl, tq_i1 103 rfl⟩, List.forall_mem_cons.mpr ⟨⟨RX1, TX1, 5, rfl, by decide, rfl, ⟨"Tilecount", tq_i1 66 rfl⟩⟩, List.forall_mem_cons.mpr ⟨⟨RX1, TX1, 5, rfl, by decide, rfl, ⟨"Tilecount", tq_i1 46 rfl⟩⟩, List.forall_mem_cons.mpr ⟨⟨RX1, TX1, 5, rfl, by decide, rfl, ⟨"Tilecount", tq_i1 55 rfl⟩⟩, List.forall_mem_cons.mpr ⟨⟨RX1, TX1, 5, rfl, by decide, rfl, ⟨"Tilecount", tq_i1 61 rfl⟩⟩, List.forall_mem_cons.mpr ⟨⟨RX1, TX1, 5, rfl, by decide, rfl, ⟨"Tilecount", tq_i1 74 rfl⟩⟩, fun _ h => nomatch h⟩⟩⟩⟩⟩⟩⟩⟩⟩⟩⟩⟩⟩⟩⟩
def tq_lf6 : List (Nat × Nat × Nat × Bool) := [(9, 6, 0, false), (13, 6, 1, false), (17, 6, 2, false)]
theorem tq_lf6_ok : ∀ q ∈ tq_lf6, tq_lfP RX6 q := List.forall_mem_cons.mpr ⟨⟨RX6, TX6, 3, rfl, by decide, rfl, tq_i2 114 rfl⟩, List.forall_mem_cons.mpr ⟨⟨RX6, TX6, 3, rfl, by decide, rfl, tq_i2 115 rfl⟩, List.forall_mem_cons.mpr ⟨⟨RX6, TX6, 3, rfl, by decide, rfl, tq_i2 116 rfl⟩, fun _ h => nomatch h⟩⟩⟩
def tq_lf7 : List (Nat × Nat × Nat × Bool) := [(7, 7, 0, false), (13, 7, 1, false), (17, 7, 2, false), (20, 7, 3, false), (23, 1, 0, true), (29, 1, 1, true), (46, 7, 4, false), (50, 7, 5, false)]
theorem tq_lf7_ok : ∀ q ∈ tq_lf7, tq_lfP RX7 q := List.forall_mem_cons.mpr ⟨⟨RX7, TX7, 6, rfl, by decide, rfl, tq_i1 181 rfl⟩, List.forall_mem_cons.mpr ⟨⟨RX7, TX7, 6, rfl, by decide, rfl, tq_i1 182 rfl⟩, List.forall_mem_cons.mpr ⟨⟨RX7, TX7, 6, rfl, by decide, rfl, tq_i1 183 rfl⟩, List.forall_mem_cons.mpr ⟨⟨RX7, TX7, 6, rfl, by decide, rfl, tq_i1 184 rfl⟩, List.forall_mem_cons.mpr ⟨⟨RX1, TX1, 5, rfl, by decide, rfl, ⟨"Tilecount", tq_i1 45 rfl⟩⟩, List.forall_mem_cons.mpr ⟨⟨RX1, TX1, 5, rfl, by decide, rfl, ⟨"Tilecount", tq_i1 54 rfl⟩⟩, List.forall_mem_cons.mpr ⟨⟨RX7, TX7, 6, rfl, by decide, rfl, tq_i1 185 rfl⟩, List.forall_mem_cons.mpr ⟨⟨RX7, TX7, 6, rfl, by decide, rfl, tq_i1 186 rfl⟩, fun _ h => nomatch h⟩⟩⟩⟩⟩⟩⟩⟩
def tq_lf8 : List (Nat × Nat × Nat × Bool) := [(9, 8, 0, false), (13, 8, 1, false), (17, 8, 2, false), (20, 8, 3, false), (23, 8, 4, false), (27, 8, 5, false), (31, 8, 6, false)]
theorem tq_lf8_ok : ∀ q ∈ tq_lf8, tq_lfP RX8 q := List.forall_mem_cons.mpr ⟨⟨RX8, TX8, 7, rfl, by decide, rfl, tq_i2 14 rfl⟩, List.forall_mem_cons.mpr ⟨⟨RX8, TX8, 7, rfl, by decide, rfl, tq_i2 16 rfl⟩, List.forall_mem_cons.mpr ⟨⟨RX8, TX8, 7, rfl, by decide, rfl, tq_i2 18 rfl⟩, List.forall_mem_cons.mpr ⟨⟨RX8, TX8, 7, rfl, by decide, rfl, tq_i2 20 rfl⟩, List.forall_mem_cons.mpr ⟨⟨RX8, TX8, 7, rfl, by decide, rfl, tq_i2 22 rfl⟩, List.forall_mem_cons.mpr ⟨⟨RX8, TX8, 7, rfl, by decide, rfl, tq_i2 23 rfl⟩, List.forall_mem_cons.mpr ⟨⟨RX8, TX8, 7, rfl, by decide, rfl, tq_i2 26 rfl⟩, fun _ h => nomatch h⟩⟩⟩⟩⟩⟩⟩
def tq_lf9 : List (Nat × Nat × Nat × Bool) := [(7, 9, 0, false), (15, 9, 1, false), (19, 9, 2, false), (22, 9, 3, false), (25, 9, 4, false), (37, 1, 4, true), (52, 1, 3, true), (56, 9, 5, false), (76, 9, 6, false), (79, 9, 7, false)]
theorem tq_lf9_ok : ∀ q ∈ tq_lf9, tq_lfP RX9 q := List.forall_mem_cons.mpr ⟨⟨RX9, TX9, 8, rfl, by decide, rfl, tq_i1 220 rfl⟩, List.forall_mem_cons.mpr ⟨⟨RX9, TX9, 8, rfl, by decide, rfl, tq_i1 221 rfl⟩, List.forall_mem_cons.mpr ⟨⟨RX9, TX9, 8, rfl, by decide, rfl, tq_i1 222 rfl⟩, List.forall_mem_cons.mpr ⟨⟨RX9, TX9, 8, rfl, by decide, rfl, tq_i1 223 rfl⟩, List.forall_mem_cons.mpr ⟨⟨RX9, TX9, 8, rfl, by decide, rfl, tq_i1 224 rfl⟩, List.forall_mem_cons.mpr ⟨⟨RX1, TX1, 5, rfl, by decide, rfl, ⟨"Tilecount", tq_i1 75 rfl⟩⟩, List.forall_mem_cons.mpr ⟨⟨RX1, TX1, 5, rfl, by decide, rfl, ⟨"Tilecount", tq_i1 68 rfl⟩⟩, List.forall_mem_cons.mpr ⟨⟨RX9, TX9, 8, rfl, by decide, rfl, tq_i1 225 rfl⟩, List.forall_mem_cons.mpr ⟨⟨RX9, TX9, 8, rfl, by decide, rfl, tq_i1 227 rfl⟩, List.forall_mem_cons.mpr ⟨⟨RX9, TX9, 8, rfl, by decide, rfl, tq_i1 229 rfl⟩, fun _ h => nomatch h⟩⟩⟩⟩⟩⟩⟩⟩⟩⟩
def tq_lf10 : List (Nat × Nat × Nat × Bool) := [(9, 10, 0, false), (13, 10, 1, false), (17, 10, 2, false), (20, 10, 3, false), (29, 1, 1, true), (35, 1, 3, true), (58, 10, 4, false), (61, 1, 0, true)]
theorem tq_lf10_ok : ∀ q ∈ tq_lf10, tq_lfP RX10 q := List.forall_mem_cons.mpr ⟨⟨RX10, TX10, 5, rfl, by decide, rfl, tq_i2 130 rfl⟩, List.forall_mem_cons.mpr ⟨⟨RX10, TX10, 5, rfl, by decide, rfl, tq_i2 131 rfl⟩, List.forall_mem_cons.mpr ⟨⟨RX10, TX10, 5, rfl, by decide, rfl, tq_i2 132 rfl⟩, List.forall_mem_cons.mpr ⟨⟨RX10, TX10, 5, rfl, by decide, rfl, tq_i2 133 rfl⟩, List.forall_mem_cons.mpr ⟨⟨RX1, TX1, 5, rfl, by decide, rfl, ⟨"Tilecount", tq_i1 53 rfl⟩⟩, List.forall_mem_cons.mpr ⟨⟨RX1, TX1, 5, rfl, by decide, rfl, ⟨"Tilecount", tq_i1 67 rfl⟩⟩, List.forall_mem_cons.mpr ⟨⟨RX10, TX10, 5, rfl, by decide, rfl, tq_i2 134 rfl⟩, List.forall_mem_cons.mpr ⟨⟨RX1, TX1, 5, rfl, by decide, rfl, ⟨"Tilecount", tq_i1 47 rfl⟩⟩, fun _ h => nomatch h⟩⟩⟩⟩⟩⟩⟩⟩
def tq_lf11 : List (Nat × Nat × Nat × Bool) := [(10, 11, 0, false), (21, 11, 1, false), (28, 11, 2, false), (35, 11, 3, false), (42, 11, 4, false), (49, 11, 5, false), (56, 11, 6, false), (65, 11, 7, false), (72, 11, 8, false), (79, 11, 9, false), (86, 11, 10, false), (90, 11, 11, false), (93, 11, 12, false), (97, 11, 13, false), (164, 1, 2, true), (174, 1, 3, true), (238, 2, 4, true), (243, 2, 5, true), (246, 2, 6, true), (276, 2, 10, true), (293, 2, 7, true), (298, 2, 8, true), (301, 2, 9, true), (323, 9, 5, true), (329, 9, 6, true), (332, 9, 7, true), (364, 8, 5, true), (373, 4, 17, true), (477, 5, 8, true), (480, 5, 9, true), (483, 1, 1, true), (486, 1, 0, true)]
theorem tq_lf11_ok : ∀ q ∈ tq_lf11, tq_lfP RX11 q := List.forall_mem_cons.mpr ⟨⟨RX11, TX11, 14, rfl, by decide, rfl, tq_i2 162 rfl⟩, List.forall_mem_cons.mpr ⟨⟨RX11, TX11, 14, rfl, by decide, rfl, tq_i2 163 rfl⟩, List.forall_mem_cons.mpr ⟨⟨RX11, TX11, 14, rfl, by decide, rfl, tq_i2 164 rfl⟩, List.forall_mem_cons.mpr ⟨⟨RX11, TX11, 14, rfl, by decide, rfl, tq_i2 165 rfl⟩, List.forall_mem_cons.mpr ⟨⟨RX11, TX11, 14, rfl, by decide, rfl, tq_i2 166 rfl⟩, List.forall_mem_cons.mpr ⟨⟨RX11, TX11, 14, rfl, by decide, rfl, tq_i2 167 rfl⟩, List.forall_mem_cons.mpr ⟨⟨RX11, TX11, 14, rfl, by decide, rfl, tq_i2 168 rfl⟩, List.forall_mem_cons.mpr ⟨⟨RX11, TX11, 14, rfl, by decide, rfl, tq_i2 169 rfl⟩, List.forall_mem_cons.mpr ⟨⟨RX11, TX11, 14, rfl, by decide, rfl, tq_i2 170 rfl⟩, List.forall_mem_cons.mpr ⟨⟨RX11, TX11, 14, rfl, by decide, rfl, tq_i2 171 rfl⟩, List.forall_mem_cons.mpr ⟨⟨RX11, TX11, 14, rfl, by decide, rfl, tq_i2 172 rfl⟩, List.forall_mem_cons.mpr ⟨⟨RX11, TX11, 14, rfl, by decide, rfl, tq_i2 173 rfl⟩, List.forall_mem_cons.mpr ⟨⟨RX11, TX11, 14, rfl, by decide, rfl, tq_i2 174 rfl⟩, List.forall_mem_cons.mpr ⟨⟨RX11, TX11, 14, rfl, by decide, rfl, tq_i2 175 rfl⟩, List.forall_mem_cons.mpr ⟨⟨RX1, TX1, 5, rfl, by decide, rfl, ⟨"Tilecount", tq_i1 63 rfl⟩⟩, List.forall_mem_cons.mpr ⟨⟨RX1, TX1, 5, rfl, by decide, rfl, ⟨"Tilecount", tq_i1 71 rfl⟩⟩, List.forall_mem_cons.mpr ⟨⟨RX2, TX2, 11, rfl, by decide, rfl, ⟨"Tilecount", tq_i1 138 rfl⟩⟩, List.forall_mem_cons.mpr ⟨⟨RX2, TX2, 11, rfl, by decide, rfl, ⟨"Tilecount", tq_i1 140 rfl⟩⟩, List.forall_mem_cons.mpr ⟨⟨RX2, TX2, 11, rfl, by decide, rfl, ⟨"Tilecount", tq_i1 142 rfl⟩⟩, List.forall_mem_cons.mpr ⟨⟨RX2, TX2, 11, rfl, by decide, rfl, ⟨"Tilecount", tq_i1 150 rfl⟩⟩, List.forall_mem_cons.mpr ⟨⟨RX2, TX2, 11, rfl, by decide, rfl, ⟨"Tilecount", tq_i1 144 rfl⟩⟩, List.forall_mem_cons.mpr ⟨⟨RX2, TX2, 11, rfl, by decide, rfl, ⟨"Tilecount", tq_i1 146 rfl⟩⟩, List.forall_mem_cons.mpr ⟨⟨RX2, TX2, 11, rfl, by decide, rfl, ⟨"Tilecount", tq_i1 148 rfl⟩⟩, List.forall_mem_cons.mpr ⟨⟨RX9, TX9, 8, rfl, by decide, rfl, ⟨"Tilecount", tq_i1 226 rfl⟩⟩, List.forall_mem_cons.mpr ⟨⟨RX9, TX9, 8, rfl, by decide, rfl, ⟨"Tilecount", tq_i1 228 rfl⟩⟩, List.forall_mem_cons.mpr ⟨⟨RX9, TX9, 8, rfl, by decide, rfl, ⟨"Tilecount", tq_i1 230 rfl⟩⟩, List.forall_mem_cons.mpr ⟨⟨RX8, TX8, 7, rfl, by decide, rfl, ⟨"Tilecount", tq_i2 25 rfl⟩⟩, List.forall_mem_cons.mpr ⟨⟨RX4, TX4, 19, rfl, by decide, rfl, ⟨"Tilecount", tq_i2 67 rfl⟩⟩, List.forall_mem_cons.mpr ⟨⟨RX5, TX5, 10, rfl, by decide, rfl, ⟨"Tilecount", tq_i1 102 rfl⟩⟩, List.forall_mem_cons.mpr ⟨⟨RX5, TX5, 10, rfl, by decide, rfl, ⟨"Tilecount", tq_i1 104 rfl⟩⟩, List.forall_mem_cons.mpr ⟨⟨RX1, TX1, 5, rfl, by decide, rfl, ⟨"Tilecount", tq_i1 59 rfl⟩⟩, List.forall_mem_cons.mpr ⟨⟨RX1, TX1, 5, rfl, by decide, rfl, ⟨"Tilecount", tq_i1 51 rfl⟩⟩, fun _ h => nomatch h⟩⟩⟩⟩⟩⟩⟩⟩⟩⟩⟩⟩⟩⟩⟩⟩⟩⟩⟩⟩⟩⟩⟩⟩⟩⟩⟩⟩⟩⟩⟩⟩
def tq_lf12 : List (Nat × Nat × Nat × Bool) := [(7, 12, 1, false), (13, 12, 2, false), (16, 12, 4, false), (20, 12, 5, false), (23, 12, 6, false), (27, 12, 7, false), (30, 12, 9, false), (34, 12, 11, false), (37, 12, 13, false), (40, 12, 14, false), (43, 12, 16, false), (46, 12, 17, false), (49, 12, 19, false), (53, 12, 20, false), (56, 12, 21, false), (59, 12, 22, false), (62, 12, 23, false), (65, 12, 24, false), (68, 12, 27, false), (71, 12, 28, false), (74, 12, 29, false), (77, 12, 31, false), (80, 12, 32, false), (83, 12, 33, false), (86, 12, 34, false), (89, 12, 38, false), (92, 12, 40, false), (95, 12, 43, false), (98, 12, 44, false), (101, 12, 45, false), (104, 12, 46, false), (107, 12, 47, false), (110, 12, 48, false), (113, 12, 50, false), (116, 12, 51, false), (119, 12, 52, false), (123, 12, 53, false), (126, 12, 54, false), (129, 12, 0, false), (132, 12, 8, false), (136, 12, 10, false), (139, 12, 12, false), (142, 12, 3, false), (171, 12, 18, false), (209, 12, 15, false), (304, 12, 25, false), (324, 12, 26, false), (343, 12, 30, false), (350, 12, 42, false), (361, 12, 37, false), (368, 12, 35, false), (371, 12, 36, false), (374, 12, 39, false), (377, 12, 41, false), (417, 12, 49, false), (467, 12, 55, false)]
theorem tq_lf12_ok : ∀ q ∈ tq_lf12, tq_lfP RX12 q := List.forall_mem_cons.mpr ⟨⟨RX12, TX12, 56, rfl, by decide, rfl, tq_i7 228 rfl⟩, List.forall_mem_cons.mpr ⟨⟨RX12, TX12, 56, rfl, by decide, rfl, tq_i7 229 rfl⟩, List.forall_mem_cons.mpr ⟨⟨RX12, TX12, 56, rfl, by decide, rfl, tq_i7 231 rfl⟩, List.forall_mem_cons.mpr ⟨⟨RX12, TX12, 56, rfl, by decide, rfl, tq_i7 232 rfl⟩, List.forall_mem_cons.mpr ⟨⟨RX12, TX12, 56, rfl, by decide, rfl, tq_i7 233 rfl⟩, List.forall_mem_cons.mpr ⟨⟨RX12, TX12, 56, rfl, by decide, rfl, tq_i7 234 rfl⟩, List.forall_mem_cons.mpr ⟨⟨RX12, TX12, 56, rfl, by decide, rfl, tq_i7 236 rfl⟩, List.forall_mem_cons.mpr ⟨⟨RX12, TX12, 56, rfl, by decide, rfl, tq_i7 238 rfl⟩, List.forall_mem_cons.mpr ⟨⟨RX12, TX12, 56, rfl, by decide, rfl, tq_i8 0 rfl⟩, List.forall_mem_cons.mpr ⟨⟨RX12, TX12, 56, rfl, by decide, rfl, tq_i8 1 rfl⟩, List.forall_mem_cons.mpr ⟨⟨RX12, TX12, 56, rfl, by decide, rfl, tq_i8 3 rfl⟩, List.forall_mem_cons.mpr ⟨⟨RX12, TX12, 56, rfl, by decide, rfl, tq_i8 4 rfl⟩, List.forall_mem_cons.mpr ⟨⟨RX12, TX12, 56, rfl, by decide, rfl, tq_i8 6 rfl⟩, List.forall_mem_cons.mpr ⟨⟨RX12, TX12, 56, rfl, by decide, rfl, tq_i8 7 rfl⟩, List.forall_mem_cons.mpr ⟨⟨RX12, TX12, 56, rfl, by decide, rfl, tq_i8 8 rfl⟩, List.forall_mem_cons.mpr ⟨⟨RX12, TX12, 56, rfl, by decide, rfl, tq_i8 9 rfl⟩, List.forall_mem_cons.mpr ⟨⟨RX12, TX12, 56, rfl, by decide, rfl, tq_i8 10 rfl⟩, List.forall_mem_cons.mpr ⟨⟨RX12, TX12, 56, rfl, by decide, rfl, tq_i8 11 rfl⟩, List.forall_mem_cons.mpr ⟨⟨RX12, TX12, 56, rfl, by decide, rfl, tq_i8 14 rfl⟩, List.forall_mem_cons.mpr ⟨⟨RX12, TX12, 56, rfl, by decide, rfl, tq_i8 15 rfl⟩, List.forall_mem_cons.mpr ⟨⟨RX12, TX12, 56, rfl, by decide, rfl, tq_i8 16 rfl⟩, List.forall_mem_cons.mpr ⟨⟨RX12, TX12, 56, rfl, by decide, rfl, tq_i8 18 rfl⟩, List.forall_mem_cons.mpr ⟨⟨RX12, TX12, 56, rfl, by decide, rfl, tq_i8 19 rfl⟩, List.forall_mem_cons.mpr ⟨⟨RX12, TX12, 56, rfl, by decide, rfl, tq_i8 20 rfl⟩, List.forall_mem_cons.mpr ⟨⟨RX12, TX12, 56, rfl, by decide, rfl, tq_i8 21 rfl⟩, List.forall_mem_cons.mpr ⟨⟨RX12, TX12, 56, rfl, by decide, rfl, tq_i8 25 rfl⟩, List.forall_mem_cons.mpr ⟨⟨RX12, TX12, 56, rfl, by decide, rfl, tq_i8 27 rfl⟩, List.forall_mem_cons.mpr ⟨⟨RX12, TX12, 56, rfl, by decide, rfl, tq_i8 30 rfl⟩, List.forall_mem_cons.mpr ⟨⟨RX12, TX12, 56, rfl, by decide, rfl, tq_i8 31 rfl⟩, List.forall_mem_cons.mpr ⟨⟨RX12, TX12, 56, rfl, by decide, rfl, tq_i8 32 rfl⟩, List.forall_mem_cons.mpr ⟨⟨RX12, TX12, 56, rfl, by decide, rfl, tq_i8 33 rfl⟩, List.forall_mem_cons.mpr ⟨⟨RX12, TX12, 56, rfl, by decide, rfl, tq_i8 34 rfl⟩, List.forall_mem_cons.mpr ⟨⟨RX12, TX12, 56, rfl, by decide, rfl, tq_i8 35 rfl⟩, List.forall_mem_cons.mpr ⟨⟨RX12, TX12, 56, rfl, by decide, rfl, tq_i8 37 rfl⟩, List.forall_mem_cons.mpr ⟨⟨RX12, TX12, 56, rfl, by decide, rfl, tq_i8 38 rfl⟩, List.forall_mem_cons.mpr ⟨⟨RX12, TX12, 56, rfl, by decide, rfl, tq_i8 39 rfl⟩, List.forall_mem_cons.mpr ⟨⟨RX12, TX12, 56, rfl, by decide, rfl, tq_i8 40 rfl⟩, List.forall_mem_cons.mpr ⟨⟨RX12, TX12, 56, rfl, by decide, rfl, tq_i8 41 rfl⟩, List.forall_mem_cons.mpr ⟨⟨RX12, TX12, 56, rfl, by decide, rfl, tq_i7 227 rfl⟩, List.forall_mem_cons.mpr ⟨⟨RX12, TX12, 56, rfl, by decide, rfl, tq_i7 235 rfl⟩, List.forall_mem_cons.mpr ⟨⟨RX12, TX12, 56, rfl, by decide, rfl, tq_i7 237 rfl⟩, List.forall_mem_cons.mpr ⟨⟨RX12, TX12, 56, rfl, by decide, rfl, tq_i7 239 rfl⟩, List.forall_mem_cons.mpr ⟨⟨RX12, TX12, 56, rfl, by decide, rfl, tq_i7 230 rfl⟩, List.forall_mem_cons.mpr ⟨⟨RX12, TX12, 56, rfl, by decide, rfl, tq_i8 5 rfl⟩, List.forall_mem_cons.mpr ⟨⟨RX12, TX12, 56, rfl, by decide, rfl, tq_i8 2 rfl⟩, List.forall_mem_cons.mpr ⟨⟨RX12, TX12, 56, rfl, by decide, rfl, tq_i8 12 rfl⟩, List.forall_mem_cons.mpr ⟨⟨RX12, TX12, 56, rfl, by decide, rfl, tq_i8 13 rfl⟩, List.forall_mem_cons.mpr ⟨⟨RX12, TX12, 56, rfl, by decide, rfl, tq_i8 17 rfl⟩, List.forall_mem_cons.mpr ⟨⟨RX12, TX12, 56, rfl, by decide, rfl, tq_i8 29 rfl⟩, List.forall_mem_cons.mpr ⟨⟨RX12, TX12, 56, rfl, by decide, rfl, tq_i8 24 rfl⟩, List.forall_mem_cons.mpr ⟨⟨RX12, TX12, 56, rfl, by decide, rfl, tq_i8 22 rfl⟩, List.forall_mem_cons.mpr ⟨⟨RX12, TX12, 56, rfl, by decide, rfl, tq_i8 23 rfl⟩, List.forall_mem_cons.mpr ⟨⟨RX12, TX12, 56, rfl, by decide, rfl, tq_i8 26 rfl⟩, List.forall_mem_cons.mpr ⟨⟨RX12, TX12, 56, rfl, by decide, rfl, tq_i8 28 rfl⟩, List.forall_mem_cons.mpr ⟨⟨RX12, TX12, 56, rfl, by decide, rfl, tq_i8 36 rfl⟩, List.forall_mem_cons.mpr ⟨⟨RX12, TX12, 56, rfl, by decide, rfl, tq_i8 42 rfl⟩, fun _ h => nomatch h⟩⟩⟩⟩⟩⟩⟩⟩⟩⟩⟩⟩⟩⟩⟩⟩⟩⟩⟩⟩⟩⟩⟩⟩⟩⟩⟩⟩⟩⟩⟩⟩⟩⟩⟩⟩⟩⟩⟩⟩⟩⟩⟩⟩⟩⟩⟩⟩⟩⟩⟩⟩⟩⟩⟩⟩
def tq_lf13 : List (Nat × Nat × Nat × Bool) := []
theorem tq_lf13_ok : ∀ q ∈ tq_lf13, tq_lfP RL q := fun _ h => nomatch h
def tq_lf14 : List (Nat × Nat × Nat × Bool) := []
theorem tq_lf14_ok : ∀ q ∈ tq_lf14, tq_lfP RJ9 q := fun _ h => nomatch h
def tq_lf15 : List (Nat × Nat × Nat × Bool) := []
theorem tq_lf15_ok : ∀ q ∈ tq_lf15, tq_lfP RJ13 q := fun _ h => nomatch h
def tq_lf16 : List (Nat × Nat × Nat × Bool) := []
theorem tq_lf16_ok : ∀ q ∈ tq_lf16, tq_lfP RJ6 q := fun _ h => nomatch h
def tq_lf17 : List (Nat × Nat × Nat × Bool) := []
theorem tq_lf17_ok : ∀ q ∈ tq_lf17, tq_lfP RJ7 q := fun _ h => nomatch h
def tq_lf (c : Nat) : List (Nat × Nat × Nat × Bool) := [tq_lf0, tq_lf1, tq_lf2, tq_lf3, tq_lf4, tq_lf5, tq_lf6, tq_lf7, tq_lf8, tq_lf9, tq_lf10, tq_lf11, tq_lf12, tq_lf13, tq_lf14, tq_lf15, tq_lf16, tq_lf17].getD c []
theorem tq_lf_ok : ∀ c, ∀ q ∈ tq_lf c, tq_lfP (tq_cn c) q := fun c => match c with
  | 0 => tq_lf0_ok
  | 1 => tq_lf1_ok
  | 2 => tq_lf2_ok
  | 3 => tq_lf3_ok
  | 4 => tq_lf4_ok
  | 5 => tq_lf5_ok
  | 6 => tq_lf6_ok
  | 7 => tq_lf7_ok
  | 8 => tq_lf8_ok
  | 9 => tq_lf9_ok
  | 10 => tq_lf10_ok
  | 11 => tq_lf11_ok
  | 12 => tq_lf12_ok
  | 13 => tq_lf13_ok
  | 14 => tq_lf14_ok
  | 15 => tq_lf15_ok
  | 16 => tq_lf16_ok
  | 17 => tq_lf17_ok
  | _ + 18 => fun _ h => nomatch h
def tq_lk (c : Nat) : List (Nat × Int64) := [[(31, 1000000000)], [(55, (-9187201950435737472)), (57, (-1)), (59, (-72340172838076674)), (61, 72340172838076673), (75, 255), (84, 31)], [(63, 72340172838076673), (68, 255), (87, 31)], [(16, 2147483647), (18, 2147483629), (20, 2147483587), (22, 2), (34, (-6172840429334713771)), (36, 6172840429334713770), (60, 4611685975477714963)], [(78, (-1)), (114, 840), (157, 16777215), (165, 15), (213, (-7046029254386353131)), (219, 4278190080)], [(100, (-1))], [(48, 1000000000)], [], [(44, 34905131040), (46, (-1)), (48, (-1090785346)), (50, 63), (52, 1090785345), (74, 31)], [(29, (-1)), (59, (-6172840429334713771))], [(70, 262143)], [(178, (-6172840429334713771)), (440, 7), (448, 31), (492, 12)], [(219, 9), (221, 10), (380, (-1)), (412, 2147483647), (420, 2147483645), (426, 1073741823), (435, 1000000000), (443, 100000000), (474, 7), (476, 31)], [(207, 4294967295)], [], [(314, 6148914691236517205), (316, 3689348814741910323), (318, 1085102592571150095)], [], []].getD c []
theorem tq_lk_ok : ∀ c, ∀ q ∈ tq_lk c, Cond.constantLong (tq_cn c) q.1 q.2 ∈ lw_tbl := fun c => match c with
  | 0 => List.forall_mem_cons.mpr ⟨tq_i3 55 rfl, fun _ h => nomatch h⟩
  | 1 => List.forall_mem_cons.mpr ⟨tq_i2 234 rfl, List.forall_mem_cons.mpr ⟨tq_i2 235 rfl, List.forall_mem_cons.mpr ⟨tq_i2 236 rfl, List.forall_mem_cons.mpr ⟨tq_i2 237 rfl, List.forall_mem_cons.mpr ⟨tq_i3 6 rfl, List.forall_mem_cons.mpr ⟨tq_i3 145 rfl, fun _ h => nomatch h⟩⟩⟩⟩⟩⟩
  | 2 => List.forall_mem_cons.mpr ⟨tq_i6 200 rfl, List.forall_mem_cons.mpr ⟨tq_i6 201 rfl, List.forall_mem_cons.mpr ⟨tq_i3 152 rfl, fun _ h => nomatch h⟩⟩⟩
  | 3 => List.forall_mem_cons.mpr ⟨tq_i3 189 rfl, List.forall_mem_cons.mpr ⟨tq_i3 190 rfl, List.forall_mem_cons.mpr ⟨tq_i3 191 rfl, List.forall_mem_cons.mpr ⟨tq_i3 218 rfl, List.forall_mem_cons.mpr ⟨tq_i3 183 rfl, List.forall_mem_cons.mpr ⟨tq_i3 184 rfl, List.forall_mem_cons.mpr ⟨tq_i3 233 rfl, fun _ h => nomatch h⟩⟩⟩⟩⟩⟩⟩
  | 4 => List.forall_mem_cons.mpr ⟨tq_i4 179 rfl, List.forall_mem_cons.mpr ⟨tq_i7 87 rfl, List.forall_mem_cons.mpr ⟨tq_i4 174 rfl, List.forall_mem_cons.mpr ⟨tq_i4 192 rfl, List.forall_mem_cons.mpr ⟨tq_i4 216 rfl, List.forall_mem_cons.mpr ⟨tq_i4 201 rfl, fun _ h => nomatch h⟩⟩⟩⟩⟩⟩
  | 5 => List.forall_mem_cons.mpr ⟨tq_i4 7 rfl, fun _ h => nomatch h⟩
  | 6 => List.forall_mem_cons.mpr ⟨tq_i5 17 rfl, fun _ h => nomatch h⟩
  | 7 => fun _ h => nomatch h
  | 8 => List.forall_mem_cons.mpr ⟨tq_i7 48 rfl, List.forall_mem_cons.mpr ⟨tq_i7 49 rfl, List.forall_mem_cons.mpr ⟨tq_i7 50 rfl, List.forall_mem_cons.mpr ⟨tq_i4 157 rfl, List.forall_mem_cons.mpr ⟨tq_i4 158 rfl, List.forall_mem_cons.mpr ⟨tq_i3 164 rfl, fun _ h => nomatch h⟩⟩⟩⟩⟩⟩
  | 9 => List.forall_mem_cons.mpr ⟨tq_i3 87 rfl, List.forall_mem_cons.mpr ⟨tq_i3 83 rfl, fun _ h => nomatch h⟩⟩
  | 10 => List.forall_mem_cons.mpr ⟨tq_i7 173 rfl, fun _ h => nomatch h⟩
  | 11 => List.forall_mem_cons.mpr ⟨tq_i6 41 rfl, List.forall_mem_cons.mpr ⟨tq_i3 140 rfl, List.forall_mem_cons.mpr ⟨tq_i3 165 rfl, List.forall_mem_cons.mpr ⟨tq_i4 221 rfl, fun _ h => nomatch h⟩⟩⟩⟩
  | 12 => List.forall_mem_cons.mpr ⟨tq_i9 42 rfl, List.forall_mem_cons.mpr ⟨tq_i9 43 rfl, List.forall_mem_cons.mpr ⟨tq_i10 58 rfl, List.forall_mem_cons.mpr ⟨tq_i10 83 rfl, List.forall_mem_cons.mpr ⟨tq_i10 84 rfl, List.forall_mem_cons.mpr ⟨tq_i10 96 rfl, List.forall_mem_cons.mpr ⟨tq_i10 101 rfl, List.forall_mem_cons.mpr ⟨tq_i10 110 rfl, List.forall_mem_cons.mpr ⟨tq_i10 165 rfl, List.forall_mem_cons.mpr ⟨tq_i10 166 rfl, fun _ h => nomatch h⟩⟩⟩⟩⟩⟩⟩⟩⟩⟩
  | 13 => List.forall_mem_cons.mpr ⟨tq_i10 171 rfl, fun _ h => nomatch h⟩
  | 14 => fun _ h => nomatch h
  | 15 => List.forall_mem_cons.mpr ⟨tq_i3 91 rfl, List.forall_mem_cons.mpr ⟨tq_i3 92 rfl, List.forall_mem_cons.mpr ⟨tq_i3 93 rfl, fun _ h => nomatch h⟩⟩⟩
  | 16 => fun _ h => nomatch h
  | 17 => fun _ h => nomatch h
  | _ + 18 => fun _ h => nomatch h
def tq_li (c : Nat) : List (Nat × Int32) := [[(48, 100000000)], [], [], [], [], [], [], [], [], [], [(72, 262143), (77, (-1640531535))], [], [(122, 262144), (272, 1000000)], [], [], [], [(265, 1431655765), (266, 858993459), (267, 252645135)], []].getD c []
theorem tq_li_ok : ∀ c, ∀ q ∈ tq_li c, Cond.constant (tq_cn c) q.1 q.2 ∈ lw_tbl := fun c => match c with
  | 0 => List.forall_mem_cons.mpr ⟨tq_i3 67 rfl, fun _ h => nomatch h⟩
  | 1 => fun _ h => nomatch h
  | 2 => fun _ h => nomatch h
  | 3 => fun _ h => nomatch h
  | 4 => fun _ h => nomatch h
  | 5 => fun _ h => nomatch h
  | 6 => fun _ h => nomatch h
  | 7 => fun _ h => nomatch h
  | 8 => fun _ h => nomatch h
  | 9 => fun _ h => nomatch h
  | 10 => List.forall_mem_cons.mpr ⟨tq_i7 175 rfl, List.forall_mem_cons.mpr ⟨tq_i7 172 rfl, fun _ h => nomatch h⟩⟩
  | 11 => fun _ h => nomatch h
  | 12 => List.forall_mem_cons.mpr ⟨tq_i7 226 rfl, List.forall_mem_cons.mpr ⟨tq_i9 164 rfl, fun _ h => nomatch h⟩⟩
  | 13 => fun _ h => nomatch h
  | 14 => fun _ h => nomatch h
  | 15 => fun _ h => nomatch h
  | 16 => List.forall_mem_cons.mpr ⟨tq_i3 132 rfl, List.forall_mem_cons.mpr ⟨tq_i3 133 rfl, List.forall_mem_cons.mpr ⟨tq_i3 134 rfl, fun _ h => nomatch h⟩⟩⟩
  | 17 => fun _ h => nomatch h
  | _ + 18 => fun _ h => nomatch h
abbrev tq_MD : Type := MethodName × ByteArray × Nat × Option FieldType × List (Nat × Nat × Nat × Nat) × Nat
def tq_cw (M : tq_MD) : Cond := match M.2.2.2.2.1 with
  | [] => .code M.1 M.2.1 M.2.2.1 M.2.2.2.1
  | h => .codeWith M.1 M.2.1 M.2.2.1 M.2.2.2.1 h
/-- what the tables say of a method -/
def tq_mP (M : tq_MD) : Prop := tq_cw M ∈ lw_tbl ∧ Cond.initialized M.1.cls ∈ lw_tbl ∧ (plainFor M.1 = true ∧ M.1.cls ≠ "java/lang/invoke/MethodHandle" ∧ M.1.cls ≠ "java/lang/invoke/VarHandle") ∧ M.1.cls = tq_cn M.2.2.2.2.2
def tq_mV (M : tq_MD) : Prop := tq_mP M ∧ Cond.instanceMethod M.1 ∈ lw_tbl ∧ Cond.selects M.1.cls M.1 M.1 ∈ lw_tbl
def tq_mS (M : tq_MD) : Prop := tq_mP M ∧ Cond.static M.1 ∈ lw_tbl
abbrev mm_X11_has : tq_MD := (yX11_has, cX11_has, 3, (some .boolean), [], 11)
theorem mf_X11_has : tq_mV mm_X11_has := ⟨⟨tq_i2 209 rfl, tq_i1 1 rfl, by decide +kernel, rfl⟩, tq_i2 207 rfl, tq_i2 208 rfl⟩
abbrev mm_X1_holds : tq_MD := (yX1_holds, cX1_holds, 3, (some .boolean), [], 1)
theorem mf_X1_holds : tq_mV mm_X1_holds := ⟨⟨tq_i2 213 rfl, tq_i1 2 rfl, by decide +kernel, rfl⟩, tq_i2 212 rfl, List.mem_append_left _ (List.mem_of_getElem? (i := 0) (by decide +kernel))⟩
abbrev mm_X11_parts : tq_MD := (yX11_parts, cX11_parts, 1, (some .int), [], 11)
theorem mf_X11_parts : tq_mV mm_X11_parts := ⟨⟨tq_i2 217 rfl, tq_i1 1 rfl, by decide +kernel, rfl⟩, tq_i2 215 rfl, tq_i2 216 rfl⟩
abbrev mm_X1_countParts : tq_MD := (yX1_countParts, cX1_countParts, 1, (some .int), [], 1)
theorem mf_X1_countParts : tq_mV mm_X1_countParts := ⟨⟨tq_i2 221 rfl, tq_i1 2 rfl, by decide +kernel, rfl⟩, tq_i2 220 rfl, List.mem_append_left _ (List.mem_of_getElem? (i := 1) (by decide +kernel))⟩
abbrev mm_X1_countGroups : tq_MD := (yX1_countGroups, cX1_countGroups, 11, (some .int), [], 1)
theorem mf_X1_countGroups : tq_mV mm_X1_countGroups := ⟨⟨tq_i2 225 rfl, tq_i1 2 rfl, by decide +kernel, rfl⟩, tq_i2 224 rfl, List.mem_append_left _ (List.mem_of_getElem? (i := 2) (by decide +kernel))⟩
abbrev mm_X1_reach : tq_MD := (yX1_reach, cX1_reach, 10, (some .long), [], 1)
theorem mf_X1_reach : tq_mV mm_X1_reach := ⟨⟨tq_i2 229 rfl, tq_i1 2 rfl, by decide +kernel, rfl⟩, tq_i2 228 rfl, List.mem_append_left _ (List.mem_of_getElem? (i := 3) (by decide +kernel))⟩
abbrev mm_X1_beside : tq_MD := (yX1_beside, cX1_beside, 7, (some .long), [], 1)
theorem mf_X1_beside : tq_mV mm_X1_beside := ⟨⟨tq_i2 233 rfl, tq_i1 2 rfl, by decide +kernel, rfl⟩, tq_i2 232 rfl, List.mem_append_left _ (List.mem_of_getElem? (i := 4) (by decide +kernel))⟩
abbrev mm_X11_holes : tq_MD := (yX11_holes, cX11_holes, 1, (some .int), [], 11)
theorem mf_X11_holes : tq_mV mm_X11_holes := ⟨⟨tq_i3 1 rfl, tq_i1 1 rfl, by decide +kernel, rfl⟩, tq_i2 239 rfl, tq_i3 0 rfl⟩
abbrev mm_X1_countHoles : tq_MD := (yX1_countHoles, cX1_countHoles, 3, (some .int), [], 1)
theorem mf_X1_countHoles : tq_mV mm_X1_countHoles := ⟨⟨tq_i3 5 rfl, tq_i1 2 rfl, by decide +kernel, rfl⟩, tq_i3 4 rfl, List.mem_append_left _ (List.mem_of_getElem? (i := 5) (by decide +kernel))⟩
abbrev mm_X1_rectangleOf : tq_MD := (yX1_rectangleOf, cX1_rectangleOf, 7, (some .long), [], 1)
theorem mf_X1_rectangleOf : tq_mS mm_X1_rectangleOf := ⟨⟨tq_i3 9 rfl, tq_i1 2 rfl, by decide +kernel, rfl⟩, tq_i3 8 rfl⟩
abbrev mm_X11_covers : tq_MD := (yX11_covers, cX11_covers, 1, (some .int), [], 11)
theorem mf_X11_covers : tq_mV mm_X11_covers := ⟨⟨tq_i3 13 rfl, tq_i1 1 rfl, by decide +kernel, rfl⟩, tq_i3 11 rfl, tq_i3 12 rfl⟩
abbrev mm_X5_total : tq_MD := (yX5_total, cX5_total, 2, (some .long), [], 5)
theorem mf_X5_total : tq_mV mm_X5_total := ⟨⟨tq_i3 17 rfl, tq_i1 3 rfl, by decide +kernel, rfl⟩, tq_i3 16 rfl, List.mem_append_left _ (List.mem_of_getElem? (i := 6) (by decide +kernel))⟩
abbrev mm_J7_fill_d0a16 : tq_MD := (yJ7_fill_d0a16, cJ7_fill_d0a16, 5, none, [], 17)
theorem mf_J7_fill_d0a16 : tq_mS mm_J7_fill_d0a16 := ⟨⟨tq_i3 20 rfl, tq_i1 23 rfl, by decide +kernel, rfl⟩, tq_i3 19 rfl⟩
abbrev mm_X5_prepareRow : tq_MD := (yX5_prepareRow, cX5_prepareRow, 9, none, [], 5)
theorem mf_X5_prepareRow : tq_mV mm_X5_prepareRow := ⟨⟨tq_i3 24 rfl, tq_i1 3 rfl, by decide +kernel, rfl⟩, tq_i3 23 rfl, List.mem_append_left _ (List.mem_of_getElem? (i := 7) (by decide +kernel))⟩
abbrev mm_X5_sumOnward : tq_MD := (yX5_sumOnward, cX5_sumOnward, 7, (some .long), [], 5)
theorem mf_X5_sumOnward : tq_mV mm_X5_sumOnward := ⟨⟨tq_i3 31 rfl, tq_i1 3 rfl, by decide +kernel, rfl⟩, tq_i3 30 rfl, List.mem_append_left _ (List.mem_of_getElem? (i := 8) (by decide +kernel))⟩
abbrev mm_X5_after : tq_MD := (yX5_after, cX5_after, 10, (some .int), [], 5)
theorem mf_X5_after : tq_mV mm_X5_after := ⟨⟨tq_i3 35 rfl, tq_i1 3 rfl, by decide +kernel, rfl⟩, tq_i3 34 rfl, List.mem_append_left _ (List.mem_of_getElem? (i := 9) (by decide +kernel))⟩
abbrev mm_X5_onward : tq_MD := (yX5_onward, cX5_onward, 3, (some .long), [], 5)
theorem mf_X5_onward : tq_mV mm_X5_onward := ⟨⟨tq_i3 39 rfl, tq_i1 3 rfl, by decide +kernel, rfl⟩, tq_i3 38 rfl, List.mem_append_left _ (List.mem_of_getElem? (i := 10) (by decide +kernel))⟩
abbrev mm_X11_say : tq_MD := (yX11_say, cX11_say, 3, (some .int), [], 11)
theorem mf_X11_say : tq_mV mm_X11_say := ⟨⟨tq_i3 43 rfl, tq_i1 1 rfl, by decide +kernel, rfl⟩, tq_i3 42 rfl, List.mem_append_left _ (List.mem_of_getElem? (i := 11) (by decide +kernel))⟩
abbrev mm_X0_put : tq_MD := (yX0_put, cX0_put, 3, none, [], 0)
theorem mf_X0_put : tq_mV mm_X0_put := ⟨⟨tq_i3 47 rfl, tq_i1 12 rfl, by decide +kernel, rfl⟩, tq_i3 46 rfl, List.mem_append_left _ (List.mem_of_getElem? (i := 12) (by decide +kernel))⟩
abbrev mm_J9_abs_067f4 : tq_MD := (yJ9_abs_067f4, cJ9_abs_067f4, 2, (some .long), [], 14)
theorem mf_J9_abs_067f4 : tq_mS mm_J9_abs_067f4 := ⟨⟨tq_i3 50 rfl, tq_i1 25 rfl, by decide +kernel, rfl⟩, tq_i3 49 rfl⟩
abbrev mm_X0_addLimbs : tq_MD := (yX0_addLimbs, cX0_addLimbs, 6, none, [], 0)
theorem mf_X0_addLimbs : tq_mV mm_X0_addLimbs := ⟨⟨tq_i3 54 rfl, tq_i1 12 rfl, by decide +kernel, rfl⟩, tq_i3 53 rfl, List.mem_append_left _ (List.mem_of_getElem? (i := 13) (by decide +kernel))⟩
abbrev mm_X11_sayAnswer : tq_MD := (yX11_sayAnswer, cX11_sayAnswer, 1, (some .int), [], 11)
theorem mf_X11_sayAnswer : tq_mV mm_X11_sayAnswer := ⟨⟨tq_i3 59 rfl, tq_i1 1 rfl, by decide +kernel, rfl⟩, tq_i3 58 rfl, List.mem_append_left _ (List.mem_of_getElem? (i := 14) (by decide +kernel))⟩
abbrev mm_X0_writeTo : tq_MD := (yX0_writeTo, cX0_writeTo, 9, (some .int), [], 0)
theorem mf_X0_writeTo : tq_mV mm_X0_writeTo := ⟨⟨tq_i3 63 rfl, tq_i1 12 rfl, by decide +kernel, rfl⟩, tq_i3 62 rfl, List.mem_append_left _ (List.mem_of_getElem? (i := 15) (by decide +kernel))⟩
abbrev mm_J9_max_7cf53 : tq_MD := (yJ9_max_7cf53, cJ9_max_7cf53, 2, (some .int), [], 14)
theorem mf_J9_max_7cf53 : tq_mS mm_J9_max_7cf53 := ⟨⟨tq_i3 66 rfl, tq_i1 25 rfl, by decide +kernel, rfl⟩, tq_i3 65 rfl⟩
abbrev mm_X11_free : tq_MD := (yX11_free, cX11_free, 1, (some .int), [], 11)
theorem mf_X11_free : tq_mV mm_X11_free := ⟨⟨tq_i3 71 rfl, tq_i1 1 rfl, by decide +kernel, rfl⟩, tq_i3 69 rfl, tq_i3 70 rfl⟩
abbrev mm_X9_refresh : tq_MD := (yX9_refresh, cX9_refresh, 1, none, [], 9)
theorem mf_X9_refresh : tq_mV mm_X9_refresh := ⟨⟨tq_i3 75 rfl, tq_i1 7 rfl, by decide +kernel, rfl⟩, tq_i3 74 rfl, List.mem_append_left _ (List.mem_of_getElem? (i := 16) (by decide +kernel))⟩
abbrev mm_X9_pair : tq_MD := (yX9_pair, cX9_pair, 6, none, [], 9)
theorem mf_X9_pair : tq_mV mm_X9_pair := ⟨⟨tq_i3 79 rfl, tq_i1 7 rfl, by decide +kernel, rfl⟩, tq_i3 78 rfl, List.mem_append_left _ (List.mem_of_getElem? (i := 17) (by decide +kernel))⟩
abbrev mm_J7_fill_53178 : tq_MD := (yJ7_fill_53178, cJ7_fill_53178, 4, none, [], 17)
theorem mf_J7_fill_53178 : tq_mS mm_J7_fill_53178 := ⟨⟨tq_i3 82 rfl, tq_i1 23 rfl, by decide +kernel, rfl⟩, tq_i3 81 rfl⟩
abbrev mm_X9_lowest : tq_MD := (yX9_lowest, cX9_lowest, 2, (some .int), [], 9)
theorem mf_X9_lowest : tq_mS mm_X9_lowest := ⟨⟨tq_i3 86 rfl, tq_i1 7 rfl, by decide +kernel, rfl⟩, tq_i3 85 rfl⟩
abbrev mm_J13_bitCount_95d88 : tq_MD := (yJ13_bitCount_95d88, cJ13_bitCount_95d88, 2, (some .int), [], 15)
theorem mf_J13_bitCount_95d88 : tq_mS mm_J13_bitCount_95d88 := ⟨⟨tq_i3 90 rfl, tq_i1 18 rfl, by decide +kernel, rfl⟩, tq_i3 89 rfl⟩
abbrev mm_X9_findFree : tq_MD := (yX9_findFree, cX9_findFree, 10, (some .int), [], 9)
theorem mf_X9_findFree : tq_mV mm_X9_findFree := ⟨⟨tq_i3 97 rfl, tq_i1 7 rfl, by decide +kernel, rfl⟩, tq_i3 96 rfl, List.mem_append_left _ (List.mem_of_getElem? (i := 18) (by decide +kernel))⟩
abbrev mm_X9_turnPath : tq_MD := (yX9_turnPath, cX9_turnPath, 6, none, [], 9)
theorem mf_X9_turnPath : tq_mV mm_X9_turnPath := ⟨⟨tq_i3 102 rfl, tq_i1 7 rfl, by decide +kernel, rfl⟩, tq_i3 101 rfl, List.mem_append_left _ (List.mem_of_getElem? (i := 19) (by decide +kernel))⟩
abbrev mm_X9_spreadFree : tq_MD := (yX9_spreadFree, cX9_spreadFree, 5, none, [], 9)
theorem mf_X9_spreadFree : tq_mV mm_X9_spreadFree := ⟨⟨tq_i3 106 rfl, tq_i1 7 rfl, by decide +kernel, rfl⟩, tq_i3 105 rfl, List.mem_append_left _ (List.mem_of_getElem? (i := 20) (by decide +kernel))⟩
abbrev mm_X11_clear : tq_MD := (yX11_clear, cX11_clear, 2, (some .int), [], 11)
theorem mf_X11_clear : tq_mV mm_X11_clear := ⟨⟨tq_i3 111 rfl, tq_i1 1 rfl, by decide +kernel, rfl⟩, tq_i3 109 rfl, tq_i3 110 rfl⟩
abbrev mm_X8_dropAll : tq_MD := (yX8_dropAll, cX8_dropAll, 1, none, [], 8)
theorem mf_X8_dropAll : tq_mV mm_X8_dropAll := ⟨⟨tq_i3 115 rfl, tq_i1 8 rfl, by decide +kernel, rfl⟩, tq_i3 114 rfl, List.mem_append_left _ (List.mem_of_getElem? (i := 21) (by decide +kernel))⟩
abbrev mm_X11_mostRooks : tq_MD := (yX11_mostRooks, cX11_mostRooks, 1, (some .int), [], 11)
theorem mf_X11_mostRooks : tq_mV mm_X11_mostRooks := ⟨⟨tq_i3 119 rfl, tq_i1 1 rfl, by decide +kernel, rfl⟩, tq_i3 117 rfl, tq_i3 118 rfl⟩
abbrev mm_X10_findMostRooks : tq_MD := (yX10_findMostRooks, cX10_findMostRooks, 3, (some .int), [], 10)
theorem mf_X10_findMostRooks : tq_mV mm_X10_findMostRooks := ⟨⟨tq_i3 123 rfl, tq_i1 11 rfl, by decide +kernel, rfl⟩, tq_i3 122 rfl, List.mem_append_left _ (List.mem_of_getElem? (i := 22) (by decide +kernel))⟩
abbrev mm_X10_fillWays : tq_MD := (yX10_fillWays, cX10_fillWays, 6, none, [], 10)
theorem mf_X10_fillWays : tq_mV mm_X10_fillWays := ⟨⟨tq_i3 127 rfl, tq_i1 11 rfl, by decide +kernel, rfl⟩, tq_i3 126 rfl, List.mem_append_left _ (List.mem_of_getElem? (i := 23) (by decide +kernel))⟩
abbrev mm_J6_bitCount_0f7a4 : tq_MD := (yJ6_bitCount_0f7a4, cJ6_bitCount_0f7a4, 1, (some .int), [], 16)
theorem mf_J6_bitCount_0f7a4 : tq_mS mm_J6_bitCount_0f7a4 := ⟨⟨tq_i3 131 rfl, tq_i1 28 rfl, by decide +kernel, rfl⟩, tq_i3 130 rfl⟩
abbrev mm_X11_checksum : tq_MD := (yX11_checksum, cX11_checksum, 4, (some .long), [], 11)
theorem mf_X11_checksum : tq_mV mm_X11_checksum := ⟨⟨tq_i3 139 rfl, tq_i1 1 rfl, by decide +kernel, rfl⟩, tq_i3 137 rfl, tq_i3 138 rfl⟩
abbrev mm_X1_addTo : tq_MD := (yX1_addTo, cX1_addTo, 7, (some .long), [], 1)
theorem mf_X1_addTo : tq_mV mm_X1_addTo := ⟨⟨tq_i3 144 rfl, tq_i1 2 rfl, by decide +kernel, rfl⟩, tq_i3 143 rfl, List.mem_append_left _ (List.mem_of_getElem? (i := 24) (by decide +kernel))⟩
abbrev mm_X2_addTo : tq_MD := (yX2_addTo, cX2_addTo, 7, (some .long), [], 2)
theorem mf_X2_addTo : tq_mV mm_X2_addTo := ⟨⟨tq_i3 150 rfl, tq_i1 4 rfl, by decide +kernel, rfl⟩, tq_i3 149 rfl, List.mem_append_left _ (List.mem_of_getElem? (i := 25) (by decide +kernel))⟩
abbrev mm_X2_codeAt : tq_MD := (yX2_codeAt, cX2_codeAt, 4, (some .char), [], 2)
theorem mf_X2_codeAt : tq_mV mm_X2_codeAt := ⟨⟨tq_i3 156 rfl, tq_i1 4 rfl, by decide +kernel, rfl⟩, tq_i3 155 rfl, List.mem_append_left _ (List.mem_of_getElem? (i := 26) (by decide +kernel))⟩
abbrev mm_X1_bit : tq_MD := (yX1_bit, cX1_bit, 2, (some .long), [], 1)
theorem mf_X1_bit : tq_mS mm_X1_bit := ⟨⟨tq_i3 159 rfl, tq_i1 2 rfl, by decide +kernel, rfl⟩, tq_i3 158 rfl⟩
abbrev mm_X8_addTo : tq_MD := (yX8_addTo, cX8_addTo, 6, (some .long), [], 8)
theorem mf_X8_addTo : tq_mV mm_X8_addTo := ⟨⟨tq_i3 163 rfl, tq_i1 8 rfl, by decide +kernel, rfl⟩, tq_i3 162 rfl, List.mem_append_left _ (List.mem_of_getElem? (i := 27) (by decide +kernel))⟩
abbrev mm_X11_isSound : tq_MD := (yX11_isSound, cX11_isSound, 1, (some .boolean), [], 11)
theorem mf_X11_isSound : tq_mV mm_X11_isSound := ⟨⟨tq_i3 169 rfl, tq_i1 1 rfl, by decide +kernel, rfl⟩, tq_i3 167 rfl, tq_i3 168 rfl⟩
abbrev mm_X11_countsAgree : tq_MD := (yX11_countsAgree, cX11_countsAgree, 1, (some .boolean), [], 11)
theorem mf_X11_countsAgree : tq_mV mm_X11_countsAgree := ⟨⟨tq_i3 173 rfl, tq_i1 1 rfl, by decide +kernel, rfl⟩, tq_i3 172 rfl, List.mem_append_left _ (List.mem_of_getElem? (i := 28) (by decide +kernel))⟩
abbrev mm_X1_isPlain : tq_MD := (yX1_isPlain, cX1_isPlain, 1, (some .boolean), [], 1)
theorem mf_X1_isPlain : tq_mV mm_X1_isPlain := ⟨⟨tq_i3 177 rfl, tq_i1 2 rfl, by decide +kernel, rfl⟩, tq_i3 176 rfl, List.mem_append_left _ (List.mem_of_getElem? (i := 29) (by decide +kernel))⟩
abbrev mm_X3_countCovers : tq_MD := (yX3_countCovers, cX3_countCovers, 11, (some .long), [], 3)
theorem mf_X3_countCovers : tq_mV mm_X3_countCovers := ⟨⟨tq_i3 182 rfl, tq_i1 6 rfl, by decide +kernel, rfl⟩, tq_i3 181 rfl, List.mem_append_left _ (List.mem_of_getElem? (i := 30) (by decide +kernel))⟩
abbrev mm_X3_prime : tq_MD := (yX3_prime, cX3_prime, 1, (some .long), [], 3)
theorem mf_X3_prime : tq_mS mm_X3_prime := ⟨⟨tq_i3 188 rfl, tq_i1 6 rfl, by decide +kernel, rfl⟩, tq_i3 187 rfl⟩
abbrev mm_X3_fillSigns : tq_MD := (yX3_fillSigns, cX3_fillSigns, 13, none, [], 3)
theorem mf_X3_fillSigns : tq_mV mm_X3_fillSigns := ⟨⟨tq_i3 195 rfl, tq_i1 6 rfl, by decide +kernel, rfl⟩, tq_i3 194 rfl, List.mem_append_left _ (List.mem_of_getElem? (i := 31) (by decide +kernel))⟩
abbrev mm_X3_setSign : tq_MD := (yX3_setSign, cX3_setSign, 10, none, [], 3)
theorem mf_X3_setSign : tq_mV mm_X3_setSign := ⟨⟨tq_i3 201 rfl, tq_i1 6 rfl, by decide +kernel, rfl⟩, tq_i3 200 rfl, List.mem_append_left _ (List.mem_of_getElem? (i := 32) (by decide +kernel))⟩
abbrev mm_X3_eliminate : tq_MD := (yX3_eliminate, cX3_eliminate, 10, (some .long), [], 3)
theorem mf_X3_eliminate : tq_mV mm_X3_eliminate := ⟨⟨tq_i3 206 rfl, tq_i1 6 rfl, by decide +kernel, rfl⟩, tq_i3 205 rfl, List.mem_append_left _ (List.mem_of_getElem? (i := 33) (by decide +kernel))⟩
abbrev mm_X3_pivotOf : tq_MD := (yX3_pivotOf, cX3_pivotOf, 4, (some .int), [], 3)
theorem mf_X3_pivotOf : tq_mV mm_X3_pivotOf := ⟨⟨tq_i3 210 rfl, tq_i1 6 rfl, by decide +kernel, rfl⟩, tq_i3 209 rfl, List.mem_append_left _ (List.mem_of_getElem? (i := 34) (by decide +kernel))⟩
abbrev mm_X3_swapRows : tq_MD := (yX3_swapRows, cX3_swapRows, 7, none, [], 3)
theorem mf_X3_swapRows : tq_mV mm_X3_swapRows := ⟨⟨tq_i3 214 rfl, tq_i1 6 rfl, by decide +kernel, rfl⟩, tq_i3 213 rfl, List.mem_append_left _ (List.mem_of_getElem? (i := 35) (by decide +kernel))⟩
abbrev mm_X3_inverse : tq_MD := (yX3_inverse, cX3_inverse, 4, (some .long), [], 3)
theorem mf_X3_inverse : tq_mS mm_X3_inverse := ⟨⟨tq_i3 217 rfl, tq_i1 6 rfl, by decide +kernel, rfl⟩, tq_i3 216 rfl⟩
abbrev mm_X3_power : tq_MD := (yX3_power, cX3_power, 11, (some .long), [], 3)
theorem mf_X3_power : tq_mS mm_X3_power := ⟨⟨tq_i3 221 rfl, tq_i1 6 rfl, by decide +kernel, rfl⟩, tq_i3 220 rfl⟩
abbrev mm_X3_clearBelow : tq_MD := (yX3_clearBelow, cX3_clearBelow, 13, none, [], 3)
theorem mf_X3_clearBelow : tq_mV mm_X3_clearBelow := ⟨⟨tq_i3 225 rfl, tq_i1 6 rfl, by decide +kernel, rfl⟩, tq_i3 224 rfl, List.mem_append_left _ (List.mem_of_getElem? (i := 36) (by decide +kernel))⟩
abbrev mm_J9_floorMod_f86c9 : tq_MD := (yJ9_floorMod_f86c9, cJ9_floorMod_f86c9, 6, (some .long), [], 14)
theorem mf_J9_floorMod_f86c9 : tq_mS mm_J9_floorMod_f86c9 := ⟨⟨tq_i3 228 rfl, tq_i1 25 rfl, by decide +kernel, rfl⟩, tq_i3 227 rfl⟩
abbrev mm_X3_secondDigit : tq_MD := (yX3_secondDigit, cX3_secondDigit, 1, (some .long), [], 3)
theorem mf_X3_secondDigit : tq_mV mm_X3_secondDigit := ⟨⟨tq_i3 232 rfl, tq_i1 6 rfl, by decide +kernel, rfl⟩, tq_i3 231 rfl, List.mem_append_left _ (List.mem_of_getElem? (i := 37) (by decide +kernel))⟩
abbrev mm_X11_numberIsSound : tq_MD := (yX11_numberIsSound, cX11_numberIsSound, 6, (some .boolean), [], 11)
theorem mf_X11_numberIsSound : tq_mV mm_X11_numberIsSound := ⟨⟨tq_i3 237 rfl, tq_i1 1 rfl, by decide +kernel, rfl⟩, tq_i3 236 rfl, List.mem_append_left _ (List.mem_of_getElem? (i := 38) (by decide +kernel))⟩
abbrev mm_X5_rank : tq_MD := (yX5_rank, cX5_rank, 12, (some .long), [], 5)
theorem mf_X5_rank : tq_mV mm_X5_rank := ⟨⟨tq_i4 1 rfl, tq_i1 3 rfl, by decide +kernel, rfl⟩, tq_i4 0 rfl, List.mem_append_left _ (List.mem_of_getElem? (i := 39) (by decide +kernel))⟩
abbrev mm_X5_wayTaken : tq_MD := (yX5_wayTaken, cX5_wayTaken, 10, (some .int), [], 5)
theorem mf_X5_wayTaken : tq_mV mm_X5_wayTaken := ⟨⟨tq_i4 5 rfl, tq_i1 3 rfl, by decide +kernel, rfl⟩, tq_i4 4 rfl, List.mem_append_left _ (List.mem_of_getElem? (i := 40) (by decide +kernel))⟩
abbrev mm_X5_make : tq_MD := (yX5_make, cX5_make, 12, none, [], 5)
theorem mf_X5_make : tq_mV mm_X5_make := ⟨⟨tq_i4 11 rfl, tq_i1 3 rfl, by decide +kernel, rfl⟩, tq_i4 10 rfl, List.mem_append_left _ (List.mem_of_getElem? (i := 41) (by decide +kernel))⟩
abbrev mm_X5_put : tq_MD := (yX5_put, cX5_put, 4, none, [], 5)
theorem mf_X5_put : tq_mV mm_X5_put := ⟨⟨tq_i4 15 rfl, tq_i1 3 rfl, by decide +kernel, rfl⟩, tq_i4 14 rfl, List.mem_append_left _ (List.mem_of_getElem? (i := 42) (by decide +kernel))⟩
abbrev mm_X11_flipsAreSound : tq_MD := (yX11_flipsAreSound, cX11_flipsAreSound, 4, (some .boolean), [], 11)
theorem mf_X11_flipsAreSound : tq_mV mm_X11_flipsAreSound := ⟨⟨tq_i4 19 rfl, tq_i1 1 rfl, by decide +kernel, rfl⟩, tq_i4 18 rfl, List.mem_append_left _ (List.mem_of_getElem? (i := 43) (by decide +kernel))⟩
abbrev mm_X7_fillKept : tq_MD := (yX7_fillKept, cX7_fillKept, 5, none, [], 7)
theorem mf_X7_fillKept : tq_mV mm_X7_fillKept := ⟨⟨tq_i4 23 rfl, tq_i1 5 rfl, by decide +kernel, rfl⟩, tq_i4 22 rfl, List.mem_append_left _ (List.mem_of_getElem? (i := 44) (by decide +kernel))⟩
abbrev mm_X7_fillRow : tq_MD := (yX7_fillRow, cX7_fillRow, 8, none, [], 7)
theorem mf_X7_fillRow : tq_mV mm_X7_fillRow := ⟨⟨tq_i4 27 rfl, tq_i1 5 rfl, by decide +kernel, rfl⟩, tq_i4 26 rfl, List.mem_append_left _ (List.mem_of_getElem? (i := 45) (by decide +kernel))⟩
abbrev mm_X7_isCorner : tq_MD := (yX7_isCorner, cX7_isCorner, 3, (some .boolean), [], 7)
theorem mf_X7_isCorner : tq_mV mm_X7_isCorner := ⟨⟨tq_i4 32 rfl, tq_i1 5 rfl, by decide +kernel, rfl⟩, tq_i4 31 rfl, List.mem_append_left _ (List.mem_of_getElem? (i := 46) (by decide +kernel))⟩
abbrev mm_X7_spread : tq_MD := (yX7_spread, cX7_spread, 7, none, [], 7)
theorem mf_X7_spread : tq_mV mm_X7_spread := ⟨⟨tq_i4 37 rfl, tq_i1 5 rfl, by decide +kernel, rfl⟩, tq_i4 36 rfl, List.mem_append_left _ (List.mem_of_getElem? (i := 47) (by decide +kernel))⟩
abbrev mm_X7_riseRight : tq_MD := (yX7_riseRight, cX7_riseRight, 5, (some .int), [], 7)
theorem mf_X7_riseRight : tq_mV mm_X7_riseRight := ⟨⟨tq_i4 41 rfl, tq_i1 5 rfl, by decide +kernel, rfl⟩, tq_i4 40 rfl, List.mem_append_left _ (List.mem_of_getElem? (i := 48) (by decide +kernel))⟩
abbrev mm_X7_rise : tq_MD := (yX7_rise, cX7_rise, 4, (some .int), [], 7)
theorem mf_X7_rise : tq_mV mm_X7_rise := ⟨⟨tq_i4 46 rfl, tq_i1 5 rfl, by decide +kernel, rfl⟩, tq_i4 45 rfl, List.mem_append_left _ (List.mem_of_getElem? (i := 49) (by decide +kernel))⟩
abbrev mm_X7_reach : tq_MD := (yX7_reach, cX7_reach, 7, (some .int), [], 7)
theorem mf_X7_reach : tq_mV mm_X7_reach := ⟨⟨tq_i4 50 rfl, tq_i1 5 rfl, by decide +kernel, rfl⟩, tq_i4 49 rfl, List.mem_append_left _ (List.mem_of_getElem? (i := 50) (by decide +kernel))⟩
abbrev mm_X7_riseDown : tq_MD := (yX7_riseDown, cX7_riseDown, 5, (some .int), [], 7)
theorem mf_X7_riseDown : tq_mV mm_X7_riseDown := ⟨⟨tq_i4 54 rfl, tq_i1 5 rfl, by decide +kernel, rfl⟩, tq_i4 53 rfl, List.mem_append_left _ (List.mem_of_getElem? (i := 51) (by decide +kernel))⟩
abbrev mm_X2_countFlips : tq_MD := (yX2_countFlips, cX2_countFlips, 4, (some .int), [], 2)
theorem mf_X2_countFlips : tq_mV mm_X2_countFlips := ⟨⟨tq_i4 58 rfl, tq_i1 4 rfl, by decide +kernel, rfl⟩, tq_i4 57 rfl, List.mem_append_left _ (List.mem_of_getElem? (i := 52) (by decide +kernel))⟩
abbrev mm_X2_canFlip : tq_MD := (yX2_canFlip, cX2_canFlip, 7, (some .boolean), [], 2)
theorem mf_X2_canFlip : tq_mV mm_X2_canFlip := ⟨⟨tq_i4 62 rfl, tq_i1 4 rfl, by decide +kernel, rfl⟩, tq_i4 61 rfl, List.mem_append_left _ (List.mem_of_getElem? (i := 53) (by decide +kernel))⟩
abbrev mm_X1_rightOf : tq_MD := (yX1_rightOf, cX1_rightOf, 2, (some .int), [], 1)
theorem mf_X1_rightOf : tq_mV mm_X1_rightOf := ⟨⟨tq_i4 66 rfl, tq_i1 2 rfl, by decide +kernel, rfl⟩, tq_i4 65 rfl, List.mem_append_left _ (List.mem_of_getElem? (i := 54) (by decide +kernel))⟩
abbrev mm_X2_acrossPair : tq_MD := (yX2_acrossPair, cX2_acrossPair, 3, (some .long), [], 2)
theorem mf_X2_acrossPair : tq_mV mm_X2_acrossPair := ⟨⟨tq_i4 70 rfl, tq_i1 4 rfl, by decide +kernel, rfl⟩, tq_i4 69 rfl, List.mem_append_left _ (List.mem_of_getElem? (i := 55) (by decide +kernel))⟩
abbrev mm_X2_downPair : tq_MD := (yX2_downPair, cX2_downPair, 3, (some .long), [], 2)
theorem mf_X2_downPair : tq_mV mm_X2_downPair := ⟨⟨tq_i4 74 rfl, tq_i1 4 rfl, by decide +kernel, rfl⟩, tq_i4 73 rfl, List.mem_append_left _ (List.mem_of_getElem? (i := 56) (by decide +kernel))⟩
abbrev mm_X2_squareOf : tq_MD := (yX2_squareOf, cX2_squareOf, 5, (some .int), [], 2)
theorem mf_X2_squareOf : tq_mV mm_X2_squareOf := ⟨⟨tq_i4 78 rfl, tq_i1 4 rfl, by decide +kernel, rfl⟩, tq_i4 77 rfl, List.mem_append_left _ (List.mem_of_getElem? (i := 57) (by decide +kernel))⟩
abbrev mm_X2_rightFlipped : tq_MD := (yX2_rightFlipped, cX2_rightFlipped, 2, (some .long), [], 2)
theorem mf_X2_rightFlipped : tq_mV mm_X2_rightFlipped := ⟨⟨tq_i4 82 rfl, tq_i1 4 rfl, by decide +kernel, rfl⟩, tq_i4 81 rfl, List.mem_append_left _ (List.mem_of_getElem? (i := 58) (by decide +kernel))⟩
abbrev mm_X2_downFlipped : tq_MD := (yX2_downFlipped, cX2_downFlipped, 2, (some .long), [], 2)
theorem mf_X2_downFlipped : tq_mV mm_X2_downFlipped := ⟨⟨tq_i4 86 rfl, tq_i1 4 rfl, by decide +kernel, rfl⟩, tq_i4 85 rfl, List.mem_append_left _ (List.mem_of_getElem? (i := 59) (by decide +kernel))⟩
abbrev mm_X7_flipsFromKept : tq_MD := (yX7_flipsFromKept, cX7_flipsFromKept, 7, (some .int), [], 7)
theorem mf_X7_flipsFromKept : tq_mV mm_X7_flipsFromKept := ⟨⟨tq_i4 90 rfl, tq_i1 5 rfl, by decide +kernel, rfl⟩, tq_i4 89 rfl, List.mem_append_left _ (List.mem_of_getElem? (i := 60) (by decide +kernel))⟩
abbrev mm_J9_abs_0f7a4 : tq_MD := (yJ9_abs_0f7a4, cJ9_abs_0f7a4, 1, (some .int), [], 14)
theorem mf_J9_abs_0f7a4 : tq_mS mm_J9_abs_0f7a4 := ⟨⟨tq_i4 93 rfl, tq_i1 25 rfl, by decide +kernel, rfl⟩, tq_i4 92 rfl⟩
abbrev mm_X11_piecesAreSound : tq_MD := (yX11_piecesAreSound, cX11_piecesAreSound, 5, (some .boolean), [], 11)
theorem mf_X11_piecesAreSound : tq_mV mm_X11_piecesAreSound := ⟨⟨tq_i4 97 rfl, tq_i1 1 rfl, by decide +kernel, rfl⟩, tq_i4 96 rfl, List.mem_append_left _ (List.mem_of_getElem? (i := 61) (by decide +kernel))⟩
abbrev mm_X5_fillHaving : tq_MD := (yX5_fillHaving, cX5_fillHaving, 3, none, [], 5)
theorem mf_X5_fillHaving : tq_mV mm_X5_fillHaving := ⟨⟨tq_i4 101 rfl, tq_i1 3 rfl, by decide +kernel, rfl⟩, tq_i4 100 rfl, List.mem_append_left _ (List.mem_of_getElem? (i := 62) (by decide +kernel))⟩
abbrev mm_X5_goOn : tq_MD := (yX5_goOn, cX5_goOn, 10, none, [], 5)
theorem mf_X5_goOn : tq_mV mm_X5_goOn := ⟨⟨tq_i4 106 rfl, tq_i1 3 rfl, by decide +kernel, rfl⟩, tq_i4 105 rfl, List.mem_append_left _ (List.mem_of_getElem? (i := 63) (by decide +kernel))⟩
abbrev mm_X5_withCell : tq_MD := (yX5_withCell, cX5_withCell, 7, (some .long), [], 5)
theorem mf_X5_withCell : tq_mV mm_X5_withCell := ⟨⟨tq_i4 110 rfl, tq_i1 3 rfl, by decide +kernel, rfl⟩, tq_i4 109 rfl, List.mem_append_left _ (List.mem_of_getElem? (i := 64) (by decide +kernel))⟩
abbrev mm_X11_rolesAreSound : tq_MD := (yX11_rolesAreSound, cX11_rolesAreSound, 2, (some .boolean), [], 11)
theorem mf_X11_rolesAreSound : tq_mV mm_X11_rolesAreSound := ⟨⟨tq_i4 114 rfl, tq_i1 1 rfl, by decide +kernel, rfl⟩, tq_i4 113 rfl, List.mem_append_left _ (List.mem_of_getElem? (i := 65) (by decide +kernel))⟩
abbrev mm_X11_exactIsSound : tq_MD := (yX11_exactIsSound, cX11_exactIsSound, 4, (some .boolean), [], 11)
theorem mf_X11_exactIsSound : tq_mV mm_X11_exactIsSound := ⟨⟨tq_i4 118 rfl, tq_i1 1 rfl, by decide +kernel, rfl⟩, tq_i4 117 rfl, List.mem_append_left _ (List.mem_of_getElem? (i := 66) (by decide +kernel))⟩
abbrev mm_X1_size : tq_MD := (yX1_size, cX1_size, 1, (some .int), [], 1)
theorem mf_X1_size : tq_mV mm_X1_size := ⟨⟨tq_i4 122 rfl, tq_i1 2 rfl, by decide +kernel, rfl⟩, tq_i4 121 rfl, List.mem_append_left _ (List.mem_of_getElem? (i := 67) (by decide +kernel))⟩
abbrev mm_X4_refresh : tq_MD := (yX4_refresh, cX4_refresh, 4, none, [], 4)
theorem mf_X4_refresh : tq_mV mm_X4_refresh := ⟨⟨tq_i4 127 rfl, tq_i1 9 rfl, by decide +kernel, rfl⟩, tq_i4 126 rfl, List.mem_append_left _ (List.mem_of_getElem? (i := 68) (by decide +kernel))⟩
abbrev mm_X4_numberCells : tq_MD := (yX4_numberCells, cX4_numberCells, 2, none, [], 4)
theorem mf_X4_numberCells : tq_mV mm_X4_numberCells := ⟨⟨tq_i4 131 rfl, tq_i1 9 rfl, by decide +kernel, rfl⟩, tq_i4 130 rfl, List.mem_append_left _ (List.mem_of_getElem? (i := 69) (by decide +kernel))⟩
abbrev mm_X4_findGroup : tq_MD := (yX4_findGroup, cX4_findGroup, 2, none, [], 4)
theorem mf_X4_findGroup : tq_mV mm_X4_findGroup := ⟨⟨tq_i4 136 rfl, tq_i1 9 rfl, by decide +kernel, rfl⟩, tq_i4 135 rfl, List.mem_append_left _ (List.mem_of_getElem? (i := 70) (by decide +kernel))⟩
abbrev mm_X4_fillMoved : tq_MD := (yX4_fillMoved, cX4_fillMoved, 8, (some .boolean), [], 4)
theorem mf_X4_fillMoved : tq_mV mm_X4_fillMoved := ⟨⟨tq_i4 140 rfl, tq_i1 9 rfl, by decide +kernel, rfl⟩, tq_i4 139 rfl, List.mem_append_left _ (List.mem_of_getElem? (i := 71) (by decide +kernel))⟩
abbrev mm_X4_collect : tq_MD := (yX4_collect, cX4_collect, 3, none, [], 4)
theorem mf_X4_collect : tq_mV mm_X4_collect := ⟨⟨tq_i4 145 rfl, tq_i1 9 rfl, by decide +kernel, rfl⟩, tq_i4 144 rfl, List.mem_append_left _ (List.mem_of_getElem? (i := 72) (by decide +kernel))⟩
abbrev mm_X4_collectKind : tq_MD := (yX4_collectKind, cX4_collectKind, 11, none, [], 4)
theorem mf_X4_collectKind : tq_mV mm_X4_collectKind := ⟨⟨tq_i4 149 rfl, tq_i1 9 rfl, by decide +kernel, rfl⟩, tq_i4 148 rfl, List.mem_append_left _ (List.mem_of_getElem? (i := 73) (by decide +kernel))⟩
abbrev mm_X4_motionsOf : tq_MD := (yX4_motionsOf, cX4_motionsOf, 7, (some .long), [], 4)
theorem mf_X4_motionsOf : tq_mV mm_X4_motionsOf := ⟨⟨tq_i4 153 rfl, tq_i1 9 rfl, by decide +kernel, rfl⟩, tq_i4 152 rfl, List.mem_append_left _ (List.mem_of_getElem? (i := 74) (by decide +kernel))⟩
abbrev mm_X8_moved : tq_MD := (yX8_moved, cX8_moved, 10, (some .long), [], 8)
theorem mf_X8_moved : tq_mS mm_X8_moved := ⟨⟨tq_i4 156 rfl, tq_i1 8 rfl, by decide +kernel, rfl⟩, tq_i4 155 rfl⟩
abbrev mm_X8_isShapeOf : tq_MD := (yX8_isShapeOf, cX8_isShapeOf, 5, (some .boolean), [], 8)
theorem mf_X8_isShapeOf : tq_mV mm_X8_isShapeOf := ⟨⟨tq_i4 162 rfl, tq_i1 8 rfl, by decide +kernel, rfl⟩, tq_i4 161 rfl, List.mem_append_left _ (List.mem_of_getElem? (i := 75) (by decide +kernel))⟩
abbrev mm_X4_coveredBy : tq_MD := (yX4_coveredBy, cX4_coveredBy, 13, (some .int), [], 4)
theorem mf_X4_coveredBy : tq_mV mm_X4_coveredBy := ⟨⟨tq_i4 166 rfl, tq_i1 9 rfl, by decide +kernel, rfl⟩, tq_i4 165 rfl, List.mem_append_left _ (List.mem_of_getElem? (i := 76) (by decide +kernel))⟩
abbrev mm_J9_floorMod_7cf53 : tq_MD := (yJ9_floorMod_7cf53, cJ9_floorMod_7cf53, 3, (some .int), [], 14)
theorem mf_J9_floorMod_7cf53 : tq_mS mm_J9_floorMod_7cf53 := ⟨⟨tq_i4 169 rfl, tq_i1 25 rfl, by decide +kernel, rfl⟩, tq_i4 168 rfl⟩
abbrev mm_X4_insert : tq_MD := (yX4_insert, cX4_insert, 6, none, [], 4)
theorem mf_X4_insert : tq_mV mm_X4_insert := ⟨⟨tq_i4 173 rfl, tq_i1 9 rfl, by decide +kernel, rfl⟩, tq_i4 172 rfl, List.mem_append_left _ (List.mem_of_getElem? (i := 77) (by decide +kernel))⟩
abbrev mm_X4_isAhead : tq_MD := (yX4_isAhead, cX4_isAhead, 6, (some .boolean), [], 4)
theorem mf_X4_isAhead : tq_mS mm_X4_isAhead := ⟨⟨tq_i4 177 rfl, tq_i1 9 rfl, by decide +kernel, rfl⟩, tq_i4 176 rfl⟩
abbrev mm_J9_min_7cf53 : tq_MD := (yJ9_min_7cf53, cJ9_min_7cf53, 2, (some .int), [], 14)
theorem mf_J9_min_7cf53 : tq_mS mm_J9_min_7cf53 := ⟨⟨tq_i4 182 rfl, tq_i1 25 rfl, by decide +kernel, rfl⟩, tq_i4 181 rfl⟩
abbrev mm_X4_beginning : tq_MD := (yX4_beginning, cX4_beginning, 4, (some .long), [], 4)
theorem mf_X4_beginning : tq_mV mm_X4_beginning := ⟨⟨tq_i4 186 rfl, tq_i1 9 rfl, by decide +kernel, rfl⟩, tq_i4 185 rfl, List.mem_append_left _ (List.mem_of_getElem? (i := 78) (by decide +kernel))⟩
abbrev mm_X4_bounded : tq_MD := (yX4_bounded, cX4_bounded, 12, (some .long), [], 4)
theorem mf_X4_bounded : tq_mV mm_X4_bounded := ⟨⟨tq_i4 190 rfl, tq_i1 9 rfl, by decide +kernel, rfl⟩, tq_i4 189 rfl, List.mem_append_left _ (List.mem_of_getElem? (i := 79) (by decide +kernel))⟩
abbrev mm_J9_max_f86c9 : tq_MD := (yJ9_max_f86c9, cJ9_max_f86c9, 4, (some .long), [], 14)
theorem mf_J9_max_f86c9 : tq_mS mm_J9_max_f86c9 := ⟨⟨tq_i4 196 rfl, tq_i1 25 rfl, by decide +kernel, rfl⟩, tq_i4 195 rfl⟩
abbrev mm_X4_with : tq_MD := (yX4_with, cX4_with, 13, (some .long), [], 4)
theorem mf_X4_with : tq_mV mm_X4_with := ⟨⟨tq_i4 200 rfl, tq_i1 9 rfl, by decide +kernel, rfl⟩, tq_i4 199 rfl, List.mem_append_left _ (List.mem_of_getElem? (i := 80) (by decide +kernel))⟩
abbrev mm_X4_imageOf : tq_MD := (yX4_imageOf, cX4_imageOf, 9, (some .long), [], 4)
theorem mf_X4_imageOf : tq_mV mm_X4_imageOf := ⟨⟨tq_i4 205 rfl, tq_i1 9 rfl, by decide +kernel, rfl⟩, tq_i4 204 rfl, List.mem_append_left _ (List.mem_of_getElem? (i := 81) (by decide +kernel))⟩
abbrev mm_X4_search : tq_MD := (yX4_search, cX4_search, 8, (some .long), [], 4)
theorem mf_X4_search : tq_mV mm_X4_search := ⟨⟨tq_i4 209 rfl, tq_i1 9 rfl, by decide +kernel, rfl⟩, tq_i4 208 rfl, List.mem_append_left _ (List.mem_of_getElem? (i := 82) (by decide +kernel))⟩
abbrev mm_X4_firstOpen : tq_MD := (yX4_firstOpen, cX4_firstOpen, 2, (some .int), [], 4)
theorem mf_X4_firstOpen : tq_mS mm_X4_firstOpen := ⟨⟨tq_i4 212 rfl, tq_i1 9 rfl, by decide +kernel, rfl⟩, tq_i4 211 rfl⟩
abbrev mm_X4_weigh : tq_MD := (yX4_weigh, cX4_weigh, 3, (some .long), [], 4)
theorem mf_X4_weigh : tq_mS mm_X4_weigh := ⟨⟨tq_i4 215 rfl, tq_i1 9 rfl, by decide +kernel, rfl⟩, tq_i4 214 rfl⟩
abbrev mm_X4_sumOver : tq_MD := (yX4_sumOver, cX4_sumOver, 10, (some .long), [], 4)
theorem mf_X4_sumOver : tq_mV mm_X4_sumOver := ⟨⟨tq_i4 220 rfl, tq_i1 9 rfl, by decide +kernel, rfl⟩, tq_i4 219 rfl, List.mem_append_left _ (List.mem_of_getElem? (i := 83) (by decide +kernel))⟩
abbrev mm_X4_choose : tq_MD := (yX4_choose, cX4_choose, 14, none, [], 4)
theorem mf_X4_choose : tq_mV mm_X4_choose := ⟨⟨tq_i4 225 rfl, tq_i1 9 rfl, by decide +kernel, rfl⟩, tq_i4 224 rfl, List.mem_append_left _ (List.mem_of_getElem? (i := 84) (by decide +kernel))⟩
abbrev mm_X4_chosenNumber : tq_MD := (yX4_chosenNumber, cX4_chosenNumber, 10, (some .long), [], 4)
theorem mf_X4_chosenNumber : tq_mV mm_X4_chosenNumber := ⟨⟨tq_i4 229 rfl, tq_i1 9 rfl, by decide +kernel, rfl⟩, tq_i4 228 rfl, List.mem_append_left _ (List.mem_of_getElem? (i := 85) (by decide +kernel))⟩
abbrev mm_X11_stripsAreSound : tq_MD := (yX11_stripsAreSound, cX11_stripsAreSound, 3, (some .boolean), [], 11)
theorem mf_X11_stripsAreSound : tq_mV mm_X11_stripsAreSound := ⟨⟨tq_i4 233 rfl, tq_i1 1 rfl, by decide +kernel, rfl⟩, tq_i4 232 rfl, List.mem_append_left _ (List.mem_of_getElem? (i := 86) (by decide +kernel))⟩
abbrev mm_X6_byRule : tq_MD := (yX6_byRule, cX6_byRule, 6, none, [], 6)
theorem mf_X6_byRule : tq_mV mm_X6_byRule := ⟨⟨tq_i4 237 rfl, tq_i1 10 rfl, by decide +kernel, rfl⟩, tq_i4 236 rfl, List.mem_append_left _ (List.mem_of_getElem? (i := 87) (by decide +kernel))⟩
abbrev mm_X6_orderOf : tq_MD := (yX6_orderOf, cX6_orderOf, 1, (some .int), [], 6)
theorem mf_X6_orderOf : tq_mS mm_X6_orderOf := ⟨⟨tq_i5 0 rfl, tq_i1 10 rfl, by decide +kernel, rfl⟩, tq_i4 239 rfl⟩
abbrev mm_X6_byFront : tq_MD := (yX6_byFront, cX6_byFront, 5, (some .long), [], 6)
theorem mf_X6_byFront : tq_mV mm_X6_byFront := ⟨⟨tq_i5 6 rfl, tq_i1 10 rfl, by decide +kernel, rfl⟩, tq_i5 5 rfl, List.mem_append_left _ (List.mem_of_getElem? (i := 88) (by decide +kernel))⟩
abbrev mm_X6_passCell : tq_MD := (yX6_passCell, cX6_passCell, 6, none, [], 6)
theorem mf_X6_passCell : tq_mV mm_X6_passCell := ⟨⟨tq_i5 11 rfl, tq_i1 10 rfl, by decide +kernel, rfl⟩, tq_i5 10 rfl, List.mem_append_left _ (List.mem_of_getElem? (i := 89) (by decide +kernel))⟩
abbrev mm_X6_putTerm : tq_MD := (yX6_putTerm, cX6_putTerm, 8, none, [], 6)
theorem mf_X6_putTerm : tq_mV mm_X6_putTerm := ⟨⟨tq_i5 16 rfl, tq_i1 10 rfl, by decide +kernel, rfl⟩, tq_i5 15 rfl, List.mem_append_left _ (List.mem_of_getElem? (i := 90) (by decide +kernel))⟩
abbrev mm_X6_addTerms : tq_MD := (yX6_addTerms, cX6_addTerms, 11, none, [], 6)
theorem mf_X6_addTerms : tq_mV mm_X6_addTerms := ⟨⟨tq_i5 21 rfl, tq_i1 10 rfl, by decide +kernel, rfl⟩, tq_i5 20 rfl, List.mem_append_left _ (List.mem_of_getElem? (i := 91) (by decide +kernel))⟩
abbrev mm_X6_factor : tq_MD := (yX6_factor, cX6_factor, 2, (some .int), [], 6)
theorem mf_X6_factor : tq_mS mm_X6_factor := ⟨⟨tq_i5 24 rfl, tq_i1 10 rfl, by decide +kernel, rfl⟩, tq_i5 23 rfl⟩
abbrev mm_J9_floorDiv_f86c9 : tq_MD := (yJ9_floorDiv_f86c9, cJ9_floorDiv_f86c9, 6, (some .long), [], 14)
theorem mf_J9_floorDiv_f86c9 : tq_mS mm_J9_floorDiv_f86c9 := ⟨⟨tq_i5 30 rfl, tq_i1 25 rfl, by decide +kernel, rfl⟩, tq_i5 29 rfl⟩
abbrev mm_X0_putLimbs : tq_MD := (yX0_putLimbs, cX0_putLimbs, 5, none, [], 0)
theorem mf_X0_putLimbs : tq_mV mm_X0_putLimbs := ⟨⟨tq_i5 34 rfl, tq_i1 12 rfl, by decide +kernel, rfl⟩, tq_i5 33 rfl, List.mem_append_left _ (List.mem_of_getElem? (i := 92) (by decide +kernel))⟩
abbrev mm_X0_isLike : tq_MD := (yX0_isLike, cX0_isLike, 3, (some .boolean), [], 0)
theorem mf_X0_isLike : tq_mV mm_X0_isLike := ⟨⟨tq_i5 39 rfl, tq_i1 12 rfl, by decide +kernel, rfl⟩, tq_i5 38 rfl, List.mem_append_left _ (List.mem_of_getElem? (i := 93) (by decide +kernel))⟩
abbrev mm_X11_hexagonsAreSound : tq_MD := (yX11_hexagonsAreSound, cX11_hexagonsAreSound, 4, (some .boolean), [], 11)
theorem mf_X11_hexagonsAreSound : tq_mV mm_X11_hexagonsAreSound := ⟨⟨tq_i5 43 rfl, tq_i1 1 rfl, by decide +kernel, rfl⟩, tq_i5 42 rfl, List.mem_append_left _ (List.mem_of_getElem? (i := 94) (by decide +kernel))⟩
abbrev mm_X3_countHexagon : tq_MD := (yX3_countHexagon, cX3_countHexagon, 8, none, [], 3)
theorem mf_X3_countHexagon : tq_mV mm_X3_countHexagon := ⟨⟨tq_i5 47 rfl, tq_i1 6 rfl, by decide +kernel, rfl⟩, tq_i5 46 rfl, List.mem_append_left _ (List.mem_of_getElem? (i := 95) (by decide +kernel))⟩
abbrev mm_X3_choose : tq_MD := (yX3_choose, cX3_choose, 5, (some .long), [], 3)
theorem mf_X3_choose : tq_mS mm_X3_choose := ⟨⟨tq_i5 50 rfl, tq_i1 6 rfl, by decide +kernel, rfl⟩, tq_i5 49 rfl⟩
abbrev mm_X3_thirdDigit : tq_MD := (yX3_thirdDigit, cX3_thirdDigit, 5, (some .long), [], 3)
theorem mf_X3_thirdDigit : tq_mV mm_X3_thirdDigit := ⟨⟨tq_i5 54 rfl, tq_i1 6 rfl, by decide +kernel, rfl⟩, tq_i5 53 rfl, List.mem_append_left _ (List.mem_of_getElem? (i := 96) (by decide +kernel))⟩
abbrev mm_X0_timesPlus : tq_MD := (yX0_timesPlus, cX0_timesPlus, 10, none, [], 0)
theorem mf_X0_timesPlus : tq_mV mm_X0_timesPlus := ⟨⟨tq_i5 59 rfl, tq_i1 12 rfl, by decide +kernel, rfl⟩, tq_i5 58 rfl, List.mem_append_left _ (List.mem_of_getElem? (i := 97) (by decide +kernel))⟩
abbrev mm_X0_putHeaps : tq_MD := (yX0_putHeaps, cX0_putHeaps, 6, none, [], 0)
theorem mf_X0_putHeaps : tq_mV mm_X0_putHeaps := ⟨⟨tq_i5 63 rfl, tq_i1 12 rfl, by decide +kernel, rfl⟩, tq_i5 62 rfl, List.mem_append_left _ (List.mem_of_getElem? (i := 98) (by decide +kernel))⟩
abbrev mm_X0_divideBy : tq_MD := (yX0_divideBy, cX0_divideBy, 8, none, [], 0)
theorem mf_X0_divideBy : tq_mV mm_X0_divideBy := ⟨⟨tq_i5 69 rfl, tq_i1 12 rfl, by decide +kernel, rfl⟩, tq_i5 68 rfl, List.mem_append_left _ (List.mem_of_getElem? (i := 99) (by decide +kernel))⟩
abbrev mm_L_board : tq_MD := (yL_board, cL_board, 5, (some .int), [(0, 10, 13, 13)], 13)
theorem mf_L_board : tq_mS mm_L_board := ⟨⟨tq_i5 72 rfl, tq_i1 0 rfl, by decide +kernel, rfl⟩, tq_i5 71 rfl⟩
abbrev mm_X11_board : tq_MD := (yX11_board, cX11_board, 3, (some .int), [], 11)
theorem mf_X11_board : tq_mV mm_X11_board := ⟨⟨tq_i5 77 rfl, tq_i1 1 rfl, by decide +kernel, rfl⟩, tq_i5 75 rfl, tq_i5 76 rfl⟩
abbrev mm_X11_isFrom : tq_MD := (yX11_isFrom, cX11_isFrom, 3, (some .boolean), [], 11)
theorem mf_X11_isFrom : tq_mS mm_X11_isFrom := ⟨⟨tq_i5 80 rfl, tq_i1 1 rfl, by decide +kernel, rfl⟩, tq_i5 79 rfl⟩
abbrev mm_X1_tell : tq_MD := (yX1_tell, cX1_tell, 5, none, [], 1)
theorem mf_X1_tell : tq_mV mm_X1_tell := ⟨⟨tq_i5 157 rfl, tq_i1 2 rfl, by decide +kernel, rfl⟩, tq_i5 156 rfl, List.mem_append_left _ (List.mem_of_getElem? (i := 101) (by decide +kernel))⟩
abbrev mm_X2_forget : tq_MD := (yX2_forget, cX2_forget, 1, none, [], 2)
theorem mf_X2_forget : tq_mV mm_X2_forget := ⟨⟨tq_i5 161 rfl, tq_i1 4 rfl, by decide +kernel, rfl⟩, tq_i5 160 rfl, List.mem_append_left _ (List.mem_of_getElem? (i := 102) (by decide +kernel))⟩
abbrev mm_L_form : tq_MD := (yL_form, cL_form, 5, (some .int), [(0, 10, 13, 13)], 13)
theorem mf_L_form : tq_mS mm_L_form := ⟨⟨tq_i5 164 rfl, tq_i1 0 rfl, by decide +kernel, rfl⟩, tq_i5 163 rfl⟩
abbrev mm_X11_form : tq_MD := (yX11_form, cX11_form, 4, (some .int), [], 11)
theorem mf_X11_form : tq_mV mm_X11_form := ⟨⟨tq_i5 168 rfl, tq_i1 1 rfl, by decide +kernel, rfl⟩, tq_i5 166 rfl, tq_i5 167 rfl⟩
abbrev mm_X1_isForm : tq_MD := (yX1_isForm, cX1_isForm, 2, (some .boolean), [], 1)
theorem mf_X1_isForm : tq_mS mm_X1_isForm := ⟨⟨tq_i5 171 rfl, tq_i1 2 rfl, by decide +kernel, rfl⟩, tq_i5 170 rfl⟩
abbrev mm_X1_formCells : tq_MD := (yX1_formCells, cX1_formCells, 7, (some .long), [], 1)
theorem mf_X1_formCells : tq_mS mm_X1_formCells := ⟨⟨tq_i5 176 rfl, tq_i1 2 rfl, by decide +kernel, rfl⟩, tq_i5 175 rfl⟩
abbrev mm_X1_isInForm : tq_MD := (yX1_isInForm, cX1_isInForm, 5, (some .boolean), [], 1)
theorem mf_X1_isInForm : tq_mS mm_X1_isInForm := ⟨⟨tq_i5 179 rfl, tq_i1 2 rfl, by decide +kernel, rfl⟩, tq_i5 178 rfl⟩
abbrev mm_L_cut : tq_MD := (yL_cut, cL_cut, 5, (some .int), [(0, 10, 13, 22)], 13)
theorem mf_L_cut : tq_mS mm_L_cut := ⟨⟨tq_i5 183 rfl, tq_i1 0 rfl, by decide +kernel, rfl⟩, tq_i5 182 rfl⟩
abbrev mm_X11_cut : tq_MD := (yX11_cut, cX11_cut, 3, (some .int), [], 11)
theorem mf_X11_cut : tq_mV mm_X11_cut := ⟨⟨tq_i5 211 rfl, tq_i1 1 rfl, by decide +kernel, rfl⟩, tq_i5 209 rfl, tq_i5 210 rfl⟩
abbrev mm_X1_change : tq_MD := (yX1_change, cX1_change, 3, none, [], 1)
theorem mf_X1_change : tq_mV mm_X1_change := ⟨⟨tq_i5 228 rfl, tq_i1 2 rfl, by decide +kernel, rfl⟩, tq_i5 227 rfl, List.mem_append_left _ (List.mem_of_getElem? (i := 103) (by decide +kernel))⟩
abbrev mm_L_fill : tq_MD := (yL_fill, cL_fill, 5, (some .int), [(0, 10, 13, 22)], 13)
theorem mf_L_fill : tq_mS mm_L_fill := ⟨⟨tq_i5 231 rfl, tq_i1 0 rfl, by decide +kernel, rfl⟩, tq_i5 230 rfl⟩
abbrev mm_X11_fill : tq_MD := (yX11_fill, cX11_fill, 3, (some .int), [], 11)
theorem mf_X11_fill : tq_mV mm_X11_fill := ⟨⟨tq_i5 235 rfl, tq_i1 1 rfl, by decide +kernel, rfl⟩, tq_i5 233 rfl, tq_i5 234 rfl⟩
abbrev mm_X1_isWithin : tq_MD := (yX1_isWithin, cX1_isWithin, 3, (some .boolean), [], 1)
theorem mf_X1_isWithin : tq_mV mm_X1_isWithin := ⟨⟨tq_i5 239 rfl, tq_i1 2 rfl, by decide +kernel, rfl⟩, tq_i5 238 rfl, List.mem_append_left _ (List.mem_of_getElem? (i := 104) (by decide +kernel))⟩
abbrev mm_L_roll : tq_MD := (yL_roll, cL_roll, 4, (some .int), [(0, 16, 19, 31)], 13)
theorem mf_L_roll : tq_mS mm_L_roll := ⟨⟨tq_i6 3 rfl, tq_i1 0 rfl, by decide +kernel, rfl⟩, tq_i6 2 rfl⟩
abbrev mm_X11_roll : tq_MD := (yX11_roll, cX11_roll, 3, (some .boolean), [], 11)
theorem mf_X11_roll : tq_mV mm_X11_roll := ⟨⟨tq_i6 8 rfl, tq_i1 1 rfl, by decide +kernel, rfl⟩, tq_i6 6 rfl, tq_i6 7 rfl⟩
abbrev mm_X1_canBeRolled : tq_MD := (yX1_canBeRolled, cX1_canBeRolled, 1, (some .boolean), [], 1)
theorem mf_X1_canBeRolled : tq_mV mm_X1_canBeRolled := ⟨⟨tq_i6 12 rfl, tq_i1 2 rfl, by decide +kernel, rfl⟩, tq_i6 11 rfl, List.mem_append_left _ (List.mem_of_getElem? (i := 105) (by decide +kernel))⟩
abbrev mm_X1_turnRound : tq_MD := (yX1_turnRound, cX1_turnRound, 2, none, [], 1)
theorem mf_X1_turnRound : tq_mV mm_X1_turnRound := ⟨⟨tq_i6 32 rfl, tq_i1 2 rfl, by decide +kernel, rfl⟩, tq_i6 31 rfl, List.mem_append_left _ (List.mem_of_getElem? (i := 106) (by decide +kernel))⟩
abbrev mm_L_cells : tq_MD := (yL_cells, cL_cells, 4, (some .int), [(0, 9, 12, 13)], 13)
theorem mf_L_cells : tq_mS mm_L_cells := ⟨⟨tq_i6 35 rfl, tq_i1 0 rfl, by decide +kernel, rfl⟩, tq_i6 34 rfl⟩
abbrev mm_X11_cells : tq_MD := (yX11_cells, cX11_cells, 2, (some .int), [], 11)
theorem mf_X11_cells : tq_mV mm_X11_cells := ⟨⟨tq_i6 39 rfl, tq_i1 1 rfl, by decide +kernel, rfl⟩, tq_i6 37 rfl, tq_i6 38 rfl⟩
abbrev mm_L_bySigns : tq_MD := (yL_bySigns, cL_bySigns, 3, (some .int), [(0, 8, 11, 31)], 13)
theorem mf_L_bySigns : tq_mS mm_L_bySigns := ⟨⟨tq_i6 44 rfl, tq_i1 0 rfl, by decide +kernel, rfl⟩, tq_i6 43 rfl⟩
abbrev mm_X11_bySigns : tq_MD := (yX11_bySigns, cX11_bySigns, 1, (some .int), [], 11)
theorem mf_X11_bySigns : tq_mV mm_X11_bySigns := ⟨⟨tq_i6 48 rfl, tq_i1 1 rfl, by decide +kernel, rfl⟩, tq_i6 46 rfl, tq_i6 47 rfl⟩
abbrev mm_L_having : tq_MD := (yL_having, cL_having, 6, (some .int), [(0, 12, 15, 22)], 13)
theorem mf_L_having : tq_mS mm_L_having := ⟨⟨tq_i6 52 rfl, tq_i1 0 rfl, by decide +kernel, rfl⟩, tq_i6 51 rfl⟩
abbrev mm_X11_having : tq_MD := (yX11_having, cX11_having, 4, (some .int), [], 11)
theorem mf_X11_having : tq_mV mm_X11_having := ⟨⟨tq_i6 56 rfl, tq_i1 1 rfl, by decide +kernel, rfl⟩, tq_i6 54 rfl, tq_i6 55 rfl⟩
abbrev mm_X1_isPiece : tq_MD := (yX1_isPiece, cX1_isPiece, 4, (some .boolean), [], 1)
theorem mf_X1_isPiece : tq_mV mm_X1_isPiece := ⟨⟨tq_i6 60 rfl, tq_i1 2 rfl, by decide +kernel, rfl⟩, tq_i6 59 rfl, List.mem_append_left _ (List.mem_of_getElem? (i := 107) (by decide +kernel))⟩
abbrev mm_X5_withPiece : tq_MD := (yX5_withPiece, cX5_withPiece, 4, (some .long), [], 5)
theorem mf_X5_withPiece : tq_mV mm_X5_withPiece := ⟨⟨tq_i6 66 rfl, tq_i1 3 rfl, by decide +kernel, rfl⟩, tq_i6 65 rfl, List.mem_append_left _ (List.mem_of_getElem? (i := 108) (by decide +kernel))⟩
abbrev mm_L_signAt : tq_MD := (yL_signAt, cL_signAt, 4, (some .int), [(0, 9, 12, 22)], 13)
theorem mf_L_signAt : tq_mS mm_L_signAt := ⟨⟨tq_i6 69 rfl, tq_i1 0 rfl, by decide +kernel, rfl⟩, tq_i6 68 rfl⟩
abbrev mm_X11_signAt : tq_MD := (yX11_signAt, cX11_signAt, 2, (some .char), [], 11)
theorem mf_X11_signAt : tq_mV mm_X11_signAt := ⟨⟨tq_i6 73 rfl, tq_i1 1 rfl, by decide +kernel, rfl⟩, tq_i6 71 rfl, tq_i6 72 rfl⟩
abbrev mm_L_draw : tq_MD := (yL_draw, cL_draw, 5, (some .int), [(0, 9, 12, 53)], 13)
theorem mf_L_draw : tq_mS mm_L_draw := ⟨⟨tq_i6 77 rfl, tq_i1 0 rfl, by decide +kernel, rfl⟩, tq_i6 76 rfl⟩
abbrev mm_X11_draw : tq_MD := (yX11_draw, cX11_draw, 5, (some .int), [], 11)
theorem mf_X11_draw : tq_mV mm_X11_draw := ⟨⟨tq_i6 82 rfl, tq_i1 1 rfl, by decide +kernel, rfl⟩, tq_i6 80 rfl, tq_i6 81 rfl⟩
abbrev mm_X11_show : tq_MD := (yX11_show, cX11_show, 3, none, [], 11)
theorem mf_X11_show : tq_mV mm_X11_show := ⟨⟨tq_i6 103 rfl, tq_i1 1 rfl, by decide +kernel, rfl⟩, tq_i6 102 rfl, List.mem_append_left _ (List.mem_of_getElem? (i := 109) (by decide +kernel))⟩
abbrev mm_X2_take : tq_MD := (yX2_take, cX2_take, 5, none, [], 2)
theorem mf_X2_take : tq_mV mm_X2_take := ⟨⟨tq_i6 107 rfl, tq_i1 4 rfl, by decide +kernel, rfl⟩, tq_i6 106 rfl, List.mem_append_left _ (List.mem_of_getElem? (i := 110) (by decide +kernel))⟩
abbrev mm_X2_dropOldest : tq_MD := (yX2_dropOldest, cX2_dropOldest, 2, none, [], 2)
theorem mf_X2_dropOldest : tq_mV mm_X2_dropOldest := ⟨⟨tq_i6 111 rfl, tq_i1 4 rfl, by decide +kernel, rfl⟩, tq_i6 110 rfl, List.mem_append_left _ (List.mem_of_getElem? (i := 111) (by decide +kernel))⟩
abbrev mm_L_next : tq_MD := (yL_next, cL_next, 3, (some .int), [(0, 15, 18, 53)], 13)
theorem mf_L_next : tq_mS mm_L_next := ⟨⟨tq_i6 114 rfl, tq_i1 0 rfl, by decide +kernel, rfl⟩, tq_i6 113 rfl⟩
abbrev mm_X11_next : tq_MD := (yX11_next, cX11_next, 6, (some .boolean), [], 11)
theorem mf_X11_next : tq_mV mm_X11_next := ⟨⟨tq_i6 118 rfl, tq_i1 1 rfl, by decide +kernel, rfl⟩, tq_i6 116 rfl, tq_i6 117 rfl⟩
abbrev mm_L_previous : tq_MD := (yL_previous, cL_previous, 3, (some .int), [(0, 15, 18, 53)], 13)
theorem mf_L_previous : tq_mS mm_L_previous := ⟨⟨tq_i6 122 rfl, tq_i1 0 rfl, by decide +kernel, rfl⟩, tq_i6 121 rfl⟩
abbrev mm_X11_previous : tq_MD := (yX11_previous, cX11_previous, 6, (some .boolean), [], 11)
theorem mf_X11_previous : tq_mV mm_X11_previous := ⟨⟨tq_i6 126 rfl, tq_i1 1 rfl, by decide +kernel, rfl⟩, tq_i6 124 rfl, tq_i6 125 rfl⟩
abbrev mm_L_number : tq_MD := (yL_number, cL_number, 3, (some .int), [(0, 8, 11, 53)], 13)
theorem mf_L_number : tq_mS mm_L_number := ⟨⟨tq_i6 129 rfl, tq_i1 0 rfl, by decide +kernel, rfl⟩, tq_i6 128 rfl⟩
abbrev mm_X11_number : tq_MD := (yX11_number, cX11_number, 1, (some .int), [], 11)
theorem mf_X11_number : tq_mV mm_X11_number := ⟨⟨tq_i6 133 rfl, tq_i1 1 rfl, by decide +kernel, rfl⟩, tq_i6 131 rfl, tq_i6 132 rfl⟩
abbrev mm_L_other : tq_MD := (yL_other, cL_other, 5, (some .int), [(0, 10, 13, 22), (0, 10, 17, 53)], 13)
theorem mf_L_other : tq_mS mm_L_other := ⟨⟨tq_i6 136 rfl, tq_i1 0 rfl, by decide +kernel, rfl⟩, tq_i6 135 rfl⟩
abbrev mm_X11_other : tq_MD := (yX11_other, cX11_other, 3, (some .char), [], 11)
theorem mf_X11_other : tq_mV mm_X11_other := ⟨⟨tq_i6 140 rfl, tq_i1 1 rfl, by decide +kernel, rfl⟩, tq_i6 138 rfl, tq_i6 139 rfl⟩
abbrev mm_L_flips : tq_MD := (yL_flips, cL_flips, 3, (some .int), [(0, 8, 11, 53)], 13)
theorem mf_L_flips : tq_mS mm_L_flips := ⟨⟨tq_i6 144 rfl, tq_i1 0 rfl, by decide +kernel, rfl⟩, tq_i6 143 rfl⟩
abbrev mm_X11_flips : tq_MD := (yX11_flips, cX11_flips, 1, (some .int), [], 11)
theorem mf_X11_flips : tq_mV mm_X11_flips := ⟨⟨tq_i6 148 rfl, tq_i1 1 rfl, by decide +kernel, rfl⟩, tq_i6 146 rfl, tq_i6 147 rfl⟩
abbrev mm_L_flip : tq_MD := (yL_flip, cL_flip, 4, (some .int), [(0, 9, 12, 53), (0, 9, 15, 22)], 13)
theorem mf_L_flip : tq_mS mm_L_flip := ⟨⟨tq_i6 151 rfl, tq_i1 0 rfl, by decide +kernel, rfl⟩, tq_i6 150 rfl⟩
abbrev mm_X11_flip : tq_MD := (yX11_flip, cX11_flip, 3, (some .int), [], 11)
theorem mf_X11_flip : tq_mV mm_X11_flip := ⟨⟨tq_i6 155 rfl, tq_i1 1 rfl, by decide +kernel, rfl⟩, tq_i6 153 rfl, tq_i6 154 rfl⟩
abbrev mm_L_undo : tq_MD := (yL_undo, cL_undo, 3, (some .int), [(0, 8, 11, 79)], 13)
theorem mf_L_undo : tq_mS mm_L_undo := ⟨⟨tq_i6 159 rfl, tq_i1 0 rfl, by decide +kernel, rfl⟩, tq_i6 158 rfl⟩
abbrev mm_X11_undo : tq_MD := (yX11_undo, cX11_undo, 1, (some .int), [], 11)
theorem mf_X11_undo : tq_mV mm_X11_undo := ⟨⟨tq_i6 164 rfl, tq_i1 1 rfl, by decide +kernel, rfl⟩, tq_i6 162 rfl, tq_i6 163 rfl⟩
abbrev mm_X2_takeBack : tq_MD := (yX2_takeBack, cX2_takeBack, 1, none, [], 2)
theorem mf_X2_takeBack : tq_mV mm_X2_takeBack := ⟨⟨tq_i6 184 rfl, tq_i1 4 rfl, by decide +kernel, rfl⟩, tq_i6 183 rfl, List.mem_append_left _ (List.mem_of_getElem? (i := 112) (by decide +kernel))⟩
abbrev mm_L_keep : tq_MD := (yL_keep, cL_keep, 3, (some .int), [(0, 8, 11, 53)], 13)
theorem mf_L_keep : tq_mS mm_L_keep := ⟨⟨tq_i6 187 rfl, tq_i1 0 rfl, by decide +kernel, rfl⟩, tq_i6 186 rfl⟩
abbrev mm_X11_keep : tq_MD := (yX11_keep, cX11_keep, 1, (some .int), [], 11)
theorem mf_X11_keep : tq_mV mm_X11_keep := ⟨⟨tq_i6 191 rfl, tq_i1 1 rfl, by decide +kernel, rfl⟩, tq_i6 189 rfl, tq_i6 190 rfl⟩
abbrev mm_X2_store : tq_MD := (yX2_store, cX2_store, 1, none, [], 2)
theorem mf_X2_store : tq_mV mm_X2_store := ⟨⟨tq_i6 195 rfl, tq_i1 4 rfl, by decide +kernel, rfl⟩, tq_i6 194 rfl, List.mem_append_left _ (List.mem_of_getElem? (i := 113) (by decide +kernel))⟩
abbrev mm_X2_countCuts : tq_MD := (yX2_countCuts, cX2_countCuts, 4, (some .int), [], 2)
theorem mf_X2_countCuts : tq_mV mm_X2_countCuts := ⟨⟨tq_i6 199 rfl, tq_i1 4 rfl, by decide +kernel, rfl⟩, tq_i6 198 rfl, List.mem_append_left _ (List.mem_of_getElem? (i := 114) (by decide +kernel))⟩
abbrev mm_L_apart : tq_MD := (yL_apart, cL_apart, 3, (some .int), [(0, 8, 11, 31), (0, 8, 14, 53)], 13)
theorem mf_L_apart : tq_mS mm_L_apart := ⟨⟨tq_i6 204 rfl, tq_i1 0 rfl, by decide +kernel, rfl⟩, tq_i6 203 rfl⟩
abbrev mm_X11_apart : tq_MD := (yX11_apart, cX11_apart, 1, (some .int), [], 11)
theorem mf_X11_apart : tq_mV mm_X11_apart := ⟨⟨tq_i6 208 rfl, tq_i1 1 rfl, by decide +kernel, rfl⟩, tq_i6 206 rfl, tq_i6 207 rfl⟩
abbrev mm_L_height : tq_MD := (yL_height, cL_height, 5, (some .int), [(0, 10, 13, 31), (0, 10, 17, 22), (0, 10, 21, 53)], 13)
theorem mf_L_height : tq_mS mm_L_height := ⟨⟨tq_i6 212 rfl, tq_i1 0 rfl, by decide +kernel, rfl⟩, tq_i6 211 rfl⟩
abbrev mm_X11_height : tq_MD := (yX11_height, cX11_height, 3, (some .int), [], 11)
theorem mf_X11_height : tq_mV mm_X11_height := ⟨⟨tq_i6 216 rfl, tq_i1 1 rfl, by decide +kernel, rfl⟩, tq_i6 214 rfl, tq_i6 215 rfl⟩
abbrev mm_X7_heightAt : tq_MD := (yX7_heightAt, cX7_heightAt, 7, (some .int), [], 7)
theorem mf_X7_heightAt : tq_mV mm_X7_heightAt := ⟨⟨tq_i6 222 rfl, tq_i1 5 rfl, by decide +kernel, rfl⟩, tq_i6 221 rfl, List.mem_append_left _ (List.mem_of_getElem? (i := 115) (by decide +kernel))⟩
abbrev mm_L_cuts : tq_MD := (yL_cuts, cL_cuts, 3, (some .int), [(0, 8, 11, 53)], 13)
theorem mf_L_cuts : tq_mS mm_L_cuts := ⟨⟨tq_i6 225 rfl, tq_i1 0 rfl, by decide +kernel, rfl⟩, tq_i6 224 rfl⟩
abbrev mm_X11_cuts : tq_MD := (yX11_cuts, cX11_cuts, 1, (some .int), [], 11)
theorem mf_X11_cuts : tq_mV mm_X11_cuts := ⟨⟨tq_i6 229 rfl, tq_i1 1 rfl, by decide +kernel, rfl⟩, tq_i6 227 rfl, tq_i6 228 rfl⟩
abbrev mm_L_role : tq_MD := (yL_role, cL_role, 5, (some .int), [(0, 10, 13, 22)], 13)
theorem mf_L_role : tq_mS mm_L_role := ⟨⟨tq_i6 232 rfl, tq_i1 0 rfl, by decide +kernel, rfl⟩, tq_i6 231 rfl⟩
abbrev mm_X11_role : tq_MD := (yX11_role, cX11_role, 5, (some .char), [], 11)
theorem mf_X11_role : tq_mV mm_X11_role := ⟨⟨tq_i6 236 rfl, tq_i1 1 rfl, by decide +kernel, rfl⟩, tq_i6 234 rfl, tq_i6 235 rfl⟩
abbrev mm_L_roles : tq_MD := (yL_roles, cL_roles, 4, (some .int), [(0, 9, 12, 13)], 13)
theorem mf_L_roles : tq_mS mm_L_roles := ⟨⟨tq_i7 0 rfl, tq_i1 0 rfl, by decide +kernel, rfl⟩, tq_i6 239 rfl⟩
abbrev mm_X11_roles : tq_MD := (yX11_roles, cX11_roles, 4, (some .int), [], 11)
theorem mf_X11_roles : tq_mV mm_X11_roles := ⟨⟨tq_i7 4 rfl, tq_i1 1 rfl, by decide +kernel, rfl⟩, tq_i7 2 rfl, tq_i7 3 rfl⟩
abbrev mm_L_pieceCell : tq_MD := (yL_pieceCell, cL_pieceCell, 5, (some .int), [(0, 10, 13, 13), (0, 10, 17, 79)], 13)
theorem mf_L_pieceCell : tq_mS mm_L_pieceCell := ⟨⟨tq_i7 8 rfl, tq_i1 0 rfl, by decide +kernel, rfl⟩, tq_i7 7 rfl⟩
abbrev mm_X11_pieceCell : tq_MD := (yX11_pieceCell, cX11_pieceCell, 3, (some .int), [], 11)
theorem mf_X11_pieceCell : tq_mV mm_X11_pieceCell := ⟨⟨tq_i7 12 rfl, tq_i1 1 rfl, by decide +kernel, rfl⟩, tq_i7 10 rfl, tq_i7 11 rfl⟩
abbrev mm_X8_canType : tq_MD := (yX8_canType, cX8_canType, 3, (some .boolean), [], 8)
theorem mf_X8_canType : tq_mV mm_X8_canType := ⟨⟨tq_i7 17 rfl, tq_i1 8 rfl, by decide +kernel, rfl⟩, tq_i7 16 rfl, List.mem_append_left _ (List.mem_of_getElem? (i := 116) (by decide +kernel))⟩
abbrev mm_X8_bit : tq_MD := (yX8_bit, cX8_bit, 2, (some .long), [], 8)
theorem mf_X8_bit : tq_mS mm_X8_bit := ⟨⟨tq_i7 20 rfl, tq_i1 8 rfl, by decide +kernel, rfl⟩, tq_i7 19 rfl⟩
abbrev mm_X8_type : tq_MD := (yX8_type, cX8_type, 3, (some .int), [], 8)
theorem mf_X8_type : tq_mV mm_X8_type := ⟨⟨tq_i7 26 rfl, tq_i1 8 rfl, by decide +kernel, rfl⟩, tq_i7 25 rfl, List.mem_append_left _ (List.mem_of_getElem? (i := 117) (by decide +kernel))⟩
abbrev mm_L_kind : tq_MD := (yL_kind, cL_kind, 6, (some .int), [(0, 12, 15, 13), (0, 12, 19, 79), (0, 12, 23, 31)], 13)
theorem mf_L_kind : tq_mS mm_L_kind := ⟨⟨tq_i7 29 rfl, tq_i1 0 rfl, by decide +kernel, rfl⟩, tq_i7 28 rfl⟩
abbrev mm_X11_kind : tq_MD := (yX11_kind, cX11_kind, 5, (some .int), [], 11)
theorem mf_X11_kind : tq_mV mm_X11_kind := ⟨⟨tq_i7 33 rfl, tq_i1 1 rfl, by decide +kernel, rfl⟩, tq_i7 31 rfl, tq_i7 32 rfl⟩
abbrev mm_X8_canBeMade : tq_MD := (yX8_canBeMade, cX8_canBeMade, 1, (some .boolean), [], 8)
theorem mf_X8_canBeMade : tq_mV mm_X8_canBeMade := ⟨⟨tq_i7 38 rfl, tq_i1 8 rfl, by decide +kernel, rfl⟩, tq_i7 37 rfl, List.mem_append_left _ (List.mem_of_getElem? (i := 118) (by decide +kernel))⟩
abbrev mm_X8_makeShapes : tq_MD := (yX8_makeShapes, cX8_makeShapes, 9, (some .int), [], 8)
theorem mf_X8_makeShapes : tq_mV mm_X8_makeShapes := ⟨⟨tq_i7 43 rfl, tq_i1 8 rfl, by decide +kernel, rfl⟩, tq_i7 42 rfl, List.mem_append_left _ (List.mem_of_getElem? (i := 119) (by decide +kernel))⟩
abbrev mm_X8_hangsTogether : tq_MD := (yX8_hangsTogether, cX8_hangsTogether, 6, (some .boolean), [], 8)
theorem mf_X8_hangsTogether : tq_mV mm_X8_hangsTogether := ⟨⟨tq_i7 47 rfl, tq_i1 8 rfl, by decide +kernel, rfl⟩, tq_i7 46 rfl, List.mem_append_left _ (List.mem_of_getElem? (i := 120) (by decide +kernel))⟩
abbrev mm_X8_isShapeOfAny : tq_MD := (yX8_isShapeOfAny, cX8_isShapeOfAny, 4, (some .boolean), [], 8)
theorem mf_X8_isShapeOfAny : tq_mV mm_X8_isShapeOfAny := ⟨⟨tq_i7 55 rfl, tq_i1 8 rfl, by decide +kernel, rfl⟩, tq_i7 54 rfl, List.mem_append_left _ (List.mem_of_getElem? (i := 121) (by decide +kernel))⟩
abbrev mm_X8_isAmong : tq_MD := (yX8_isAmong, cX8_isAmong, 6, (some .boolean), [], 8)
theorem mf_X8_isAmong : tq_mV mm_X8_isAmong := ⟨⟨tq_i7 60 rfl, tq_i1 8 rfl, by decide +kernel, rfl⟩, tq_i7 59 rfl, List.mem_append_left _ (List.mem_of_getElem? (i := 122) (by decide +kernel))⟩
abbrev mm_X8_takeShapes : tq_MD := (yX8_takeShapes, cX8_takeShapes, 3, none, [], 8)
theorem mf_X8_takeShapes : tq_mV mm_X8_takeShapes := ⟨⟨tq_i7 65 rfl, tq_i1 8 rfl, by decide +kernel, rfl⟩, tq_i7 64 rfl, List.mem_append_left _ (List.mem_of_getElem? (i := 123) (by decide +kernel))⟩
abbrev mm_L_exact : tq_MD := (yL_exact, cL_exact, 3, (some .int), [(0, 8, 11, 31)], 13)
theorem mf_L_exact : tq_mS mm_L_exact := ⟨⟨tq_i7 68 rfl, tq_i1 0 rfl, by decide +kernel, rfl⟩, tq_i7 67 rfl⟩
abbrev mm_X11_exact : tq_MD := (yX11_exact, cX11_exact, 1, (some .int), [], 11)
theorem mf_X11_exact : tq_mV mm_X11_exact := ⟨⟨tq_i7 72 rfl, tq_i1 1 rfl, by decide +kernel, rfl⟩, tq_i7 70 rfl, tq_i7 71 rfl⟩
abbrev mm_L_unlike : tq_MD := (yL_unlike, cL_unlike, 3, (some .int), [(0, 8, 11, 31)], 13)
theorem mf_L_unlike : tq_mS mm_L_unlike := ⟨⟨tq_i7 76 rfl, tq_i1 0 rfl, by decide +kernel, rfl⟩, tq_i7 75 rfl⟩
abbrev mm_X11_unlike : tq_MD := (yX11_unlike, cX11_unlike, 1, (some .int), [], 11)
theorem mf_X11_unlike : tq_mV mm_X11_unlike := ⟨⟨tq_i7 80 rfl, tq_i1 1 rfl, by decide +kernel, rfl⟩, tq_i7 78 rfl, tq_i7 79 rfl⟩
abbrev mm_X4_countUnlike : tq_MD := (yX4_countUnlike, cX4_countUnlike, 6, (some .long), [], 4)
theorem mf_X4_countUnlike : tq_mV mm_X4_countUnlike := ⟨⟨tq_i7 85 rfl, tq_i1 9 rfl, by decide +kernel, rfl⟩, tq_i7 84 rfl, List.mem_append_left _ (List.mem_of_getElem? (i := 124) (by decide +kernel))⟩
abbrev mm_L_kindAt : tq_MD := (yL_kindAt, cL_kindAt, 6, (some .int), [(0, 12, 15, 31), (0, 12, 19, 53), (0, 12, 23, 22)], 13)
theorem mf_L_kindAt : tq_mS mm_L_kindAt := ⟨⟨tq_i7 90 rfl, tq_i1 0 rfl, by decide +kernel, rfl⟩, tq_i7 89 rfl⟩
abbrev mm_X11_kindAt : tq_MD := (yX11_kindAt, cX11_kindAt, 4, (some .int), [], 11)
theorem mf_X11_kindAt : tq_mV mm_X11_kindAt := ⟨⟨tq_i7 94 rfl, tq_i1 1 rfl, by decide +kernel, rfl⟩, tq_i7 92 rfl, tq_i7 93 rfl⟩
abbrev mm_X4_chosenKind : tq_MD := (yX4_chosenKind, cX4_chosenKind, 5, (some .int), [], 4)
theorem mf_X4_chosenKind : tq_mV mm_X4_chosenKind := ⟨⟨tq_i7 99 rfl, tq_i1 9 rfl, by decide +kernel, rfl⟩, tq_i7 98 rfl, List.mem_append_left _ (List.mem_of_getElem? (i := 125) (by decide +kernel))⟩
abbrev mm_L_strip : tq_MD := (yL_strip, cL_strip, 5, (some .int), [(0, 10, 13, 13)], 13)
theorem mf_L_strip : tq_mS mm_L_strip := ⟨⟨tq_i7 102 rfl, tq_i1 0 rfl, by decide +kernel, rfl⟩, tq_i7 101 rfl⟩
abbrev mm_X11_strip : tq_MD := (yX11_strip, cX11_strip, 3, (some .int), [], 11)
theorem mf_X11_strip : tq_mV mm_X11_strip := ⟨⟨tq_i7 106 rfl, tq_i1 1 rfl, by decide +kernel, rfl⟩, tq_i7 104 rfl, tq_i7 105 rfl⟩
abbrev mm_L_order : tq_MD := (yL_order, cL_order, 4, (some .int), [(0, 9, 12, 13)], 13)
theorem mf_L_order : tq_mS mm_L_order := ⟨⟨tq_i7 110 rfl, tq_i1 0 rfl, by decide +kernel, rfl⟩, tq_i7 109 rfl⟩
abbrev mm_X11_order : tq_MD := (yX11_order, cX11_order, 2, (some .int), [], 11)
theorem mf_X11_order : tq_mV mm_X11_order := ⟨⟨tq_i7 114 rfl, tq_i1 1 rfl, by decide +kernel, rfl⟩, tq_i7 112 rfl, tq_i7 113 rfl⟩
abbrev mm_L_rule : tq_MD := (yL_rule, cL_rule, 5, (some .int), [(0, 10, 13, 13), (0, 10, 17, 22)], 13)
theorem mf_L_rule : tq_mS mm_L_rule := ⟨⟨tq_i7 119 rfl, tq_i1 0 rfl, by decide +kernel, rfl⟩, tq_i7 118 rfl⟩
abbrev mm_X11_rule : tq_MD := (yX11_rule, cX11_rule, 3, (some .int), [], 11)
theorem mf_X11_rule : tq_mV mm_X11_rule := ⟨⟨tq_i7 123 rfl, tq_i1 1 rfl, by decide +kernel, rfl⟩, tq_i7 121 rfl, tq_i7 122 rfl⟩
abbrev mm_L_hexagon : tq_MD := (yL_hexagon, cL_hexagon, 6, (some .int), [(0, 12, 15, 13)], 13)
theorem mf_L_hexagon : tq_mS mm_L_hexagon := ⟨⟨tq_i7 128 rfl, tq_i1 0 rfl, by decide +kernel, rfl⟩, tq_i7 127 rfl⟩
abbrev mm_X11_hexagon : tq_MD := (yX11_hexagon, cX11_hexagon, 4, (some .int), [], 11)
theorem mf_X11_hexagon : tq_mV mm_X11_hexagon := ⟨⟨tq_i7 132 rfl, tq_i1 1 rfl, by decide +kernel, rfl⟩, tq_i7 130 rfl, tq_i7 131 rfl⟩
abbrev mm_X11_areSides : tq_MD := (yX11_areSides, cX11_areSides, 3, (some .boolean), [], 11)
theorem mf_X11_areSides : tq_mS mm_X11_areSides := ⟨⟨tq_i7 135 rfl, tq_i1 1 rfl, by decide +kernel, rfl⟩, tq_i7 134 rfl⟩
abbrev mm_L_heaps : tq_MD := (yL_heaps, cL_heaps, 6, (some .int), [(0, 12, 15, 13)], 13)
theorem mf_L_heaps : tq_mS mm_L_heaps := ⟨⟨tq_i7 139 rfl, tq_i1 0 rfl, by decide +kernel, rfl⟩, tq_i7 138 rfl⟩
abbrev mm_X11_heaps : tq_MD := (yX11_heaps, cX11_heaps, 4, (some .int), [], 11)
theorem mf_X11_heaps : tq_mV mm_X11_heaps := ⟨⟨tq_i7 143 rfl, tq_i1 1 rfl, by decide +kernel, rfl⟩, tq_i7 141 rfl, tq_i7 142 rfl⟩
abbrev mm_L_rooks : tq_MD := (yL_rooks, cL_rooks, 4, (some .int), [(0, 9, 12, 13)], 13)
theorem mf_L_rooks : tq_mS mm_L_rooks := ⟨⟨tq_i7 146 rfl, tq_i1 0 rfl, by decide +kernel, rfl⟩, tq_i7 145 rfl⟩
abbrev mm_X11_rooks : tq_MD := (yX11_rooks, cX11_rooks, 2, (some .int), [], 11)
theorem mf_X11_rooks : tq_mV mm_X11_rooks := ⟨⟨tq_i7 150 rfl, tq_i1 1 rfl, by decide +kernel, rfl⟩, tq_i7 148 rfl, tq_i7 149 rfl⟩
abbrev mm_X10_countRooks : tq_MD := (yX10_countRooks, cX10_countRooks, 5, (some .long), [], 10)
theorem mf_X10_countRooks : tq_mV mm_X10_countRooks := ⟨⟨tq_i7 155 rfl, tq_i1 11 rfl, by decide +kernel, rfl⟩, tq_i7 154 rfl, List.mem_append_left _ (List.mem_of_getElem? (i := 126) (by decide +kernel))⟩
abbrev mm_L_loops : tq_MD := (yL_loops, cL_loops, 3, (some .int), [(0, 8, 11, 31)], 13)
theorem mf_L_loops : tq_mS mm_L_loops := ⟨⟨tq_i7 158 rfl, tq_i1 0 rfl, by decide +kernel, rfl⟩, tq_i7 157 rfl⟩
abbrev mm_X11_loops : tq_MD := (yX11_loops, cX11_loops, 1, (some .int), [], 11)
theorem mf_X11_loops : tq_mV mm_X11_loops := ⟨⟨tq_i7 162 rfl, tq_i1 1 rfl, by decide +kernel, rfl⟩, tq_i7 160 rfl, tq_i7 161 rfl⟩
abbrev mm_X10_countLoops : tq_MD := (yX10_countLoops, cX10_countLoops, 5, (some .long), [], 10)
theorem mf_X10_countLoops : tq_mV mm_X10_countLoops := ⟨⟨tq_i7 167 rfl, tq_i1 11 rfl, by decide +kernel, rfl⟩, tq_i7 166 rfl, List.mem_append_left _ (List.mem_of_getElem? (i := 127) (by decide +kernel))⟩
abbrev mm_X10_add : tq_MD := (yX10_add, cX10_add, 7, none, [], 10)
theorem mf_X10_add : tq_mV mm_X10_add := ⟨⟨tq_i7 171 rfl, tq_i1 11 rfl, by decide +kernel, rfl⟩, tq_i7 170 rfl, List.mem_append_left _ (List.mem_of_getElem? (i := 128) (by decide +kernel))⟩
abbrev mm_X10_passCell : tq_MD := (yX10_passCell, cX10_passCell, 11, none, [], 10)
theorem mf_X10_passCell : tq_mV mm_X10_passCell := ⟨⟨tq_i7 179 rfl, tq_i1 11 rfl, by decide +kernel, rfl⟩, tq_i7 178 rfl, List.mem_append_left _ (List.mem_of_getElem? (i := 129) (by decide +kernel))⟩
abbrev mm_X10_join : tq_MD := (yX10_join, cX10_join, 8, none, [], 10)
theorem mf_X10_join : tq_mV mm_X10_join := ⟨⟨tq_i7 184 rfl, tq_i1 11 rfl, by decide +kernel, rfl⟩, tq_i7 183 rfl, List.mem_append_left _ (List.mem_of_getElem? (i := 130) (by decide +kernel))⟩
abbrev mm_X10_mateOf : tq_MD := (yX10_mateOf, cX10_mateOf, 8, (some .int), [], 10)
theorem mf_X10_mateOf : tq_mS mm_X10_mateOf := ⟨⟨tq_i7 187 rfl, tq_i1 11 rfl, by decide +kernel, rfl⟩, tq_i7 186 rfl⟩
abbrev mm_L_share : tq_MD := (yL_share, cL_share, 6, (some .int), [(0, 12, 15, 22), (0, 12, 19, 141)], 13)
theorem mf_L_share : tq_mS mm_L_share := ⟨⟨tq_i7 190 rfl, tq_i1 0 rfl, by decide +kernel, rfl⟩, tq_i7 189 rfl⟩
abbrev mm_X11_share : tq_MD := (yX11_share, cX11_share, 6, (some .float), [], 11)
theorem mf_X11_share : tq_mV mm_X11_share := ⟨⟨tq_i7 208 rfl, tq_i1 1 rfl, by decide +kernel, rfl⟩, tq_i7 206 rfl, tq_i7 207 rfl⟩
abbrev mm_L_meanPart : tq_MD := (yL_meanPart, cL_meanPart, 3, (some .int), [(0, 7, 10, 141)], 13)
theorem mf_L_meanPart : tq_mS mm_L_meanPart := ⟨⟨tq_i7 214 rfl, tq_i1 0 rfl, by decide +kernel, rfl⟩, tq_i7 213 rfl⟩
abbrev mm_X11_meanPart : tq_MD := (yX11_meanPart, cX11_meanPart, 2, (some .double), [], 11)
theorem mf_X11_meanPart : tq_mV mm_X11_meanPart := ⟨⟨tq_i7 218 rfl, tq_i1 1 rfl, by decide +kernel, rfl⟩, tq_i7 216 rfl, tq_i7 217 rfl⟩
abbrev mm_X12_thrown : tq_MD := (yX12_thrown, cX12_thrown, 1, (some .int), [], 12)
theorem mf_X12_thrown : tq_mV mm_X12_thrown := ⟨⟨tq_i8 159 rfl, tq_i1 13 rfl, by decide +kernel, rfl⟩, tq_i8 157 rfl, tq_i8 158 rfl⟩
abbrev mm_X12_board : tq_MD := (yX12_board, cX12_board, 3, (some .int), [], 12)
theorem mf_X12_board : tq_mV mm_X12_board := ⟨⟨tq_i8 163 rfl, tq_i1 13 rfl, by decide +kernel, rfl⟩, tq_i8 161 rfl, tq_i8 162 rfl⟩
abbrev mm_X12_isIn : tq_MD := (yX12_isIn, cX12_isIn, 3, (some .boolean), [], 12)
theorem mf_X12_isIn : tq_mS mm_X12_isIn := ⟨⟨tq_i8 166 rfl, tq_i1 13 rfl, by decide +kernel, rfl⟩, tq_i8 165 rfl⟩
abbrev mm_X12_isThrown : tq_MD := (yX12_isThrown, cX12_isThrown, 3, (some .boolean), [], 12)
theorem mf_X12_isThrown : tq_mV mm_X12_isThrown := ⟨⟨tq_i8 170 rfl, tq_i1 13 rfl, by decide +kernel, rfl⟩, tq_i8 169 rfl, List.mem_append_left _ (List.mem_of_getElem? (i := 131) (by decide +kernel))⟩
abbrev mm_X12_rectangle : tq_MD := (yX12_rectangle, cX12_rectangle, 5, none, [], 12)
theorem mf_X12_rectangle : tq_mV mm_X12_rectangle := ⟨⟨tq_i8 174 rfl, tq_i1 13 rfl, by decide +kernel, rfl⟩, tq_i8 173 rfl, List.mem_append_left _ (List.mem_of_getElem? (i := 132) (by decide +kernel))⟩
abbrev mm_X12_anew : tq_MD := (yX12_anew, cX12_anew, 1, none, [], 12)
theorem mf_X12_anew : tq_mV mm_X12_anew := ⟨⟨tq_i8 178 rfl, tq_i1 13 rfl, by decide +kernel, rfl⟩, tq_i8 177 rfl, List.mem_append_left _ (List.mem_of_getElem? (i := 133) (by decide +kernel))⟩
abbrev mm_X12_many : tq_MD := (yX12_many, cX12_many, 3, (some .int), [], 12)
theorem mf_X12_many : tq_mV mm_X12_many := ⟨⟨tq_i8 182 rfl, tq_i1 13 rfl, by decide +kernel, rfl⟩, tq_i8 181 rfl, List.mem_append_left _ (List.mem_of_getElem? (i := 134) (by decide +kernel))⟩
abbrev mm_X12_form : tq_MD := (yX12_form, cX12_form, 9, (some .int), [], 12)
theorem mf_X12_form : tq_mV mm_X12_form := ⟨⟨tq_i8 186 rfl, tq_i1 13 rfl, by decide +kernel, rfl⟩, tq_i8 184 rfl, tq_i8 185 rfl⟩
abbrev mm_X12_has : tq_MD := (yX12_has, cX12_has, 3, (some .boolean), [], 12)
theorem mf_X12_has : tq_mV mm_X12_has := ⟨⟨tq_i8 190 rfl, tq_i1 13 rfl, by decide +kernel, rfl⟩, tq_i8 188 rfl, tq_i8 189 rfl⟩
abbrev mm_X12_isCell : tq_MD := (yX12_isCell, cX12_isCell, 3, (some .boolean), [], 12)
theorem mf_X12_isCell : tq_mV mm_X12_isCell := ⟨⟨tq_i8 194 rfl, tq_i1 13 rfl, by decide +kernel, rfl⟩, tq_i8 193 rfl, List.mem_append_left _ (List.mem_of_getElem? (i := 135) (by decide +kernel))⟩
abbrev mm_X12_cut : tq_MD := (yX12_cut, cX12_cut, 3, (some .int), [], 12)
theorem mf_X12_cut : tq_mV mm_X12_cut := ⟨⟨tq_i8 198 rfl, tq_i1 13 rfl, by decide +kernel, rfl⟩, tq_i8 196 rfl, tq_i8 197 rfl⟩
abbrev mm_X12_fill : tq_MD := (yX12_fill, cX12_fill, 3, (some .int), [], 12)
theorem mf_X12_fill : tq_mV mm_X12_fill := ⟨⟨tq_i8 202 rfl, tq_i1 13 rfl, by decide +kernel, rfl⟩, tq_i8 200 rfl, tq_i8 201 rfl⟩
abbrev mm_X12_roll : tq_MD := (yX12_roll, cX12_roll, 3, (some .boolean), [], 12)
theorem mf_X12_roll : tq_mV mm_X12_roll := ⟨⟨tq_i8 206 rfl, tq_i1 13 rfl, by decide +kernel, rfl⟩, tq_i8 204 rfl, tq_i8 205 rfl⟩
abbrev mm_X12_cells : tq_MD := (yX12_cells, cX12_cells, 4, (some .int), [], 12)
theorem mf_X12_cells : tq_mV mm_X12_cells := ⟨⟨tq_i8 210 rfl, tq_i1 13 rfl, by decide +kernel, rfl⟩, tq_i8 208 rfl, tq_i8 209 rfl⟩
abbrev mm_X12_isDark : tq_MD := (yX12_isDark, cX12_isDark, 2, (some .boolean), [], 12)
theorem mf_X12_isDark : tq_mS mm_X12_isDark := ⟨⟨tq_i8 213 rfl, tq_i1 13 rfl, by decide +kernel, rfl⟩, tq_i8 212 rfl⟩
abbrev mm_X12_parts : tq_MD := (yX12_parts, cX12_parts, 1, (some .int), [], 12)
theorem mf_X12_parts : tq_mV mm_X12_parts := ⟨⟨tq_i8 217 rfl, tq_i1 13 rfl, by decide +kernel, rfl⟩, tq_i8 215 rfl, tq_i8 216 rfl⟩
abbrev mm_X12_partsOf : tq_MD := (yX12_partsOf, cX12_partsOf, 6, (some .int), [], 12)
theorem mf_X12_partsOf : tq_mV mm_X12_partsOf := ⟨⟨tq_i8 221 rfl, tq_i1 13 rfl, by decide +kernel, rfl⟩, tq_i8 220 rfl, List.mem_append_left _ (List.mem_of_getElem? (i := 136) (by decide +kernel))⟩
abbrev mm_X12_noneSeen : tq_MD := (yX12_noneSeen, cX12_noneSeen, 2, none, [], 12)
theorem mf_X12_noneSeen : tq_mV mm_X12_noneSeen := ⟨⟨tq_i8 225 rfl, tq_i1 13 rfl, by decide +kernel, rfl⟩, tq_i8 224 rfl, List.mem_append_left _ (List.mem_of_getElem? (i := 137) (by decide +kernel))⟩
abbrev mm_X12_see : tq_MD := (yX12_see, cX12_see, 2, none, [], 12)
theorem mf_X12_see : tq_mV mm_X12_see := ⟨⟨tq_i8 229 rfl, tq_i1 13 rfl, by decide +kernel, rfl⟩, tq_i8 228 rfl, List.mem_append_left _ (List.mem_of_getElem? (i := 138) (by decide +kernel))⟩
abbrev mm_X12_beside : tq_MD := (yX12_beside, cX12_beside, 5, (some .int), [], 12)
theorem mf_X12_beside : tq_mV mm_X12_beside := ⟨⟨tq_i8 233 rfl, tq_i1 13 rfl, by decide +kernel, rfl⟩, tq_i8 232 rfl, List.mem_append_left _ (List.mem_of_getElem? (i := 139) (by decide +kernel))⟩
abbrev mm_X12_holes : tq_MD := (yX12_holes, cX12_holes, 1, (some .int), [], 12)
theorem mf_X12_holes : tq_mV mm_X12_holes := ⟨⟨tq_i8 237 rfl, tq_i1 13 rfl, by decide +kernel, rfl⟩, tq_i8 235 rfl, tq_i8 236 rfl⟩
abbrev mm_X12_holesOf : tq_MD := (yX12_holesOf, cX12_holesOf, 5, (some .int), [], 12)
theorem mf_X12_holesOf : tq_mV mm_X12_holesOf := ⟨⟨tq_i9 1 rfl, tq_i1 13 rfl, by decide +kernel, rfl⟩, tq_i9 0 rfl, List.mem_append_left _ (List.mem_of_getElem? (i := 140) (by decide +kernel))⟩
abbrev mm_X12_isWithin : tq_MD := (yX12_isWithin, cX12_isWithin, 6, (some .boolean), [], 12)
theorem mf_X12_isWithin : tq_mV mm_X12_isWithin := ⟨⟨tq_i9 5 rfl, tq_i1 13 rfl, by decide +kernel, rfl⟩, tq_i9 4 rfl, List.mem_append_left _ (List.mem_of_getElem? (i := 141) (by decide +kernel))⟩
abbrev mm_X12_covers : tq_MD := (yX12_covers, cX12_covers, 1, (some .int), [], 12)
theorem mf_X12_covers : tq_mV mm_X12_covers := ⟨⟨tq_i9 9 rfl, tq_i1 13 rfl, by decide +kernel, rfl⟩, tq_i9 7 rfl, tq_i9 8 rfl⟩
abbrev mm_X12_countAll : tq_MD := (yX12_countAll, cX12_countAll, 1, (some .long), [], 12)
theorem mf_X12_countAll : tq_mV mm_X12_countAll := ⟨⟨tq_i9 13 rfl, tq_i1 13 rfl, by decide +kernel, rfl⟩, tq_i9 12 rfl, List.mem_append_left _ (List.mem_of_getElem? (i := 142) (by decide +kernel))⟩
abbrev mm_X12_all : tq_MD := (yX12_all, cX12_all, 2, none, [], 12)
theorem mf_X12_all : tq_mV mm_X12_all := ⟨⟨tq_i9 17 rfl, tq_i1 13 rfl, by decide +kernel, rfl⟩, tq_i9 16 rfl, List.mem_append_left _ (List.mem_of_getElem? (i := 143) (by decide +kernel))⟩
abbrev mm_X12_count : tq_MD := (yX12_count, cX12_count, 4, (some .long), [], 12)
theorem mf_X12_count : tq_mV mm_X12_count := ⟨⟨tq_i9 21 rfl, tq_i1 13 rfl, by decide +kernel, rfl⟩, tq_i9 20 rfl, List.mem_append_left _ (List.mem_of_getElem? (i := 144) (by decide +kernel))⟩
abbrev mm_X12_fillRow : tq_MD := (yX12_fillRow, cX12_fillRow, 7, none, [], 12)
theorem mf_X12_fillRow : tq_mV mm_X12_fillRow := ⟨⟨tq_i9 25 rfl, tq_i1 13 rfl, by decide +kernel, rfl⟩, tq_i9 24 rfl, List.mem_append_left _ (List.mem_of_getElem? (i := 145) (by decide +kernel))⟩
abbrev mm_X12_isLeft : tq_MD := (yX12_isLeft, cX12_isLeft, 3, (some .boolean), [], 12)
theorem mf_X12_isLeft : tq_mV mm_X12_isLeft := ⟨⟨tq_i9 29 rfl, tq_i1 13 rfl, by decide +kernel, rfl⟩, tq_i9 28 rfl, List.mem_append_left _ (List.mem_of_getElem? (i := 146) (by decide +kernel))⟩
abbrev mm_X12_put : tq_MD := (yX12_put, cX12_put, 3, (some .int), [], 12)
theorem mf_X12_put : tq_mV mm_X12_put := ⟨⟨tq_i9 33 rfl, tq_i1 13 rfl, by decide +kernel, rfl⟩, tq_i9 32 rfl, List.mem_append_left _ (List.mem_of_getElem? (i := 147) (by decide +kernel))⟩
abbrev mm_X12_putDigits : tq_MD := (yX12_putDigits, cX12_putDigits, 3, none, [], 12)
theorem mf_X12_putDigits : tq_mV mm_X12_putDigits := ⟨⟨tq_i9 37 rfl, tq_i1 13 rfl, by decide +kernel, rfl⟩, tq_i9 36 rfl, List.mem_append_left _ (List.mem_of_getElem? (i := 148) (by decide +kernel))⟩
abbrev mm_X12_putSign : tq_MD := (yX12_putSign, cX12_putSign, 2, none, [], 12)
theorem mf_X12_putSign : tq_mV mm_X12_putSign := ⟨⟨tq_i9 41 rfl, tq_i1 13 rfl, by decide +kernel, rfl⟩, tq_i9 40 rfl, List.mem_append_left _ (List.mem_of_getElem? (i := 149) (by decide +kernel))⟩
abbrev mm_X12_bySigns : tq_MD := (yX12_bySigns, cX12_bySigns, 1, (some .int), [], 12)
theorem mf_X12_bySigns : tq_mV mm_X12_bySigns := ⟨⟨tq_i9 47 rfl, tq_i1 13 rfl, by decide +kernel, rfl⟩, tq_i9 45 rfl, tq_i9 46 rfl⟩
abbrev mm_X12_isRolledOrHoled : tq_MD := (yX12_isRolledOrHoled, cX12_isRolledOrHoled, 2, (some .boolean), [], 12)
theorem mf_X12_isRolledOrHoled : tq_mV mm_X12_isRolledOrHoled := ⟨⟨tq_i9 51 rfl, tq_i1 13 rfl, by decide +kernel, rfl⟩, tq_i9 50 rfl, List.mem_append_left _ (List.mem_of_getElem? (i := 150) (by decide +kernel))⟩
abbrev mm_X12_having : tq_MD := (yX12_having, cX12_having, 5, (some .int), [], 12)
theorem mf_X12_having : tq_mV mm_X12_having := ⟨⟨tq_i9 55 rfl, tq_i1 13 rfl, by decide +kernel, rfl⟩, tq_i9 53 rfl, tq_i9 54 rfl⟩
abbrev mm_X12_pieceOther : tq_MD := (yX12_pieceOther, cX12_pieceOther, 5, (some .int), [], 12)
theorem mf_X12_pieceOther : tq_mV mm_X12_pieceOther := ⟨⟨tq_i9 59 rfl, tq_i1 13 rfl, by decide +kernel, rfl⟩, tq_i9 58 rfl, List.mem_append_left _ (List.mem_of_getElem? (i := 151) (by decide +kernel))⟩
abbrev mm_X12_countWith : tq_MD := (yX12_countWith, cX12_countWith, 3, (some .long), [], 12)
theorem mf_X12_countWith : tq_mV mm_X12_countWith := ⟨⟨tq_i9 63 rfl, tq_i1 13 rfl, by decide +kernel, rfl⟩, tq_i9 62 rfl, List.mem_append_left _ (List.mem_of_getElem? (i := 152) (by decide +kernel))⟩
abbrev mm_X12_share : tq_MD := (yX12_share, cX12_share, 7, (some .float), [], 12)
theorem mf_X12_share : tq_mV mm_X12_share := ⟨⟨tq_i9 67 rfl, tq_i1 13 rfl, by decide +kernel, rfl⟩, tq_i9 65 rfl, tq_i9 66 rfl⟩
abbrev mm_X12_signAt : tq_MD := (yX12_signAt, cX12_signAt, 2, (some .char), [], 12)
theorem mf_X12_signAt : tq_mV mm_X12_signAt := ⟨⟨tq_i9 71 rfl, tq_i1 13 rfl, by decide +kernel, rfl⟩, tq_i9 69 rfl, tq_i9 70 rfl⟩
abbrev mm_X12_draw : tq_MD := (yX12_draw, cX12_draw, 5, (some .int), [], 12)
theorem mf_X12_draw : tq_mV mm_X12_draw := ⟨⟨tq_i9 75 rfl, tq_i1 13 rfl, by decide +kernel, rfl⟩, tq_i9 73 rfl, tq_i9 74 rfl⟩
abbrev mm_X12_keepUndo : tq_MD := (yX12_keepUndo, cX12_keepUndo, 3, none, [], 12)
theorem mf_X12_keepUndo : tq_mV mm_X12_keepUndo := ⟨⟨tq_i9 79 rfl, tq_i1 13 rfl, by decide +kernel, rfl⟩, tq_i9 78 rfl, List.mem_append_left _ (List.mem_of_getElem? (i := 153) (by decide +kernel))⟩
abbrev mm_X12_make : tq_MD := (yX12_make, cX12_make, 13, none, [], 12)
theorem mf_X12_make : tq_mV mm_X12_make := ⟨⟨tq_i9 83 rfl, tq_i1 13 rfl, by decide +kernel, rfl⟩, tq_i9 82 rfl, List.mem_append_left _ (List.mem_of_getElem? (i := 154) (by decide +kernel))⟩
abbrev mm_X12_choice : tq_MD := (yX12_choice, cX12_choice, 6, (some .int), [], 12)
theorem mf_X12_choice : tq_mV mm_X12_choice := ⟨⟨tq_i9 87 rfl, tq_i1 13 rfl, by decide +kernel, rfl⟩, tq_i9 86 rfl, List.mem_append_left _ (List.mem_of_getElem? (i := 155) (by decide +kernel))⟩
abbrev mm_X12_take : tq_MD := (yX12_take, cX12_take, 4, none, [], 12)
theorem mf_X12_take : tq_mV mm_X12_take := ⟨⟨tq_i9 91 rfl, tq_i1 13 rfl, by decide +kernel, rfl⟩, tq_i9 90 rfl, List.mem_append_left _ (List.mem_of_getElem? (i := 156) (by decide +kernel))⟩
abbrev mm_X12_lay : tq_MD := (yX12_lay, cX12_lay, 4, none, [], 12)
theorem mf_X12_lay : tq_mV mm_X12_lay := ⟨⟨tq_i9 95 rfl, tq_i1 13 rfl, by decide +kernel, rfl⟩, tq_i9 94 rfl, List.mem_append_left _ (List.mem_of_getElem? (i := 157) (by decide +kernel))⟩
abbrev mm_X12_next : tq_MD := (yX12_next, cX12_next, 5, (some .boolean), [], 12)
theorem mf_X12_next : tq_mV mm_X12_next := ⟨⟨tq_i9 99 rfl, tq_i1 13 rfl, by decide +kernel, rfl⟩, tq_i9 97 rfl, tq_i9 98 rfl⟩
abbrev mm_X12_hasNone : tq_MD := (yX12_hasNone, cX12_hasNone, 2, (some .boolean), [], 12)
theorem mf_X12_hasNone : tq_mV mm_X12_hasNone := ⟨⟨tq_i9 103 rfl, tq_i1 13 rfl, by decide +kernel, rfl⟩, tq_i9 102 rfl, List.mem_append_left _ (List.mem_of_getElem? (i := 158) (by decide +kernel))⟩
abbrev mm_X12_numberOf : tq_MD := (yX12_numberOf, cX12_numberOf, 9, (some .long), [], 12)
theorem mf_X12_numberOf : tq_mV mm_X12_numberOf := ⟨⟨tq_i9 107 rfl, tq_i1 13 rfl, by decide +kernel, rfl⟩, tq_i9 106 rfl, List.mem_append_left _ (List.mem_of_getElem? (i := 159) (by decide +kernel))⟩
abbrev mm_X12_previous : tq_MD := (yX12_previous, cX12_previous, 5, (some .boolean), [], 12)
theorem mf_X12_previous : tq_mV mm_X12_previous := ⟨⟨tq_i9 111 rfl, tq_i1 13 rfl, by decide +kernel, rfl⟩, tq_i9 109 rfl, tq_i9 110 rfl⟩
abbrev mm_X12_number : tq_MD := (yX12_number, cX12_number, 1, (some .int), [], 12)
theorem mf_X12_number : tq_mV mm_X12_number := ⟨⟨tq_i9 115 rfl, tq_i1 13 rfl, by decide +kernel, rfl⟩, tq_i9 113 rfl, tq_i9 114 rfl⟩
abbrev mm_X12_other : tq_MD := (yX12_other, cX12_other, 3, (some .char), [], 12)
theorem mf_X12_other : tq_mV mm_X12_other := ⟨⟨tq_i9 119 rfl, tq_i1 13 rfl, by decide +kernel, rfl⟩, tq_i9 117 rfl, tq_i9 118 rfl⟩
abbrev mm_X12_flips : tq_MD := (yX12_flips, cX12_flips, 1, (some .int), [], 12)
theorem mf_X12_flips : tq_mV mm_X12_flips := ⟨⟨tq_i9 123 rfl, tq_i1 13 rfl, by decide +kernel, rfl⟩, tq_i9 121 rfl, tq_i9 122 rfl⟩
abbrev mm_X12_flipsOf : tq_MD := (yX12_flipsOf, cX12_flipsOf, 3, (some .int), [], 12)
theorem mf_X12_flipsOf : tq_mV mm_X12_flipsOf := ⟨⟨tq_i9 127 rfl, tq_i1 13 rfl, by decide +kernel, rfl⟩, tq_i9 126 rfl, List.mem_append_left _ (List.mem_of_getElem? (i := 160) (by decide +kernel))⟩
abbrev mm_X12_isFlip : tq_MD := (yX12_isFlip, cX12_isFlip, 7, (some .boolean), [], 12)
theorem mf_X12_isFlip : tq_mV mm_X12_isFlip := ⟨⟨tq_i9 131 rfl, tq_i1 13 rfl, by decide +kernel, rfl⟩, tq_i9 130 rfl, List.mem_append_left _ (List.mem_of_getElem? (i := 161) (by decide +kernel))⟩
abbrev mm_X12_flip : tq_MD := (yX12_flip, cX12_flip, 5, (some .int), [], 12)
theorem mf_X12_flip : tq_mV mm_X12_flip := ⟨⟨tq_i9 135 rfl, tq_i1 13 rfl, by decide +kernel, rfl⟩, tq_i9 133 rfl, tq_i9 134 rfl⟩
abbrev mm_X12_undo : tq_MD := (yX12_undo, cX12_undo, 2, (some .int), [], 12)
theorem mf_X12_undo : tq_mV mm_X12_undo := ⟨⟨tq_i9 139 rfl, tq_i1 13 rfl, by decide +kernel, rfl⟩, tq_i9 137 rfl, tq_i9 138 rfl⟩
abbrev mm_X12_cuts : tq_MD := (yX12_cuts, cX12_cuts, 1, (some .int), [], 12)
theorem mf_X12_cuts : tq_mV mm_X12_cuts := ⟨⟨tq_i9 143 rfl, tq_i1 13 rfl, by decide +kernel, rfl⟩, tq_i9 141 rfl, tq_i9 142 rfl⟩
abbrev mm_X12_cutsOf : tq_MD := (yX12_cutsOf, cX12_cutsOf, 5, (some .int), [], 12)
theorem mf_X12_cutsOf : tq_mV mm_X12_cutsOf := ⟨⟨tq_i9 147 rfl, tq_i1 13 rfl, by decide +kernel, rfl⟩, tq_i9 146 rfl, List.mem_append_left _ (List.mem_of_getElem? (i := 162) (by decide +kernel))⟩
abbrev mm_X12_keep : tq_MD := (yX12_keep, cX12_keep, 2, (some .int), [], 12)
theorem mf_X12_keep : tq_mV mm_X12_keep := ⟨⟨tq_i9 151 rfl, tq_i1 13 rfl, by decide +kernel, rfl⟩, tq_i9 149 rfl, tq_i9 150 rfl⟩
abbrev mm_X12_apart : tq_MD := (yX12_apart, cX12_apart, 4, (some .int), [], 12)
theorem mf_X12_apart : tq_mV mm_X12_apart := ⟨⟨tq_i9 155 rfl, tq_i1 13 rfl, by decide +kernel, rfl⟩, tq_i9 153 rfl, tq_i9 154 rfl⟩
abbrev mm_X12_exchange : tq_MD := (yX12_exchange, cX12_exchange, 3, none, [], 12)
theorem mf_X12_exchange : tq_mV mm_X12_exchange := ⟨⟨tq_i9 159 rfl, tq_i1 13 rfl, by decide +kernel, rfl⟩, tq_i9 158 rfl, List.mem_append_left _ (List.mem_of_getElem? (i := 163) (by decide +kernel))⟩
abbrev mm_X12_tellHeights : tq_MD := (yX12_tellHeights, cX12_tellHeights, 3, none, [], 12)
theorem mf_X12_tellHeights : tq_mV mm_X12_tellHeights := ⟨⟨tq_i9 163 rfl, tq_i1 13 rfl, by decide +kernel, rfl⟩, tq_i9 162 rfl, List.mem_append_left _ (List.mem_of_getElem? (i := 164) (by decide +kernel))⟩
abbrev mm_X12_isCorner : tq_MD := (yX12_isCorner, cX12_isCorner, 3, (some .boolean), [], 12)
theorem mf_X12_isCorner : tq_mV mm_X12_isCorner := ⟨⟨tq_i9 168 rfl, tq_i1 13 rfl, by decide +kernel, rfl⟩, tq_i9 167 rfl, List.mem_append_left _ (List.mem_of_getElem? (i := 165) (by decide +kernel))⟩
abbrev mm_X12_tellFrom : tq_MD := (yX12_tellFrom, cX12_tellFrom, 11, none, [], 12)
theorem mf_X12_tellFrom : tq_mV mm_X12_tellFrom := ⟨⟨tq_i9 172 rfl, tq_i1 13 rfl, by decide +kernel, rfl⟩, tq_i9 171 rfl, List.mem_append_left _ (List.mem_of_getElem? (i := 166) (by decide +kernel))⟩
abbrev mm_X12_along : tq_MD := (yX12_along, cX12_along, 11, (some .int), [], 12)
theorem mf_X12_along : tq_mV mm_X12_along := ⟨⟨tq_i9 176 rfl, tq_i1 13 rfl, by decide +kernel, rfl⟩, tq_i9 175 rfl, List.mem_append_left _ (List.mem_of_getElem? (i := 167) (by decide +kernel))⟩
abbrev mm_X12_height : tq_MD := (yX12_height, cX12_height, 3, (some .int), [], 12)
theorem mf_X12_height : tq_mV mm_X12_height := ⟨⟨tq_i9 180 rfl, tq_i1 13 rfl, by decide +kernel, rfl⟩, tq_i9 178 rfl, tq_i9 179 rfl⟩
abbrev mm_X12_free : tq_MD := (yX12_free, cX12_free, 1, (some .int), [], 12)
theorem mf_X12_free : tq_mV mm_X12_free := ⟨⟨tq_i9 184 rfl, tq_i1 13 rfl, by decide +kernel, rfl⟩, tq_i9 182 rfl, tq_i9 183 rfl⟩
abbrev mm_X12_most : tq_MD := (yX12_most, cX12_most, 4, (some .int), [], 12)
theorem mf_X12_most : tq_mV mm_X12_most := ⟨⟨tq_i9 188 rfl, tq_i1 13 rfl, by decide +kernel, rfl⟩, tq_i9 187 rfl, List.mem_append_left _ (List.mem_of_getElem? (i := 168) (by decide +kernel))⟩
abbrev mm_X12_isThere : tq_MD := (yX12_isThere, cX12_isThere, 2, (some .boolean), [], 12)
theorem mf_X12_isThere : tq_mV mm_X12_isThere := ⟨⟨tq_i9 192 rfl, tq_i1 13 rfl, by decide +kernel, rfl⟩, tq_i9 191 rfl, List.mem_append_left _ (List.mem_of_getElem? (i := 169) (by decide +kernel))⟩
abbrev mm_X12_finds : tq_MD := (yX12_finds, cX12_finds, 4, (some .boolean), [], 12)
theorem mf_X12_finds : tq_mV mm_X12_finds := ⟨⟨tq_i9 196 rfl, tq_i1 13 rfl, by decide +kernel, rfl⟩, tq_i9 195 rfl, List.mem_append_left _ (List.mem_of_getElem? (i := 170) (by decide +kernel))⟩
abbrev mm_X12_role : tq_MD := (yX12_role, cX12_role, 3, (some .char), [], 12)
theorem mf_X12_role : tq_mV mm_X12_role := ⟨⟨tq_i9 200 rfl, tq_i1 13 rfl, by decide +kernel, rfl⟩, tq_i9 198 rfl, tq_i9 199 rfl⟩
abbrev mm_X12_roleOf : tq_MD := (yX12_roleOf, cX12_roleOf, 5, (some .char), [], 12)
theorem mf_X12_roleOf : tq_mV mm_X12_roleOf := ⟨⟨tq_i9 204 rfl, tq_i1 13 rfl, by decide +kernel, rfl⟩, tq_i9 203 rfl, List.mem_append_left _ (List.mem_of_getElem? (i := 171) (by decide +kernel))⟩
abbrev mm_X12_roles : tq_MD := (yX12_roles, cX12_roles, 5, (some .int), [], 12)
theorem mf_X12_roles : tq_mV mm_X12_roles := ⟨⟨tq_i9 208 rfl, tq_i1 13 rfl, by decide +kernel, rfl⟩, tq_i9 206 rfl, tq_i9 207 rfl⟩
abbrev mm_X12_pieceCell : tq_MD := (yX12_pieceCell, cX12_pieceCell, 5, (some .int), [], 12)
theorem mf_X12_pieceCell : tq_mV mm_X12_pieceCell := ⟨⟨tq_i9 212 rfl, tq_i1 13 rfl, by decide +kernel, rfl⟩, tq_i9 210 rfl, tq_i9 211 rfl⟩
abbrev mm_X12_bits : tq_MD := (yX12_bits, cX12_bits, 5, (some .int), [], 12)
theorem mf_X12_bits : tq_mS mm_X12_bits := ⟨⟨tq_i9 215 rfl, tq_i1 13 rfl, by decide +kernel, rfl⟩, tq_i9 214 rfl⟩
abbrev mm_X12_kind : tq_MD := (yX12_kind, cX12_kind, 9, (some .int), [], 12)
theorem mf_X12_kind : tq_mV mm_X12_kind := ⟨⟨tq_i9 219 rfl, tq_i1 13 rfl, by decide +kernel, rfl⟩, tq_i9 217 rfl, tq_i9 218 rfl⟩
abbrev mm_X12_hangs : tq_MD := (yX12_hangs, cX12_hangs, 10, (some .boolean), [], 12)
theorem mf_X12_hangs : tq_mS mm_X12_hangs := ⟨⟨tq_i9 222 rfl, tq_i1 13 rfl, by decide +kernel, rfl⟩, tq_i9 221 rfl⟩
abbrev mm_X12_isBit : tq_MD := (yX12_isBit, cX12_isBit, 4, (some .boolean), [], 12)
theorem mf_X12_isBit : tq_mS mm_X12_isBit := ⟨⟨tq_i9 225 rfl, tq_i1 13 rfl, by decide +kernel, rfl⟩, tq_i9 224 rfl⟩
abbrev mm_X12_moved : tq_MD := (yX12_moved, cX12_moved, 5, (some .long), [], 12)
theorem mf_X12_moved : tq_mS mm_X12_moved := ⟨⟨tq_i9 228 rfl, tq_i1 13 rfl, by decide +kernel, rfl⟩, tq_i9 227 rfl⟩
abbrev mm_X12_isKnown : tq_MD := (yX12_isKnown, cX12_isKnown, 8, (some .boolean), [], 12)
theorem mf_X12_isKnown : tq_mV mm_X12_isKnown := ⟨⟨tq_i9 233 rfl, tq_i1 13 rfl, by decide +kernel, rfl⟩, tq_i9 232 rfl, List.mem_append_left _ (List.mem_of_getElem? (i := 172) (by decide +kernel))⟩
abbrev mm_X12_turned : tq_MD := (yX12_turned, cX12_turned, 5, (some .long), [], 12)
theorem mf_X12_turned : tq_mS mm_X12_turned := ⟨⟨tq_i9 236 rfl, tq_i1 13 rfl, by decide +kernel, rfl⟩, tq_i9 235 rfl⟩
abbrev mm_X12_mirrored : tq_MD := (yX12_mirrored, cX12_mirrored, 5, (some .long), [], 12)
theorem mf_X12_mirrored : tq_mS mm_X12_mirrored := ⟨⟨tq_i9 239 rfl, tq_i1 13 rfl, by decide +kernel, rfl⟩, tq_i9 238 rfl⟩
abbrev mm_X12_clear : tq_MD := (yX12_clear, cX12_clear, 2, (some .int), [], 12)
theorem mf_X12_clear : tq_mV mm_X12_clear := ⟨⟨tq_i10 3 rfl, tq_i1 13 rfl, by decide +kernel, rfl⟩, tq_i10 1 rfl, tq_i10 2 rfl⟩
abbrev mm_X12_exact : tq_MD := (yX12_exact, cX12_exact, 1, (some .int), [], 12)
theorem mf_X12_exact : tq_mV mm_X12_exact := ⟨⟨tq_i10 7 rfl, tq_i1 13 rfl, by decide +kernel, rfl⟩, tq_i10 5 rfl, tq_i10 6 rfl⟩
abbrev mm_X12_isMuch : tq_MD := (yX12_isMuch, cX12_isMuch, 1, (some .boolean), [], 12)
theorem mf_X12_isMuch : tq_mV mm_X12_isMuch := ⟨⟨tq_i10 11 rfl, tq_i1 13 rfl, by decide +kernel, rfl⟩, tq_i10 10 rfl, List.mem_append_left _ (List.mem_of_getElem? (i := 173) (by decide +kernel))⟩
abbrev mm_X12_searched : tq_MD := (yX12_searched, cX12_searched, 3, (some .int), [], 12)
theorem mf_X12_searched : tq_mV mm_X12_searched := ⟨⟨tq_i10 15 rfl, tq_i1 13 rfl, by decide +kernel, rfl⟩, tq_i10 14 rfl, List.mem_append_left _ (List.mem_of_getElem? (i := 174) (by decide +kernel))⟩
abbrev mm_X12_tellPlaces : tq_MD := (yX12_tellPlaces, cX12_tellPlaces, 6, none, [], 12)
theorem mf_X12_tellPlaces : tq_mV mm_X12_tellPlaces := ⟨⟨tq_i10 19 rfl, tq_i1 13 rfl, by decide +kernel, rfl⟩, tq_i10 18 rfl, List.mem_append_left _ (List.mem_of_getElem? (i := 175) (by decide +kernel))⟩
abbrev mm_X12_laid : tq_MD := (yX12_laid, cX12_laid, 10, (some .long), [], 12)
theorem mf_X12_laid : tq_mV mm_X12_laid := ⟨⟨tq_i10 23 rfl, tq_i1 13 rfl, by decide +kernel, rfl⟩, tq_i10 22 rfl, List.mem_append_left _ (List.mem_of_getElem? (i := 176) (by decide +kernel))⟩
abbrev mm_X12_addPlace : tq_MD := (yX12_addPlace, cX12_addPlace, 7, none, [], 12)
theorem mf_X12_addPlace : tq_mV mm_X12_addPlace := ⟨⟨tq_i10 27 rfl, tq_i1 13 rfl, by decide +kernel, rfl⟩, tq_i10 26 rfl, List.mem_append_left _ (List.mem_of_getElem? (i := 177) (by decide +kernel))⟩
abbrev mm_X12_lowest : tq_MD := (yX12_lowest, cX12_lowest, 3, (some .int), [], 12)
theorem mf_X12_lowest : tq_mS mm_X12_lowest := ⟨⟨tq_i10 30 rfl, tq_i1 13 rfl, by decide +kernel, rfl⟩, tq_i10 29 rfl⟩
abbrev mm_X12_isAhead : tq_MD := (yX12_isAhead, cX12_isAhead, 6, (some .boolean), [], 12)
theorem mf_X12_isAhead : tq_mS mm_X12_isAhead := ⟨⟨tq_i10 33 rfl, tq_i1 13 rfl, by decide +kernel, rfl⟩, tq_i10 32 rfl⟩
abbrev mm_X12_search : tq_MD := (yX12_search, cX12_search, 5, none, [], 12)
theorem mf_X12_search : tq_mV mm_X12_search := ⟨⟨tq_i10 37 rfl, tq_i1 13 rfl, by decide +kernel, rfl⟩, tq_i10 36 rfl, List.mem_append_left _ (List.mem_of_getElem? (i := 178) (by decide +kernel))⟩
abbrev mm_X12_isFirstOfAlike : tq_MD := (yX12_isFirstOfAlike, cX12_isFirstOfAlike, 3, (some .boolean), [], 12)
theorem mf_X12_isFirstOfAlike : tq_mV mm_X12_isFirstOfAlike := ⟨⟨tq_i10 41 rfl, tq_i1 13 rfl, by decide +kernel, rfl⟩, tq_i10 40 rfl, List.mem_append_left _ (List.mem_of_getElem? (i := 179) (by decide +kernel))⟩
abbrev mm_X12_goesAll : tq_MD := (yX12_goesAll, cX12_goesAll, 7, (some .long), [], 12)
theorem mf_X12_goesAll : tq_mV mm_X12_goesAll := ⟨⟨tq_i10 45 rfl, tq_i1 13 rfl, by decide +kernel, rfl⟩, tq_i10 44 rfl, List.mem_append_left _ (List.mem_of_getElem? (i := 180) (by decide +kernel))⟩
abbrev mm_X12_goes : tq_MD := (yX12_goes, cX12_goes, 6, (some .int), [], 12)
theorem mf_X12_goes : tq_mV mm_X12_goes := ⟨⟨tq_i10 49 rfl, tq_i1 13 rfl, by decide +kernel, rfl⟩, tq_i10 48 rfl, List.mem_append_left _ (List.mem_of_getElem? (i := 181) (by decide +kernel))⟩
abbrev mm_X12_isImageAhead : tq_MD := (yX12_isImageAhead, cX12_isImageAhead, 8, (some .boolean), [], 12)
theorem mf_X12_isImageAhead : tq_mV mm_X12_isImageAhead := ⟨⟨tq_i10 53 rfl, tq_i1 13 rfl, by decide +kernel, rfl⟩, tq_i10 52 rfl, List.mem_append_left _ (List.mem_of_getElem? (i := 182) (by decide +kernel))⟩
abbrev mm_X12_isPlace : tq_MD := (yX12_isPlace, cX12_isPlace, 6, (some .boolean), [], 12)
theorem mf_X12_isPlace : tq_mV mm_X12_isPlace := ⟨⟨tq_i10 57 rfl, tq_i1 13 rfl, by decide +kernel, rfl⟩, tq_i10 56 rfl, List.mem_append_left _ (List.mem_of_getElem? (i := 183) (by decide +kernel))⟩
abbrev mm_X12_unlike : tq_MD := (yX12_unlike, cX12_unlike, 1, (some .int), [], 12)
theorem mf_X12_unlike : tq_mV mm_X12_unlike := ⟨⟨tq_i10 62 rfl, tq_i1 13 rfl, by decide +kernel, rfl⟩, tq_i10 60 rfl, tq_i10 61 rfl⟩
abbrev mm_X12_kindAt : tq_MD := (yX12_kindAt, cX12_kindAt, 7, (some .int), [], 12)
theorem mf_X12_kindAt : tq_mV mm_X12_kindAt := ⟨⟨tq_i10 66 rfl, tq_i1 13 rfl, by decide +kernel, rfl⟩, tq_i10 64 rfl, tq_i10 65 rfl⟩
abbrev mm_X12_order : tq_MD := (yX12_order, cX12_order, 2, (some .int), [], 12)
theorem mf_X12_order : tq_mV mm_X12_order := ⟨⟨tq_i10 70 rfl, tq_i1 13 rfl, by decide +kernel, rfl⟩, tq_i10 68 rfl, tq_i10 69 rfl⟩
abbrev mm_X12_tellRule : tq_MD := (yX12_tellRule, cX12_tellRule, 11, none, [], 12)
theorem mf_X12_tellRule : tq_mV mm_X12_tellRule := ⟨⟨tq_i10 74 rfl, tq_i1 13 rfl, by decide +kernel, rfl⟩, tq_i10 73 rfl, List.mem_append_left _ (List.mem_of_getElem? (i := 184) (by decide +kernel))⟩
abbrev mm_X12_tellTerms : tq_MD := (yX12_tellTerms, cX12_tellTerms, 4, none, [], 12)
theorem mf_X12_tellTerms : tq_mV mm_X12_tellTerms := ⟨⟨tq_i10 78 rfl, tq_i1 13 rfl, by decide +kernel, rfl⟩, tq_i10 77 rfl, List.mem_append_left _ (List.mem_of_getElem? (i := 185) (by decide +kernel))⟩
abbrev mm_X12_stripRow : tq_MD := (yX12_stripRow, cX12_stripRow, 7, none, [], 12)
theorem mf_X12_stripRow : tq_mV mm_X12_stripRow := ⟨⟨tq_i10 82 rfl, tq_i1 13 rfl, by decide +kernel, rfl⟩, tq_i10 81 rfl, List.mem_append_left _ (List.mem_of_getElem? (i := 186) (by decide +kernel))⟩
abbrev mm_X12_power : tq_MD := (yX12_power, cX12_power, 10, (some .long), [], 12)
theorem mf_X12_power : tq_mS mm_X12_power := ⟨⟨tq_i10 87 rfl, tq_i1 13 rfl, by decide +kernel, rfl⟩, tq_i10 86 rfl⟩
abbrev mm_X12_rule : tq_MD := (yX12_rule, cX12_rule, 3, (some .int), [], 12)
theorem mf_X12_rule : tq_mV mm_X12_rule := ⟨⟨tq_i10 91 rfl, tq_i1 13 rfl, by decide +kernel, rfl⟩, tq_i10 89 rfl, tq_i10 90 rfl⟩
abbrev mm_X12_ruleOf : tq_MD := (yX12_ruleOf, cX12_ruleOf, 4, (some .long), [], 12)
theorem mf_X12_ruleOf : tq_mV mm_X12_ruleOf := ⟨⟨tq_i10 95 rfl, tq_i1 13 rfl, by decide +kernel, rfl⟩, tq_i10 94 rfl, List.mem_append_left _ (List.mem_of_getElem? (i := 187) (by decide +kernel))⟩
abbrev mm_X12_strip : tq_MD := (yX12_strip, cX12_strip, 6, (some .int), [], 12)
theorem mf_X12_strip : tq_mV mm_X12_strip := ⟨⟨tq_i10 100 rfl, tq_i1 13 rfl, by decide +kernel, rfl⟩, tq_i10 98 rfl, tq_i10 99 rfl⟩
abbrev mm_X12_carry : tq_MD := (yX12_carry, cX12_carry, 8, none, [], 12)
theorem mf_X12_carry : tq_mV mm_X12_carry := ⟨⟨tq_i10 105 rfl, tq_i1 13 rfl, by decide +kernel, rfl⟩, tq_i10 104 rfl, List.mem_append_left _ (List.mem_of_getElem? (i := 188) (by decide +kernel))⟩
abbrev mm_X12_putSum : tq_MD := (yX12_putSum, cX12_putSum, 5, (some .int), [], 12)
theorem mf_X12_putSum : tq_mV mm_X12_putSum := ⟨⟨tq_i10 109 rfl, tq_i1 13 rfl, by decide +kernel, rfl⟩, tq_i10 108 rfl, List.mem_append_left _ (List.mem_of_getElem? (i := 189) (by decide +kernel))⟩
abbrev mm_X12_heaps : tq_MD := (yX12_heaps, cX12_heaps, 7, (some .int), [], 12)
theorem mf_X12_heaps : tq_mV mm_X12_heaps := ⟨⟨tq_i10 114 rfl, tq_i1 13 rfl, by decide +kernel, rfl⟩, tq_i10 112 rfl, tq_i10 113 rfl⟩
abbrev mm_X12_factors : tq_MD := (yX12_factors, cX12_factors, 5, none, [], 12)
theorem mf_X12_factors : tq_mV mm_X12_factors := ⟨⟨tq_i10 118 rfl, tq_i1 13 rfl, by decide +kernel, rfl⟩, tq_i10 117 rfl, List.mem_append_left _ (List.mem_of_getElem? (i := 190) (by decide +kernel))⟩
abbrev mm_X12_hexagon : tq_MD := (yX12_hexagon, cX12_hexagon, 4, (some .int), [], 12)
theorem mf_X12_hexagon : tq_mV mm_X12_hexagon := ⟨⟨tq_i10 122 rfl, tq_i1 13 rfl, by decide +kernel, rfl⟩, tq_i10 120 rfl, tq_i10 121 rfl⟩
abbrev mm_X12_rooks : tq_MD := (yX12_rooks, cX12_rooks, 2, (some .int), [], 12)
theorem mf_X12_rooks : tq_mV mm_X12_rooks := ⟨⟨tq_i10 127 rfl, tq_i1 13 rfl, by decide +kernel, rfl⟩, tq_i10 125 rfl, tq_i10 126 rfl⟩
abbrev mm_X12_rooksOf : tq_MD := (yX12_rooksOf, cX12_rooksOf, 5, (some .long), [], 12)
theorem mf_X12_rooksOf : tq_mV mm_X12_rooksOf := ⟨⟨tq_i10 131 rfl, tq_i1 13 rfl, by decide +kernel, rfl⟩, tq_i10 130 rfl, List.mem_append_left _ (List.mem_of_getElem? (i := 191) (by decide +kernel))⟩
abbrev mm_X12_mostRooks : tq_MD := (yX12_mostRooks, cX12_mostRooks, 3, (some .int), [], 12)
theorem mf_X12_mostRooks : tq_mV mm_X12_mostRooks := ⟨⟨tq_i10 135 rfl, tq_i1 13 rfl, by decide +kernel, rfl⟩, tq_i10 133 rfl, tq_i10 134 rfl⟩
abbrev mm_X12_loops : tq_MD := (yX12_loops, cX12_loops, 6, (some .int), [], 12)
theorem mf_X12_loops : tq_mV mm_X12_loops := ⟨⟨tq_i10 139 rfl, tq_i1 13 rfl, by decide +kernel, rfl⟩, tq_i10 137 rfl, tq_i10 138 rfl⟩
abbrev mm_X12_goOn : tq_MD := (yX12_goOn, cX12_goOn, 12, none, [], 12)
theorem mf_X12_goOn : tq_mV mm_X12_goOn := ⟨⟨tq_i10 143 rfl, tq_i1 13 rfl, by decide +kernel, rfl⟩, tq_i10 142 rfl, List.mem_append_left _ (List.mem_of_getElem? (i := 192) (by decide +kernel))⟩
abbrev mm_X12_plug : tq_MD := (yX12_plug, cX12_plug, 2, (some .int), [], 12)
theorem mf_X12_plug : tq_mS mm_X12_plug := ⟨⟨tq_i10 146 rfl, tq_i1 13 rfl, by decide +kernel, rfl⟩, tq_i10 145 rfl⟩
abbrev mm_X12_with : tq_MD := (yX12_with, cX12_with, 3, (some .int), [], 12)
theorem mf_X12_with : tq_mS mm_X12_with := ⟨⟨tq_i10 149 rfl, tq_i1 13 rfl, by decide +kernel, rfl⟩, tq_i10 148 rfl⟩
abbrev mm_X12_add : tq_MD := (yX12_add, cX12_add, 4, none, [], 12)
theorem mf_X12_add : tq_mV mm_X12_add := ⟨⟨tq_i10 153 rfl, tq_i1 13 rfl, by decide +kernel, rfl⟩, tq_i10 152 rfl, List.mem_append_left _ (List.mem_of_getElem? (i := 193) (by decide +kernel))⟩
abbrev mm_X12_otherEnd : tq_MD := (yX12_otherEnd, cX12_otherEnd, 6, (some .int), [], 12)
theorem mf_X12_otherEnd : tq_mS mm_X12_otherEnd := ⟨⟨tq_i10 156 rfl, tq_i1 13 rfl, by decide +kernel, rfl⟩, tq_i10 155 rfl⟩
abbrev mm_X12_meanPart : tq_MD := (yX12_meanPart, cX12_meanPart, 2, (some .double), [], 12)
theorem mf_X12_meanPart : tq_mV mm_X12_meanPart := ⟨⟨tq_i10 160 rfl, tq_i1 13 rfl, by decide +kernel, rfl⟩, tq_i10 158 rfl, tq_i10 159 rfl⟩
abbrev mm_X12_checksum : tq_MD := (yX12_checksum, cX12_checksum, 5, (some .long), [], 12)
theorem mf_X12_checksum : tq_mV mm_X12_checksum := ⟨⟨tq_i10 164 rfl, tq_i1 13 rfl, by decide +kernel, rfl⟩, tq_i10 162 rfl, tq_i10 163 rfl⟩
abbrev mm_X12_isSound : tq_MD := (yX12_isSound, cX12_isSound, 1, (some .boolean), [], 12)
theorem mf_X12_isSound : tq_mV mm_X12_isSound := ⟨⟨tq_i10 170 rfl, tq_i1 13 rfl, by decide +kernel, rfl⟩, tq_i10 168 rfl, tq_i10 169 rfl⟩
def tq_lmP (c idx : Nat) (M : tq_MD) : Prop := Cond.methodLink (tq_cn c) idx M.1 ∈ lw_tbl
def tq_lnP (c idx : Nat) (M : tq_MD) : Prop := ∃ host, Cond.methodLinkNest (tq_cn c) idx M.1 host ∈ lw_tbl
theorem ln_13_178 : tq_lmP 13 178 mm_X11_has := tq_i2 206 rfl
theorem ln_11_137 : tq_lnP 11 137 mm_X1_holds := ⟨"Tilecount", tq_i2 210 rfl⟩
theorem ln_13_183 : tq_lmP 13 183 mm_X11_parts := tq_i2 214 rfl
theorem ln_11_186 : tq_lnP 11 186 mm_X1_countParts := ⟨"Tilecount", tq_i2 218 rfl⟩
theorem ln_1_71 : tq_lmP 1 71 mm_X1_countGroups := tq_i2 222 rfl
theorem ln_1_67 : tq_lmP 1 67 mm_X1_reach := tq_i2 226 rfl
theorem ln_1_63 : tq_lmP 1 63 mm_X1_beside := tq_i2 230 rfl
theorem ln_13_187 : tq_lmP 13 187 mm_X11_holes := tq_i2 238 rfl
theorem ln_11_189 : tq_lnP 11 189 mm_X1_countHoles := ⟨"Tilecount", tq_i3 2 rfl⟩
theorem ln_1_77 : tq_lmP 1 77 mm_X1_rectangleOf := tq_i3 7 rfl
theorem ln_13_191 : tq_lmP 13 191 mm_X11_covers := tq_i3 10 rfl
theorem ln_11_192 : tq_lnP 11 192 mm_X5_total := ⟨"Tilecount", tq_i3 14 rfl⟩
theorem ln_5_61 : tq_lmP 5 61 mm_J7_fill_d0a16 := tq_i3 18 rfl
theorem ln_5_67 : tq_lmP 5 67 mm_X5_prepareRow := tq_i3 21 rfl
theorem ln_5_77 : tq_lmP 5 77 mm_X5_sumOnward := tq_i3 28 rfl
theorem ln_5_81 : tq_lmP 5 81 mm_X5_after := tq_i3 32 rfl
theorem ln_5_85 : tq_lmP 5 85 mm_X5_onward := tq_i3 36 rfl
theorem ln_11_196 : tq_lmP 11 196 mm_X11_say := tq_i3 40 rfl
theorem ln_11_500 : tq_lnP 11 500 mm_X0_put := ⟨"Tilecount", tq_i3 44 rfl⟩
theorem ln_0_21 : tq_lmP 0 21 mm_J9_abs_067f4 := tq_i3 48 rfl
theorem ln_0_27 : tq_lmP 0 27 mm_X0_addLimbs := tq_i3 51 rfl
theorem ln_11_394 : tq_lmP 11 394 mm_X11_sayAnswer := tq_i3 56 rfl
theorem ln_11_507 : tq_lnP 11 507 mm_X0_writeTo := ⟨"Tilecount", tq_i3 60 rfl⟩
theorem ln_0_44 : tq_lmP 0 44 mm_J9_max_7cf53 := tq_i3 64 rfl
theorem ln_13_246 : tq_lmP 13 246 mm_X11_free := tq_i3 68 rfl
theorem ln_11_320 : tq_lnP 11 320 mm_X9_refresh := ⟨"Tilecount", tq_i3 72 rfl⟩
theorem ln_9_40 : tq_lmP 9 40 mm_X9_pair := tq_i3 76 rfl
theorem ln_9_46 : tq_lmP 9 46 mm_J7_fill_53178 := tq_i3 80 rfl
theorem ln_9_61 : tq_lmP 9 61 mm_X9_lowest := tq_i3 84 rfl
theorem ln_9_31 : tq_lmP 9 31 mm_J13_bitCount_95d88 := tq_i3 88 rfl
theorem ln_9_64 : tq_lmP 9 64 mm_X9_findFree := tq_i3 94 rfl
theorem ln_9_72 : tq_lnP 9 72 mm_X1_beside := ⟨"Tilecount", tq_i3 98 rfl⟩
theorem ln_9_68 : tq_lmP 9 68 mm_X9_turnPath := tq_i3 99 rfl
theorem ln_9_43 : tq_lmP 9 43 mm_X9_spreadFree := tq_i3 103 rfl
theorem ln_11_180 : tq_lmP 11 180 mm_J13_bitCount_95d88 := tq_i3 107 rfl
theorem ln_13_263 : tq_lmP 13 263 mm_X11_clear := tq_i3 108 rfl
theorem ln_11_367 : tq_lnP 11 367 mm_X8_dropAll := ⟨"Tilecount", tq_i3 112 rfl⟩
theorem ln_13_295 : tq_lmP 13 295 mm_X11_mostRooks := tq_i3 116 rfl
theorem ln_11_425 : tq_lnP 11 425 mm_X10_findMostRooks := ⟨"Tilecount", tq_i3 120 rfl⟩
theorem ln_10_39 : tq_lmP 10 39 mm_X10_fillWays := tq_i3 124 rfl
theorem ln_10_23 : tq_lmP 10 23 mm_J7_fill_d0a16 := tq_i3 128 rfl
theorem ln_10_42 : tq_lmP 10 42 mm_J6_bitCount_0f7a4 := tq_i3 129 rfl
theorem ln_10_48 : tq_lmP 10 48 mm_J9_max_7cf53 := tq_i3 135 rfl
theorem ln_13_310 : tq_lmP 13 310 mm_X11_checksum := tq_i3 136 rfl
theorem ln_11_442 : tq_lnP 11 442 mm_X1_addTo := ⟨"Tilecount", tq_i3 141 rfl⟩
theorem ln_1_47 : tq_lmP 1 47 mm_X1_holds := tq_i3 146 rfl
theorem ln_11_446 : tq_lnP 11 446 mm_X2_addTo := ⟨"Tilecount", tq_i3 147 rfl⟩
theorem ln_2_84 : tq_lnP 2 84 mm_X1_holds := ⟨"Tilecount", tq_i3 151 rfl⟩
theorem ln_2_89 : tq_lmP 2 89 mm_X2_codeAt := tq_i3 153 rfl
theorem ln_2_51 : tq_lnP 2 51 mm_X1_bit := ⟨"Tilecount", tq_i3 157 rfl⟩
theorem ln_11_447 : tq_lnP 11 447 mm_X8_addTo := ⟨"Tilecount", tq_i3 160 rfl⟩
theorem ln_13_315 : tq_lmP 13 315 mm_X11_isSound := tq_i3 166 rfl
theorem ln_11_450 : tq_lmP 11 450 mm_X11_countsAgree := tq_i3 170 rfl
theorem ln_11_199 : tq_lnP 11 199 mm_X1_isPlain := ⟨"Tilecount", tq_i3 174 rfl⟩
theorem ln_1_80 : tq_lmP 1 80 mm_X1_countHoles := tq_i3 178 rfl
theorem ln_11_204 : tq_lnP 11 204 mm_X3_countCovers := ⟨"Tilecount", tq_i3 179 rfl⟩
theorem ln_3_38 : tq_lmP 3 38 mm_J13_bitCount_95d88 := tq_i3 185 rfl
theorem ln_3_44 : tq_lmP 3 44 mm_X3_prime := tq_i3 186 rfl
theorem ln_3_48 : tq_lmP 3 48 mm_X3_fillSigns := tq_i3 192 rfl
theorem ln_3_71 : tq_lmP 3 71 mm_J7_fill_d0a16 := tq_i3 196 rfl
theorem ln_3_84 : tq_lnP 3 84 mm_X1_bit := ⟨"Tilecount", tq_i3 197 rfl⟩
theorem ln_3_88 : tq_lmP 3 88 mm_X3_setSign := tq_i3 198 rfl
theorem ln_3_92 : tq_lnP 3 92 mm_X1_holds := ⟨"Tilecount", tq_i3 202 rfl⟩
theorem ln_3_52 : tq_lmP 3 52 mm_X3_eliminate := tq_i3 203 rfl
theorem ln_3_112 : tq_lmP 3 112 mm_X3_pivotOf := tq_i3 207 rfl
theorem ln_3_116 : tq_lmP 3 116 mm_X3_swapRows := tq_i3 211 rfl
theorem ln_3_68 : tq_lmP 3 68 mm_X3_inverse := tq_i3 215 rfl
theorem ln_3_24 : tq_lmP 3 24 mm_X3_power := tq_i3 219 rfl
theorem ln_3_120 : tq_lmP 3 120 mm_X3_clearBelow := tq_i3 222 rfl
theorem ln_3_62 : tq_lmP 3 62 mm_J9_floorMod_f86c9 := tq_i3 226 rfl
theorem ln_3_56 : tq_lmP 3 56 mm_X3_secondDigit := tq_i3 229 rfl
theorem ln_11_453 : tq_lmP 11 453 mm_X11_numberIsSound := tq_i3 234 rfl
theorem ln_11_249 : tq_lnP 11 249 mm_X5_rank := ⟨"Tilecount", tq_i3 238 rfl⟩
theorem ln_5_96 : tq_lmP 5 96 mm_X5_wayTaken := tq_i4 2 rfl
theorem ln_5_93 : tq_lnP 5 93 mm_X1_bit := ⟨"Tilecount", tq_i4 6 rfl⟩
theorem ln_11_474 : tq_lnP 11 474 mm_X5_make := ⟨"Tilecount", tq_i4 8 rfl⟩
theorem ln_5_89 : tq_lmP 5 89 mm_X5_put := tq_i4 12 rfl
theorem ln_11_456 : tq_lmP 11 456 mm_X11_flipsAreSound := tq_i4 16 rfl
theorem ln_11_304 : tq_lnP 11 304 mm_X7_fillKept := ⟨"Tilecount", tq_i4 20 rfl⟩
theorem ln_7_36 : tq_lmP 7 36 mm_X7_fillRow := tq_i4 24 rfl
theorem ln_7_53 : tq_lmP 7 53 mm_J7_fill_53178 := tq_i4 28 rfl
theorem ln_7_59 : tq_lmP 7 59 mm_X7_isCorner := tq_i4 29 rfl
theorem ln_7_32 : tq_lnP 7 32 mm_X1_holds := ⟨"Tilecount", tq_i4 33 rfl⟩
theorem ln_7_62 : tq_lmP 7 62 mm_X7_spread := tq_i4 34 rfl
theorem ln_7_66 : tq_lmP 7 66 mm_X7_riseRight := tq_i4 38 rfl
theorem ln_7_77 : tq_lnP 7 77 mm_X1_bit := ⟨"Tilecount", tq_i4 42 rfl⟩
theorem ln_7_81 : tq_lmP 7 81 mm_X7_rise := tq_i4 43 rfl
theorem ln_7_70 : tq_lmP 7 70 mm_X7_reach := tq_i4 47 rfl
theorem ln_7_74 : tq_lmP 7 74 mm_X7_riseDown := tq_i4 51 rfl
theorem ln_11_256 : tq_lnP 11 256 mm_X2_countFlips := ⟨"Tilecount", tq_i4 55 rfl⟩
theorem ln_2_80 : tq_lmP 2 80 mm_X2_canFlip := tq_i4 59 rfl
theorem ln_2_70 : tq_lnP 2 70 mm_X1_rightOf := ⟨"Tilecount", tq_i4 63 rfl⟩
theorem ln_2_74 : tq_lmP 2 74 mm_X2_acrossPair := tq_i4 67 rfl
theorem ln_2_77 : tq_lmP 2 77 mm_X2_downPair := tq_i4 71 rfl
theorem ln_11_259 : tq_lnP 11 259 mm_X2_squareOf := ⟨"Tilecount", tq_i4 75 rfl⟩
theorem ln_11_265 : tq_lnP 11 265 mm_X2_rightFlipped := ⟨"Tilecount", tq_i4 79 rfl⟩
theorem ln_11_269 : tq_lnP 11 269 mm_X2_downFlipped := ⟨"Tilecount", tq_i4 83 rfl⟩
theorem ln_11_307 : tq_lnP 11 307 mm_X7_flipsFromKept := ⟨"Tilecount", tq_i4 87 rfl⟩
theorem ln_7_40 : tq_lmP 7 40 mm_J9_abs_0f7a4 := tq_i4 91 rfl
theorem ln_11_459 : tq_lmP 11 459 mm_X11_piecesAreSound := tq_i4 94 rfl
theorem ln_11_214 : tq_lnP 11 214 mm_X5_fillHaving := ⟨"Tilecount", tq_i4 98 rfl⟩
theorem ln_5_102 : tq_lmP 5 102 mm_X5_total := tq_i4 102 rfl
theorem ln_5_106 : tq_lmP 5 106 mm_X5_goOn := tq_i4 103 rfl
theorem ln_11_489 : tq_lnP 11 489 mm_X5_withCell := ⟨"Tilecount", tq_i4 107 rfl⟩
theorem ln_11_462 : tq_lmP 11 462 mm_X11_rolesAreSound := tq_i4 111 rfl
theorem ln_11_465 : tq_lmP 11 465 mm_X11_exactIsSound := tq_i4 115 rfl
theorem ln_11_123 : tq_lnP 11 123 mm_X1_size := ⟨"Tilecount", tq_i4 119 rfl⟩
theorem ln_1_41 : tq_lmP 1 41 mm_J13_bitCount_95d88 := tq_i4 123 rfl
theorem ln_11_372 : tq_lnP 11 372 mm_X4_refresh := ⟨"Tilecount", tq_i4 124 rfl⟩
theorem ln_4_63 : tq_lmP 4 63 mm_X4_numberCells := tq_i4 128 rfl
theorem ln_4_116 : tq_lmP 4 116 mm_J7_fill_53178 := tq_i4 132 rfl
theorem ln_4_66 : tq_lmP 4 66 mm_X4_findGroup := tq_i4 133 rfl
theorem ln_4_122 : tq_lmP 4 122 mm_X4_fillMoved := tq_i4 137 rfl
theorem ln_4_136 : tq_lnP 4 136 mm_X1_holds := ⟨"Tilecount", tq_i4 141 rfl⟩
theorem ln_4_69 : tq_lmP 4 69 mm_X4_collect := tq_i4 142 rfl
theorem ln_4_146 : tq_lmP 4 146 mm_X4_collectKind := tq_i4 146 rfl
theorem ln_4_181 : tq_lmP 4 181 mm_X4_motionsOf := tq_i4 150 rfl
theorem ln_4_193 : tq_lnP 4 193 mm_X8_moved := ⟨"Tilecount", tq_i4 154 rfl⟩
theorem ln_4_196 : tq_lnP 4 196 mm_X8_isShapeOf := ⟨"Tilecount", tq_i4 159 rfl⟩
theorem ln_4_185 : tq_lmP 4 185 mm_X4_coveredBy := tq_i4 163 rfl
theorem ln_4_200 : tq_lmP 4 200 mm_J9_floorMod_7cf53 := tq_i4 167 rfl
theorem ln_4_189 : tq_lmP 4 189 mm_X4_insert := tq_i4 170 rfl
theorem ln_4_203 : tq_lmP 4 203 mm_X4_isAhead := tq_i4 175 rfl
theorem ln_4_72 : tq_lmP 4 72 mm_J7_fill_d0a16 := tq_i4 178 rfl
theorem ln_4_90 : tq_lmP 4 90 mm_J9_min_7cf53 := tq_i4 180 rfl
theorem ln_4_96 : tq_lmP 4 96 mm_X4_beginning := tq_i4 183 rfl
theorem ln_4_153 : tq_lmP 4 153 mm_X4_bounded := tq_i4 187 rfl
theorem ln_4_159 : tq_lmP 4 159 mm_J13_bitCount_95d88 := tq_i4 191 rfl
theorem ln_4_170 : tq_lmP 4 170 mm_J9_max_7cf53 := tq_i4 193 rfl
theorem ln_4_173 : tq_lmP 4 173 mm_J9_max_f86c9 := tq_i4 194 rfl
theorem ln_4_100 : tq_lmP 4 100 mm_X4_with := tq_i4 197 rfl
theorem ln_4_221 : tq_lmP 4 221 mm_X4_imageOf := tq_i4 202 rfl
theorem ln_4_104 : tq_lmP 4 104 mm_X4_search := tq_i4 206 rfl
theorem ln_4_207 : tq_lmP 4 207 mm_X4_firstOpen := tq_i4 210 rfl
theorem ln_4_210 : tq_lmP 4 210 mm_X4_weigh := tq_i4 213 rfl
theorem ln_4_215 : tq_lmP 4 215 mm_X4_sumOver := tq_i4 217 rfl
theorem ln_11_382 : tq_lnP 11 382 mm_X4_choose := ⟨"Tilecount", tq_i4 222 rfl⟩
theorem ln_11_494 : tq_lnP 11 494 mm_X4_chosenNumber := ⟨"Tilecount", tq_i4 226 rfl⟩
theorem ln_11_468 : tq_lmP 11 468 mm_X11_stripsAreSound := tq_i4 230 rfl
theorem ln_11_390 : tq_lnP 11 390 mm_X6_byRule := ⟨"Tilecount", tq_i4 234 rfl⟩
theorem ln_6_26 : tq_lmP 6 26 mm_X6_orderOf := tq_i4 238 rfl
theorem ln_6_30 : tq_lmP 6 30 mm_X6_byFront := tq_i5 3 rfl
theorem ln_6_63 : tq_lmP 6 63 mm_J7_fill_d0a16 := tq_i5 7 rfl
theorem ln_6_69 : tq_lmP 6 69 mm_X6_passCell := tq_i5 8 rfl
theorem ln_6_34 : tq_lmP 6 34 mm_X6_putTerm := tq_i5 13 rfl
theorem ln_6_38 : tq_lmP 6 38 mm_X6_addTerms := tq_i5 18 rfl
theorem ln_6_50 : tq_lmP 6 50 mm_X6_factor := tq_i5 22 rfl
theorem ln_6_54 : tq_lmP 6 54 mm_J9_floorMod_f86c9 := tq_i5 27 rfl
theorem ln_6_60 : tq_lmP 6 60 mm_J9_floorDiv_f86c9 := tq_i5 28 rfl
theorem ln_6_42 : tq_lnP 6 42 mm_X0_putLimbs := ⟨"Tilecount", tq_i5 31 rfl⟩
theorem ln_11_497 : tq_lnP 11 497 mm_X6_byFront := ⟨"Tilecount", tq_i5 35 rfl⟩
theorem ln_11_503 : tq_lnP 11 503 mm_X0_isLike := ⟨"Tilecount", tq_i5 36 rfl⟩
theorem ln_11_471 : tq_lmP 11 471 mm_X11_hexagonsAreSound := tq_i5 40 rfl
theorem ln_11_412 : tq_lnP 11 412 mm_X3_countHexagon := ⟨"Tilecount", tq_i5 44 rfl⟩
theorem ln_3_96 : tq_lmP 3 96 mm_X3_choose := tq_i5 48 rfl
theorem ln_3_99 : tq_lmP 3 99 mm_X3_thirdDigit := tq_i5 51 rfl
theorem ln_3_102 : tq_lnP 3 102 mm_X0_put := ⟨"Tilecount", tq_i5 55 rfl⟩
theorem ln_3_108 : tq_lnP 3 108 mm_X0_timesPlus := ⟨"Tilecount", tq_i5 56 rfl⟩
theorem ln_11_416 : tq_lnP 11 416 mm_X0_putHeaps := ⟨"Tilecount", tq_i5 60 rfl⟩
theorem ln_0_33 : tq_lmP 0 33 mm_X0_put := tq_i5 64 rfl
theorem ln_0_36 : tq_lmP 0 36 mm_X0_timesPlus := tq_i5 65 rfl
theorem ln_0_40 : tq_lmP 0 40 mm_X0_divideBy := tq_i5 66 rfl
theorem ln_13_151 : tq_lmP 13 151 mm_L_board := tq_i5 70 rfl
theorem ln_13_7 : tq_lmP 13 7 mm_X11_board := tq_i5 74 rfl
theorem ln_11_101 : tq_lmP 11 101 mm_X11_isFrom := tq_i5 78 rfl
theorem ln_11_112 : tq_lnP 11 112 mm_X1_rectangleOf := ⟨"Tilecount", tq_i5 153 rfl⟩
theorem ln_11_116 : tq_lnP 11 116 mm_X1_tell := ⟨"Tilecount", tq_i5 154 rfl⟩
theorem ln_11_120 : tq_lnP 11 120 mm_X2_forget := ⟨"Tilecount", tq_i5 158 rfl⟩
theorem ln_13_160 : tq_lmP 13 160 mm_L_form := tq_i5 162 rfl
theorem ln_13_15 : tq_lmP 13 15 mm_X11_form := tq_i5 165 rfl
theorem ln_11_127 : tq_lnP 11 127 mm_X1_isForm := ⟨"Tilecount", tq_i5 169 rfl⟩
theorem ln_1_27 : tq_lnP 1 27 mm_X11_isFrom := ⟨"Tilecount", tq_i5 172 rfl⟩
theorem ln_11_133 : tq_lnP 11 133 mm_X1_formCells := ⟨"Tilecount", tq_i5 174 rfl⟩
theorem ln_1_33 : tq_lmP 1 33 mm_X1_isInForm := tq_i5 177 rfl
theorem ln_1_37 : tq_lmP 1 37 mm_X1_bit := tq_i5 180 rfl
theorem ln_13_164 : tq_lmP 13 164 mm_L_cut := tq_i5 181 rfl
theorem ln_13_19 : tq_lmP 13 19 mm_X11_cut := tq_i5 208 rfl
theorem ln_11_146 : tq_lnP 11 146 mm_X1_change := ⟨"Tilecount", tq_i5 225 rfl⟩
theorem ln_13_167 : tq_lmP 13 167 mm_L_fill := tq_i5 229 rfl
theorem ln_13_24 : tq_lmP 13 24 mm_X11_fill := tq_i5 232 rfl
theorem ln_11_150 : tq_lnP 11 150 mm_X1_isWithin := ⟨"Tilecount", tq_i5 236 rfl⟩
theorem ln_13_170 : tq_lmP 13 170 mm_L_roll := tq_i6 1 rfl
theorem ln_13_27 : tq_lmP 13 27 mm_X11_roll := tq_i6 5 rfl
theorem ln_11_155 : tq_lnP 11 155 mm_X1_canBeRolled := ⟨"Tilecount", tq_i6 9 rfl⟩
theorem ln_11_168 : tq_lnP 11 168 mm_X1_turnRound := ⟨"Tilecount", tq_i6 29 rfl⟩
theorem ln_13_174 : tq_lmP 13 174 mm_L_cells := tq_i6 33 rfl
theorem ln_13_33 : tq_lmP 13 33 mm_X11_cells := tq_i6 36 rfl
theorem ln_13_195 : tq_lmP 13 195 mm_L_bySigns := tq_i6 42 rfl
theorem ln_13_37 : tq_lmP 13 37 mm_X11_bySigns := tq_i6 45 rfl
theorem ln_13_199 : tq_lmP 13 199 mm_L_having := tq_i6 50 rfl
theorem ln_13_41 : tq_lmP 13 41 mm_X11_having := tq_i6 53 rfl
theorem ln_11_208 : tq_lnP 11 208 mm_X1_isPiece := ⟨"Tilecount", tq_i6 57 rfl⟩
theorem ln_1_51 : tq_lmP 1 51 mm_X1_rightOf := tq_i6 61 rfl
theorem ln_11_217 : tq_lnP 11 217 mm_X5_withPiece := ⟨"Tilecount", tq_i6 63 rfl⟩
theorem ln_13_203 : tq_lmP 13 203 mm_L_signAt := tq_i6 67 rfl
theorem ln_13_45 : tq_lmP 13 45 mm_X11_signAt := tq_i6 70 rfl
theorem ln_13_209 : tq_lmP 13 209 mm_L_draw := tq_i6 75 rfl
theorem ln_13_49 : tq_lmP 13 49 mm_X11_draw := tq_i6 79 rfl
theorem ln_11_228 : tq_lmP 11 228 mm_J9_floorMod_f86c9 := tq_i6 99 rfl
theorem ln_11_234 : tq_lmP 11 234 mm_X11_show := tq_i6 100 rfl
theorem ln_11_272 : tq_lnP 11 272 mm_X2_take := ⟨"Tilecount", tq_i6 104 rfl⟩
theorem ln_2_42 : tq_lmP 2 42 mm_X2_dropOldest := tq_i6 108 rfl
theorem ln_13_213 : tq_lmP 13 213 mm_L_next := tq_i6 112 rfl
theorem ln_13_55 : tq_lmP 13 55 mm_X11_next := tq_i6 115 rfl
theorem ln_13_216 : tq_lmP 13 216 mm_L_previous := tq_i6 120 rfl
theorem ln_13_59 : tq_lmP 13 59 mm_X11_previous := tq_i6 123 rfl
theorem ln_13_219 : tq_lmP 13 219 mm_L_number := tq_i6 127 rfl
theorem ln_13_62 : tq_lmP 13 62 mm_X11_number := tq_i6 130 rfl
theorem ln_13_222 : tq_lmP 13 222 mm_L_other := tq_i6 134 rfl
theorem ln_13_65 : tq_lmP 13 65 mm_X11_other := tq_i6 137 rfl
theorem ln_11_252 : tq_lnP 11 252 mm_X2_codeAt := ⟨"Tilecount", tq_i6 141 rfl⟩
theorem ln_13_225 : tq_lmP 13 225 mm_L_flips := tq_i6 142 rfl
theorem ln_13_69 : tq_lmP 13 69 mm_X11_flips := tq_i6 145 rfl
theorem ln_13_228 : tq_lmP 13 228 mm_L_flip := tq_i6 149 rfl
theorem ln_13_72 : tq_lmP 13 72 mm_X11_flip := tq_i6 152 rfl
theorem ln_13_231 : tq_lmP 13 231 mm_L_undo := tq_i6 157 rfl
theorem ln_13_76 : tq_lmP 13 76 mm_X11_undo := tq_i6 161 rfl
theorem ln_11_284 : tq_lnP 11 284 mm_X2_takeBack := ⟨"Tilecount", tq_i6 181 rfl⟩
theorem ln_13_234 : tq_lmP 13 234 mm_L_keep := tq_i6 185 rfl
theorem ln_13_81 : tq_lmP 13 81 mm_X11_keep := tq_i6 188 rfl
theorem ln_11_287 : tq_lnP 11 287 mm_X2_store := ⟨"Tilecount", tq_i6 192 rfl⟩
theorem ln_11_290 : tq_lnP 11 290 mm_X2_countCuts := ⟨"Tilecount", tq_i6 196 rfl⟩
theorem ln_13_237 : tq_lmP 13 237 mm_L_apart := tq_i6 202 rfl
theorem ln_13_84 : tq_lmP 13 84 mm_X11_apart := tq_i6 205 rfl
theorem ln_13_240 : tq_lmP 13 240 mm_L_height := tq_i6 210 rfl
theorem ln_13_87 : tq_lmP 13 87 mm_X11_height := tq_i6 213 rfl
theorem ln_11_311 : tq_lnP 11 311 mm_X7_isCorner := ⟨"Tilecount", tq_i6 217 rfl⟩
theorem ln_11_316 : tq_lnP 11 316 mm_X7_heightAt := ⟨"Tilecount", tq_i6 219 rfl⟩
theorem ln_13_243 : tq_lmP 13 243 mm_L_cuts := tq_i6 223 rfl
theorem ln_13_90 : tq_lmP 13 90 mm_X11_cuts := tq_i6 226 rfl
theorem ln_13_250 : tq_lmP 13 250 mm_L_role := tq_i6 230 rfl
theorem ln_13_93 : tq_lmP 13 93 mm_X11_role := tq_i6 233 rfl
theorem ln_11_326 : tq_lnP 11 326 mm_X1_bit := ⟨"Tilecount", tq_i6 237 rfl⟩
theorem ln_13_253 : tq_lmP 13 253 mm_L_roles := tq_i6 238 rfl
theorem ln_13_96 : tq_lmP 13 96 mm_X11_roles := tq_i7 1 rfl
theorem ln_13_256 : tq_lmP 13 256 mm_L_pieceCell := tq_i7 6 rfl
theorem ln_13_99 : tq_lmP 13 99 mm_X11_pieceCell := tq_i7 9 rfl
theorem ln_11_339 : tq_lnP 11 339 mm_X8_canType := ⟨"Tilecount", tq_i7 14 rfl⟩
theorem ln_8_34 : tq_lmP 8 34 mm_X8_bit := tq_i7 18 rfl
theorem ln_8_38 : tq_lmP 8 38 mm_J13_bitCount_95d88 := tq_i7 21 rfl
theorem ln_11_344 : tq_lnP 11 344 mm_X8_type := ⟨"Tilecount", tq_i7 23 rfl⟩
theorem ln_13_259 : tq_lmP 13 259 mm_L_kind := tq_i7 27 rfl
theorem ln_13_102 : tq_lmP 13 102 mm_X11_kind := tq_i7 30 rfl
theorem ln_11_350 : tq_lnP 11 350 mm_X8_canBeMade := ⟨"Tilecount", tq_i7 35 rfl⟩
theorem ln_11_355 : tq_lnP 11 355 mm_X8_makeShapes := ⟨"Tilecount", tq_i7 40 rfl⟩
theorem ln_8_58 : tq_lmP 8 58 mm_X8_hangsTogether := tq_i7 44 rfl
theorem ln_8_62 : tq_lmP 8 62 mm_X8_moved := tq_i7 51 rfl
theorem ln_8_66 : tq_lmP 8 66 mm_X8_isShapeOfAny := tq_i7 52 rfl
theorem ln_8_54 : tq_lmP 8 54 mm_X8_isShapeOf := tq_i7 56 rfl
theorem ln_8_70 : tq_lmP 8 70 mm_X8_isAmong := tq_i7 57 rfl
theorem ln_11_361 : tq_lnP 11 361 mm_X8_takeShapes := ⟨"Tilecount", tq_i7 62 rfl⟩
theorem ln_13_267 : tq_lmP 13 267 mm_L_exact := tq_i7 66 rfl
theorem ln_13_106 : tq_lmP 13 106 mm_X11_exact := tq_i7 69 rfl
theorem ln_13_270 : tq_lmP 13 270 mm_L_unlike := tq_i7 74 rfl
theorem ln_13_109 : tq_lmP 13 109 mm_X11_unlike := tq_i7 77 rfl
theorem ln_11_377 : tq_lnP 11 377 mm_X4_countUnlike := ⟨"Tilecount", tq_i7 82 rfl⟩
theorem ln_4_108 : tq_lmP 4 108 mm_X4_refresh := tq_i7 86 rfl
theorem ln_13_273 : tq_lmP 13 273 mm_L_kindAt := tq_i7 88 rfl
theorem ln_13_112 : tq_lmP 13 112 mm_X11_kindAt := tq_i7 91 rfl
theorem ln_11_385 : tq_lnP 11 385 mm_X4_chosenKind := ⟨"Tilecount", tq_i7 96 rfl⟩
theorem ln_13_277 : tq_lmP 13 277 mm_L_strip := tq_i7 100 rfl
theorem ln_13_116 : tq_lmP 13 116 mm_X11_strip := tq_i7 103 rfl
theorem ln_13_280 : tq_lmP 13 280 mm_L_order := tq_i7 108 rfl
theorem ln_13_119 : tq_lmP 13 119 mm_X11_order := tq_i7 111 rfl
theorem ln_11_399 : tq_lnP 11 399 mm_X6_orderOf := ⟨"Tilecount", tq_i7 116 rfl⟩
theorem ln_13_283 : tq_lmP 13 283 mm_L_rule := tq_i7 117 rfl
theorem ln_13_122 : tq_lmP 13 122 mm_X11_rule := tq_i7 120 rfl
theorem ln_11_404 : tq_lnP 11 404 mm_X6_factor := ⟨"Tilecount", tq_i7 125 rfl⟩
theorem ln_13_286 : tq_lmP 13 286 mm_L_hexagon := tq_i7 126 rfl
theorem ln_13_125 : tq_lmP 13 125 mm_X11_hexagon := tq_i7 129 rfl
theorem ln_11_407 : tq_lmP 11 407 mm_X11_areSides := tq_i7 133 rfl
theorem ln_13_289 : tq_lmP 13 289 mm_L_heaps := tq_i7 137 rfl
theorem ln_13_128 : tq_lmP 13 128 mm_X11_heaps := tq_i7 140 rfl
theorem ln_13_292 : tq_lmP 13 292 mm_L_rooks := tq_i7 144 rfl
theorem ln_13_131 : tq_lmP 13 131 mm_X11_rooks := tq_i7 147 rfl
theorem ln_11_422 : tq_lnP 11 422 mm_X10_countRooks := ⟨"Tilecount", tq_i7 152 rfl⟩
theorem ln_13_299 : tq_lmP 13 299 mm_L_loops := tq_i7 156 rfl
theorem ln_13_134 : tq_lmP 13 134 mm_X11_loops := tq_i7 159 rfl
theorem ln_11_430 : tq_lnP 11 430 mm_X10_countLoops := ⟨"Tilecount", tq_i7 164 rfl⟩
theorem ln_10_54 : tq_lmP 10 54 mm_X10_add := tq_i7 168 rfl
theorem ln_10_73 : tq_lmP 10 73 mm_X10_passCell := tq_i7 176 rfl
theorem ln_10_78 : tq_lnP 10 78 mm_X1_holds := ⟨"Tilecount", tq_i7 180 rfl⟩
theorem ln_10_82 : tq_lmP 10 82 mm_X10_join := tq_i7 181 rfl
theorem ln_10_86 : tq_lmP 10 86 mm_X10_mateOf := tq_i7 185 rfl
theorem ln_13_302 : tq_lmP 13 302 mm_L_share := tq_i7 188 rfl
theorem ln_13_137 : tq_lmP 13 137 mm_X11_share := tq_i7 205 rfl
theorem ln_13_306 : tq_lmP 13 306 mm_L_meanPart := tq_i7 212 rfl
theorem ln_13_143 : tq_lmP 13 143 mm_X11_meanPart := tq_i7 215 rfl
theorem ln_13_157 : tq_lmP 13 157 mm_X12_thrown := tq_i8 156 rfl
theorem ln_13_156 : tq_lmP 13 156 mm_X12_board := tq_i8 160 rfl
theorem ln_12_148 : tq_lmP 12 148 mm_X12_isIn := tq_i8 164 rfl
theorem ln_12_152 : tq_lmP 12 152 mm_X12_isThrown := tq_i8 167 rfl
theorem ln_12_156 : tq_lmP 12 156 mm_X12_rectangle := tq_i8 171 rfl
theorem ln_12_145 : tq_lmP 12 145 mm_X12_anew := tq_i8 175 rfl
theorem ln_12_160 : tq_lmP 12 160 mm_X12_many := tq_i8 179 rfl
theorem ln_13_163 : tq_lmP 13 163 mm_X12_form := tq_i8 183 rfl
theorem ln_13_182 : tq_lmP 13 182 mm_X12_has := tq_i8 187 rfl
theorem ln_12_164 : tq_lmP 12 164 mm_X12_isCell := tq_i8 191 rfl
theorem ln_13_166 : tq_lmP 13 166 mm_X12_cut := tq_i8 195 rfl
theorem ln_13_169 : tq_lmP 13 169 mm_X12_fill := tq_i8 199 rfl
theorem ln_13_173 : tq_lmP 13 173 mm_X12_roll := tq_i8 203 rfl
theorem ln_13_177 : tq_lmP 13 177 mm_X12_cells := tq_i8 207 rfl
theorem ln_12_168 : tq_lmP 12 168 mm_X12_isDark := tq_i8 211 rfl
theorem ln_13_186 : tq_lmP 13 186 mm_X12_parts := tq_i8 214 rfl
theorem ln_12_174 : tq_lmP 12 174 mm_X12_partsOf := tq_i8 218 rfl
theorem ln_12_177 : tq_lmP 12 177 mm_X12_noneSeen := tq_i8 222 rfl
theorem ln_12_180 : tq_lmP 12 180 mm_X12_see := tq_i8 226 rfl
theorem ln_12_184 : tq_lmP 12 184 mm_X12_beside := tq_i8 230 rfl
theorem ln_13_190 : tq_lmP 13 190 mm_X12_holes := tq_i8 234 rfl
theorem ln_12_188 : tq_lmP 12 188 mm_X12_holesOf := tq_i8 238 rfl
theorem ln_12_191 : tq_lmP 12 191 mm_X12_isWithin := tq_i9 2 rfl
theorem ln_13_194 : tq_lmP 13 194 mm_X12_covers := tq_i9 6 rfl
theorem ln_12_223 : tq_lmP 12 223 mm_X12_countAll := tq_i9 10 rfl
theorem ln_12_202 : tq_lmP 12 202 mm_X12_all := tq_i9 14 rfl
theorem ln_12_205 : tq_lmP 12 205 mm_X12_count := tq_i9 18 rfl
theorem ln_12_195 : tq_lmP 12 195 mm_X12_fillRow := tq_i9 22 rfl
theorem ln_12_199 : tq_lmP 12 199 mm_X12_isLeft := tq_i9 26 rfl
theorem ln_12_226 : tq_lmP 12 226 mm_X12_put := tq_i9 30 rfl
theorem ln_12_212 : tq_lmP 12 212 mm_X12_putDigits := tq_i9 34 rfl
theorem ln_12_216 : tq_lmP 12 216 mm_X12_putSign := tq_i9 38 rfl
theorem ln_13_198 : tq_lmP 13 198 mm_X12_bySigns := tq_i9 44 rfl
theorem ln_12_230 : tq_lmP 12 230 mm_X12_isRolledOrHoled := tq_i9 48 rfl
theorem ln_13_202 : tq_lmP 13 202 mm_X12_having := tq_i9 52 rfl
theorem ln_12_233 : tq_lmP 12 233 mm_X12_pieceOther := tq_i9 56 rfl
theorem ln_12_237 : tq_lmP 12 237 mm_X12_countWith := tq_i9 60 rfl
theorem ln_13_305 : tq_lmP 13 305 mm_X12_share := tq_i9 64 rfl
theorem ln_13_206 : tq_lmP 13 206 mm_X12_signAt := tq_i9 68 rfl
theorem ln_13_212 : tq_lmP 13 212 mm_X12_draw := tq_i9 72 rfl
theorem ln_12_251 : tq_lmP 12 251 mm_X12_keepUndo := tq_i9 76 rfl
theorem ln_12_254 : tq_lmP 12 254 mm_X12_make := tq_i9 80 rfl
theorem ln_12_241 : tq_lmP 12 241 mm_X12_choice := tq_i9 84 rfl
theorem ln_12_244 : tq_lmP 12 244 mm_X12_take := tq_i9 88 rfl
theorem ln_12_247 : tq_lmP 12 247 mm_X12_lay := tq_i9 92 rfl
theorem ln_13_215 : tq_lmP 13 215 mm_X12_next := tq_i9 96 rfl
theorem ln_12_257 : tq_lmP 12 257 mm_X12_hasNone := tq_i9 100 rfl
theorem ln_12_260 : tq_lmP 12 260 mm_X12_numberOf := tq_i9 104 rfl
theorem ln_13_218 : tq_lmP 13 218 mm_X12_previous := tq_i9 108 rfl
theorem ln_13_221 : tq_lmP 13 221 mm_X12_number := tq_i9 112 rfl
theorem ln_13_224 : tq_lmP 13 224 mm_X12_other := tq_i9 116 rfl
theorem ln_13_227 : tq_lmP 13 227 mm_X12_flips := tq_i9 120 rfl
theorem ln_12_266 : tq_lmP 12 266 mm_X12_flipsOf := tq_i9 124 rfl
theorem ln_12_263 : tq_lmP 12 263 mm_X12_isFlip := tq_i9 128 rfl
theorem ln_13_230 : tq_lmP 13 230 mm_X12_flip := tq_i9 132 rfl
theorem ln_13_233 : tq_lmP 13 233 mm_X12_undo := tq_i9 136 rfl
theorem ln_13_245 : tq_lmP 13 245 mm_X12_cuts := tq_i9 140 rfl
theorem ln_12_269 : tq_lmP 12 269 mm_X12_cutsOf := tq_i9 144 rfl
theorem ln_13_236 : tq_lmP 13 236 mm_X12_keep := tq_i9 148 rfl
theorem ln_13_239 : tq_lmP 13 239 mm_X12_apart := tq_i9 152 rfl
theorem ln_12_284 : tq_lmP 12 284 mm_X12_exchange := tq_i9 156 rfl
theorem ln_12_287 : tq_lmP 12 287 mm_X12_tellHeights := tq_i9 160 rfl
theorem ln_12_273 : tq_lmP 12 273 mm_X12_isCorner := tq_i9 165 rfl
theorem ln_12_276 : tq_lmP 12 276 mm_X12_tellFrom := tq_i9 169 rfl
theorem ln_12_280 : tq_lmP 12 280 mm_X12_along := tq_i9 173 rfl
theorem ln_13_242 : tq_lmP 13 242 mm_X12_height := tq_i9 177 rfl
theorem ln_13_249 : tq_lmP 13 249 mm_X12_free := tq_i9 181 rfl
theorem ln_12_296 : tq_lmP 12 296 mm_X12_most := tq_i9 185 rfl
theorem ln_12_290 : tq_lmP 12 290 mm_X12_isThere := tq_i9 189 rfl
theorem ln_12_293 : tq_lmP 12 293 mm_X12_finds := tq_i9 193 rfl
theorem ln_13_252 : tq_lmP 13 252 mm_X12_role := tq_i9 197 rfl
theorem ln_12_300 : tq_lmP 12 300 mm_X12_roleOf := tq_i9 201 rfl
theorem ln_13_255 : tq_lmP 13 255 mm_X12_roles := tq_i9 205 rfl
theorem ln_13_258 : tq_lmP 13 258 mm_X12_pieceCell := tq_i9 209 rfl
theorem ln_12_308 : tq_lmP 12 308 mm_X12_bits := tq_i9 213 rfl
theorem ln_13_262 : tq_lmP 13 262 mm_X12_kind := tq_i9 216 rfl
theorem ln_12_327 : tq_lmP 12 327 mm_X12_hangs := tq_i9 220 rfl
theorem ln_12_320 : tq_lmP 12 320 mm_X12_isBit := tq_i9 223 rfl
theorem ln_12_316 : tq_lmP 12 316 mm_X12_moved := tq_i9 226 rfl
theorem ln_12_311 : tq_lmP 12 311 mm_J9_min_7cf53 := tq_i9 229 rfl
theorem ln_12_331 : tq_lmP 12 331 mm_X12_isKnown := tq_i9 230 rfl
theorem ln_12_334 : tq_lmP 12 334 mm_X12_turned := tq_i9 234 rfl
theorem ln_12_337 : tq_lmP 12 337 mm_X12_mirrored := tq_i9 237 rfl
theorem ln_13_266 : tq_lmP 13 266 mm_X12_clear := tq_i10 0 rfl
theorem ln_13_269 : tq_lmP 13 269 mm_X12_exact := tq_i10 4 rfl
theorem ln_12_402 : tq_lmP 12 402 mm_X12_isMuch := tq_i10 8 rfl
theorem ln_12_405 : tq_lmP 12 405 mm_X12_searched := tq_i10 12 rfl
theorem ln_12_385 : tq_lmP 12 385 mm_X12_tellPlaces := tq_i10 16 rfl
theorem ln_12_353 : tq_lmP 12 353 mm_X12_laid := tq_i10 20 rfl
theorem ln_12_357 : tq_lmP 12 357 mm_X12_addPlace := tq_i10 24 rfl
theorem ln_12_340 : tq_lmP 12 340 mm_X12_lowest := tq_i10 28 rfl
theorem ln_12_346 : tq_lmP 12 346 mm_X12_isAhead := tq_i10 31 rfl
theorem ln_12_382 : tq_lmP 12 382 mm_X12_search := tq_i10 34 rfl
theorem ln_12_364 : tq_lmP 12 364 mm_X12_isFirstOfAlike := tq_i10 38 rfl
theorem ln_12_391 : tq_lmP 12 391 mm_X12_goesAll := tq_i10 42 rfl
theorem ln_12_388 : tq_lmP 12 388 mm_X12_goes := tq_i10 46 rfl
theorem ln_12_395 : tq_lmP 12 395 mm_X12_isImageAhead := tq_i10 50 rfl
theorem ln_12_398 : tq_lmP 12 398 mm_X12_isPlace := tq_i10 54 rfl
theorem ln_13_272 : tq_lmP 13 272 mm_X12_unlike := tq_i10 59 rfl
theorem ln_13_276 : tq_lmP 13 276 mm_X12_kindAt := tq_i10 63 rfl
theorem ln_13_282 : tq_lmP 13 282 mm_X12_order := tq_i10 67 rfl
theorem ln_12_428 : tq_lmP 12 428 mm_X12_tellRule := tq_i10 71 rfl
theorem ln_12_414 : tq_lmP 12 414 mm_X12_tellTerms := tq_i10 75 rfl
theorem ln_12_409 : tq_lmP 12 409 mm_X12_stripRow := tq_i10 79 rfl
theorem ln_12_422 : tq_lmP 12 422 mm_X12_power := tq_i10 85 rfl
theorem ln_13_285 : tq_lmP 13 285 mm_X12_rule := tq_i10 88 rfl
theorem ln_12_431 : tq_lmP 12 431 mm_X12_ruleOf := tq_i10 92 rfl
theorem ln_13_279 : tq_lmP 13 279 mm_X12_strip := tq_i10 97 rfl
theorem ln_12_437 : tq_lmP 12 437 mm_X12_carry := tq_i10 102 rfl
theorem ln_12_440 : tq_lmP 12 440 mm_X12_putSum := tq_i10 106 rfl
theorem ln_13_291 : tq_lmP 13 291 mm_X12_heaps := tq_i10 111 rfl
theorem ln_12_445 : tq_lmP 12 445 mm_X12_factors := tq_i10 115 rfl
theorem ln_13_288 : tq_lmP 13 288 mm_X12_hexagon := tq_i10 119 rfl
theorem ln_12_448 : tq_lmP 12 448 mm_X12_heaps := tq_i10 123 rfl
theorem ln_13_294 : tq_lmP 13 294 mm_X12_rooks := tq_i10 124 rfl
theorem ln_12_452 : tq_lmP 12 452 mm_X12_rooksOf := tq_i10 128 rfl
theorem ln_13_298 : tq_lmP 13 298 mm_X12_mostRooks := tq_i10 132 rfl
theorem ln_13_301 : tq_lmP 13 301 mm_X12_loops := tq_i10 136 rfl
theorem ln_12_470 : tq_lmP 12 470 mm_X12_goOn := tq_i10 140 rfl
theorem ln_12_455 : tq_lmP 12 455 mm_X12_plug := tq_i10 144 rfl
theorem ln_12_458 : tq_lmP 12 458 mm_X12_with := tq_i10 147 rfl
theorem ln_12_461 : tq_lmP 12 461 mm_X12_add := tq_i10 150 rfl
theorem ln_12_464 : tq_lmP 12 464 mm_X12_otherEnd := tq_i10 154 rfl
theorem ln_13_309 : tq_lmP 13 309 mm_X12_meanPart := tq_i10 157 rfl
theorem ln_13_314 : tq_lmP 13 314 mm_X12_checksum := tq_i10 161 rfl
theorem ln_13_318 : tq_lmP 13 318 mm_X12_isSound := tq_i10 167 rfl
def tq_strs : List (String × Nat × String) := [("Tilecount", 107, "a board is 1 to 8 wide and 1 to 8 high"), ("Tilecount", 131, "there is no such form"), ("Tilecount", 143, "the board has no such cell"), ("Tilecount", 153, "no such cell is missing"), ("Tilecount", 161, "only an even width of 4 at least can be rolled"), ("Tilecount", 172, "cells are told by 'a' or 'd'"), ("Tilecount", 202, "the board is rolled or has a hole"), ("Tilecount", 212, "there is no such piece"), ("Tilecount", 221, "the text has no such place"), ("Tilecount", 225, "the board has no cover"), ("Tilecount", 241, "there is no cover"), ("Tilecount", 263, "there is no such flip"), ("Tilecount", 281, "nothing can be undone"), ("Tilecount", 296, "there are no two covers"), ("Tilecount", 314, "it is no corner of a cell"), ("Tilecount", 335, "there is no such role"), ("Tilecount", 337, "a typed cell has x and y from 0 to 5"), ("Tilecount", 342, "6 other cells are typed"), ("Tilecount", 348, "there are 1 to 8 pieces of a kind"), ("Tilecount", 353, "too few cells are typed, or there are 6 kinds"), ("Tilecount", 359, "the cells do not hang together, or are of another kind"), ("Tilecount", 370, "the board has more than 24 cells"), ("Tilecount", 375, "the board has more than 24 cells, or is rolled"), ("Tilecount", 380, "there is no such exact cover"), ("Tilecount", 388, "a strip is 1 to 6 wide and 0 to 300 long"), ("Tilecount", 397, "a strip is 1 to 6 wide"), ("Tilecount", 402, "the rule has no such number"), ("Tilecount", 410, "a side is 1 to 8"), ("Tilecount", 420, "there are 0 to 8 rooks"), ("Tilecount", 428, "the board has more than 36 cells, or is rolled"), ("Tilecount", 435, "there are no covers"), ("Tilecount", 438, "there are no cells")]
def tq_ncs : List (String × String) := [("java/lang/IndexOutOfBoundsException", "java/lang/IllegalArgumentException"), ("java/lang/UnsupportedOperationException", "java/lang/IllegalArgumentException"), ("java/util/NoSuchElementException", "java/lang/IllegalArgumentException"), ("java/lang/IllegalStateException", "java/lang/IllegalArgumentException"), ("java/lang/ArithmeticException", "java/lang/IllegalArgumentException"), ("java/lang/IllegalArgumentException", "java/lang/IndexOutOfBoundsException"), ("java/lang/UnsupportedOperationException", "java/lang/IndexOutOfBoundsException"), ("java/util/NoSuchElementException", "java/lang/IndexOutOfBoundsException"), ("java/lang/IllegalStateException", "java/lang/IndexOutOfBoundsException"), ("java/lang/ArithmeticException", "java/lang/IndexOutOfBoundsException"), ("java/lang/IllegalArgumentException", "java/lang/UnsupportedOperationException"), ("java/lang/IndexOutOfBoundsException", "java/lang/UnsupportedOperationException"), ("java/util/NoSuchElementException", "java/lang/UnsupportedOperationException"), ("java/lang/IllegalStateException", "java/lang/UnsupportedOperationException"), ("java/lang/ArithmeticException", "java/lang/UnsupportedOperationException"), ("java/lang/IllegalArgumentException", "java/util/NoSuchElementException"), ("java/lang/IndexOutOfBoundsException", "java/util/NoSuchElementException"), ("java/lang/UnsupportedOperationException", "java/util/NoSuchElementException"), ("java/lang/IllegalStateException", "java/util/NoSuchElementException"), ("java/lang/ArithmeticException", "java/util/NoSuchElementException"), ("java/lang/IllegalArgumentException", "java/lang/IllegalStateException"), ("java/lang/IndexOutOfBoundsException", "java/lang/IllegalStateException"), ("java/lang/UnsupportedOperationException", "java/lang/IllegalStateException"), ("java/util/NoSuchElementException", "java/lang/IllegalStateException"), ("java/lang/ArithmeticException", "java/lang/IllegalStateException"), ("java/lang/IllegalArgumentException", "java/lang/ArithmeticException"), ("java/lang/IndexOutOfBoundsException", "java/lang/ArithmeticException"), ("java/lang/UnsupportedOperationException", "java/lang/ArithmeticException"), ("java/util/NoSuchElementException", "java/lang/ArithmeticException"), ("java/lang/IllegalStateException", "java/lang/ArithmeticException")]
def tq_exn : List String := ["java/lang/ArithmeticException", "java/lang/IllegalArgumentException", "java/lang/IllegalStateException", "java/lang/IndexOutOfBoundsException", "java/lang/UnsupportedOperationException", "java/util/NoSuchElementException"]
def tq_sts : List (String × String × Nat) := [("Tilecount$Growth", "ENDS", 900), ("Tilecount$Growth", "FACTORS", 901)]
def tq_ends : List Int32 := [0, 2, 4, 8, 12, 20, 28]
def tq_facs : List Int32 := [0, 1, 1, 1, 0, 4, 0, (-1), 1, 5, 1, (-1), 0, 15, 0, (-32), 0, 15, 0, (-1), 1, 20, 10, (-38), (-10), 20, (-1), (-1)]
def tq_ls : List (Nat × Nat × String × String × Nat) := [(6, 20, "Tilecount$Growth", "ENDS", 900), (6, 23, "Tilecount$Growth", "FACTORS", 901)]
theorem tq_ls_ok : ∀ q ∈ tq_ls, Cond.fieldLink (tq_cn q.1) q.2.1 q.2.2.1 q.2.2.2.1 "[I" ∈ lw_tbl ∧ (q.2.2.1, q.2.2.2.1, q.2.2.2.2) ∈ tq_sts := List.forall_mem_cons.mpr ⟨⟨tq_i5 1 rfl, by decide⟩, List.forall_mem_cons.mpr ⟨⟨tq_i5 25 rfl, by decide⟩, fun _ h => nomatch h⟩⟩
