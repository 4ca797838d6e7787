def tq_cl : List vw_C := [(RX0, TX0, 3), (RX1, TX1, 5), (RX2, TX2, 11), (RX3, TX3, 2), (RX4, TX4, 19), (RX5, TX5, 10), (RX6, TX6, 3), (RX7, TX7, 6), (RX8, TX8, 7), (RX9, TX9, 8), (RX10, TX10, 5), (RX11, TX11, 14)]
def tq_cn : Nat → String := fun k => [RX0, RX1, RX2, RX3, RX4, RX5, RX6, RX7, RX8, RX9, RX10, RX11, RX12, RL, RJ9, RJ13, RJ7].getD k ""
def tq_sh : tq_Sh := [.inr (11, [(0, 1), (0, 2), (0, 8), (0, 12), (0, 16), (0, 19), (0, 23), (0, 28), (0, 38), (0, 42), (0, 46), (0, 48), (0, 50), (1, 0)]), .inr (1, [(1, 0), (1, 0), (1, 1), (2, 0), (1, 0)]), .inr (5, [(0, 1), (0, 3), (0, 4), (0, 5), (0, 6), (0, 7), (1, 0), (1, 0), (2, 0), (2, 0)]), .inl (3, 2304), .inl (3, 4608), .inl (3, 512), .inl (3, 512), .inl (3, 128), .inr (2, [(0, 1), (0, 9), (0, 10), (0, 11), (1, 1), (2, 0), (2, 0), (1, 1), (2, 0), (2, 0), (1, 0)]), .inl (3, 10), .inl (3, 10), .inl (1, 10), .inr (7, [(0, 1), (0, 13), (0, 14), (0, 15), (2, 0), (2, 0)]), .inl (0, 81), .inl (0, 81), .inl (0, 81), .inr (3, [(0, 17), (0, 18)]), .inl (3, 1024), .inl (3, 3), .inr (9, [(0, 1), (0, 20), (0, 21), (0, 22), (1, 0), (2, 0), (2, 0), (2, 0)]), .inl (0, 64), .inl (0, 64), .inl (0, 64), .inr (8, [(0, 24), (0, 25), (0, 26), (0, 27), (2, 0), (1, 0), (1, 0)]), .inl (3, 48), .inl (0, 6), .inl (0, 6), .inl (0, 6), .inr (4, [(0, 1), (0, 23), (0, 29), (0, 30), (0, 31), (0, 32), (0, 33), (0, 34), (0, 35), (0, 36), (0, 37), (1, 0), (1, 0), (1, 0), (1, 0), (1, 0), (1, 0), (2, 0), (2, 0)]), .inl (3, 1152), .inl (0, 25), .inl (0, 24), .inl (0, 64), .inl (0, 192), .inl (3, 2048), .inl (3, 2048), .inl (3, 288), .inl (0, 8), .inr (6, [(0, 39), (0, 40), (0, 41)]), .inl (0, 234), .inl (3, 64), .inl (3, 64), .inr (10, [(0, 1), (0, 43), (0, 44), (0, 45), (2, 0)]), .inl (3, 256), .inl (3, 1024), .inl (3, 1024), .inr (0, [(0, 47), (1, 0), (1, 1)]), .inl (0, 34), .inr (0, [(0, 49), (1, 0), (1, 1)]), .inl (0, 34), .inl (2, 320), .inl (0, 1)]
theorem tq_sh_ok : tq_shok tq_sh := by
  have h : ∀ x ∈ tq_sh, (match x with | .inl _ => true | .inr o => decide (o.2.length ≤ 64)) = true := by decide +kernel
  intro i c fs hi
  have h1 := h _ (List.mem_of_getElem? hi)
  simpa using h1
theorem tq_in {w : Cond} (h : w ∈ tables_1) : w ∈ lw_tbl := List.mem_append_right _ h
theorem tq_i1 {w : Cond} (i : Nat) (h0 : tables_1_1[i]? = some w) : w ∈ lw_tbl := by
  have h : w ∈ tables_1_1 := List.mem_of_getElem? h0
  exact tq_in (List.mem_append_left _ h)
theorem tq_i2 {w : Cond} (i : Nat) (h0 : tables_1_2[i]? = some w) : w ∈ lw_tbl := by
  have h : w ∈ tables_1_2 := List.mem_of_getElem? h0
  exact tq_in (List.mem_append_right _ (List.mem_append_left _ h))
theorem tq_i3 {w : Cond} (i : Nat) (h0 : tables_1_3[i]? = some w) : w ∈ lw_tbl := by
  have h : w ∈ tables_1_3 := List.mem_of_getElem? h0
  exact tq_in (List.mem_append_right _ (List.mem_append_right _ (List.mem_append_left _ h)))
theorem tq_i4 {w : Cond} (i : Nat) (h0 : tables_1_4[i]? = some w) : w ∈ lw_tbl := by
  have h : w ∈ tables_1_4 := List.mem_of_getElem? h0
  exact tq_in (List.mem_append_right _ (List.mem_append_right _ (List.mem_append_right _ (List.mem_append_left _ h))))
theorem tq_i5 {w : Cond} (i : Nat) (h0 : tables_1_5[i]? = some w) : w ∈ lw_tbl := by
  have h : w ∈ tables_1_5 := List.mem_of_getElem? h0
  exact tq_in (List.mem_append_right _ (List.mem_append_right _ (List.mem_append_right _ (List.mem_append_right _ (List.mem_append_left _ h)))))
theorem tq_i6 {w : Cond} (i : Nat) (h0 : tables_1_6[i]? = some w) : w ∈ lw_tbl := by
  have h : w ∈ tables_1_6 := List.mem_of_getElem? h0
  exact tq_in (List.mem_append_right _ (List.mem_append_right _ (List.mem_append_right _ (List.mem_append_right _ (List.mem_append_right _ (List.mem_append_left _ h))))))
theorem tq_i7 {w : Cond} (i : Nat) (h0 : tables_1_7[i]? = some w) : w ∈ lw_tbl := by
  have h : w ∈ tables_1_7 := List.mem_of_getElem? h0
  exact tq_in (List.mem_append_right _ (List.mem_append_right _ (List.mem_append_right _ (List.mem_append_right _ (List.mem_append_right _ (List.mem_append_right _ (h)))))))

def tq_clP (q : vw_C) : Prop := (∀ w ∈ u_ws q.1 q.2.1 q.2.2, w ∈ lw_tbl) ∧ (∃ ty : Nat → FieldType, ∀ k, k < q.2.2 → parseFieldDescriptor (q.2.1 k).2.2.1 = some (ty k)) ∧ (∀ a, a < q.2.2 → ∀ b, b < q.2.2 → a ≠ b → (q.2.1 a).2.1 ≠ (q.2.1 b).2.1)
theorem tq_cl_X0 : tq_clP (RX0, TX0, 3) := ⟨by show ∀ w ∈ [u_lay RX0 TX0 0, u_lay RX0 TX0 1, u_lay RX0 TX0 2], w ∈ lw_tbl; exact List.forall_mem_cons.mpr ⟨tq_i2 147 rfl, List.forall_mem_cons.mpr ⟨tq_i2 149 rfl, List.forall_mem_cons.mpr ⟨tq_i2 151 rfl, fun _ h => nomatch h⟩⟩⟩, ⟨tyX0, tyX0_ok⟩, nmX0⟩
theorem tq_cl_X1 : tq_clP (RX1, TX1, 5) := ⟨by show ∀ w ∈ [u_lay RX1 TX1 0, u_lay RX1 TX1 1, u_lay RX1 TX1 2, u_lay RX1 TX1 3, u_lay RX1 TX1 4], w ∈ lw_tbl; exact List.forall_mem_cons.mpr ⟨tq_i1 70 rfl, List.forall_mem_cons.mpr ⟨tq_i1 72 rfl, List.forall_mem_cons.mpr ⟨tq_i1 74 rfl, List.forall_mem_cons.mpr ⟨tq_i1 76 rfl, List.forall_mem_cons.mpr ⟨tq_i1 78 rfl, fun _ h => nomatch h⟩⟩⟩⟩⟩, ⟨tyX1, tyX1_ok⟩, nmX1⟩
theorem tq_cl_X2 : tq_clP (RX2, TX2, 11) := ⟨by show ∀ w ∈ [u_lay RX2 TX2 0, u_lay RX2 TX2 1, u_lay RX2 TX2 2, u_lay RX2 TX2 3, u_lay RX2 TX2 4, u_lay RX2 TX2 5, u_lay RX2 TX2 6, u_lay RX2 TX2 7, u_lay RX2 TX2 8, u_lay RX2 TX2 9, u_lay RX2 TX2 10], w ∈ lw_tbl; exact List.forall_mem_cons.mpr ⟨tq_i1 145 rfl, List.forall_mem_cons.mpr ⟨tq_i1 147 rfl, List.forall_mem_cons.mpr ⟨tq_i1 149 rfl, List.forall_mem_cons.mpr ⟨tq_i1 151 rfl, List.forall_mem_cons.mpr ⟨tq_i1 153 rfl, List.forall_mem_cons.mpr ⟨tq_i1 155 rfl, List.forall_mem_cons.mpr ⟨tq_i1 157 rfl, List.forall_mem_cons.mpr ⟨tq_i1 159 rfl, List.forall_mem_cons.mpr ⟨tq_i1 161 rfl, List.forall_mem_cons.mpr ⟨tq_i1 163 rfl, List.forall_mem_cons.mpr ⟨tq_i1 165 rfl, fun _ h => nomatch h⟩⟩⟩⟩⟩⟩⟩⟩⟩⟩⟩, ⟨tyX2, tyX2_ok⟩, nmX2⟩
theorem tq_cl_X3 : tq_clP (RX3, TX3, 2) := ⟨by show ∀ w ∈ [u_lay RX3 TX3 0, u_lay RX3 TX3 1], w ∈ lw_tbl; exact List.forall_mem_cons.mpr ⟨tq_i1 203 rfl, List.forall_mem_cons.mpr ⟨tq_i1 205 rfl, fun _ h => nomatch h⟩⟩, ⟨tyX3, tyX3_ok⟩, nmX3⟩
theorem tq_cl_X4 : tq_clP (RX4, TX4, 19) := ⟨by show ∀ w ∈ [u_lay RX4 TX4 0, u_lay RX4 TX4 1, u_lay RX4 TX4 2, u_lay RX4 TX4 3, u_lay RX4 TX4 4, u_lay RX4 TX4 5, u_lay RX4 TX4 6, u_lay RX4 TX4 7, u_lay RX4 TX4 8, u_lay RX4 TX4 9, u_lay RX4 TX4 10, u_lay RX4 TX4 11, u_lay RX4 TX4 12, u_lay RX4 TX4 13, u_lay RX4 TX4 14, u_lay RX4 TX4 15, u_lay RX4 TX4 16, u_lay RX4 TX4 17, u_lay RX4 TX4 18], w ∈ lw_tbl; exact List.forall_mem_cons.mpr ⟨tq_i2 62 rfl, List.forall_mem_cons.mpr ⟨tq_i2 64 rfl, List.forall_mem_cons.mpr ⟨tq_i2 66 rfl, List.forall_mem_cons.mpr ⟨tq_i2 68 rfl, List.forall_mem_cons.mpr ⟨tq_i2 70 rfl, List.forall_mem_cons.mpr ⟨tq_i2 72 rfl, List.forall_mem_cons.mpr ⟨tq_i2 74 rfl, List.forall_mem_cons.mpr ⟨tq_i2 76 rfl, List.forall_mem_cons.mpr ⟨tq_i2 78 rfl, List.forall_mem_cons.mpr ⟨tq_i2 80 rfl, List.forall_mem_cons.mpr ⟨tq_i2 82 rfl, List.forall_mem_cons.mpr ⟨tq_i2 84 rfl, List.forall_mem_cons.mpr ⟨tq_i2 86 rfl, List.forall_mem_cons.mpr ⟨tq_i2 88 rfl, List.forall_mem_cons.mpr ⟨tq_i2 90 rfl, List.forall_mem_cons.mpr ⟨tq_i2 92 rfl, List.forall_mem_cons.mpr ⟨tq_i2 94 rfl, List.forall_mem_cons.mpr ⟨tq_i2 96 rfl, List.forall_mem_cons.mpr ⟨tq_i2 98 rfl, fun _ h => nomatch h⟩⟩⟩⟩⟩⟩⟩⟩⟩⟩⟩⟩⟩⟩⟩⟩⟩⟩⟩, ⟨tyX4, tyX4_ok⟩, nmX4⟩
theorem tq_cl_X5 : tq_clP (RX5, TX5, 10) := ⟨by show ∀ w ∈ [u_lay RX5 TX5 0, u_lay RX5 TX5 1, u_lay RX5 TX5 2, u_lay RX5 TX5 3, u_lay RX5 TX5 4, u_lay RX5 TX5 5, u_lay RX5 TX5 6, u_lay RX5 TX5 7, u_lay RX5 TX5 8, u_lay RX5 TX5 9], w ∈ lw_tbl; exact List.forall_mem_cons.mpr ⟨tq_i1 99 rfl, List.forall_mem_cons.mpr ⟨tq_i1 101 rfl, List.forall_mem_cons.mpr ⟨tq_i1 103 rfl, List.forall_mem_cons.mpr ⟨tq_i1 105 rfl, List.forall_mem_cons.mpr ⟨tq_i1 107 rfl, List.forall_mem_cons.mpr ⟨tq_i1 109 rfl, List.forall_mem_cons.mpr ⟨tq_i1 111 rfl, List.forall_mem_cons.mpr ⟨tq_i1 113 rfl, List.forall_mem_cons.mpr ⟨tq_i1 115 rfl, List.forall_mem_cons.mpr ⟨tq_i1 117 rfl, fun _ h => nomatch h⟩⟩⟩⟩⟩⟩⟩⟩⟩⟩, ⟨tyX5, tyX5_ok⟩, nmX5⟩
theorem tq_cl_X6 : tq_clP (RX6, TX6, 3) := ⟨by show ∀ w ∈ [u_lay RX6 TX6 0, u_lay RX6 TX6 1, u_lay RX6 TX6 2], w ∈ lw_tbl; exact List.forall_mem_cons.mpr ⟨tq_i2 110 rfl, List.forall_mem_cons.mpr ⟨tq_i2 112 rfl, List.forall_mem_cons.mpr ⟨tq_i2 114 rfl, fun _ h => nomatch h⟩⟩⟩, ⟨tyX6, tyX6_ok⟩, nmX6⟩
theorem tq_cl_X7 : tq_clP (RX7, TX7, 6) := ⟨by show ∀ w ∈ [u_lay RX7 TX7 0, u_lay RX7 TX7 1, u_lay RX7 TX7 2, u_lay RX7 TX7 3, u_lay RX7 TX7 4, u_lay RX7 TX7 5], w ∈ lw_tbl; exact List.forall_mem_cons.mpr ⟨tq_i1 181 rfl, List.forall_mem_cons.mpr ⟨tq_i1 183 rfl, List.forall_mem_cons.mpr ⟨tq_i1 185 rfl, List.forall_mem_cons.mpr ⟨tq_i1 187 rfl, List.forall_mem_cons.mpr ⟨tq_i1 189 rfl, List.forall_mem_cons.mpr ⟨tq_i1 191 rfl, fun _ h => nomatch h⟩⟩⟩⟩⟩⟩, ⟨tyX7, tyX7_ok⟩, nmX7⟩
theorem tq_cl_X8 : tq_clP (RX8, TX8, 7) := ⟨by show ∀ w ∈ [u_lay RX8 TX8 0, u_lay RX8 TX8 1, u_lay RX8 TX8 2, u_lay RX8 TX8 3, u_lay RX8 TX8 4, u_lay RX8 TX8 5, u_lay RX8 TX8 6], w ∈ lw_tbl; exact List.forall_mem_cons.mpr ⟨tq_i2 21 rfl, List.forall_mem_cons.mpr ⟨tq_i2 23 rfl, List.forall_mem_cons.mpr ⟨tq_i2 25 rfl, List.forall_mem_cons.mpr ⟨tq_i2 27 rfl, List.forall_mem_cons.mpr ⟨tq_i2 29 rfl, List.forall_mem_cons.mpr ⟨tq_i2 31 rfl, List.forall_mem_cons.mpr ⟨tq_i2 33 rfl, fun _ h => nomatch h⟩⟩⟩⟩⟩⟩⟩, ⟨tyX8, tyX8_ok⟩, nmX8⟩
theorem tq_cl_X9 : tq_clP (RX9, TX9, 8) := ⟨by show ∀ w ∈ [u_lay RX9 TX9 0, u_lay RX9 TX9 1, u_lay RX9 TX9 2, u_lay RX9 TX9 3, u_lay RX9 TX9 4, u_lay RX9 TX9 5, u_lay RX9 TX9 6, u_lay RX9 TX9 7], w ∈ lw_tbl; exact List.forall_mem_cons.mpr ⟨tq_i1 225 rfl, List.forall_mem_cons.mpr ⟨tq_i1 227 rfl, List.forall_mem_cons.mpr ⟨tq_i1 229 rfl, List.forall_mem_cons.mpr ⟨tq_i1 231 rfl, List.forall_mem_cons.mpr ⟨tq_i1 233 rfl, List.forall_mem_cons.mpr ⟨tq_i1 235 rfl, List.forall_mem_cons.mpr ⟨tq_i1 237 rfl, List.forall_mem_cons.mpr ⟨tq_i1 239 rfl, fun _ h => nomatch h⟩⟩⟩⟩⟩⟩⟩⟩, ⟨tyX9, tyX9_ok⟩, nmX9⟩
theorem tq_cl_X10 : tq_clP (RX10, TX10, 5) := ⟨by show ∀ w ∈ [u_lay RX10 TX10 0, u_lay RX10 TX10 1, u_lay RX10 TX10 2, u_lay RX10 TX10 3, u_lay RX10 TX10 4], w ∈ lw_tbl; exact List.forall_mem_cons.mpr ⟨tq_i2 127 rfl, List.forall_mem_cons.mpr ⟨tq_i2 129 rfl, List.forall_mem_cons.mpr ⟨tq_i2 131 rfl, List.forall_mem_cons.mpr ⟨tq_i2 133 rfl, List.forall_mem_cons.mpr ⟨tq_i2 135 rfl, fun _ h => nomatch h⟩⟩⟩⟩⟩, ⟨tyX10, tyX10_ok⟩, nmX10⟩
theorem tq_cl_X11 : tq_clP (RX11, TX11, 14) := ⟨by show ∀ w ∈ [u_lay RX11 TX11 0, u_lay RX11 TX11 1, u_lay RX11 TX11 2, u_lay RX11 TX11 3, u_lay RX11 TX11 4, u_lay RX11 TX11 5, u_lay RX11 TX11 6, u_lay RX11 TX11 7, u_lay RX11 TX11 8, u_lay RX11 TX11 9, u_lay RX11 TX11 10, u_lay RX11 TX11 11, u_lay RX11 TX11 12, u_lay RX11 TX11 13], w ∈ lw_tbl; exact List.forall_mem_cons.mpr ⟨tq_i2 168 rfl, List.forall_mem_cons.mpr ⟨tq_i2 170 rfl, List.forall_mem_cons.mpr ⟨tq_i2 172 rfl, List.forall_mem_cons.mpr ⟨tq_i2 174 rfl, List.forall_mem_cons.mpr ⟨tq_i2 176 rfl, List.forall_mem_cons.mpr ⟨tq_i2 178 rfl, List.forall_mem_cons.mpr ⟨tq_i2 180 rfl, List.forall_mem_cons.mpr ⟨tq_i2 182 rfl, List.forall_mem_cons.mpr ⟨tq_i2 184 rfl, List.forall_mem_cons.mpr ⟨tq_i2 186 rfl, List.forall_mem_cons.mpr ⟨tq_i2 188 rfl, List.forall_mem_cons.mpr ⟨tq_i2 190 rfl, List.forall_mem_cons.mpr ⟨tq_i2 192 rfl, List.forall_mem_cons.mpr ⟨tq_i2 194 rfl, fun _ h => nomatch h⟩⟩⟩⟩⟩⟩⟩⟩⟩⟩⟩⟩⟩⟩, ⟨tyX11, tyX11_ok⟩, nmX11⟩
theorem tq_cl_ok : ∀ q ∈ tq_cl, tq_clP q := List.forall_mem_cons.mpr ⟨tq_cl_X0, List.forall_mem_cons.mpr ⟨tq_cl_X1, List.forall_mem_cons.mpr ⟨tq_cl_X2, List.forall_mem_cons.mpr ⟨tq_cl_X3, List.forall_mem_cons.mpr ⟨tq_cl_X4, List.forall_mem_cons.mpr ⟨tq_cl_X5, List.forall_mem_cons.mpr ⟨tq_cl_X6, List.forall_mem_cons.mpr ⟨tq_cl_X7, List.forall_mem_cons.mpr ⟨tq_cl_X8, List.forall_mem_cons.mpr ⟨tq_cl_X9, List.forall_mem_cons.mpr ⟨tq_cl_X10, List.forall_mem_cons.mpr ⟨tq_cl_X11, fun _ h => nomatch h⟩⟩⟩⟩⟩⟩⟩⟩⟩⟩⟩⟩
def tq_lfP (own : String) (q : Nat × Nat × Nat × Bool) : Prop := ∃ (C : String) (T : u_T) (N : Nat), tq_cl[q.2.1]? = some (C, T, N) ∧ q.2.2.1 < N ∧ (T q.2.2.1).1 = C ∧ (match q.2.2.2 with
  | true => ∃ host, Cond.fieldLinkNest own q.1 C (T q.2.2.1).2.1 (T q.2.2.1).2.2.1 host ∈ lw_tbl
  | false => Cond.fieldLink own q.1 C (T q.2.2.1).2.1 (T q.2.2.1).2.2.1 ∈ lw_tbl)
def tq_lf0 : List (Nat × Nat × Nat × Bool) := [(9, 0, 0, false), (13, 0, 1, false), (17, 0, 2, false)]
theorem tq_lf0_ok : ∀ q ∈ tq_lf0, tq_lfP RX0 q := List.forall_mem_cons.mpr ⟨⟨RX0, TX0, 3, rfl, by decide, rfl, tq_i2 144 rfl⟩, List.forall_mem_cons.mpr ⟨⟨RX0, TX0, 3, rfl, by decide, rfl, tq_i2 145 rfl⟩, List.forall_mem_cons.mpr ⟨⟨RX0, TX0, 3, rfl, by decide, rfl, tq_i2 146 rfl⟩, fun _ h => nomatch h⟩⟩⟩
def tq_lf1 : List (Nat × Nat × Nat × Bool) := [(7, 1, 0, false), (13, 1, 1, false), (16, 1, 2, false), (20, 1, 3, false), (24, 1, 4, false)]
theorem tq_lf1_ok : ∀ q ∈ tq_lf1, tq_lfP RX1 q := List.forall_mem_cons.mpr ⟨⟨RX1, TX1, 5, rfl, by decide, rfl, tq_i1 41 rfl⟩, List.forall_mem_cons.mpr ⟨⟨RX1, TX1, 5, rfl, by decide, rfl, tq_i1 48 rfl⟩, List.forall_mem_cons.mpr ⟨⟨RX1, TX1, 5, rfl, by decide, rfl, tq_i1 55 rfl⟩, List.forall_mem_cons.mpr ⟨⟨RX1, TX1, 5, rfl, by decide, rfl, tq_i1 60 rfl⟩, List.forall_mem_cons.mpr ⟨⟨RX1, TX1, 5, rfl, by decide, rfl, tq_i1 66 rfl⟩, fun _ h => nomatch h⟩⟩⟩⟩⟩
def tq_lf2 : List (Nat × Nat × Nat × Bool) := [(7, 2, 0, false), (13, 2, 1, false), (17, 2, 2, false), (20, 2, 3, false), (24, 2, 10, false), (28, 2, 4, false), (32, 2, 7, false), (35, 2, 5, false), (39, 2, 6, false), (45, 2, 8, false), (48, 2, 9, false), (57, 1, 0, true), (60, 1, 2, true), (65, 1, 1, true)]
theorem tq_lf2_ok : ∀ q ∈ tq_lf2, tq_lfP RX2 q := List.forall_mem_cons.mpr ⟨⟨RX2, TX2, 11, rfl, by decide, rfl, tq_i1 127 rfl⟩, List.forall_mem_cons.mpr ⟨⟨RX2, TX2, 11, rfl, by decide, rfl, tq_i1 128 rfl⟩, List.forall_mem_cons.mpr ⟨⟨RX2, TX2, 11, rfl, by decide, rfl, tq_i1 129 rfl⟩, List.forall_mem_cons.mpr ⟨⟨RX2, TX2, 11, rfl, by decide, rfl, tq_i1 130 rfl⟩, List.forall_mem_cons.mpr ⟨⟨RX2, TX2, 11, rfl, by decide, rfl, tq_i1 143 rfl⟩, List.forall_mem_cons.mpr ⟨⟨RX2, TX2, 11, rfl, by decide, rfl, tq_i1 131 rfl⟩, List.forall_mem_cons.mpr ⟨⟨RX2, TX2, 11, rfl, by decide, rfl, tq_i1 137 rfl⟩, List.forall_mem_cons.mpr ⟨⟨RX2, TX2, 11, rfl, by decide, rfl, tq_i1 133 rfl⟩, List.forall_mem_cons.mpr ⟨⟨RX2, TX2, 11, rfl, by decide, rfl, tq_i1 135 rfl⟩, List.forall_mem_cons.mpr ⟨⟨RX2, TX2, 11, rfl, by decide, rfl, tq_i1 139 rfl⟩, List.forall_mem_cons.mpr ⟨⟨RX2, TX2, 11, rfl, by decide, rfl, tq_i1 141 rfl⟩, List.forall_mem_cons.mpr ⟨⟨RX1, TX1, 5, rfl, by decide, rfl, ⟨"Tilecount", tq_i1 45 rfl⟩⟩, List.forall_mem_cons.mpr ⟨⟨RX1, TX1, 5, rfl, by decide, rfl, ⟨"Tilecount", tq_i1 59 rfl⟩⟩, List.forall_mem_cons.mpr ⟨⟨RX1, TX1, 5, rfl, by decide, rfl, ⟨"Tilecount", tq_i1 53 rfl⟩⟩, fun _ h => nomatch h⟩⟩⟩⟩⟩⟩⟩⟩⟩⟩⟩⟩⟩⟩
def tq_lf3 : List (Nat × Nat × Nat × Bool) := [(9, 3, 0, false), (13, 3, 1, false), (28, 1, 3, true), (77, 1, 1, true), (81, 1, 0, true)]
theorem tq_lf3_ok : ∀ q ∈ tq_lf3, tq_lfP RX3 q := List.forall_mem_cons.mpr ⟨⟨RX3, TX3, 2, rfl, by decide, rfl, tq_i1 201 rfl⟩, List.forall_mem_cons.mpr ⟨⟨RX3, TX3, 2, rfl, by decide, rfl, tq_i1 202 rfl⟩, List.forall_mem_cons.mpr ⟨⟨RX1, TX1, 5, rfl, by decide, rfl, ⟨"Tilecount", tq_i1 64 rfl⟩⟩, List.forall_mem_cons.mpr ⟨⟨RX1, TX1, 5, rfl, by decide, rfl, ⟨"Tilecount", tq_i1 52 rfl⟩⟩, List.forall_mem_cons.mpr ⟨⟨RX1, TX1, 5, rfl, by decide, rfl, ⟨"Tilecount", tq_i1 46 rfl⟩⟩, fun _ h => nomatch h⟩⟩⟩⟩⟩
def tq_lf4 : List (Nat × Nat × Nat × Bool) := [(11, 4, 0, false), (15, 4, 1, false), (19, 4, 2, false), (23, 4, 3, false), (27, 4, 4, false), (32, 4, 5, false), (37, 4, 6, false), (40, 4, 7, false), (43, 4, 8, false), (46, 4, 9, false), (49, 4, 10, false), (52, 4, 15, false), (56, 4, 16, false), (59, 1, 4, true), (62, 8, 6, true), (80, 4, 18, false), (84, 4, 12, false), (87, 4, 17, false), (111, 4, 14, false), (119, 1, 3, true), (126, 1, 2, true), (130, 1, 0, true), (133, 1, 1, true), (140, 4, 13, false), (143, 8, 5, true), (150, 8, 2, true), (167, 8, 3, true), (175, 8, 1, true), (178, 8, 0, true), (224, 4, 11, false)]
theorem tq_lf4_ok : ∀ q ∈ tq_lf4, tq_lfP RX4 q := List.forall_mem_cons.mpr ⟨⟨RX4, TX4, 19, rfl, by decide, rfl, tq_i2 42 rfl⟩, List.forall_mem_cons.mpr ⟨⟨RX4, TX4, 19, rfl, by decide, rfl, tq_i2 43 rfl⟩, List.forall_mem_cons.mpr ⟨⟨RX4, TX4, 19, rfl, by decide, rfl, tq_i2 44 rfl⟩, List.forall_mem_cons.mpr ⟨⟨RX4, TX4, 19, rfl, by decide, rfl, tq_i2 45 rfl⟩, List.forall_mem_cons.mpr ⟨⟨RX4, TX4, 19, rfl, by decide, rfl, tq_i2 46 rfl⟩, List.forall_mem_cons.mpr ⟨⟨RX4, TX4, 19, rfl, by decide, rfl, tq_i2 47 rfl⟩, List.forall_mem_cons.mpr ⟨⟨RX4, TX4, 19, rfl, by decide, rfl, tq_i2 48 rfl⟩, List.forall_mem_cons.mpr ⟨⟨RX4, TX4, 19, rfl, by decide, rfl, tq_i2 49 rfl⟩, List.forall_mem_cons.mpr ⟨⟨RX4, TX4, 19, rfl, by decide, rfl, tq_i2 50 rfl⟩, List.forall_mem_cons.mpr ⟨⟨RX4, TX4, 19, rfl, by decide, rfl, tq_i2 51 rfl⟩, List.forall_mem_cons.mpr ⟨⟨RX4, TX4, 19, rfl, by decide, rfl, tq_i2 52 rfl⟩, List.forall_mem_cons.mpr ⟨⟨RX4, TX4, 19, rfl, by decide, rfl, tq_i2 57 rfl⟩, List.forall_mem_cons.mpr ⟨⟨RX4, TX4, 19, rfl, by decide, rfl, tq_i2 58 rfl⟩, List.forall_mem_cons.mpr ⟨⟨RX1, TX1, 5, rfl, by decide, rfl, ⟨"Tilecount", tq_i1 67 rfl⟩⟩, List.forall_mem_cons.mpr ⟨⟨RX8, TX8, 7, rfl, by decide, rfl, ⟨"Tilecount", tq_i2 20 rfl⟩⟩, List.forall_mem_cons.mpr ⟨⟨RX4, TX4, 19, rfl, by decide, rfl, tq_i2 61 rfl⟩, List.forall_mem_cons.mpr ⟨⟨RX4, TX4, 19, rfl, by decide, rfl, tq_i2 54 rfl⟩, List.forall_mem_cons.mpr ⟨⟨RX4, TX4, 19, rfl, by decide, rfl, tq_i2 59 rfl⟩, List.forall_mem_cons.mpr ⟨⟨RX4, TX4, 19, rfl, by decide, rfl, tq_i2 56 rfl⟩, List.forall_mem_cons.mpr ⟨⟨RX1, TX1, 5, rfl, by decide, rfl, ⟨"Tilecount", tq_i1 63 rfl⟩⟩, List.forall_mem_cons.mpr ⟨⟨RX1, TX1, 5, rfl, by decide, rfl, ⟨"Tilecount", tq_i1 57 rfl⟩⟩, List.forall_mem_cons.mpr ⟨⟨RX1, TX1, 5, rfl, by decide, rfl, ⟨"Tilecount", tq_i1 44 rfl⟩⟩, List.forall_mem_cons.mpr ⟨⟨RX1, TX1, 5, rfl, by decide, rfl, ⟨"Tilecount", tq_i1 51 rfl⟩⟩, List.forall_mem_cons.mpr ⟨⟨RX4, TX4, 19, rfl, by decide, rfl, tq_i2 55 rfl⟩, List.forall_mem_cons.mpr ⟨⟨RX8, TX8, 7, rfl, by decide, rfl, ⟨"Tilecount", tq_i2 18 rfl⟩⟩, List.forall_mem_cons.mpr ⟨⟨RX8, TX8, 7, rfl, by decide, rfl, ⟨"Tilecount", tq_i2 13 rfl⟩⟩, List.forall_mem_cons.mpr ⟨⟨RX8, TX8, 7, rfl, by decide, rfl, ⟨"Tilecount", tq_i2 15 rfl⟩⟩, List.forall_mem_cons.mpr ⟨⟨RX8, TX8, 7, rfl, by decide, rfl, ⟨"Tilecount", tq_i2 11 rfl⟩⟩, List.forall_mem_cons.mpr ⟨⟨RX8, TX8, 7, rfl, by decide, rfl, ⟨"Tilecount", tq_i2 9 rfl⟩⟩, List.forall_mem_cons.mpr ⟨⟨RX4, TX4, 19, rfl, by decide, rfl, tq_i2 53 rfl⟩, fun _ h => nomatch h⟩⟩⟩⟩⟩⟩⟩⟩⟩⟩⟩⟩⟩⟩⟩⟩⟩⟩⟩⟩⟩⟩⟩⟩⟩⟩⟩⟩⟩⟩
def tq_lf5 : List (Nat × Nat × Nat × Bool) := [(7, 5, 0, false), (15, 5, 1, false), (19, 5, 2, false), (22, 5, 3, false), (25, 5, 4, false), (28, 5, 5, false), (31, 5, 6, false), (35, 5, 7, false), (38, 5, 8, false), (42, 5, 9, false), (45, 1, 3, true), (48, 1, 0, true), (51, 1, 1, true), (54, 1, 2, true), (58, 1, 4, true)]
theorem tq_lf5_ok : ∀ q ∈ tq_lf5, tq_lfP RX5 q := List.forall_mem_cons.mpr ⟨⟨RX5, TX5, 10, rfl, by decide, rfl, tq_i1 87 rfl⟩, List.forall_mem_cons.mpr ⟨⟨RX5, TX5, 10, rfl, by decide, rfl, tq_i1 88 rfl⟩, List.forall_mem_cons.mpr ⟨⟨RX5, TX5, 10, rfl, by decide, rfl, tq_i1 89 rfl⟩, List.forall_mem_cons.mpr ⟨⟨RX5, TX5, 10, rfl, by decide, rfl, tq_i1 90 rfl⟩, List.forall_mem_cons.mpr ⟨⟨RX5, TX5, 10, rfl, by decide, rfl, tq_i1 91 rfl⟩, List.forall_mem_cons.mpr ⟨⟨RX5, TX5, 10, rfl, by decide, rfl, tq_i1 92 rfl⟩, List.forall_mem_cons.mpr ⟨⟨RX5, TX5, 10, rfl, by decide, rfl, tq_i1 93 rfl⟩, List.forall_mem_cons.mpr ⟨⟨RX5, TX5, 10, rfl, by decide, rfl, tq_i1 94 rfl⟩, List.forall_mem_cons.mpr ⟨⟨RX5, TX5, 10, rfl, by decide, rfl, tq_i1 95 rfl⟩, List.forall_mem_cons.mpr ⟨⟨RX5, TX5, 10, rfl, by decide, rfl, tq_i1 97 rfl⟩, List.forall_mem_cons.mpr ⟨⟨RX1, TX1, 5, rfl, by decide, rfl, ⟨"Tilecount", tq_i1 61 rfl⟩⟩, List.forall_mem_cons.mpr ⟨⟨RX1, TX1, 5, rfl, by decide, rfl, ⟨"Tilecount", tq_i1 43 rfl⟩⟩, List.forall_mem_cons.mpr ⟨⟨RX1, TX1, 5, rfl, by decide, rfl, ⟨"Tilecount", tq_i1 50 rfl⟩⟩, List.forall_mem_cons.mpr ⟨⟨RX1, TX1, 5, rfl, by decide, rfl, ⟨"Tilecount", tq_i1 56 rfl⟩⟩, List.forall_mem_cons.mpr ⟨⟨RX1, TX1, 5, rfl, by decide, rfl, ⟨"Tilecount", tq_i1 68 rfl⟩⟩, fun _ h => nomatch h⟩⟩⟩⟩⟩⟩⟩⟩⟩⟩⟩⟩⟩⟩⟩
def tq_lf6 : List (Nat × Nat × Nat × Bool) := [(9, 6, 0, false), (13, 6, 1, false), (17, 6, 2, false)]
theorem tq_lf6_ok : ∀ q ∈ tq_lf6, tq_lfP RX6 q := List.forall_mem_cons.mpr ⟨⟨RX6, TX6, 3, rfl, by decide, rfl, tq_i2 107 rfl⟩, List.forall_mem_cons.mpr ⟨⟨RX6, TX6, 3, rfl, by decide, rfl, tq_i2 108 rfl⟩, List.forall_mem_cons.mpr ⟨⟨RX6, TX6, 3, rfl, by decide, rfl, tq_i2 109 rfl⟩, fun _ h => nomatch h⟩⟩⟩
def tq_lf7 : List (Nat × Nat × Nat × Bool) := [(7, 7, 0, false), (13, 7, 1, false), (17, 7, 2, false), (20, 7, 3, false), (23, 1, 0, true), (29, 1, 1, true), (46, 7, 4, false), (50, 7, 5, false)]
theorem tq_lf7_ok : ∀ q ∈ tq_lf7, tq_lfP RX7 q := List.forall_mem_cons.mpr ⟨⟨RX7, TX7, 6, rfl, by decide, rfl, tq_i1 175 rfl⟩, List.forall_mem_cons.mpr ⟨⟨RX7, TX7, 6, rfl, by decide, rfl, tq_i1 176 rfl⟩, List.forall_mem_cons.mpr ⟨⟨RX7, TX7, 6, rfl, by decide, rfl, tq_i1 177 rfl⟩, List.forall_mem_cons.mpr ⟨⟨RX7, TX7, 6, rfl, by decide, rfl, tq_i1 178 rfl⟩, List.forall_mem_cons.mpr ⟨⟨RX1, TX1, 5, rfl, by decide, rfl, ⟨"Tilecount", tq_i1 42 rfl⟩⟩, List.forall_mem_cons.mpr ⟨⟨RX1, TX1, 5, rfl, by decide, rfl, ⟨"Tilecount", tq_i1 49 rfl⟩⟩, List.forall_mem_cons.mpr ⟨⟨RX7, TX7, 6, rfl, by decide, rfl, tq_i1 179 rfl⟩, List.forall_mem_cons.mpr ⟨⟨RX7, TX7, 6, rfl, by decide, rfl, tq_i1 180 rfl⟩, fun _ h => nomatch h⟩⟩⟩⟩⟩⟩⟩⟩
def tq_lf8 : List (Nat × Nat × Nat × Bool) := [(9, 8, 0, false), (13, 8, 1, false), (17, 8, 2, false), (20, 8, 3, false), (23, 8, 4, false), (27, 8, 5, false), (31, 8, 6, false)]
theorem tq_lf8_ok : ∀ q ∈ tq_lf8, tq_lfP RX8 q := List.forall_mem_cons.mpr ⟨⟨RX8, TX8, 7, rfl, by decide, rfl, tq_i2 8 rfl⟩, List.forall_mem_cons.mpr ⟨⟨RX8, TX8, 7, rfl, by decide, rfl, tq_i2 10 rfl⟩, List.forall_mem_cons.mpr ⟨⟨RX8, TX8, 7, rfl, by decide, rfl, tq_i2 12 rfl⟩, List.forall_mem_cons.mpr ⟨⟨RX8, TX8, 7, rfl, by decide, rfl, tq_i2 14 rfl⟩, List.forall_mem_cons.mpr ⟨⟨RX8, TX8, 7, rfl, by decide, rfl, tq_i2 16 rfl⟩, List.forall_mem_cons.mpr ⟨⟨RX8, TX8, 7, rfl, by decide, rfl, tq_i2 17 rfl⟩, List.forall_mem_cons.mpr ⟨⟨RX8, TX8, 7, rfl, by decide, rfl, tq_i2 19 rfl⟩, fun _ h => nomatch h⟩⟩⟩⟩⟩⟩⟩
def tq_lf9 : List (Nat × Nat × Nat × Bool) := [(7, 9, 0, false), (15, 9, 1, false), (19, 9, 2, false), (22, 9, 3, false), (25, 9, 4, false), (37, 1, 4, true), (52, 1, 3, true), (56, 9, 5, false), (76, 9, 6, false), (79, 9, 7, false)]
theorem tq_lf9_ok : ∀ q ∈ tq_lf9, tq_lfP RX9 q := List.forall_mem_cons.mpr ⟨⟨RX9, TX9, 8, rfl, by decide, rfl, tq_i1 214 rfl⟩, List.forall_mem_cons.mpr ⟨⟨RX9, TX9, 8, rfl, by decide, rfl, tq_i1 215 rfl⟩, List.forall_mem_cons.mpr ⟨⟨RX9, TX9, 8, rfl, by decide, rfl, tq_i1 216 rfl⟩, List.forall_mem_cons.mpr ⟨⟨RX9, TX9, 8, rfl, by decide, rfl, tq_i1 217 rfl⟩, List.forall_mem_cons.mpr ⟨⟨RX9, TX9, 8, rfl, by decide, rfl, tq_i1 218 rfl⟩, List.forall_mem_cons.mpr ⟨⟨RX1, TX1, 5, rfl, by decide, rfl, ⟨"Tilecount", tq_i1 69 rfl⟩⟩, List.forall_mem_cons.mpr ⟨⟨RX1, TX1, 5, rfl, by decide, rfl, ⟨"Tilecount", tq_i1 62 rfl⟩⟩, List.forall_mem_cons.mpr ⟨⟨RX9, TX9, 8, rfl, by decide, rfl, tq_i1 219 rfl⟩, List.forall_mem_cons.mpr ⟨⟨RX9, TX9, 8, rfl, by decide, rfl, tq_i1 221 rfl⟩, List.forall_mem_cons.mpr ⟨⟨RX9, TX9, 8, rfl, by decide, rfl, tq_i1 223 rfl⟩, fun _ h => nomatch h⟩⟩⟩⟩⟩⟩⟩⟩⟩⟩
def tq_lf10 : List (Nat × Nat × Nat × Bool) := [(9, 10, 0, false), (13, 10, 1, false), (17, 10, 2, false), (20, 10, 3, false)]
theorem tq_lf10_ok : ∀ q ∈ tq_lf10, tq_lfP RX10 q := List.forall_mem_cons.mpr ⟨⟨RX10, TX10, 5, rfl, by decide, rfl, tq_i2 123 rfl⟩, List.forall_mem_cons.mpr ⟨⟨RX10, TX10, 5, rfl, by decide, rfl, tq_i2 124 rfl⟩, List.forall_mem_cons.mpr ⟨⟨RX10, TX10, 5, rfl, by decide, rfl, tq_i2 125 rfl⟩, List.forall_mem_cons.mpr ⟨⟨RX10, TX10, 5, rfl, by decide, rfl, tq_i2 126 rfl⟩, fun _ h => nomatch h⟩⟩⟩⟩
def tq_lf11 : List (Nat × Nat × Nat × Bool) := [(10, 11, 0, false), (21, 11, 1, false), (28, 11, 2, false), (35, 11, 3, false), (42, 11, 4, false), (49, 11, 5, false), (56, 11, 6, false), (65, 11, 7, false), (72, 11, 8, false), (79, 11, 9, false), (86, 11, 10, false), (90, 11, 11, false), (93, 11, 12, false), (97, 11, 13, false), (164, 1, 2, true), (174, 1, 3, true), (238, 2, 4, true), (243, 2, 5, true), (246, 2, 6, true), (276, 2, 10, true), (293, 2, 7, true), (298, 2, 8, true), (301, 2, 9, true), (323, 9, 5, true), (329, 9, 6, true), (332, 9, 7, true), (373, 4, 17, true), (477, 5, 8, true), (480, 5, 9, true), (483, 1, 1, true), (486, 1, 0, true)]
theorem tq_lf11_ok : ∀ q ∈ tq_lf11, tq_lfP RX11 q := List.forall_mem_cons.mpr ⟨⟨RX11, TX11, 14, rfl, by decide, rfl, tq_i2 154 rfl⟩, List.forall_mem_cons.mpr ⟨⟨RX11, TX11, 14, rfl, by decide, rfl, tq_i2 155 rfl⟩, List.forall_mem_cons.mpr ⟨⟨RX11, TX11, 14, rfl, by decide, rfl, tq_i2 156 rfl⟩, List.forall_mem_cons.mpr ⟨⟨RX11, TX11, 14, rfl, by decide, rfl, tq_i2 157 rfl⟩, List.forall_mem_cons.mpr ⟨⟨RX11, TX11, 14, rfl, by decide, rfl, tq_i2 158 rfl⟩, List.forall_mem_cons.mpr ⟨⟨RX11, TX11, 14, rfl, by decide, rfl, tq_i2 159 rfl⟩, List.forall_mem_cons.mpr ⟨⟨RX11, TX11, 14, rfl, by decide, rfl, tq_i2 160 rfl⟩, List.forall_mem_cons.mpr ⟨⟨RX11, TX11, 14, rfl, by decide, rfl, tq_i2 161 rfl⟩, List.forall_mem_cons.mpr ⟨⟨RX11, TX11, 14, rfl, by decide, rfl, tq_i2 162 rfl⟩, List.forall_mem_cons.mpr ⟨⟨RX11, TX11, 14, rfl, by decide, rfl, tq_i2 163 rfl⟩, List.forall_mem_cons.mpr ⟨⟨RX11, TX11, 14, rfl, by decide, rfl, tq_i2 164 rfl⟩, List.forall_mem_cons.mpr ⟨⟨RX11, TX11, 14, rfl, by decide, rfl, tq_i2 165 rfl⟩, List.forall_mem_cons.mpr ⟨⟨RX11, TX11, 14, rfl, by decide, rfl, tq_i2 166 rfl⟩, List.forall_mem_cons.mpr ⟨⟨RX11, TX11, 14, rfl, by decide, rfl, tq_i2 167 rfl⟩, List.forall_mem_cons.mpr ⟨⟨RX1, TX1, 5, rfl, by decide, rfl, ⟨"Tilecount", tq_i1 58 rfl⟩⟩, List.forall_mem_cons.mpr ⟨⟨RX1, TX1, 5, rfl, by decide, rfl, ⟨"Tilecount", tq_i1 65 rfl⟩⟩, List.forall_mem_cons.mpr ⟨⟨RX2, TX2, 11, rfl, by decide, rfl, ⟨"Tilecount", tq_i1 132 rfl⟩⟩, List.forall_mem_cons.mpr ⟨⟨RX2, TX2, 11, rfl, by decide, rfl, ⟨"Tilecount", tq_i1 134 rfl⟩⟩, List.forall_mem_cons.mpr ⟨⟨RX2, TX2, 11, rfl, by decide, rfl, ⟨"Tilecount", tq_i1 136 rfl⟩⟩, List.forall_mem_cons.mpr ⟨⟨RX2, TX2, 11, rfl, by decide, rfl, ⟨"Tilecount", tq_i1 144 rfl⟩⟩, List.forall_mem_cons.mpr ⟨⟨RX2, TX2, 11, rfl, by decide, rfl, ⟨"Tilecount", tq_i1 138 rfl⟩⟩, List.forall_mem_cons.mpr ⟨⟨RX2, TX2, 11, rfl, by decide, rfl, ⟨"Tilecount", tq_i1 140 rfl⟩⟩, List.forall_mem_cons.mpr ⟨⟨RX2, TX2, 11, rfl, by decide, rfl, ⟨"Tilecount", tq_i1 142 rfl⟩⟩, List.forall_mem_cons.mpr ⟨⟨RX9, TX9, 8, rfl, by decide, rfl, ⟨"Tilecount", tq_i1 220 rfl⟩⟩, List.forall_mem_cons.mpr ⟨⟨RX9, TX9, 8, rfl, by decide, rfl, ⟨"Tilecount", tq_i1 222 rfl⟩⟩, List.forall_mem_cons.mpr ⟨⟨RX9, TX9, 8, rfl, by decide, rfl, ⟨"Tilecount", tq_i1 224 rfl⟩⟩, List.forall_mem_cons.mpr ⟨⟨RX4, TX4, 19, rfl, by decide, rfl, ⟨"Tilecount", tq_i2 60 rfl⟩⟩, List.forall_mem_cons.mpr ⟨⟨RX5, TX5, 10, rfl, by decide, rfl, ⟨"Tilecount", tq_i1 96 rfl⟩⟩, List.forall_mem_cons.mpr ⟨⟨RX5, TX5, 10, rfl, by decide, rfl, ⟨"Tilecount", tq_i1 98 rfl⟩⟩, List.forall_mem_cons.mpr ⟨⟨RX1, TX1, 5, rfl, by decide, rfl, ⟨"Tilecount", tq_i1 54 rfl⟩⟩, List.forall_mem_cons.mpr ⟨⟨RX1, TX1, 5, rfl, by decide, rfl, ⟨"Tilecount", tq_i1 47 rfl⟩⟩, fun _ h => nomatch h⟩⟩⟩⟩⟩⟩⟩⟩⟩⟩⟩⟩⟩⟩⟩⟩⟩⟩⟩⟩⟩⟩⟩⟩⟩⟩⟩⟩⟩⟩⟩
def tq_lf12 : List (Nat × Nat × Nat × Bool) := []
theorem tq_lf12_ok : ∀ q ∈ tq_lf12, tq_lfP RX12 q := fun _ h => nomatch h
def tq_lf13 : List (Nat × Nat × Nat × Bool) := []
theorem tq_lf13_ok : ∀ q ∈ tq_lf13, tq_lfP RL q := fun _ h => nomatch h
def tq_lf14 : List (Nat × Nat × Nat × Bool) := []
theorem tq_lf14_ok : ∀ q ∈ tq_lf14, tq_lfP RJ9 q := fun _ h => nomatch h
def tq_lf15 : List (Nat × Nat × Nat × Bool) := []
theorem tq_lf15_ok : ∀ q ∈ tq_lf15, tq_lfP RJ13 q := fun _ h => nomatch h
def tq_lf16 : List (Nat × Nat × Nat × Bool) := []
theorem tq_lf16_ok : ∀ q ∈ tq_lf16, tq_lfP RJ7 q := fun _ h => nomatch h
def tq_lf (c : Nat) : List (Nat × Nat × Nat × Bool) := [tq_lf0, tq_lf1, tq_lf2, tq_lf3, tq_lf4, tq_lf5, tq_lf6, tq_lf7, tq_lf8, tq_lf9, tq_lf10, tq_lf11, tq_lf12, tq_lf13, tq_lf14, tq_lf15, tq_lf16].getD c []
theorem tq_lf_ok : ∀ c, ∀ q ∈ tq_lf c, tq_lfP (tq_cn c) q := fun c => match c with
  | 0 => tq_lf0_ok
  | 1 => tq_lf1_ok
  | 2 => tq_lf2_ok
  | 3 => tq_lf3_ok
  | 4 => tq_lf4_ok
  | 5 => tq_lf5_ok
  | 6 => tq_lf6_ok
  | 7 => tq_lf7_ok
  | 8 => tq_lf8_ok
  | 9 => tq_lf9_ok
  | 10 => tq_lf10_ok
  | 11 => tq_lf11_ok
  | 12 => tq_lf12_ok
  | 13 => tq_lf13_ok
  | 14 => tq_lf14_ok
  | 15 => tq_lf15_ok
  | 16 => tq_lf16_ok
  | _ + 17 => fun _ h => nomatch h
def tq_lk (c : Nat) : List (Nat × Int64) := [[(31, 1000000000)], [(55, (-9187201950435737472)), (57, (-1)), (59, (-72340172838076674)), (61, 72340172838076673), (75, 255)], [(63, 72340172838076673), (68, 255)], [(16, 2147483647), (18, 2147483629), (20, 2147483587), (22, 2), (34, (-6172840429334713771)), (36, 6172840429334713770), (60, 4611685975477714963)], [(78, (-1)), (157, 16777215), (165, 15), (213, (-7046029254386353131)), (219, 4278190080)], [(100, (-1))], [(48, 1000000000)], [], [(50, 63), (52, 1090785345)], [(29, (-1)), (59, (-6172840429334713771))], [], [(178, (-6172840429334713771)), (492, 12)], [], [(125, 10), (127, 48), (163, 20000), (212, (-900001))], [], [(314, 6148914691236517205), (316, 3689348814741910323), (318, 1085102592571150095)], []].getD c []
theorem tq_lk_ok : ∀ c, ∀ q ∈ tq_lk c, Cond.constantLong (tq_cn c) q.1 q.2 ∈ lw_tbl := fun c => match c with
  | 0 => List.forall_mem_cons.mpr ⟨tq_i3 6 rfl, fun _ h => nomatch h⟩
  | 1 => List.forall_mem_cons.mpr ⟨tq_i3 53 rfl, List.forall_mem_cons.mpr ⟨tq_i3 40 rfl, List.forall_mem_cons.mpr ⟨tq_i3 54 rfl, List.forall_mem_cons.mpr ⟨tq_i3 36 rfl, List.forall_mem_cons.mpr ⟨tq_i3 35 rfl, fun _ h => nomatch h⟩⟩⟩⟩⟩
  | 2 => List.forall_mem_cons.mpr ⟨tq_i6 137 rfl, List.forall_mem_cons.mpr ⟨tq_i6 138 rfl, fun _ h => nomatch h⟩⟩
  | 3 => List.forall_mem_cons.mpr ⟨tq_i3 141 rfl, List.forall_mem_cons.mpr ⟨tq_i3 142 rfl, List.forall_mem_cons.mpr ⟨tq_i3 143 rfl, List.forall_mem_cons.mpr ⟨tq_i3 175 rfl, List.forall_mem_cons.mpr ⟨tq_i3 130 rfl, List.forall_mem_cons.mpr ⟨tq_i3 131 rfl, List.forall_mem_cons.mpr ⟨tq_i3 190 rfl, fun _ h => nomatch h⟩⟩⟩⟩⟩⟩⟩
  | 4 => List.forall_mem_cons.mpr ⟨tq_i5 0 rfl, List.forall_mem_cons.mpr ⟨tq_i4 235 rfl, List.forall_mem_cons.mpr ⟨tq_i5 13 rfl, List.forall_mem_cons.mpr ⟨tq_i5 37 rfl, List.forall_mem_cons.mpr ⟨tq_i5 22 rfl, fun _ h => nomatch h⟩⟩⟩⟩⟩
  | 5 => List.forall_mem_cons.mpr ⟨tq_i4 19 rfl, fun _ h => nomatch h⟩
  | 6 => List.forall_mem_cons.mpr ⟨tq_i5 78 rfl, fun _ h => nomatch h⟩
  | 7 => fun _ h => nomatch h
  | 8 => List.forall_mem_cons.mpr ⟨tq_i4 218 rfl, List.forall_mem_cons.mpr ⟨tq_i4 219 rfl, fun _ h => nomatch h⟩⟩
  | 9 => List.forall_mem_cons.mpr ⟨tq_i4 70 rfl, List.forall_mem_cons.mpr ⟨tq_i4 66 rfl, fun _ h => nomatch h⟩⟩
  | 10 => fun _ h => nomatch h
  | 11 => List.forall_mem_cons.mpr ⟨tq_i6 15 rfl, List.forall_mem_cons.mpr ⟨tq_i5 42 rfl, fun _ h => nomatch h⟩⟩
  | 12 => fun _ h => nomatch h
  | 13 => List.forall_mem_cons.mpr ⟨tq_i5 182 rfl, List.forall_mem_cons.mpr ⟨tq_i5 183 rfl, List.forall_mem_cons.mpr ⟨tq_i6 79 rfl, List.forall_mem_cons.mpr ⟨tq_i6 221 rfl, fun _ h => nomatch h⟩⟩⟩⟩
  | 14 => fun _ h => nomatch h
  | 15 => List.forall_mem_cons.mpr ⟨tq_i3 135 rfl, List.forall_mem_cons.mpr ⟨tq_i3 136 rfl, List.forall_mem_cons.mpr ⟨tq_i3 137 rfl, fun _ h => nomatch h⟩⟩⟩
  | 16 => fun _ h => nomatch h
  | _ + 17 => fun _ h => nomatch h
def tq_li (c : Nat) : List (Nat × Int32) := [[(48, 100000000)], [], [], [], [], [], [], [], [], [], [], [], [], [(15, (-900001)), (77, (-900002)), (117, 69069), (118, 1103515245), (119, 65535), (162, 60000)], [], [], []].getD c []
theorem tq_li_ok : ∀ c, ∀ q ∈ tq_li c, Cond.constant (tq_cn c) q.1 q.2 ∈ lw_tbl := fun c => match c with
  | 0 => List.forall_mem_cons.mpr ⟨tq_i3 18 rfl, fun _ h => nomatch h⟩
  | 1 => fun _ h => nomatch h
  | 2 => fun _ h => nomatch h
  | 3 => fun _ h => nomatch h
  | 4 => fun _ h => nomatch h
  | 5 => fun _ h => nomatch h
  | 6 => fun _ h => nomatch h
  | 7 => fun _ h => nomatch h
  | 8 => fun _ h => nomatch h
  | 9 => fun _ h => nomatch h
  | 10 => fun _ h => nomatch h
  | 11 => fun _ h => nomatch h
  | 12 => fun _ h => nomatch h
  | 13 => List.forall_mem_cons.mpr ⟨tq_i3 191 rfl, List.forall_mem_cons.mpr ⟨tq_i6 154 rfl, List.forall_mem_cons.mpr ⟨tq_i5 134 rfl, List.forall_mem_cons.mpr ⟨tq_i5 190 rfl, List.forall_mem_cons.mpr ⟨tq_i5 191 rfl, List.forall_mem_cons.mpr ⟨tq_i6 78 rfl, fun _ h => nomatch h⟩⟩⟩⟩⟩⟩
  | 14 => fun _ h => nomatch h
  | 15 => fun _ h => nomatch h
  | 16 => fun _ h => nomatch h
  | _ + 17 => fun _ h => nomatch h
abbrev tq_MD : Type := MethodName × ByteArray × Nat × Option FieldType × List (Nat × Nat × Nat × Nat) × Nat
def tq_cw (M : tq_MD) : Cond := match M.2.2.2.2.1 with
  | [] => .code M.1 M.2.1 M.2.2.1 M.2.2.2.1
  | h => .codeWith M.1 M.2.1 M.2.2.1 M.2.2.2.1 h
/-- what the tables say of a method -/
def tq_mP (M : tq_MD) : Prop := tq_cw M ∈ lw_tbl ∧ Cond.initialized M.1.cls ∈ lw_tbl ∧ (plainFor M.1 = true ∧ M.1.cls ≠ "java/lang/invoke/MethodHandle" ∧ M.1.cls ≠ "java/lang/invoke/VarHandle") ∧ M.1.cls = tq_cn M.2.2.2.2.2
def tq_mV (M : tq_MD) : Prop := tq_mP M ∧ Cond.instanceMethod M.1 ∈ lw_tbl ∧ Cond.selects M.1.cls M.1 M.1 ∈ lw_tbl
def tq_mS (M : tq_MD) : Prop := tq_mP M ∧ Cond.static M.1 ∈ lw_tbl
abbrev mm_L_covers : tq_MD := (yL_covers, cL_covers, 1, (some .int), [], 13)
theorem mf_L_covers : tq_mS mm_L_covers := ⟨⟨tq_i2 200 rfl, tq_i1 0 rfl, by decide +kernel, rfl⟩, tq_i2 199 rfl⟩
abbrev mm_X11_covers : tq_MD := (yX11_covers, cX11_covers, 1, (some .int), [], 11)
theorem mf_X11_covers : tq_mV mm_X11_covers := ⟨⟨tq_i2 204 rfl, tq_i1 1 rfl, by decide +kernel, rfl⟩, tq_i2 202 rfl, tq_i2 203 rfl⟩
abbrev mm_X5_total : tq_MD := (yX5_total, cX5_total, 2, (some .long), [], 5)
theorem mf_X5_total : tq_mV mm_X5_total := ⟨⟨tq_i2 208 rfl, tq_i1 3 rfl, by decide +kernel, rfl⟩, tq_i2 207 rfl, List.mem_append_left _ (List.mem_of_getElem? (i := 0) (by decide +kernel))⟩
abbrev mm_J7_fill_d0a16 : tq_MD := (yJ7_fill_d0a16, cJ7_fill_d0a16, 5, none, [], 16)
theorem mf_J7_fill_d0a16 : tq_mS mm_J7_fill_d0a16 := ⟨⟨tq_i2 211 rfl, tq_i1 22 rfl, by decide +kernel, rfl⟩, tq_i2 210 rfl⟩
abbrev mm_X5_prepareRow : tq_MD := (yX5_prepareRow, cX5_prepareRow, 9, none, [], 5)
theorem mf_X5_prepareRow : tq_mV mm_X5_prepareRow := ⟨⟨tq_i2 215 rfl, tq_i1 3 rfl, by decide +kernel, rfl⟩, tq_i2 214 rfl, List.mem_append_left _ (List.mem_of_getElem? (i := 1) (by decide +kernel))⟩
abbrev mm_X5_sumOnward : tq_MD := (yX5_sumOnward, cX5_sumOnward, 7, (some .long), [], 5)
theorem mf_X5_sumOnward : tq_mV mm_X5_sumOnward := ⟨⟨tq_i2 222 rfl, tq_i1 3 rfl, by decide +kernel, rfl⟩, tq_i2 221 rfl, List.mem_append_left _ (List.mem_of_getElem? (i := 2) (by decide +kernel))⟩
abbrev mm_X5_after : tq_MD := (yX5_after, cX5_after, 10, (some .int), [], 5)
theorem mf_X5_after : tq_mV mm_X5_after := ⟨⟨tq_i2 226 rfl, tq_i1 3 rfl, by decide +kernel, rfl⟩, tq_i2 225 rfl, List.mem_append_left _ (List.mem_of_getElem? (i := 3) (by decide +kernel))⟩
abbrev mm_X5_onward : tq_MD := (yX5_onward, cX5_onward, 3, (some .long), [], 5)
theorem mf_X5_onward : tq_mV mm_X5_onward := ⟨⟨tq_i2 230 rfl, tq_i1 3 rfl, by decide +kernel, rfl⟩, tq_i2 229 rfl, List.mem_append_left _ (List.mem_of_getElem? (i := 4) (by decide +kernel))⟩
abbrev mm_X11_say : tq_MD := (yX11_say, cX11_say, 3, (some .int), [], 11)
theorem mf_X11_say : tq_mV mm_X11_say := ⟨⟨tq_i2 234 rfl, tq_i1 1 rfl, by decide +kernel, rfl⟩, tq_i2 233 rfl, List.mem_append_left _ (List.mem_of_getElem? (i := 5) (by decide +kernel))⟩
abbrev mm_X0_put : tq_MD := (yX0_put, cX0_put, 3, none, [], 0)
theorem mf_X0_put : tq_mV mm_X0_put := ⟨⟨tq_i2 238 rfl, tq_i1 12 rfl, by decide +kernel, rfl⟩, tq_i2 237 rfl, List.mem_append_left _ (List.mem_of_getElem? (i := 6) (by decide +kernel))⟩
abbrev mm_J9_abs_067f4 : tq_MD := (yJ9_abs_067f4, cJ9_abs_067f4, 2, (some .long), [], 14)
theorem mf_J9_abs_067f4 : tq_mS mm_J9_abs_067f4 := ⟨⟨tq_i3 1 rfl, tq_i1 24 rfl, by decide +kernel, rfl⟩, tq_i3 0 rfl⟩
abbrev mm_X0_addLimbs : tq_MD := (yX0_addLimbs, cX0_addLimbs, 6, none, [], 0)
theorem mf_X0_addLimbs : tq_mV mm_X0_addLimbs := ⟨⟨tq_i3 5 rfl, tq_i1 12 rfl, by decide +kernel, rfl⟩, tq_i3 4 rfl, List.mem_append_left _ (List.mem_of_getElem? (i := 7) (by decide +kernel))⟩
abbrev mm_X11_sayAnswer : tq_MD := (yX11_sayAnswer, cX11_sayAnswer, 1, (some .int), [], 11)
theorem mf_X11_sayAnswer : tq_mV mm_X11_sayAnswer := ⟨⟨tq_i3 10 rfl, tq_i1 1 rfl, by decide +kernel, rfl⟩, tq_i3 9 rfl, List.mem_append_left _ (List.mem_of_getElem? (i := 8) (by decide +kernel))⟩
abbrev mm_X0_writeTo : tq_MD := (yX0_writeTo, cX0_writeTo, 9, (some .int), [], 0)
theorem mf_X0_writeTo : tq_mV mm_X0_writeTo := ⟨⟨tq_i3 14 rfl, tq_i1 12 rfl, by decide +kernel, rfl⟩, tq_i3 13 rfl, List.mem_append_left _ (List.mem_of_getElem? (i := 9) (by decide +kernel))⟩
abbrev mm_J9_max_7cf53 : tq_MD := (yJ9_max_7cf53, cJ9_max_7cf53, 2, (some .int), [], 14)
theorem mf_J9_max_7cf53 : tq_mS mm_J9_max_7cf53 := ⟨⟨tq_i3 17 rfl, tq_i1 24 rfl, by decide +kernel, rfl⟩, tq_i3 16 rfl⟩
abbrev mm_L_bySigns : tq_MD := (yL_bySigns, cL_bySigns, 2, (some .int), [(0, 4, 5, 29)], 13)
theorem mf_L_bySigns : tq_mS mm_L_bySigns := ⟨⟨tq_i3 21 rfl, tq_i1 0 rfl, by decide +kernel, rfl⟩, tq_i3 20 rfl⟩
abbrev mm_X11_bySigns : tq_MD := (yX11_bySigns, cX11_bySigns, 1, (some .int), [], 11)
theorem mf_X11_bySigns : tq_mV mm_X11_bySigns := ⟨⟨tq_i3 26 rfl, tq_i1 1 rfl, by decide +kernel, rfl⟩, tq_i3 24 rfl, tq_i3 25 rfl⟩
abbrev mm_X1_isPlain : tq_MD := (yX1_isPlain, cX1_isPlain, 1, (some .boolean), [], 1)
theorem mf_X1_isPlain : tq_mV mm_X1_isPlain := ⟨⟨tq_i3 30 rfl, tq_i1 2 rfl, by decide +kernel, rfl⟩, tq_i3 29 rfl, List.mem_append_left _ (List.mem_of_getElem? (i := 10) (by decide +kernel))⟩
abbrev mm_X1_countHoles : tq_MD := (yX1_countHoles, cX1_countHoles, 3, (some .int), [], 1)
theorem mf_X1_countHoles : tq_mV mm_X1_countHoles := ⟨⟨tq_i3 34 rfl, tq_i1 2 rfl, by decide +kernel, rfl⟩, tq_i3 33 rfl, List.mem_append_left _ (List.mem_of_getElem? (i := 11) (by decide +kernel))⟩
abbrev mm_X1_rectangleOf : tq_MD := (yX1_rectangleOf, cX1_rectangleOf, 7, (some .long), [], 1)
theorem mf_X1_rectangleOf : tq_mS mm_X1_rectangleOf := ⟨⟨tq_i3 39 rfl, tq_i1 2 rfl, by decide +kernel, rfl⟩, tq_i3 38 rfl⟩
abbrev mm_X1_countGroups : tq_MD := (yX1_countGroups, cX1_countGroups, 11, (some .int), [], 1)
theorem mf_X1_countGroups : tq_mV mm_X1_countGroups := ⟨⟨tq_i3 44 rfl, tq_i1 2 rfl, by decide +kernel, rfl⟩, tq_i3 43 rfl, List.mem_append_left _ (List.mem_of_getElem? (i := 12) (by decide +kernel))⟩
abbrev mm_X1_reach : tq_MD := (yX1_reach, cX1_reach, 10, (some .long), [], 1)
theorem mf_X1_reach : tq_mV mm_X1_reach := ⟨⟨tq_i3 48 rfl, tq_i1 2 rfl, by decide +kernel, rfl⟩, tq_i3 47 rfl, List.mem_append_left _ (List.mem_of_getElem? (i := 13) (by decide +kernel))⟩
abbrev mm_X1_beside : tq_MD := (yX1_beside, cX1_beside, 7, (some .long), [], 1)
theorem mf_X1_beside : tq_mV mm_X1_beside := ⟨⟨tq_i3 52 rfl, tq_i1 2 rfl, by decide +kernel, rfl⟩, tq_i3 51 rfl, List.mem_append_left _ (List.mem_of_getElem? (i := 14) (by decide +kernel))⟩
abbrev mm_X3_countCovers : tq_MD := (yX3_countCovers, cX3_countCovers, 11, (some .long), [], 3)
theorem mf_X3_countCovers : tq_mV mm_X3_countCovers := ⟨⟨tq_i3 129 rfl, tq_i1 6 rfl, by decide +kernel, rfl⟩, tq_i3 128 rfl, List.mem_append_left _ (List.mem_of_getElem? (i := 16) (by decide +kernel))⟩
abbrev mm_J13_bitCount_95d88 : tq_MD := (yJ13_bitCount_95d88, cJ13_bitCount_95d88, 2, (some .int), [], 15)
theorem mf_J13_bitCount_95d88 : tq_mS mm_J13_bitCount_95d88 := ⟨⟨tq_i3 134 rfl, tq_i1 17 rfl, by decide +kernel, rfl⟩, tq_i3 133 rfl⟩
abbrev mm_X3_prime : tq_MD := (yX3_prime, cX3_prime, 1, (some .long), [], 3)
theorem mf_X3_prime : tq_mS mm_X3_prime := ⟨⟨tq_i3 140 rfl, tq_i1 6 rfl, by decide +kernel, rfl⟩, tq_i3 139 rfl⟩
abbrev mm_X3_fillSigns : tq_MD := (yX3_fillSigns, cX3_fillSigns, 13, none, [], 3)
theorem mf_X3_fillSigns : tq_mV mm_X3_fillSigns := ⟨⟨tq_i3 147 rfl, tq_i1 6 rfl, by decide +kernel, rfl⟩, tq_i3 146 rfl, List.mem_append_left _ (List.mem_of_getElem? (i := 17) (by decide +kernel))⟩
abbrev mm_X1_bit : tq_MD := (yX1_bit, cX1_bit, 2, (some .long), [], 1)
theorem mf_X1_bit : tq_mS mm_X1_bit := ⟨⟨tq_i3 151 rfl, tq_i1 2 rfl, by decide +kernel, rfl⟩, tq_i3 150 rfl⟩
abbrev mm_X3_setSign : tq_MD := (yX3_setSign, cX3_setSign, 10, none, [], 3)
theorem mf_X3_setSign : tq_mV mm_X3_setSign := ⟨⟨tq_i3 155 rfl, tq_i1 6 rfl, by decide +kernel, rfl⟩, tq_i3 154 rfl, List.mem_append_left _ (List.mem_of_getElem? (i := 18) (by decide +kernel))⟩
abbrev mm_X1_holds : tq_MD := (yX1_holds, cX1_holds, 3, (some .boolean), [], 1)
theorem mf_X1_holds : tq_mV mm_X1_holds := ⟨⟨tq_i3 159 rfl, tq_i1 2 rfl, by decide +kernel, rfl⟩, tq_i3 158 rfl, List.mem_append_left _ (List.mem_of_getElem? (i := 19) (by decide +kernel))⟩
abbrev mm_X3_eliminate : tq_MD := (yX3_eliminate, cX3_eliminate, 10, (some .long), [], 3)
theorem mf_X3_eliminate : tq_mV mm_X3_eliminate := ⟨⟨tq_i3 163 rfl, tq_i1 6 rfl, by decide +kernel, rfl⟩, tq_i3 162 rfl, List.mem_append_left _ (List.mem_of_getElem? (i := 20) (by decide +kernel))⟩
abbrev mm_X3_pivotOf : tq_MD := (yX3_pivotOf, cX3_pivotOf, 4, (some .int), [], 3)
theorem mf_X3_pivotOf : tq_mV mm_X3_pivotOf := ⟨⟨tq_i3 167 rfl, tq_i1 6 rfl, by decide +kernel, rfl⟩, tq_i3 166 rfl, List.mem_append_left _ (List.mem_of_getElem? (i := 21) (by decide +kernel))⟩
abbrev mm_X3_swapRows : tq_MD := (yX3_swapRows, cX3_swapRows, 7, none, [], 3)
theorem mf_X3_swapRows : tq_mV mm_X3_swapRows := ⟨⟨tq_i3 171 rfl, tq_i1 6 rfl, by decide +kernel, rfl⟩, tq_i3 170 rfl, List.mem_append_left _ (List.mem_of_getElem? (i := 22) (by decide +kernel))⟩
abbrev mm_X3_inverse : tq_MD := (yX3_inverse, cX3_inverse, 4, (some .long), [], 3)
theorem mf_X3_inverse : tq_mS mm_X3_inverse := ⟨⟨tq_i3 174 rfl, tq_i1 6 rfl, by decide +kernel, rfl⟩, tq_i3 173 rfl⟩
abbrev mm_X3_power : tq_MD := (yX3_power, cX3_power, 11, (some .long), [], 3)
theorem mf_X3_power : tq_mS mm_X3_power := ⟨⟨tq_i3 178 rfl, tq_i1 6 rfl, by decide +kernel, rfl⟩, tq_i3 177 rfl⟩
abbrev mm_X3_clearBelow : tq_MD := (yX3_clearBelow, cX3_clearBelow, 13, none, [], 3)
theorem mf_X3_clearBelow : tq_mV mm_X3_clearBelow := ⟨⟨tq_i3 182 rfl, tq_i1 6 rfl, by decide +kernel, rfl⟩, tq_i3 181 rfl, List.mem_append_left _ (List.mem_of_getElem? (i := 23) (by decide +kernel))⟩
abbrev mm_J9_floorMod_f86c9 : tq_MD := (yJ9_floorMod_f86c9, cJ9_floorMod_f86c9, 6, (some .long), [], 14)
theorem mf_J9_floorMod_f86c9 : tq_mS mm_J9_floorMod_f86c9 := ⟨⟨tq_i3 185 rfl, tq_i1 24 rfl, by decide +kernel, rfl⟩, tq_i3 184 rfl⟩
abbrev mm_X3_secondDigit : tq_MD := (yX3_secondDigit, cX3_secondDigit, 1, (some .long), [], 3)
theorem mf_X3_secondDigit : tq_mV mm_X3_secondDigit := ⟨⟨tq_i3 189 rfl, tq_i1 6 rfl, by decide +kernel, rfl⟩, tq_i3 188 rfl, List.mem_append_left _ (List.mem_of_getElem? (i := 24) (by decide +kernel))⟩
abbrev mm_L_draw : tq_MD := (yL_draw, cL_draw, 4, (some .int), [(0, 5, 6, 58)], 13)
theorem mf_L_draw : tq_mS mm_L_draw := ⟨⟨tq_i3 194 rfl, tq_i1 0 rfl, by decide +kernel, rfl⟩, tq_i3 193 rfl⟩
abbrev mm_X11_draw : tq_MD := (yX11_draw, cX11_draw, 5, (some .int), [], 11)
theorem mf_X11_draw : tq_mV mm_X11_draw := ⟨⟨tq_i3 199 rfl, tq_i1 1 rfl, by decide +kernel, rfl⟩, tq_i3 197 rfl, tq_i3 198 rfl⟩
abbrev mm_X11_show : tq_MD := (yX11_show, cX11_show, 3, none, [], 11)
theorem mf_X11_show : tq_mV mm_X11_show := ⟨⟨tq_i3 220 rfl, tq_i1 1 rfl, by decide +kernel, rfl⟩, tq_i3 219 rfl, List.mem_append_left _ (List.mem_of_getElem? (i := 25) (by decide +kernel))⟩
abbrev mm_X5_make : tq_MD := (yX5_make, cX5_make, 12, none, [], 5)
theorem mf_X5_make : tq_mV mm_X5_make := ⟨⟨tq_i3 224 rfl, tq_i1 3 rfl, by decide +kernel, rfl⟩, tq_i3 223 rfl, List.mem_append_left _ (List.mem_of_getElem? (i := 26) (by decide +kernel))⟩
abbrev mm_X5_put : tq_MD := (yX5_put, cX5_put, 4, none, [], 5)
theorem mf_X5_put : tq_mV mm_X5_put := ⟨⟨tq_i3 228 rfl, tq_i1 3 rfl, by decide +kernel, rfl⟩, tq_i3 227 rfl, List.mem_append_left _ (List.mem_of_getElem? (i := 27) (by decide +kernel))⟩
abbrev mm_X2_take : tq_MD := (yX2_take, cX2_take, 5, none, [], 2)
theorem mf_X2_take : tq_mV mm_X2_take := ⟨⟨tq_i3 233 rfl, tq_i1 4 rfl, by decide +kernel, rfl⟩, tq_i3 232 rfl, List.mem_append_left _ (List.mem_of_getElem? (i := 28) (by decide +kernel))⟩
abbrev mm_X2_dropOldest : tq_MD := (yX2_dropOldest, cX2_dropOldest, 2, none, [], 2)
theorem mf_X2_dropOldest : tq_mV mm_X2_dropOldest := ⟨⟨tq_i3 237 rfl, tq_i1 4 rfl, by decide +kernel, rfl⟩, tq_i3 236 rfl, List.mem_append_left _ (List.mem_of_getElem? (i := 29) (by decide +kernel))⟩
abbrev mm_X1_size : tq_MD := (yX1_size, cX1_size, 1, (some .int), [], 1)
theorem mf_X1_size : tq_mV mm_X1_size := ⟨⟨tq_i4 1 rfl, tq_i1 2 rfl, by decide +kernel, rfl⟩, tq_i4 0 rfl, List.mem_append_left _ (List.mem_of_getElem? (i := 30) (by decide +kernel))⟩
abbrev mm_L_number : tq_MD := (yL_number, cL_number, 2, (some .int), [(0, 4, 5, 58)], 13)
theorem mf_L_number : tq_mS mm_L_number := ⟨⟨tq_i4 5 rfl, tq_i1 0 rfl, by decide +kernel, rfl⟩, tq_i4 4 rfl⟩
abbrev mm_X11_number : tq_MD := (yX11_number, cX11_number, 1, (some .int), [], 11)
theorem mf_X11_number : tq_mV mm_X11_number := ⟨⟨tq_i4 9 rfl, tq_i1 1 rfl, by decide +kernel, rfl⟩, tq_i4 7 rfl, tq_i4 8 rfl⟩
abbrev mm_X5_rank : tq_MD := (yX5_rank, cX5_rank, 12, (some .long), [], 5)
theorem mf_X5_rank : tq_mV mm_X5_rank := ⟨⟨tq_i4 14 rfl, tq_i1 3 rfl, by decide +kernel, rfl⟩, tq_i4 13 rfl, List.mem_append_left _ (List.mem_of_getElem? (i := 31) (by decide +kernel))⟩
abbrev mm_X5_wayTaken : tq_MD := (yX5_wayTaken, cX5_wayTaken, 10, (some .int), [], 5)
theorem mf_X5_wayTaken : tq_mV mm_X5_wayTaken := ⟨⟨tq_i4 18 rfl, tq_i1 3 rfl, by decide +kernel, rfl⟩, tq_i4 17 rfl, List.mem_append_left _ (List.mem_of_getElem? (i := 32) (by decide +kernel))⟩
abbrev mm_L_flips : tq_MD := (yL_flips, cL_flips, 2, (some .int), [(0, 4, 5, 58)], 13)
theorem mf_L_flips : tq_mS mm_L_flips := ⟨⟨tq_i4 22 rfl, tq_i1 0 rfl, by decide +kernel, rfl⟩, tq_i4 21 rfl⟩
abbrev mm_X11_flips : tq_MD := (yX11_flips, cX11_flips, 1, (some .int), [], 11)
theorem mf_X11_flips : tq_mV mm_X11_flips := ⟨⟨tq_i4 26 rfl, tq_i1 1 rfl, by decide +kernel, rfl⟩, tq_i4 24 rfl, tq_i4 25 rfl⟩
abbrev mm_X2_countFlips : tq_MD := (yX2_countFlips, cX2_countFlips, 4, (some .int), [], 2)
theorem mf_X2_countFlips : tq_mV mm_X2_countFlips := ⟨⟨tq_i4 30 rfl, tq_i1 4 rfl, by decide +kernel, rfl⟩, tq_i4 29 rfl, List.mem_append_left _ (List.mem_of_getElem? (i := 33) (by decide +kernel))⟩
abbrev mm_X2_canFlip : tq_MD := (yX2_canFlip, cX2_canFlip, 7, (some .boolean), [], 2)
theorem mf_X2_canFlip : tq_mV mm_X2_canFlip := ⟨⟨tq_i4 34 rfl, tq_i1 4 rfl, by decide +kernel, rfl⟩, tq_i4 33 rfl, List.mem_append_left _ (List.mem_of_getElem? (i := 34) (by decide +kernel))⟩
abbrev mm_X1_rightOf : tq_MD := (yX1_rightOf, cX1_rightOf, 2, (some .int), [], 1)
theorem mf_X1_rightOf : tq_mV mm_X1_rightOf := ⟨⟨tq_i4 38 rfl, tq_i1 2 rfl, by decide +kernel, rfl⟩, tq_i4 37 rfl, List.mem_append_left _ (List.mem_of_getElem? (i := 35) (by decide +kernel))⟩
abbrev mm_X2_acrossPair : tq_MD := (yX2_acrossPair, cX2_acrossPair, 3, (some .long), [], 2)
theorem mf_X2_acrossPair : tq_mV mm_X2_acrossPair := ⟨⟨tq_i4 42 rfl, tq_i1 4 rfl, by decide +kernel, rfl⟩, tq_i4 41 rfl, List.mem_append_left _ (List.mem_of_getElem? (i := 36) (by decide +kernel))⟩
abbrev mm_X2_downPair : tq_MD := (yX2_downPair, cX2_downPair, 3, (some .long), [], 2)
theorem mf_X2_downPair : tq_mV mm_X2_downPair := ⟨⟨tq_i4 47 rfl, tq_i1 4 rfl, by decide +kernel, rfl⟩, tq_i4 46 rfl, List.mem_append_left _ (List.mem_of_getElem? (i := 37) (by decide +kernel))⟩
abbrev mm_L_free : tq_MD := (yL_free, cL_free, 1, (some .int), [], 13)
theorem mf_L_free : tq_mS mm_L_free := ⟨⟨tq_i4 50 rfl, tq_i1 0 rfl, by decide +kernel, rfl⟩, tq_i4 49 rfl⟩
abbrev mm_X11_free : tq_MD := (yX11_free, cX11_free, 1, (some .int), [], 11)
theorem mf_X11_free : tq_mV mm_X11_free := ⟨⟨tq_i4 54 rfl, tq_i1 1 rfl, by decide +kernel, rfl⟩, tq_i4 52 rfl, tq_i4 53 rfl⟩
abbrev mm_X9_refresh : tq_MD := (yX9_refresh, cX9_refresh, 1, none, [], 9)
theorem mf_X9_refresh : tq_mV mm_X9_refresh := ⟨⟨tq_i4 58 rfl, tq_i1 7 rfl, by decide +kernel, rfl⟩, tq_i4 57 rfl, List.mem_append_left _ (List.mem_of_getElem? (i := 38) (by decide +kernel))⟩
abbrev mm_X9_pair : tq_MD := (yX9_pair, cX9_pair, 6, none, [], 9)
theorem mf_X9_pair : tq_mV mm_X9_pair := ⟨⟨tq_i4 62 rfl, tq_i1 7 rfl, by decide +kernel, rfl⟩, tq_i4 61 rfl, List.mem_append_left _ (List.mem_of_getElem? (i := 39) (by decide +kernel))⟩
abbrev mm_J7_fill_53178 : tq_MD := (yJ7_fill_53178, cJ7_fill_53178, 4, none, [], 16)
theorem mf_J7_fill_53178 : tq_mS mm_J7_fill_53178 := ⟨⟨tq_i4 65 rfl, tq_i1 22 rfl, by decide +kernel, rfl⟩, tq_i4 64 rfl⟩
abbrev mm_X9_lowest : tq_MD := (yX9_lowest, cX9_lowest, 2, (some .int), [], 9)
theorem mf_X9_lowest : tq_mS mm_X9_lowest := ⟨⟨tq_i4 69 rfl, tq_i1 7 rfl, by decide +kernel, rfl⟩, tq_i4 68 rfl⟩
abbrev mm_X9_findFree : tq_MD := (yX9_findFree, cX9_findFree, 10, (some .int), [], 9)
theorem mf_X9_findFree : tq_mV mm_X9_findFree := ⟨⟨tq_i4 75 rfl, tq_i1 7 rfl, by decide +kernel, rfl⟩, tq_i4 74 rfl, List.mem_append_left _ (List.mem_of_getElem? (i := 40) (by decide +kernel))⟩
abbrev mm_X9_turnPath : tq_MD := (yX9_turnPath, cX9_turnPath, 6, none, [], 9)
theorem mf_X9_turnPath : tq_mV mm_X9_turnPath := ⟨⟨tq_i4 80 rfl, tq_i1 7 rfl, by decide +kernel, rfl⟩, tq_i4 79 rfl, List.mem_append_left _ (List.mem_of_getElem? (i := 41) (by decide +kernel))⟩
abbrev mm_X9_spreadFree : tq_MD := (yX9_spreadFree, cX9_spreadFree, 5, none, [], 9)
theorem mf_X9_spreadFree : tq_mV mm_X9_spreadFree := ⟨⟨tq_i4 84 rfl, tq_i1 7 rfl, by decide +kernel, rfl⟩, tq_i4 83 rfl, List.mem_append_left _ (List.mem_of_getElem? (i := 42) (by decide +kernel))⟩
abbrev mm_L_isSound : tq_MD := (yL_isSound, cL_isSound, 1, (some .int), [], 13)
theorem mf_L_isSound : tq_mS mm_L_isSound := ⟨⟨tq_i4 88 rfl, tq_i1 0 rfl, by decide +kernel, rfl⟩, tq_i4 87 rfl⟩
abbrev mm_X11_isSound : tq_MD := (yX11_isSound, cX11_isSound, 1, (some .boolean), [], 11)
theorem mf_X11_isSound : tq_mV mm_X11_isSound := ⟨⟨tq_i4 92 rfl, tq_i1 1 rfl, by decide +kernel, rfl⟩, tq_i4 90 rfl, tq_i4 91 rfl⟩
abbrev mm_X11_countsAgree : tq_MD := (yX11_countsAgree, cX11_countsAgree, 1, (some .boolean), [], 11)
theorem mf_X11_countsAgree : tq_mV mm_X11_countsAgree := ⟨⟨tq_i4 96 rfl, tq_i1 1 rfl, by decide +kernel, rfl⟩, tq_i4 95 rfl, List.mem_append_left _ (List.mem_of_getElem? (i := 43) (by decide +kernel))⟩
abbrev mm_X11_numberIsSound : tq_MD := (yX11_numberIsSound, cX11_numberIsSound, 6, (some .boolean), [], 11)
theorem mf_X11_numberIsSound : tq_mV mm_X11_numberIsSound := ⟨⟨tq_i4 100 rfl, tq_i1 1 rfl, by decide +kernel, rfl⟩, tq_i4 99 rfl, List.mem_append_left _ (List.mem_of_getElem? (i := 44) (by decide +kernel))⟩
abbrev mm_X11_flipsAreSound : tq_MD := (yX11_flipsAreSound, cX11_flipsAreSound, 4, (some .boolean), [], 11)
theorem mf_X11_flipsAreSound : tq_mV mm_X11_flipsAreSound := ⟨⟨tq_i4 104 rfl, tq_i1 1 rfl, by decide +kernel, rfl⟩, tq_i4 103 rfl, List.mem_append_left _ (List.mem_of_getElem? (i := 45) (by decide +kernel))⟩
abbrev mm_X7_fillKept : tq_MD := (yX7_fillKept, cX7_fillKept, 5, none, [], 7)
theorem mf_X7_fillKept : tq_mV mm_X7_fillKept := ⟨⟨tq_i4 108 rfl, tq_i1 5 rfl, by decide +kernel, rfl⟩, tq_i4 107 rfl, List.mem_append_left _ (List.mem_of_getElem? (i := 46) (by decide +kernel))⟩
abbrev mm_X7_fillRow : tq_MD := (yX7_fillRow, cX7_fillRow, 8, none, [], 7)
theorem mf_X7_fillRow : tq_mV mm_X7_fillRow := ⟨⟨tq_i4 112 rfl, tq_i1 5 rfl, by decide +kernel, rfl⟩, tq_i4 111 rfl, List.mem_append_left _ (List.mem_of_getElem? (i := 47) (by decide +kernel))⟩
abbrev mm_X7_isCorner : tq_MD := (yX7_isCorner, cX7_isCorner, 3, (some .boolean), [], 7)
theorem mf_X7_isCorner : tq_mV mm_X7_isCorner := ⟨⟨tq_i4 117 rfl, tq_i1 5 rfl, by decide +kernel, rfl⟩, tq_i4 116 rfl, List.mem_append_left _ (List.mem_of_getElem? (i := 48) (by decide +kernel))⟩
abbrev mm_X7_spread : tq_MD := (yX7_spread, cX7_spread, 7, none, [], 7)
theorem mf_X7_spread : tq_mV mm_X7_spread := ⟨⟨tq_i4 122 rfl, tq_i1 5 rfl, by decide +kernel, rfl⟩, tq_i4 121 rfl, List.mem_append_left _ (List.mem_of_getElem? (i := 49) (by decide +kernel))⟩
abbrev mm_X7_riseRight : tq_MD := (yX7_riseRight, cX7_riseRight, 5, (some .int), [], 7)
theorem mf_X7_riseRight : tq_mV mm_X7_riseRight := ⟨⟨tq_i4 126 rfl, tq_i1 5 rfl, by decide +kernel, rfl⟩, tq_i4 125 rfl, List.mem_append_left _ (List.mem_of_getElem? (i := 50) (by decide +kernel))⟩
abbrev mm_X7_rise : tq_MD := (yX7_rise, cX7_rise, 4, (some .int), [], 7)
theorem mf_X7_rise : tq_mV mm_X7_rise := ⟨⟨tq_i4 131 rfl, tq_i1 5 rfl, by decide +kernel, rfl⟩, tq_i4 130 rfl, List.mem_append_left _ (List.mem_of_getElem? (i := 51) (by decide +kernel))⟩
abbrev mm_X7_reach : tq_MD := (yX7_reach, cX7_reach, 7, (some .int), [], 7)
theorem mf_X7_reach : tq_mV mm_X7_reach := ⟨⟨tq_i4 135 rfl, tq_i1 5 rfl, by decide +kernel, rfl⟩, tq_i4 134 rfl, List.mem_append_left _ (List.mem_of_getElem? (i := 52) (by decide +kernel))⟩
abbrev mm_X7_riseDown : tq_MD := (yX7_riseDown, cX7_riseDown, 5, (some .int), [], 7)
theorem mf_X7_riseDown : tq_mV mm_X7_riseDown := ⟨⟨tq_i4 139 rfl, tq_i1 5 rfl, by decide +kernel, rfl⟩, tq_i4 138 rfl, List.mem_append_left _ (List.mem_of_getElem? (i := 53) (by decide +kernel))⟩
abbrev mm_X2_squareOf : tq_MD := (yX2_squareOf, cX2_squareOf, 5, (some .int), [], 2)
theorem mf_X2_squareOf : tq_mV mm_X2_squareOf := ⟨⟨tq_i4 143 rfl, tq_i1 4 rfl, by decide +kernel, rfl⟩, tq_i4 142 rfl, List.mem_append_left _ (List.mem_of_getElem? (i := 54) (by decide +kernel))⟩
abbrev mm_X2_rightFlipped : tq_MD := (yX2_rightFlipped, cX2_rightFlipped, 2, (some .long), [], 2)
theorem mf_X2_rightFlipped : tq_mV mm_X2_rightFlipped := ⟨⟨tq_i4 147 rfl, tq_i1 4 rfl, by decide +kernel, rfl⟩, tq_i4 146 rfl, List.mem_append_left _ (List.mem_of_getElem? (i := 55) (by decide +kernel))⟩
abbrev mm_X2_downFlipped : tq_MD := (yX2_downFlipped, cX2_downFlipped, 2, (some .long), [], 2)
theorem mf_X2_downFlipped : tq_mV mm_X2_downFlipped := ⟨⟨tq_i4 151 rfl, tq_i1 4 rfl, by decide +kernel, rfl⟩, tq_i4 150 rfl, List.mem_append_left _ (List.mem_of_getElem? (i := 56) (by decide +kernel))⟩
abbrev mm_X7_flipsFromKept : tq_MD := (yX7_flipsFromKept, cX7_flipsFromKept, 7, (some .int), [], 7)
theorem mf_X7_flipsFromKept : tq_mV mm_X7_flipsFromKept := ⟨⟨tq_i4 155 rfl, tq_i1 5 rfl, by decide +kernel, rfl⟩, tq_i4 154 rfl, List.mem_append_left _ (List.mem_of_getElem? (i := 57) (by decide +kernel))⟩
abbrev mm_J9_abs_0f7a4 : tq_MD := (yJ9_abs_0f7a4, cJ9_abs_0f7a4, 1, (some .int), [], 14)
theorem mf_J9_abs_0f7a4 : tq_mS mm_J9_abs_0f7a4 := ⟨⟨tq_i4 158 rfl, tq_i1 24 rfl, by decide +kernel, rfl⟩, tq_i4 157 rfl⟩
abbrev mm_X11_piecesAreSound : tq_MD := (yX11_piecesAreSound, cX11_piecesAreSound, 5, (some .boolean), [], 11)
theorem mf_X11_piecesAreSound : tq_mV mm_X11_piecesAreSound := ⟨⟨tq_i4 162 rfl, tq_i1 1 rfl, by decide +kernel, rfl⟩, tq_i4 161 rfl, List.mem_append_left _ (List.mem_of_getElem? (i := 58) (by decide +kernel))⟩
abbrev mm_X5_fillHaving : tq_MD := (yX5_fillHaving, cX5_fillHaving, 3, none, [], 5)
theorem mf_X5_fillHaving : tq_mV mm_X5_fillHaving := ⟨⟨tq_i4 166 rfl, tq_i1 3 rfl, by decide +kernel, rfl⟩, tq_i4 165 rfl, List.mem_append_left _ (List.mem_of_getElem? (i := 59) (by decide +kernel))⟩
abbrev mm_X5_goOn : tq_MD := (yX5_goOn, cX5_goOn, 10, none, [], 5)
theorem mf_X5_goOn : tq_mV mm_X5_goOn := ⟨⟨tq_i4 171 rfl, tq_i1 3 rfl, by decide +kernel, rfl⟩, tq_i4 170 rfl, List.mem_append_left _ (List.mem_of_getElem? (i := 60) (by decide +kernel))⟩
abbrev mm_X5_withCell : tq_MD := (yX5_withCell, cX5_withCell, 7, (some .long), [], 5)
theorem mf_X5_withCell : tq_mV mm_X5_withCell := ⟨⟨tq_i4 176 rfl, tq_i1 3 rfl, by decide +kernel, rfl⟩, tq_i4 175 rfl, List.mem_append_left _ (List.mem_of_getElem? (i := 61) (by decide +kernel))⟩
abbrev mm_X11_rolesAreSound : tq_MD := (yX11_rolesAreSound, cX11_rolesAreSound, 2, (some .boolean), [], 11)
theorem mf_X11_rolesAreSound : tq_mV mm_X11_rolesAreSound := ⟨⟨tq_i4 180 rfl, tq_i1 1 rfl, by decide +kernel, rfl⟩, tq_i4 179 rfl, List.mem_append_left _ (List.mem_of_getElem? (i := 62) (by decide +kernel))⟩
abbrev mm_X11_exactIsSound : tq_MD := (yX11_exactIsSound, cX11_exactIsSound, 4, (some .boolean), [], 11)
theorem mf_X11_exactIsSound : tq_mV mm_X11_exactIsSound := ⟨⟨tq_i4 184 rfl, tq_i1 1 rfl, by decide +kernel, rfl⟩, tq_i4 183 rfl, List.mem_append_left _ (List.mem_of_getElem? (i := 63) (by decide +kernel))⟩
abbrev mm_X4_refresh : tq_MD := (yX4_refresh, cX4_refresh, 4, none, [], 4)
theorem mf_X4_refresh : tq_mV mm_X4_refresh := ⟨⟨tq_i4 188 rfl, tq_i1 9 rfl, by decide +kernel, rfl⟩, tq_i4 187 rfl, List.mem_append_left _ (List.mem_of_getElem? (i := 64) (by decide +kernel))⟩
abbrev mm_X4_numberCells : tq_MD := (yX4_numberCells, cX4_numberCells, 2, none, [], 4)
theorem mf_X4_numberCells : tq_mV mm_X4_numberCells := ⟨⟨tq_i4 192 rfl, tq_i1 9 rfl, by decide +kernel, rfl⟩, tq_i4 191 rfl, List.mem_append_left _ (List.mem_of_getElem? (i := 65) (by decide +kernel))⟩
abbrev mm_X4_findGroup : tq_MD := (yX4_findGroup, cX4_findGroup, 2, none, [], 4)
theorem mf_X4_findGroup : tq_mV mm_X4_findGroup := ⟨⟨tq_i4 197 rfl, tq_i1 9 rfl, by decide +kernel, rfl⟩, tq_i4 196 rfl, List.mem_append_left _ (List.mem_of_getElem? (i := 66) (by decide +kernel))⟩
abbrev mm_X4_fillMoved : tq_MD := (yX4_fillMoved, cX4_fillMoved, 8, (some .boolean), [], 4)
theorem mf_X4_fillMoved : tq_mV mm_X4_fillMoved := ⟨⟨tq_i4 201 rfl, tq_i1 9 rfl, by decide +kernel, rfl⟩, tq_i4 200 rfl, List.mem_append_left _ (List.mem_of_getElem? (i := 67) (by decide +kernel))⟩
abbrev mm_X4_collect : tq_MD := (yX4_collect, cX4_collect, 3, none, [], 4)
theorem mf_X4_collect : tq_mV mm_X4_collect := ⟨⟨tq_i4 206 rfl, tq_i1 9 rfl, by decide +kernel, rfl⟩, tq_i4 205 rfl, List.mem_append_left _ (List.mem_of_getElem? (i := 68) (by decide +kernel))⟩
abbrev mm_X4_collectKind : tq_MD := (yX4_collectKind, cX4_collectKind, 11, none, [], 4)
theorem mf_X4_collectKind : tq_mV mm_X4_collectKind := ⟨⟨tq_i4 210 rfl, tq_i1 9 rfl, by decide +kernel, rfl⟩, tq_i4 209 rfl, List.mem_append_left _ (List.mem_of_getElem? (i := 69) (by decide +kernel))⟩
abbrev mm_X4_motionsOf : tq_MD := (yX4_motionsOf, cX4_motionsOf, 7, (some .long), [], 4)
theorem mf_X4_motionsOf : tq_mV mm_X4_motionsOf := ⟨⟨tq_i4 214 rfl, tq_i1 9 rfl, by decide +kernel, rfl⟩, tq_i4 213 rfl, List.mem_append_left _ (List.mem_of_getElem? (i := 70) (by decide +kernel))⟩
abbrev mm_X8_moved : tq_MD := (yX8_moved, cX8_moved, 10, (some .long), [], 8)
theorem mf_X8_moved : tq_mS mm_X8_moved := ⟨⟨tq_i4 217 rfl, tq_i1 8 rfl, by decide +kernel, rfl⟩, tq_i4 216 rfl⟩
abbrev mm_X8_isShapeOf : tq_MD := (yX8_isShapeOf, cX8_isShapeOf, 5, (some .boolean), [], 8)
theorem mf_X8_isShapeOf : tq_mV mm_X8_isShapeOf := ⟨⟨tq_i4 223 rfl, tq_i1 8 rfl, by decide +kernel, rfl⟩, tq_i4 222 rfl, List.mem_append_left _ (List.mem_of_getElem? (i := 71) (by decide +kernel))⟩
abbrev mm_X4_coveredBy : tq_MD := (yX4_coveredBy, cX4_coveredBy, 13, (some .int), [], 4)
theorem mf_X4_coveredBy : tq_mV mm_X4_coveredBy := ⟨⟨tq_i4 227 rfl, tq_i1 9 rfl, by decide +kernel, rfl⟩, tq_i4 226 rfl, List.mem_append_left _ (List.mem_of_getElem? (i := 72) (by decide +kernel))⟩
abbrev mm_J9_floorMod_7cf53 : tq_MD := (yJ9_floorMod_7cf53, cJ9_floorMod_7cf53, 3, (some .int), [], 14)
theorem mf_J9_floorMod_7cf53 : tq_mS mm_J9_floorMod_7cf53 := ⟨⟨tq_i4 230 rfl, tq_i1 24 rfl, by decide +kernel, rfl⟩, tq_i4 229 rfl⟩
abbrev mm_X4_insert : tq_MD := (yX4_insert, cX4_insert, 6, none, [], 4)
theorem mf_X4_insert : tq_mV mm_X4_insert := ⟨⟨tq_i4 234 rfl, tq_i1 9 rfl, by decide +kernel, rfl⟩, tq_i4 233 rfl, List.mem_append_left _ (List.mem_of_getElem? (i := 73) (by decide +kernel))⟩
abbrev mm_X4_isAhead : tq_MD := (yX4_isAhead, cX4_isAhead, 6, (some .boolean), [], 4)
theorem mf_X4_isAhead : tq_mS mm_X4_isAhead := ⟨⟨tq_i4 238 rfl, tq_i1 9 rfl, by decide +kernel, rfl⟩, tq_i4 237 rfl⟩
abbrev mm_J9_min_7cf53 : tq_MD := (yJ9_min_7cf53, cJ9_min_7cf53, 2, (some .int), [], 14)
theorem mf_J9_min_7cf53 : tq_mS mm_J9_min_7cf53 := ⟨⟨tq_i5 3 rfl, tq_i1 24 rfl, by decide +kernel, rfl⟩, tq_i5 2 rfl⟩
abbrev mm_X4_beginning : tq_MD := (yX4_beginning, cX4_beginning, 4, (some .long), [], 4)
theorem mf_X4_beginning : tq_mV mm_X4_beginning := ⟨⟨tq_i5 7 rfl, tq_i1 9 rfl, by decide +kernel, rfl⟩, tq_i5 6 rfl, List.mem_append_left _ (List.mem_of_getElem? (i := 74) (by decide +kernel))⟩
abbrev mm_X4_bounded : tq_MD := (yX4_bounded, cX4_bounded, 12, (some .long), [], 4)
theorem mf_X4_bounded : tq_mV mm_X4_bounded := ⟨⟨tq_i5 11 rfl, tq_i1 9 rfl, by decide +kernel, rfl⟩, tq_i5 10 rfl, List.mem_append_left _ (List.mem_of_getElem? (i := 75) (by decide +kernel))⟩
abbrev mm_J9_max_f86c9 : tq_MD := (yJ9_max_f86c9, cJ9_max_f86c9, 4, (some .long), [], 14)
theorem mf_J9_max_f86c9 : tq_mS mm_J9_max_f86c9 := ⟨⟨tq_i5 17 rfl, tq_i1 24 rfl, by decide +kernel, rfl⟩, tq_i5 16 rfl⟩
abbrev mm_X4_with : tq_MD := (yX4_with, cX4_with, 13, (some .long), [], 4)
theorem mf_X4_with : tq_mV mm_X4_with := ⟨⟨tq_i5 21 rfl, tq_i1 9 rfl, by decide +kernel, rfl⟩, tq_i5 20 rfl, List.mem_append_left _ (List.mem_of_getElem? (i := 76) (by decide +kernel))⟩
abbrev mm_X4_imageOf : tq_MD := (yX4_imageOf, cX4_imageOf, 9, (some .long), [], 4)
theorem mf_X4_imageOf : tq_mV mm_X4_imageOf := ⟨⟨tq_i5 26 rfl, tq_i1 9 rfl, by decide +kernel, rfl⟩, tq_i5 25 rfl, List.mem_append_left _ (List.mem_of_getElem? (i := 77) (by decide +kernel))⟩
abbrev mm_X4_search : tq_MD := (yX4_search, cX4_search, 8, (some .long), [], 4)
theorem mf_X4_search : tq_mV mm_X4_search := ⟨⟨tq_i5 30 rfl, tq_i1 9 rfl, by decide +kernel, rfl⟩, tq_i5 29 rfl, List.mem_append_left _ (List.mem_of_getElem? (i := 78) (by decide +kernel))⟩
abbrev mm_X4_firstOpen : tq_MD := (yX4_firstOpen, cX4_firstOpen, 2, (some .int), [], 4)
theorem mf_X4_firstOpen : tq_mS mm_X4_firstOpen := ⟨⟨tq_i5 33 rfl, tq_i1 9 rfl, by decide +kernel, rfl⟩, tq_i5 32 rfl⟩
abbrev mm_X4_weigh : tq_MD := (yX4_weigh, cX4_weigh, 3, (some .long), [], 4)
theorem mf_X4_weigh : tq_mS mm_X4_weigh := ⟨⟨tq_i5 36 rfl, tq_i1 9 rfl, by decide +kernel, rfl⟩, tq_i5 35 rfl⟩
abbrev mm_X4_sumOver : tq_MD := (yX4_sumOver, cX4_sumOver, 10, (some .long), [], 4)
theorem mf_X4_sumOver : tq_mV mm_X4_sumOver := ⟨⟨tq_i5 41 rfl, tq_i1 9 rfl, by decide +kernel, rfl⟩, tq_i5 40 rfl, List.mem_append_left _ (List.mem_of_getElem? (i := 79) (by decide +kernel))⟩
abbrev mm_X4_choose : tq_MD := (yX4_choose, cX4_choose, 14, none, [], 4)
theorem mf_X4_choose : tq_mV mm_X4_choose := ⟨⟨tq_i5 46 rfl, tq_i1 9 rfl, by decide +kernel, rfl⟩, tq_i5 45 rfl, List.mem_append_left _ (List.mem_of_getElem? (i := 80) (by decide +kernel))⟩
abbrev mm_X4_chosenNumber : tq_MD := (yX4_chosenNumber, cX4_chosenNumber, 10, (some .long), [], 4)
theorem mf_X4_chosenNumber : tq_mV mm_X4_chosenNumber := ⟨⟨tq_i5 50 rfl, tq_i1 9 rfl, by decide +kernel, rfl⟩, tq_i5 49 rfl, List.mem_append_left _ (List.mem_of_getElem? (i := 81) (by decide +kernel))⟩
abbrev mm_X11_stripsAreSound : tq_MD := (yX11_stripsAreSound, cX11_stripsAreSound, 3, (some .boolean), [], 11)
theorem mf_X11_stripsAreSound : tq_mV mm_X11_stripsAreSound := ⟨⟨tq_i5 54 rfl, tq_i1 1 rfl, by decide +kernel, rfl⟩, tq_i5 53 rfl, List.mem_append_left _ (List.mem_of_getElem? (i := 82) (by decide +kernel))⟩
abbrev mm_X6_byRule : tq_MD := (yX6_byRule, cX6_byRule, 6, none, [], 6)
theorem mf_X6_byRule : tq_mV mm_X6_byRule := ⟨⟨tq_i5 58 rfl, tq_i1 10 rfl, by decide +kernel, rfl⟩, tq_i5 57 rfl, List.mem_append_left _ (List.mem_of_getElem? (i := 83) (by decide +kernel))⟩
abbrev mm_X6_orderOf : tq_MD := (yX6_orderOf, cX6_orderOf, 1, (some .int), [], 6)
theorem mf_X6_orderOf : tq_mS mm_X6_orderOf := ⟨⟨tq_i5 61 rfl, tq_i1 10 rfl, by decide +kernel, rfl⟩, tq_i5 60 rfl⟩
abbrev mm_X6_byFront : tq_MD := (yX6_byFront, cX6_byFront, 5, (some .long), [], 6)
theorem mf_X6_byFront : tq_mV mm_X6_byFront := ⟨⟨tq_i5 67 rfl, tq_i1 10 rfl, by decide +kernel, rfl⟩, tq_i5 66 rfl, List.mem_append_left _ (List.mem_of_getElem? (i := 84) (by decide +kernel))⟩
abbrev mm_X6_passCell : tq_MD := (yX6_passCell, cX6_passCell, 6, none, [], 6)
theorem mf_X6_passCell : tq_mV mm_X6_passCell := ⟨⟨tq_i5 72 rfl, tq_i1 10 rfl, by decide +kernel, rfl⟩, tq_i5 71 rfl, List.mem_append_left _ (List.mem_of_getElem? (i := 85) (by decide +kernel))⟩
abbrev mm_X6_putTerm : tq_MD := (yX6_putTerm, cX6_putTerm, 8, none, [], 6)
theorem mf_X6_putTerm : tq_mV mm_X6_putTerm := ⟨⟨tq_i5 77 rfl, tq_i1 10 rfl, by decide +kernel, rfl⟩, tq_i5 76 rfl, List.mem_append_left _ (List.mem_of_getElem? (i := 86) (by decide +kernel))⟩
abbrev mm_X6_addTerms : tq_MD := (yX6_addTerms, cX6_addTerms, 11, none, [], 6)
theorem mf_X6_addTerms : tq_mV mm_X6_addTerms := ⟨⟨tq_i5 82 rfl, tq_i1 10 rfl, by decide +kernel, rfl⟩, tq_i5 81 rfl, List.mem_append_left _ (List.mem_of_getElem? (i := 87) (by decide +kernel))⟩
abbrev mm_X6_factor : tq_MD := (yX6_factor, cX6_factor, 2, (some .int), [], 6)
theorem mf_X6_factor : tq_mS mm_X6_factor := ⟨⟨tq_i5 85 rfl, tq_i1 10 rfl, by decide +kernel, rfl⟩, tq_i5 84 rfl⟩
abbrev mm_J9_floorDiv_f86c9 : tq_MD := (yJ9_floorDiv_f86c9, cJ9_floorDiv_f86c9, 6, (some .long), [], 14)
theorem mf_J9_floorDiv_f86c9 : tq_mS mm_J9_floorDiv_f86c9 := ⟨⟨tq_i5 91 rfl, tq_i1 24 rfl, by decide +kernel, rfl⟩, tq_i5 90 rfl⟩
abbrev mm_X0_putLimbs : tq_MD := (yX0_putLimbs, cX0_putLimbs, 5, none, [], 0)
theorem mf_X0_putLimbs : tq_mV mm_X0_putLimbs := ⟨⟨tq_i5 95 rfl, tq_i1 12 rfl, by decide +kernel, rfl⟩, tq_i5 94 rfl, List.mem_append_left _ (List.mem_of_getElem? (i := 88) (by decide +kernel))⟩
abbrev mm_X0_isLike : tq_MD := (yX0_isLike, cX0_isLike, 3, (some .boolean), [], 0)
theorem mf_X0_isLike : tq_mV mm_X0_isLike := ⟨⟨tq_i5 100 rfl, tq_i1 12 rfl, by decide +kernel, rfl⟩, tq_i5 99 rfl, List.mem_append_left _ (List.mem_of_getElem? (i := 89) (by decide +kernel))⟩
abbrev mm_X11_hexagonsAreSound : tq_MD := (yX11_hexagonsAreSound, cX11_hexagonsAreSound, 4, (some .boolean), [], 11)
theorem mf_X11_hexagonsAreSound : tq_mV mm_X11_hexagonsAreSound := ⟨⟨tq_i5 104 rfl, tq_i1 1 rfl, by decide +kernel, rfl⟩, tq_i5 103 rfl, List.mem_append_left _ (List.mem_of_getElem? (i := 90) (by decide +kernel))⟩
abbrev mm_X3_countHexagon : tq_MD := (yX3_countHexagon, cX3_countHexagon, 8, none, [], 3)
theorem mf_X3_countHexagon : tq_mV mm_X3_countHexagon := ⟨⟨tq_i5 108 rfl, tq_i1 6 rfl, by decide +kernel, rfl⟩, tq_i5 107 rfl, List.mem_append_left _ (List.mem_of_getElem? (i := 91) (by decide +kernel))⟩
abbrev mm_X3_choose : tq_MD := (yX3_choose, cX3_choose, 5, (some .long), [], 3)
theorem mf_X3_choose : tq_mS mm_X3_choose := ⟨⟨tq_i5 111 rfl, tq_i1 6 rfl, by decide +kernel, rfl⟩, tq_i5 110 rfl⟩
abbrev mm_X3_thirdDigit : tq_MD := (yX3_thirdDigit, cX3_thirdDigit, 5, (some .long), [], 3)
theorem mf_X3_thirdDigit : tq_mV mm_X3_thirdDigit := ⟨⟨tq_i5 115 rfl, tq_i1 6 rfl, by decide +kernel, rfl⟩, tq_i5 114 rfl, List.mem_append_left _ (List.mem_of_getElem? (i := 92) (by decide +kernel))⟩
abbrev mm_X0_timesPlus : tq_MD := (yX0_timesPlus, cX0_timesPlus, 10, none, [], 0)
theorem mf_X0_timesPlus : tq_mV mm_X0_timesPlus := ⟨⟨tq_i5 120 rfl, tq_i1 12 rfl, by decide +kernel, rfl⟩, tq_i5 119 rfl, List.mem_append_left _ (List.mem_of_getElem? (i := 93) (by decide +kernel))⟩
abbrev mm_X0_putHeaps : tq_MD := (yX0_putHeaps, cX0_putHeaps, 6, none, [], 0)
theorem mf_X0_putHeaps : tq_mV mm_X0_putHeaps := ⟨⟨tq_i5 124 rfl, tq_i1 12 rfl, by decide +kernel, rfl⟩, tq_i5 123 rfl, List.mem_append_left _ (List.mem_of_getElem? (i := 94) (by decide +kernel))⟩
abbrev mm_X0_divideBy : tq_MD := (yX0_divideBy, cX0_divideBy, 8, none, [], 0)
theorem mf_X0_divideBy : tq_mV mm_X0_divideBy := ⟨⟨tq_i5 130 rfl, tq_i1 12 rfl, by decide +kernel, rfl⟩, tq_i5 129 rfl, List.mem_append_left _ (List.mem_of_getElem? (i := 95) (by decide +kernel))⟩
abbrev mm_L_fold : tq_MD := (yL_fold, cL_fold, 3, (some .int), [], 13)
theorem mf_L_fold : tq_mS mm_L_fold := ⟨⟨tq_i5 133 rfl, tq_i1 0 rfl, by decide +kernel, rfl⟩, tq_i5 132 rfl⟩
abbrev mm_L_told : tq_MD := (yL_told, cL_told, 6, (some .long), [], 13)
theorem mf_L_told : tq_mS mm_L_told := ⟨⟨tq_i5 137 rfl, tq_i1 0 rfl, by decide +kernel, rfl⟩, tq_i5 136 rfl⟩
abbrev mm_L_signAt : tq_MD := (yL_signAt, cL_signAt, 3, (some .int), [(0, 5, 6, 23)], 13)
theorem mf_L_signAt : tq_mS mm_L_signAt := ⟨⟨tq_i5 140 rfl, tq_i1 0 rfl, by decide +kernel, rfl⟩, tq_i5 139 rfl⟩
abbrev mm_X11_signAt : tq_MD := (yX11_signAt, cX11_signAt, 2, (some .char), [], 11)
theorem mf_X11_signAt : tq_mV mm_X11_signAt := ⟨⟨tq_i5 168 rfl, tq_i1 1 rfl, by decide +kernel, rfl⟩, tq_i5 166 rfl, tq_i5 167 rfl⟩
abbrev mm_L_drawn : tq_MD := (yL_drawn, cL_drawn, 11, (some .boolean), [], 13)
theorem mf_L_drawn : tq_mS mm_L_drawn := ⟨⟨tq_i5 186 rfl, tq_i1 0 rfl, by decide +kernel, rfl⟩, tq_i5 185 rfl⟩
abbrev mm_L_draw_ : tq_MD := (yL_draw_, cL_draw_, 2, (some .int), [], 13)
theorem mf_L_draw_ : tq_mS mm_L_draw_ := ⟨⟨tq_i5 189 rfl, tq_i1 0 rfl, by decide +kernel, rfl⟩, tq_i5 188 rfl⟩
abbrev mm_L_form : tq_MD := (yL_form, cL_form, 4, (some .int), [(0, 6, 7, 13)], 13)
theorem mf_L_form : tq_mS mm_L_form := ⟨⟨tq_i5 194 rfl, tq_i1 0 rfl, by decide +kernel, rfl⟩, tq_i5 193 rfl⟩
abbrev mm_X11_form : tq_MD := (yX11_form, cX11_form, 4, (some .int), [], 11)
theorem mf_X11_form : tq_mV mm_X11_form := ⟨⟨tq_i5 199 rfl, tq_i1 1 rfl, by decide +kernel, rfl⟩, tq_i5 197 rfl, tq_i5 198 rfl⟩
abbrev mm_X1_isForm : tq_MD := (yX1_isForm, cX1_isForm, 2, (some .boolean), [], 1)
theorem mf_X1_isForm : tq_mS mm_X1_isForm := ⟨⟨tq_i5 202 rfl, tq_i1 2 rfl, by decide +kernel, rfl⟩, tq_i5 201 rfl⟩
abbrev mm_X11_isFrom : tq_MD := (yX11_isFrom, cX11_isFrom, 3, (some .boolean), [], 11)
theorem mf_X11_isFrom : tq_mS mm_X11_isFrom := ⟨⟨tq_i5 205 rfl, tq_i1 1 rfl, by decide +kernel, rfl⟩, tq_i5 204 rfl⟩
abbrev mm_X1_formCells : tq_MD := (yX1_formCells, cX1_formCells, 7, (some .long), [], 1)
theorem mf_X1_formCells : tq_mS mm_X1_formCells := ⟨⟨tq_i5 224 rfl, tq_i1 2 rfl, by decide +kernel, rfl⟩, tq_i5 223 rfl⟩
abbrev mm_X1_isInForm : tq_MD := (yX1_isInForm, cX1_isInForm, 5, (some .boolean), [], 1)
theorem mf_X1_isInForm : tq_mS mm_X1_isInForm := ⟨⟨tq_i5 227 rfl, tq_i1 2 rfl, by decide +kernel, rfl⟩, tq_i5 226 rfl⟩
abbrev mm_X1_tell : tq_MD := (yX1_tell, cX1_tell, 5, none, [], 1)
theorem mf_X1_tell : tq_mV mm_X1_tell := ⟨⟨tq_i5 232 rfl, tq_i1 2 rfl, by decide +kernel, rfl⟩, tq_i5 231 rfl, List.mem_append_left _ (List.mem_of_getElem? (i := 96) (by decide +kernel))⟩
abbrev mm_X2_forget : tq_MD := (yX2_forget, cX2_forget, 1, none, [], 2)
theorem mf_X2_forget : tq_mV mm_X2_forget := ⟨⟨tq_i5 236 rfl, tq_i1 4 rfl, by decide +kernel, rfl⟩, tq_i5 235 rfl, List.mem_append_left _ (List.mem_of_getElem? (i := 97) (by decide +kernel))⟩
abbrev mm_L_board : tq_MD := (yL_board, cL_board, 4, (some .int), [(0, 6, 7, 13)], 13)
theorem mf_L_board : tq_mS mm_L_board := ⟨⟨tq_i5 239 rfl, tq_i1 0 rfl, by decide +kernel, rfl⟩, tq_i5 238 rfl⟩
abbrev mm_X11_board : tq_MD := (yX11_board, cX11_board, 3, (some .int), [], 11)
theorem mf_X11_board : tq_mV mm_X11_board := ⟨⟨tq_i6 3 rfl, tq_i1 1 rfl, by decide +kernel, rfl⟩, tq_i6 1 rfl, tq_i6 2 rfl⟩
abbrev mm_L_cells : tq_MD := (yL_cells, cL_cells, 3, (some .int), [(0, 5, 6, 13)], 13)
theorem mf_L_cells : tq_mS mm_L_cells := ⟨⟨tq_i6 9 rfl, tq_i1 0 rfl, by decide +kernel, rfl⟩, tq_i6 8 rfl⟩
abbrev mm_X11_cells : tq_MD := (yX11_cells, cX11_cells, 2, (some .int), [], 11)
theorem mf_X11_cells : tq_mV mm_X11_cells := ⟨⟨tq_i6 13 rfl, tq_i1 1 rfl, by decide +kernel, rfl⟩, tq_i6 11 rfl, tq_i6 12 rfl⟩
abbrev mm_L_cut : tq_MD := (yL_cut, cL_cut, 4, (some .int), [(0, 6, 7, 23)], 13)
theorem mf_L_cut : tq_mS mm_L_cut := ⟨⟨tq_i6 18 rfl, tq_i1 0 rfl, by decide +kernel, rfl⟩, tq_i6 17 rfl⟩
abbrev mm_X11_cut : tq_MD := (yX11_cut, cX11_cut, 3, (some .int), [], 11)
theorem mf_X11_cut : tq_mV mm_X11_cut := ⟨⟨tq_i6 22 rfl, tq_i1 1 rfl, by decide +kernel, rfl⟩, tq_i6 20 rfl, tq_i6 21 rfl⟩
abbrev mm_X1_change : tq_MD := (yX1_change, cX1_change, 3, none, [], 1)
theorem mf_X1_change : tq_mV mm_X1_change := ⟨⟨tq_i6 27 rfl, tq_i1 2 rfl, by decide +kernel, rfl⟩, tq_i6 26 rfl, List.mem_append_left _ (List.mem_of_getElem? (i := 98) (by decide +kernel))⟩
abbrev mm_L_has : tq_MD := (yL_has, cL_has, 3, (some .int), [], 13)
theorem mf_L_has : tq_mS mm_L_has := ⟨⟨tq_i6 30 rfl, tq_i1 0 rfl, by decide +kernel, rfl⟩, tq_i6 29 rfl⟩
abbrev mm_X11_has : tq_MD := (yX11_has, cX11_has, 3, (some .boolean), [], 11)
theorem mf_X11_has : tq_mV mm_X11_has := ⟨⟨tq_i6 34 rfl, tq_i1 1 rfl, by decide +kernel, rfl⟩, tq_i6 32 rfl, tq_i6 33 rfl⟩
abbrev mm_L_roll : tq_MD := (yL_roll, cL_roll, 3, (some .int), [(0, 13, 14, 29)], 13)
theorem mf_L_roll : tq_mS mm_L_roll := ⟨⟨tq_i6 37 rfl, tq_i1 0 rfl, by decide +kernel, rfl⟩, tq_i6 36 rfl⟩
abbrev mm_X11_roll : tq_MD := (yX11_roll, cX11_roll, 3, (some .boolean), [], 11)
theorem mf_X11_roll : tq_mV mm_X11_roll := ⟨⟨tq_i6 41 rfl, tq_i1 1 rfl, by decide +kernel, rfl⟩, tq_i6 39 rfl, tq_i6 40 rfl⟩
abbrev mm_X1_canBeRolled : tq_MD := (yX1_canBeRolled, cX1_canBeRolled, 1, (some .boolean), [], 1)
theorem mf_X1_canBeRolled : tq_mV mm_X1_canBeRolled := ⟨⟨tq_i6 45 rfl, tq_i1 2 rfl, by decide +kernel, rfl⟩, tq_i6 44 rfl, List.mem_append_left _ (List.mem_of_getElem? (i := 99) (by decide +kernel))⟩
abbrev mm_X1_turnRound : tq_MD := (yX1_turnRound, cX1_turnRound, 2, none, [], 1)
theorem mf_X1_turnRound : tq_mV mm_X1_turnRound := ⟨⟨tq_i6 50 rfl, tq_i1 2 rfl, by decide +kernel, rfl⟩, tq_i6 49 rfl, List.mem_append_left _ (List.mem_of_getElem? (i := 100) (by decide +kernel))⟩
abbrev mm_L_counts : tq_MD := (yL_counts, cL_counts, 11, (some .boolean), [], 13)
theorem mf_L_counts : tq_mS mm_L_counts := ⟨⟨tq_i6 53 rfl, tq_i1 0 rfl, by decide +kernel, rfl⟩, tq_i6 52 rfl⟩
abbrev mm_L_having : tq_MD := (yL_having, cL_having, 5, (some .int), [(0, 7, 8, 23)], 13)
theorem mf_L_having : tq_mS mm_L_having := ⟨⟨tq_i6 56 rfl, tq_i1 0 rfl, by decide +kernel, rfl⟩, tq_i6 55 rfl⟩
abbrev mm_X11_having : tq_MD := (yX11_having, cX11_having, 4, (some .int), [], 11)
theorem mf_X11_having : tq_mV mm_X11_having := ⟨⟨tq_i6 60 rfl, tq_i1 1 rfl, by decide +kernel, rfl⟩, tq_i6 58 rfl, tq_i6 59 rfl⟩
abbrev mm_X1_isPiece : tq_MD := (yX1_isPiece, cX1_isPiece, 4, (some .boolean), [], 1)
theorem mf_X1_isPiece : tq_mV mm_X1_isPiece := ⟨⟨tq_i6 64 rfl, tq_i1 2 rfl, by decide +kernel, rfl⟩, tq_i6 63 rfl, List.mem_append_left _ (List.mem_of_getElem? (i := 101) (by decide +kernel))⟩
abbrev mm_X5_withPiece : tq_MD := (yX5_withPiece, cX5_withPiece, 4, (some .long), [], 5)
theorem mf_X5_withPiece : tq_mV mm_X5_withPiece := ⟨⟨tq_i6 71 rfl, tq_i1 3 rfl, by decide +kernel, rfl⟩, tq_i6 70 rfl, List.mem_append_left _ (List.mem_of_getElem? (i := 102) (by decide +kernel))⟩
abbrev mm_L_leftOf : tq_MD := (yL_leftOf, cL_leftOf, 4, (some .long), [], 13)
theorem mf_L_leftOf : tq_mS mm_L_leftOf := ⟨⟨tq_i6 74 rfl, tq_i1 0 rfl, by decide +kernel, rfl⟩, tq_i6 73 rfl⟩
abbrev mm_L_numbered : tq_MD := (yL_numbered, cL_numbered, 15, (some .boolean), [], 13)
theorem mf_L_numbered : tq_mS mm_L_numbered := ⟨⟨tq_i6 77 rfl, tq_i1 0 rfl, by decide +kernel, rfl⟩, tq_i6 76 rfl⟩
abbrev mm_L_next : tq_MD := (yL_next, cL_next, 2, (some .int), [(0, 12, 13, 58)], 13)
theorem mf_L_next : tq_mS mm_L_next := ⟨⟨tq_i6 82 rfl, tq_i1 0 rfl, by decide +kernel, rfl⟩, tq_i6 81 rfl⟩
abbrev mm_X11_next : tq_MD := (yX11_next, cX11_next, 6, (some .boolean), [], 11)
theorem mf_X11_next : tq_mV mm_X11_next := ⟨⟨tq_i6 86 rfl, tq_i1 1 rfl, by decide +kernel, rfl⟩, tq_i6 84 rfl, tq_i6 85 rfl⟩
abbrev mm_L_previous : tq_MD := (yL_previous, cL_previous, 2, (some .int), [(0, 12, 13, 58)], 13)
theorem mf_L_previous : tq_mS mm_L_previous := ⟨⟨tq_i6 89 rfl, tq_i1 0 rfl, by decide +kernel, rfl⟩, tq_i6 88 rfl⟩
abbrev mm_X11_previous : tq_MD := (yX11_previous, cX11_previous, 6, (some .boolean), [], 11)
theorem mf_X11_previous : tq_mV mm_X11_previous := ⟨⟨tq_i6 93 rfl, tq_i1 1 rfl, by decide +kernel, rfl⟩, tq_i6 91 rfl, tq_i6 92 rfl⟩
abbrev mm_L_undo : tq_MD := (yL_undo, cL_undo, 2, (some .int), [(0, 4, 5, 81)], 13)
theorem mf_L_undo : tq_mS mm_L_undo := ⟨⟨tq_i6 96 rfl, tq_i1 0 rfl, by decide +kernel, rfl⟩, tq_i6 95 rfl⟩
abbrev mm_X11_undo : tq_MD := (yX11_undo, cX11_undo, 1, (some .int), [], 11)
theorem mf_X11_undo : tq_mV mm_X11_undo := ⟨⟨tq_i6 101 rfl, tq_i1 1 rfl, by decide +kernel, rfl⟩, tq_i6 99 rfl, tq_i6 100 rfl⟩
abbrev mm_X2_takeBack : tq_MD := (yX2_takeBack, cX2_takeBack, 1, none, [], 2)
theorem mf_X2_takeBack : tq_mV mm_X2_takeBack := ⟨⟨tq_i6 121 rfl, tq_i1 4 rfl, by decide +kernel, rfl⟩, tq_i6 120 rfl, List.mem_append_left _ (List.mem_of_getElem? (i := 103) (by decide +kernel))⟩
abbrev mm_L_keep : tq_MD := (yL_keep, cL_keep, 2, (some .int), [(0, 4, 5, 58)], 13)
theorem mf_L_keep : tq_mS mm_L_keep := ⟨⟨tq_i6 124 rfl, tq_i1 0 rfl, by decide +kernel, rfl⟩, tq_i6 123 rfl⟩
abbrev mm_X11_keep : tq_MD := (yX11_keep, cX11_keep, 1, (some .int), [], 11)
theorem mf_X11_keep : tq_mV mm_X11_keep := ⟨⟨tq_i6 128 rfl, tq_i1 1 rfl, by decide +kernel, rfl⟩, tq_i6 126 rfl, tq_i6 127 rfl⟩
abbrev mm_X2_store : tq_MD := (yX2_store, cX2_store, 1, none, [], 2)
theorem mf_X2_store : tq_mV mm_X2_store := ⟨⟨tq_i6 132 rfl, tq_i1 4 rfl, by decide +kernel, rfl⟩, tq_i6 131 rfl, List.mem_append_left _ (List.mem_of_getElem? (i := 104) (by decide +kernel))⟩
abbrev mm_X2_countCuts : tq_MD := (yX2_countCuts, cX2_countCuts, 4, (some .int), [], 2)
theorem mf_X2_countCuts : tq_mV mm_X2_countCuts := ⟨⟨tq_i6 136 rfl, tq_i1 4 rfl, by decide +kernel, rfl⟩, tq_i6 135 rfl, List.mem_append_left _ (List.mem_of_getElem? (i := 105) (by decide +kernel))⟩
abbrev mm_L_cuts : tq_MD := (yL_cuts, cL_cuts, 2, (some .int), [(0, 4, 5, 58)], 13)
theorem mf_L_cuts : tq_mS mm_L_cuts := ⟨⟨tq_i6 141 rfl, tq_i1 0 rfl, by decide +kernel, rfl⟩, tq_i6 140 rfl⟩
abbrev mm_X11_cuts : tq_MD := (yX11_cuts, cX11_cuts, 1, (some .int), [], 11)
theorem mf_X11_cuts : tq_mV mm_X11_cuts := ⟨⟨tq_i6 145 rfl, tq_i1 1 rfl, by decide +kernel, rfl⟩, tq_i6 143 rfl, tq_i6 144 rfl⟩
abbrev mm_L_apart : tq_MD := (yL_apart, cL_apart, 2, (some .int), [(0, 4, 5, 29), (0, 4, 9, 58)], 13)
theorem mf_L_apart : tq_mS mm_L_apart := ⟨⟨tq_i6 148 rfl, tq_i1 0 rfl, by decide +kernel, rfl⟩, tq_i6 147 rfl⟩
abbrev mm_X11_apart : tq_MD := (yX11_apart, cX11_apart, 1, (some .int), [], 11)
theorem mf_X11_apart : tq_mV mm_X11_apart := ⟨⟨tq_i6 152 rfl, tq_i1 1 rfl, by decide +kernel, rfl⟩, tq_i6 150 rfl, tq_i6 151 rfl⟩
abbrev mm_L_flip : tq_MD := (yL_flip, cL_flip, 3, (some .int), [(0, 5, 6, 58), (0, 5, 10, 23)], 13)
theorem mf_L_flip : tq_mS mm_L_flip := ⟨⟨tq_i6 157 rfl, tq_i1 0 rfl, by decide +kernel, rfl⟩, tq_i6 156 rfl⟩
abbrev mm_X11_flip : tq_MD := (yX11_flip, cX11_flip, 3, (some .int), [], 11)
theorem mf_X11_flip : tq_mV mm_X11_flip := ⟨⟨tq_i6 161 rfl, tq_i1 1 rfl, by decide +kernel, rfl⟩, tq_i6 159 rfl, tq_i6 160 rfl⟩
abbrev mm_L_freed : tq_MD := (yL_freed, cL_freed, 3, (some .boolean), [], 13)
theorem mf_L_freed : tq_mS mm_L_freed := ⟨⟨tq_i6 165 rfl, tq_i1 0 rfl, by decide +kernel, rfl⟩, tq_i6 164 rfl⟩
abbrev mm_L_roles : tq_MD := (yL_roles, cL_roles, 3, (some .int), [(0, 5, 6, 13)], 13)
theorem mf_L_roles : tq_mS mm_L_roles := ⟨⟨tq_i6 168 rfl, tq_i1 0 rfl, by decide +kernel, rfl⟩, tq_i6 167 rfl⟩
abbrev mm_X11_roles : tq_MD := (yX11_roles, cX11_roles, 4, (some .int), [], 11)
theorem mf_X11_roles : tq_mV mm_X11_roles := ⟨⟨tq_i6 172 rfl, tq_i1 1 rfl, by decide +kernel, rfl⟩, tq_i6 170 rfl, tq_i6 171 rfl⟩
abbrev mm_L_strips : tq_MD := (yL_strips, cL_strips, 13, (some .boolean), [], 13)
theorem mf_L_strips : tq_mS mm_L_strips := ⟨⟨tq_i6 176 rfl, tq_i1 0 rfl, by decide +kernel, rfl⟩, tq_i6 175 rfl⟩
abbrev mm_L_order : tq_MD := (yL_order, cL_order, 3, (some .int), [(0, 5, 6, 13)], 13)
theorem mf_L_order : tq_mS mm_L_order := ⟨⟨tq_i6 179 rfl, tq_i1 0 rfl, by decide +kernel, rfl⟩, tq_i6 178 rfl⟩
abbrev mm_X11_order : tq_MD := (yX11_order, cX11_order, 2, (some .int), [], 11)
theorem mf_X11_order : tq_mV mm_X11_order := ⟨⟨tq_i6 183 rfl, tq_i1 1 rfl, by decide +kernel, rfl⟩, tq_i6 181 rfl, tq_i6 182 rfl⟩
abbrev mm_L_rule : tq_MD := (yL_rule, cL_rule, 4, (some .int), [(0, 6, 7, 13), (0, 6, 11, 23)], 13)
theorem mf_L_rule : tq_mS mm_L_rule := ⟨⟨tq_i6 188 rfl, tq_i1 0 rfl, by decide +kernel, rfl⟩, tq_i6 187 rfl⟩
abbrev mm_X11_rule : tq_MD := (yX11_rule, cX11_rule, 3, (some .int), [], 11)
theorem mf_X11_rule : tq_mV mm_X11_rule := ⟨⟨tq_i6 192 rfl, tq_i1 1 rfl, by decide +kernel, rfl⟩, tq_i6 190 rfl, tq_i6 191 rfl⟩
abbrev mm_L_strip : tq_MD := (yL_strip, cL_strip, 4, (some .int), [(0, 6, 7, 13)], 13)
theorem mf_L_strip : tq_mS mm_L_strip := ⟨⟨tq_i6 197 rfl, tq_i1 0 rfl, by decide +kernel, rfl⟩, tq_i6 196 rfl⟩
abbrev mm_X11_strip : tq_MD := (yX11_strip, cX11_strip, 3, (some .int), [], 11)
theorem mf_X11_strip : tq_mV mm_X11_strip := ⟨⟨tq_i6 201 rfl, tq_i1 1 rfl, by decide +kernel, rfl⟩, tq_i6 199 rfl, tq_i6 200 rfl⟩
abbrev mm_L_hexagon : tq_MD := (yL_hexagon, cL_hexagon, 5, (some .int), [(0, 7, 8, 13)], 13)
theorem mf_L_hexagon : tq_mS mm_L_hexagon := ⟨⟨tq_i6 205 rfl, tq_i1 0 rfl, by decide +kernel, rfl⟩, tq_i6 204 rfl⟩
abbrev mm_X11_hexagon : tq_MD := (yX11_hexagon, cX11_hexagon, 4, (some .int), [], 11)
theorem mf_X11_hexagon : tq_mV mm_X11_hexagon := ⟨⟨tq_i6 209 rfl, tq_i1 1 rfl, by decide +kernel, rfl⟩, tq_i6 207 rfl, tq_i6 208 rfl⟩
abbrev mm_X11_areSides : tq_MD := (yX11_areSides, cX11_areSides, 3, (some .boolean), [], 11)
theorem mf_X11_areSides : tq_mS mm_X11_areSides := ⟨⟨tq_i6 212 rfl, tq_i1 1 rfl, by decide +kernel, rfl⟩, tq_i6 211 rfl⟩
abbrev mm_L_heaps : tq_MD := (yL_heaps, cL_heaps, 5, (some .int), [(0, 7, 8, 13)], 13)
theorem mf_L_heaps : tq_mS mm_L_heaps := ⟨⟨tq_i6 216 rfl, tq_i1 0 rfl, by decide +kernel, rfl⟩, tq_i6 215 rfl⟩
abbrev mm_X11_heaps : tq_MD := (yX11_heaps, cX11_heaps, 4, (some .int), [], 11)
theorem mf_X11_heaps : tq_mV mm_X11_heaps := ⟨⟨tq_i6 220 rfl, tq_i1 1 rfl, by decide +kernel, rfl⟩, tq_i6 218 rfl, tq_i6 219 rfl⟩
def tq_lmP (c idx : Nat) (M : tq_MD) : Prop := Cond.methodLink (tq_cn c) idx M.1 ∈ lw_tbl
def tq_lnP (c idx : Nat) (M : tq_MD) : Prop := ∃ host, Cond.methodLinkNest (tq_cn c) idx M.1 host ∈ lw_tbl
theorem ln_13_210 : tq_lmP 13 210 mm_L_covers := tq_i2 198 rfl
theorem ln_13_39 : tq_lmP 13 39 mm_X11_covers := tq_i2 201 rfl
theorem ln_11_192 : tq_lnP 11 192 mm_X5_total := ⟨"Tilecount", tq_i2 205 rfl⟩
theorem ln_5_61 : tq_lmP 5 61 mm_J7_fill_d0a16 := tq_i2 209 rfl
theorem ln_5_67 : tq_lmP 5 67 mm_X5_prepareRow := tq_i2 212 rfl
theorem ln_5_77 : tq_lmP 5 77 mm_X5_sumOnward := tq_i2 219 rfl
theorem ln_5_81 : tq_lmP 5 81 mm_X5_after := tq_i2 223 rfl
theorem ln_5_85 : tq_lmP 5 85 mm_X5_onward := tq_i2 227 rfl
theorem ln_11_196 : tq_lmP 11 196 mm_X11_say := tq_i2 231 rfl
theorem ln_11_500 : tq_lnP 11 500 mm_X0_put := ⟨"Tilecount", tq_i2 235 rfl⟩
theorem ln_0_21 : tq_lmP 0 21 mm_J9_abs_067f4 := tq_i2 239 rfl
theorem ln_0_27 : tq_lmP 0 27 mm_X0_addLimbs := tq_i3 2 rfl
theorem ln_11_394 : tq_lmP 11 394 mm_X11_sayAnswer := tq_i3 7 rfl
theorem ln_11_507 : tq_lnP 11 507 mm_X0_writeTo := ⟨"Tilecount", tq_i3 11 rfl⟩
theorem ln_0_44 : tq_lmP 0 44 mm_J9_max_7cf53 := tq_i3 15 rfl
theorem ln_13_159 : tq_lmP 13 159 mm_L_bySigns := tq_i3 19 rfl
theorem ln_13_43 : tq_lmP 13 43 mm_X11_bySigns := tq_i3 23 rfl
theorem ln_11_199 : tq_lnP 11 199 mm_X1_isPlain := ⟨"Tilecount", tq_i3 27 rfl⟩
theorem ln_1_80 : tq_lmP 1 80 mm_X1_countHoles := tq_i3 31 rfl
theorem ln_1_77 : tq_lmP 1 77 mm_X1_rectangleOf := tq_i3 37 rfl
theorem ln_1_71 : tq_lmP 1 71 mm_X1_countGroups := tq_i3 41 rfl
theorem ln_1_67 : tq_lmP 1 67 mm_X1_reach := tq_i3 45 rfl
theorem ln_1_63 : tq_lmP 1 63 mm_X1_beside := tq_i3 49 rfl
theorem ln_11_204 : tq_lnP 11 204 mm_X3_countCovers := ⟨"Tilecount", tq_i3 126 rfl⟩
theorem ln_3_38 : tq_lmP 3 38 mm_J13_bitCount_95d88 := tq_i3 132 rfl
theorem ln_3_44 : tq_lmP 3 44 mm_X3_prime := tq_i3 138 rfl
theorem ln_3_48 : tq_lmP 3 48 mm_X3_fillSigns := tq_i3 144 rfl
theorem ln_3_71 : tq_lmP 3 71 mm_J7_fill_d0a16 := tq_i3 148 rfl
theorem ln_3_84 : tq_lnP 3 84 mm_X1_bit := ⟨"Tilecount", tq_i3 149 rfl⟩
theorem ln_3_88 : tq_lmP 3 88 mm_X3_setSign := tq_i3 152 rfl
theorem ln_3_92 : tq_lnP 3 92 mm_X1_holds := ⟨"Tilecount", tq_i3 156 rfl⟩
theorem ln_3_52 : tq_lmP 3 52 mm_X3_eliminate := tq_i3 160 rfl
theorem ln_3_112 : tq_lmP 3 112 mm_X3_pivotOf := tq_i3 164 rfl
theorem ln_3_116 : tq_lmP 3 116 mm_X3_swapRows := tq_i3 168 rfl
theorem ln_3_68 : tq_lmP 3 68 mm_X3_inverse := tq_i3 172 rfl
theorem ln_3_24 : tq_lmP 3 24 mm_X3_power := tq_i3 176 rfl
theorem ln_3_120 : tq_lmP 3 120 mm_X3_clearBelow := tq_i3 179 rfl
theorem ln_3_62 : tq_lmP 3 62 mm_J9_floorMod_f86c9 := tq_i3 183 rfl
theorem ln_3_56 : tq_lmP 3 56 mm_X3_secondDigit := tq_i3 186 rfl
theorem ln_13_165 : tq_lmP 13 165 mm_L_draw := tq_i3 192 rfl
theorem ln_13_54 : tq_lmP 13 54 mm_X11_draw := tq_i3 196 rfl
theorem ln_11_228 : tq_lmP 11 228 mm_J9_floorMod_f86c9 := tq_i3 216 rfl
theorem ln_11_234 : tq_lmP 11 234 mm_X11_show := tq_i3 217 rfl
theorem ln_11_474 : tq_lnP 11 474 mm_X5_make := ⟨"Tilecount", tq_i3 221 rfl⟩
theorem ln_5_89 : tq_lmP 5 89 mm_X5_put := tq_i3 225 rfl
theorem ln_5_93 : tq_lnP 5 93 mm_X1_bit := ⟨"Tilecount", tq_i3 229 rfl⟩
theorem ln_11_272 : tq_lnP 11 272 mm_X2_take := ⟨"Tilecount", tq_i3 230 rfl⟩
theorem ln_2_42 : tq_lmP 2 42 mm_X2_dropOldest := tq_i3 234 rfl
theorem ln_11_123 : tq_lnP 11 123 mm_X1_size := ⟨"Tilecount", tq_i3 238 rfl⟩
theorem ln_1_41 : tq_lmP 1 41 mm_J13_bitCount_95d88 := tq_i4 2 rfl
theorem ln_13_168 : tq_lmP 13 168 mm_L_number := tq_i4 3 rfl
theorem ln_13_67 : tq_lmP 13 67 mm_X11_number := tq_i4 6 rfl
theorem ln_11_249 : tq_lnP 11 249 mm_X5_rank := ⟨"Tilecount", tq_i4 11 rfl⟩
theorem ln_5_96 : tq_lmP 5 96 mm_X5_wayTaken := tq_i4 15 rfl
theorem ln_13_182 : tq_lmP 13 182 mm_L_flips := tq_i4 20 rfl
theorem ln_13_70 : tq_lmP 13 70 mm_X11_flips := tq_i4 23 rfl
theorem ln_11_256 : tq_lnP 11 256 mm_X2_countFlips := ⟨"Tilecount", tq_i4 27 rfl⟩
theorem ln_2_80 : tq_lmP 2 80 mm_X2_canFlip := tq_i4 31 rfl
theorem ln_2_70 : tq_lnP 2 70 mm_X1_rightOf := ⟨"Tilecount", tq_i4 35 rfl⟩
theorem ln_2_74 : tq_lmP 2 74 mm_X2_acrossPair := tq_i4 39 rfl
theorem ln_2_51 : tq_lnP 2 51 mm_X1_bit := ⟨"Tilecount", tq_i4 43 rfl⟩
theorem ln_2_77 : tq_lmP 2 77 mm_X2_downPair := tq_i4 44 rfl
theorem ln_13_188 : tq_lmP 13 188 mm_L_free := tq_i4 48 rfl
theorem ln_13_92 : tq_lmP 13 92 mm_X11_free := tq_i4 51 rfl
theorem ln_11_320 : tq_lnP 11 320 mm_X9_refresh := ⟨"Tilecount", tq_i4 55 rfl⟩
theorem ln_9_40 : tq_lmP 9 40 mm_X9_pair := tq_i4 59 rfl
theorem ln_9_46 : tq_lmP 9 46 mm_J7_fill_53178 := tq_i4 63 rfl
theorem ln_9_61 : tq_lmP 9 61 mm_X9_lowest := tq_i4 67 rfl
theorem ln_9_31 : tq_lmP 9 31 mm_J13_bitCount_95d88 := tq_i4 71 rfl
theorem ln_9_64 : tq_lmP 9 64 mm_X9_findFree := tq_i4 72 rfl
theorem ln_9_72 : tq_lnP 9 72 mm_X1_beside := ⟨"Tilecount", tq_i4 76 rfl⟩
theorem ln_9_68 : tq_lmP 9 68 mm_X9_turnPath := tq_i4 77 rfl
theorem ln_9_43 : tq_lmP 9 43 mm_X9_spreadFree := tq_i4 81 rfl
theorem ln_11_180 : tq_lmP 11 180 mm_J13_bitCount_95d88 := tq_i4 85 rfl
theorem ln_13_229 : tq_lmP 13 229 mm_L_isSound := tq_i4 86 rfl
theorem ln_13_114 : tq_lmP 13 114 mm_X11_isSound := tq_i4 89 rfl
theorem ln_11_450 : tq_lmP 11 450 mm_X11_countsAgree := tq_i4 93 rfl
theorem ln_11_453 : tq_lmP 11 453 mm_X11_numberIsSound := tq_i4 97 rfl
theorem ln_11_456 : tq_lmP 11 456 mm_X11_flipsAreSound := tq_i4 101 rfl
theorem ln_11_304 : tq_lnP 11 304 mm_X7_fillKept := ⟨"Tilecount", tq_i4 105 rfl⟩
theorem ln_7_36 : tq_lmP 7 36 mm_X7_fillRow := tq_i4 109 rfl
theorem ln_7_53 : tq_lmP 7 53 mm_J7_fill_53178 := tq_i4 113 rfl
theorem ln_7_59 : tq_lmP 7 59 mm_X7_isCorner := tq_i4 114 rfl
theorem ln_7_32 : tq_lnP 7 32 mm_X1_holds := ⟨"Tilecount", tq_i4 118 rfl⟩
theorem ln_7_62 : tq_lmP 7 62 mm_X7_spread := tq_i4 119 rfl
theorem ln_7_66 : tq_lmP 7 66 mm_X7_riseRight := tq_i4 123 rfl
theorem ln_7_77 : tq_lnP 7 77 mm_X1_bit := ⟨"Tilecount", tq_i4 127 rfl⟩
theorem ln_7_81 : tq_lmP 7 81 mm_X7_rise := tq_i4 128 rfl
theorem ln_7_70 : tq_lmP 7 70 mm_X7_reach := tq_i4 132 rfl
theorem ln_7_74 : tq_lmP 7 74 mm_X7_riseDown := tq_i4 136 rfl
theorem ln_11_259 : tq_lnP 11 259 mm_X2_squareOf := ⟨"Tilecount", tq_i4 140 rfl⟩
theorem ln_11_265 : tq_lnP 11 265 mm_X2_rightFlipped := ⟨"Tilecount", tq_i4 144 rfl⟩
theorem ln_11_269 : tq_lnP 11 269 mm_X2_downFlipped := ⟨"Tilecount", tq_i4 148 rfl⟩
theorem ln_11_307 : tq_lnP 11 307 mm_X7_flipsFromKept := ⟨"Tilecount", tq_i4 152 rfl⟩
theorem ln_7_40 : tq_lmP 7 40 mm_J9_abs_0f7a4 := tq_i4 156 rfl
theorem ln_11_459 : tq_lmP 11 459 mm_X11_piecesAreSound := tq_i4 159 rfl
theorem ln_11_214 : tq_lnP 11 214 mm_X5_fillHaving := ⟨"Tilecount", tq_i4 163 rfl⟩
theorem ln_5_102 : tq_lmP 5 102 mm_X5_total := tq_i4 167 rfl
theorem ln_5_106 : tq_lmP 5 106 mm_X5_goOn := tq_i4 168 rfl
theorem ln_11_137 : tq_lnP 11 137 mm_X1_holds := ⟨"Tilecount", tq_i4 172 rfl⟩
theorem ln_11_489 : tq_lnP 11 489 mm_X5_withCell := ⟨"Tilecount", tq_i4 173 rfl⟩
theorem ln_11_462 : tq_lmP 11 462 mm_X11_rolesAreSound := tq_i4 177 rfl
theorem ln_11_465 : tq_lmP 11 465 mm_X11_exactIsSound := tq_i4 181 rfl
theorem ln_11_372 : tq_lnP 11 372 mm_X4_refresh := ⟨"Tilecount", tq_i4 185 rfl⟩
theorem ln_4_63 : tq_lmP 4 63 mm_X4_numberCells := tq_i4 189 rfl
theorem ln_4_116 : tq_lmP 4 116 mm_J7_fill_53178 := tq_i4 193 rfl
theorem ln_4_66 : tq_lmP 4 66 mm_X4_findGroup := tq_i4 194 rfl
theorem ln_4_122 : tq_lmP 4 122 mm_X4_fillMoved := tq_i4 198 rfl
theorem ln_4_136 : tq_lnP 4 136 mm_X1_holds := ⟨"Tilecount", tq_i4 202 rfl⟩
theorem ln_4_69 : tq_lmP 4 69 mm_X4_collect := tq_i4 203 rfl
theorem ln_4_146 : tq_lmP 4 146 mm_X4_collectKind := tq_i4 207 rfl
theorem ln_4_181 : tq_lmP 4 181 mm_X4_motionsOf := tq_i4 211 rfl
theorem ln_4_193 : tq_lnP 4 193 mm_X8_moved := ⟨"Tilecount", tq_i4 215 rfl⟩
theorem ln_4_196 : tq_lnP 4 196 mm_X8_isShapeOf := ⟨"Tilecount", tq_i4 220 rfl⟩
theorem ln_4_185 : tq_lmP 4 185 mm_X4_coveredBy := tq_i4 224 rfl
theorem ln_4_200 : tq_lmP 4 200 mm_J9_floorMod_7cf53 := tq_i4 228 rfl
theorem ln_4_189 : tq_lmP 4 189 mm_X4_insert := tq_i4 231 rfl
theorem ln_4_203 : tq_lmP 4 203 mm_X4_isAhead := tq_i4 236 rfl
theorem ln_4_72 : tq_lmP 4 72 mm_J7_fill_d0a16 := tq_i4 239 rfl
theorem ln_4_90 : tq_lmP 4 90 mm_J9_min_7cf53 := tq_i5 1 rfl
theorem ln_4_96 : tq_lmP 4 96 mm_X4_beginning := tq_i5 4 rfl
theorem ln_4_153 : tq_lmP 4 153 mm_X4_bounded := tq_i5 8 rfl
theorem ln_4_159 : tq_lmP 4 159 mm_J13_bitCount_95d88 := tq_i5 12 rfl
theorem ln_4_170 : tq_lmP 4 170 mm_J9_max_7cf53 := tq_i5 14 rfl
theorem ln_4_173 : tq_lmP 4 173 mm_J9_max_f86c9 := tq_i5 15 rfl
theorem ln_4_100 : tq_lmP 4 100 mm_X4_with := tq_i5 18 rfl
theorem ln_4_221 : tq_lmP 4 221 mm_X4_imageOf := tq_i5 23 rfl
theorem ln_4_104 : tq_lmP 4 104 mm_X4_search := tq_i5 27 rfl
theorem ln_4_207 : tq_lmP 4 207 mm_X4_firstOpen := tq_i5 31 rfl
theorem ln_4_210 : tq_lmP 4 210 mm_X4_weigh := tq_i5 34 rfl
theorem ln_4_215 : tq_lmP 4 215 mm_X4_sumOver := tq_i5 38 rfl
theorem ln_11_382 : tq_lnP 11 382 mm_X4_choose := ⟨"Tilecount", tq_i5 43 rfl⟩
theorem ln_11_494 : tq_lnP 11 494 mm_X4_chosenNumber := ⟨"Tilecount", tq_i5 47 rfl⟩
theorem ln_11_468 : tq_lmP 11 468 mm_X11_stripsAreSound := tq_i5 51 rfl
theorem ln_11_390 : tq_lnP 11 390 mm_X6_byRule := ⟨"Tilecount", tq_i5 55 rfl⟩
theorem ln_6_26 : tq_lmP 6 26 mm_X6_orderOf := tq_i5 59 rfl
theorem ln_6_30 : tq_lmP 6 30 mm_X6_byFront := tq_i5 64 rfl
theorem ln_6_63 : tq_lmP 6 63 mm_J7_fill_d0a16 := tq_i5 68 rfl
theorem ln_6_69 : tq_lmP 6 69 mm_X6_passCell := tq_i5 69 rfl
theorem ln_6_34 : tq_lmP 6 34 mm_X6_putTerm := tq_i5 74 rfl
theorem ln_6_38 : tq_lmP 6 38 mm_X6_addTerms := tq_i5 79 rfl
theorem ln_6_50 : tq_lmP 6 50 mm_X6_factor := tq_i5 83 rfl
theorem ln_6_54 : tq_lmP 6 54 mm_J9_floorMod_f86c9 := tq_i5 88 rfl
theorem ln_6_60 : tq_lmP 6 60 mm_J9_floorDiv_f86c9 := tq_i5 89 rfl
theorem ln_6_42 : tq_lnP 6 42 mm_X0_putLimbs := ⟨"Tilecount", tq_i5 92 rfl⟩
theorem ln_11_497 : tq_lnP 11 497 mm_X6_byFront := ⟨"Tilecount", tq_i5 96 rfl⟩
theorem ln_11_503 : tq_lnP 11 503 mm_X0_isLike := ⟨"Tilecount", tq_i5 97 rfl⟩
theorem ln_11_471 : tq_lmP 11 471 mm_X11_hexagonsAreSound := tq_i5 101 rfl
theorem ln_11_412 : tq_lnP 11 412 mm_X3_countHexagon := ⟨"Tilecount", tq_i5 105 rfl⟩
theorem ln_3_96 : tq_lmP 3 96 mm_X3_choose := tq_i5 109 rfl
theorem ln_3_99 : tq_lmP 3 99 mm_X3_thirdDigit := tq_i5 112 rfl
theorem ln_3_102 : tq_lnP 3 102 mm_X0_put := ⟨"Tilecount", tq_i5 116 rfl⟩
theorem ln_3_108 : tq_lnP 3 108 mm_X0_timesPlus := ⟨"Tilecount", tq_i5 117 rfl⟩
theorem ln_11_416 : tq_lnP 11 416 mm_X0_putHeaps := ⟨"Tilecount", tq_i5 121 rfl⟩
theorem ln_0_33 : tq_lmP 0 33 mm_X0_put := tq_i5 125 rfl
theorem ln_0_36 : tq_lmP 0 36 mm_X0_timesPlus := tq_i5 126 rfl
theorem ln_0_40 : tq_lmP 0 40 mm_X0_divideBy := tq_i5 127 rfl
theorem ln_13_202 : tq_lmP 13 202 mm_L_fold := tq_i5 131 rfl
theorem ln_13_151 : tq_lmP 13 151 mm_L_told := tq_i5 135 rfl
theorem ln_13_120 : tq_lmP 13 120 mm_L_signAt := tq_i5 138 rfl
theorem ln_13_50 : tq_lmP 13 50 mm_X11_signAt := tq_i5 165 rfl
theorem ln_13_206 : tq_lmP 13 206 mm_L_drawn := tq_i5 184 rfl
theorem ln_13_129 : tq_lmP 13 129 mm_L_draw_ := tq_i5 187 rfl
theorem ln_13_132 : tq_lmP 13 132 mm_L_form := tq_i5 192 rfl
theorem ln_13_16 : tq_lmP 13 16 mm_X11_form := tq_i5 196 rfl
theorem ln_11_127 : tq_lnP 11 127 mm_X1_isForm := ⟨"Tilecount", tq_i5 200 rfl⟩
theorem ln_1_27 : tq_lnP 1 27 mm_X11_isFrom := ⟨"Tilecount", tq_i5 203 rfl⟩
theorem ln_11_133 : tq_lnP 11 133 mm_X1_formCells := ⟨"Tilecount", tq_i5 222 rfl⟩
theorem ln_1_33 : tq_lmP 1 33 mm_X1_isInForm := tq_i5 225 rfl
theorem ln_1_37 : tq_lmP 1 37 mm_X1_bit := tq_i5 228 rfl
theorem ln_11_116 : tq_lnP 11 116 mm_X1_tell := ⟨"Tilecount", tq_i5 229 rfl⟩
theorem ln_11_120 : tq_lnP 11 120 mm_X2_forget := ⟨"Tilecount", tq_i5 233 rfl⟩
theorem ln_13_135 : tq_lmP 13 135 mm_L_board := tq_i5 237 rfl
theorem ln_13_7 : tq_lmP 13 7 mm_X11_board := tq_i6 0 rfl
theorem ln_11_101 : tq_lmP 11 101 mm_X11_isFrom := tq_i6 4 rfl
theorem ln_11_112 : tq_lnP 11 112 mm_X1_rectangleOf := ⟨"Tilecount", tq_i6 6 rfl⟩
theorem ln_13_138 : tq_lmP 13 138 mm_L_cells := tq_i6 7 rfl
theorem ln_13_31 : tq_lmP 13 31 mm_X11_cells := tq_i6 10 rfl
theorem ln_13_141 : tq_lmP 13 141 mm_L_cut := tq_i6 16 rfl
theorem ln_13_20 : tq_lmP 13 20 mm_X11_cut := tq_i6 19 rfl
theorem ln_11_146 : tq_lnP 11 146 mm_X1_change := ⟨"Tilecount", tq_i6 24 rfl⟩
theorem ln_13_143 : tq_lmP 13 143 mm_L_has := tq_i6 28 rfl
theorem ln_13_35 : tq_lmP 13 35 mm_X11_has := tq_i6 31 rfl
theorem ln_13_145 : tq_lmP 13 145 mm_L_roll := tq_i6 35 rfl
theorem ln_13_25 : tq_lmP 13 25 mm_X11_roll := tq_i6 38 rfl
theorem ln_11_155 : tq_lnP 11 155 mm_X1_canBeRolled := ⟨"Tilecount", tq_i6 42 rfl⟩
theorem ln_11_168 : tq_lnP 11 168 mm_X1_turnRound := ⟨"Tilecount", tq_i6 47 rfl⟩
theorem ln_13_214 : tq_lmP 13 214 mm_L_counts := tq_i6 51 rfl
theorem ln_13_148 : tq_lmP 13 148 mm_L_having := tq_i6 54 rfl
theorem ln_13_46 : tq_lmP 13 46 mm_X11_having := tq_i6 57 rfl
theorem ln_11_208 : tq_lnP 11 208 mm_X1_isPiece := ⟨"Tilecount", tq_i6 61 rfl⟩
theorem ln_1_47 : tq_lmP 1 47 mm_X1_holds := tq_i6 65 rfl
theorem ln_1_51 : tq_lmP 1 51 mm_X1_rightOf := tq_i6 66 rfl
theorem ln_11_217 : tq_lnP 11 217 mm_X5_withPiece := ⟨"Tilecount", tq_i6 68 rfl⟩
theorem ln_13_155 : tq_lmP 13 155 mm_L_leftOf := tq_i6 72 rfl
theorem ln_13_222 : tq_lmP 13 222 mm_L_numbered := tq_i6 75 rfl
theorem ln_13_170 : tq_lmP 13 170 mm_L_next := tq_i6 80 rfl
theorem ln_13_60 : tq_lmP 13 60 mm_X11_next := tq_i6 83 rfl
theorem ln_13_172 : tq_lmP 13 172 mm_L_previous := tq_i6 87 rfl
theorem ln_13_64 : tq_lmP 13 64 mm_X11_previous := tq_i6 90 rfl
theorem ln_13_174 : tq_lmP 13 174 mm_L_undo := tq_i6 94 rfl
theorem ln_13_78 : tq_lmP 13 78 mm_X11_undo := tq_i6 98 rfl
theorem ln_11_284 : tq_lnP 11 284 mm_X2_takeBack := ⟨"Tilecount", tq_i6 118 rfl⟩
theorem ln_13_176 : tq_lmP 13 176 mm_L_keep := tq_i6 122 rfl
theorem ln_13_83 : tq_lmP 13 83 mm_X11_keep := tq_i6 125 rfl
theorem ln_11_287 : tq_lnP 11 287 mm_X2_store := ⟨"Tilecount", tq_i6 129 rfl⟩
theorem ln_11_290 : tq_lnP 11 290 mm_X2_countCuts := ⟨"Tilecount", tq_i6 133 rfl⟩
theorem ln_13_178 : tq_lmP 13 178 mm_L_cuts := tq_i6 139 rfl
theorem ln_13_89 : tq_lmP 13 89 mm_X11_cuts := tq_i6 142 rfl
theorem ln_13_180 : tq_lmP 13 180 mm_L_apart := tq_i6 146 rfl
theorem ln_13_86 : tq_lmP 13 86 mm_X11_apart := tq_i6 149 rfl
theorem ln_13_184 : tq_lmP 13 184 mm_L_flip := tq_i6 155 rfl
theorem ln_13_73 : tq_lmP 13 73 mm_X11_flip := tq_i6 158 rfl
theorem ln_13_218 : tq_lmP 13 218 mm_L_freed := tq_i6 163 rfl
theorem ln_13_186 : tq_lmP 13 186 mm_L_roles := tq_i6 166 rfl
theorem ln_13_95 : tq_lmP 13 95 mm_X11_roles := tq_i6 169 rfl
theorem ln_13_226 : tq_lmP 13 226 mm_L_strips := tq_i6 174 rfl
theorem ln_13_190 : tq_lmP 13 190 mm_L_order := tq_i6 177 rfl
theorem ln_13_101 : tq_lmP 13 101 mm_X11_order := tq_i6 180 rfl
theorem ln_11_399 : tq_lnP 11 399 mm_X6_orderOf := ⟨"Tilecount", tq_i6 185 rfl⟩
theorem ln_13_192 : tq_lmP 13 192 mm_L_rule := tq_i6 186 rfl
theorem ln_13_104 : tq_lmP 13 104 mm_X11_rule := tq_i6 189 rfl
theorem ln_11_404 : tq_lnP 11 404 mm_X6_factor := ⟨"Tilecount", tq_i6 194 rfl⟩
theorem ln_13_194 : tq_lmP 13 194 mm_L_strip := tq_i6 195 rfl
theorem ln_13_98 : tq_lmP 13 98 mm_X11_strip := tq_i6 198 rfl
theorem ln_13_196 : tq_lmP 13 196 mm_L_hexagon := tq_i6 203 rfl
theorem ln_13_107 : tq_lmP 13 107 mm_X11_hexagon := tq_i6 206 rfl
theorem ln_11_407 : tq_lmP 11 407 mm_X11_areSides := tq_i6 210 rfl
theorem ln_13_199 : tq_lmP 13 199 mm_L_heaps := tq_i6 214 rfl
theorem ln_13_111 : tq_lmP 13 111 mm_X11_heaps := tq_i6 217 rfl
def tq_strs : List (String × Nat × String) := [("Tilecount", 202, "the board is rolled or has a hole"), ("Tilecount", 225, "the board has no cover"), ("Tilecount", 241, "there is no cover"), ("Tilecount", 221, "the text has no such place"), ("Tilecount", 131, "there is no such form"), ("Tilecount", 107, "a board is 1 to 8 wide and 1 to 8 high"), ("Tilecount", 172, "cells are told by 'a' or 'd'"), ("Tilecount", 143, "the board has no such cell"), ("Tilecount", 161, "only an even width of 4 at least can be rolled"), ("Tilecount", 212, "there is no such piece"), ("Tilecount", 281, "nothing can be undone"), ("Tilecount", 296, "there are no two covers"), ("Tilecount", 263, "there is no such flip"), ("Tilecount", 335, "there is no such role"), ("Tilecount", 397, "a strip is 1 to 6 wide"), ("Tilecount", 402, "the rule has no such number"), ("Tilecount", 388, "a strip is 1 to 6 wide and 0 to 300 long"), ("Tilecount", 410, "a side is 1 to 8")]
def tq_ncs : List (String × String) := [("java/lang/IllegalArgumentException", "java/lang/UnsupportedOperationException"), ("java/lang/IndexOutOfBoundsException", "java/lang/UnsupportedOperationException"), ("java/util/NoSuchElementException", "java/lang/UnsupportedOperationException"), ("java/lang/IllegalStateException", "java/lang/UnsupportedOperationException"), ("java/lang/IllegalArgumentException", "java/util/NoSuchElementException"), ("java/lang/IndexOutOfBoundsException", "java/util/NoSuchElementException"), ("java/lang/UnsupportedOperationException", "java/util/NoSuchElementException"), ("java/lang/IllegalStateException", "java/util/NoSuchElementException"), ("java/lang/IllegalArgumentException", "java/lang/IndexOutOfBoundsException"), ("java/lang/UnsupportedOperationException", "java/lang/IndexOutOfBoundsException"), ("java/util/NoSuchElementException", "java/lang/IndexOutOfBoundsException"), ("java/lang/IllegalStateException", "java/lang/IndexOutOfBoundsException"), ("java/lang/IndexOutOfBoundsException", "java/lang/IllegalArgumentException"), ("java/lang/UnsupportedOperationException", "java/lang/IllegalArgumentException"), ("java/util/NoSuchElementException", "java/lang/IllegalArgumentException"), ("java/lang/IllegalStateException", "java/lang/IllegalArgumentException"), ("java/lang/IllegalArgumentException", "java/lang/IllegalStateException"), ("java/lang/IndexOutOfBoundsException", "java/lang/IllegalStateException"), ("java/lang/UnsupportedOperationException", "java/lang/IllegalStateException"), ("java/util/NoSuchElementException", "java/lang/IllegalStateException")]
def tq_exn : List String := ["java/lang/ArithmeticException", "java/lang/IllegalArgumentException", "java/lang/IllegalStateException", "java/lang/IndexOutOfBoundsException", "java/lang/UnsupportedOperationException", "java/util/NoSuchElementException"]
def tq_sts : List (String × String × Nat) := [("Tilecount$Growth", "ENDS", 900), ("Tilecount$Growth", "FACTORS", 901)]
def tq_ends : List Int32 := [0, 2, 4, 8, 12, 20, 28]
def tq_facs : List Int32 := [0, 1, 1, 1, 0, 4, 0, (-1), 1, 5, 1, (-1), 0, 15, 0, (-32), 0, 15, 0, (-1), 1, 20, 10, (-38), (-10), 20, (-1), (-1)]
def tq_ls : List (Nat × Nat × String × String × Nat) := [(6, 20, "Tilecount$Growth", "ENDS", 900), (6, 23, "Tilecount$Growth", "FACTORS", 901)]
theorem tq_ls_ok : ∀ q ∈ tq_ls, Cond.fieldLink (tq_cn q.1) q.2.1 q.2.2.1 q.2.2.2.1 "[I" ∈ lw_tbl ∧ (q.2.2.1, q.2.2.2.1, q.2.2.2.2) ∈ tq_sts := List.forall_mem_cons.mpr ⟨⟨tq_i5 62 rfl, by decide⟩, List.forall_mem_cons.mpr ⟨⟨tq_i5 86 rfl, by decide⟩, fun _ h => nomatch h⟩⟩
