/-! ===== the law's own frame: room left over, the switch ===== -/
abbrev mm_law : tq_MD := (x, code, 8, ret, [], 13)
theorem tq_Tx {K : Nat × (Nat → Int32)} {d x : Nat} {M : tq_MD} {pc : Nat} {L st : List Value} {z : tq_S} {Q : tq_O → tq_S → Prop} (h : tq_T K d x M pc L st z Q) : tq_T K d (x + 1) M pc L st z Q :=
  fun p l e R s m args below meth c ρ D dA A mc ms F H locs cells slots ls ⟨v1, v2, v3, v4, v5, v6⟩ => h p l e R s m args below meth c ρ D dA A mc ms F H locs cells slots ls ⟨v1, v2, v3, v4, by omega, by omega⟩
theorem kb_7 : (Int8.ofInt (7)).toInt32 = (7 : Int32) := by decide +kernel
theorem ks_1009 : (Int16.ofInt (1009)).toInt32 = (1009 : Int32) := by decide +kernel
theorem ks_12345 : (Int16.ofInt (12345)).toInt32 = (12345 : Int32) := by decide +kernel
theorem kb_13 : (Int8.ofInt (13)).toInt32 = (13 : Int32) := by decide +kernel
theorem np_L_fold : (parseMethodDescriptor mm_L_fold.1.desc).map (fun d => d.parameters.length) = some 1 := by decide +kernel
theorem sh_51 : tq_sh[51]? = some (.inl (0, 1)) := rfl
theorem vi_0_1 : vp_in (0 : Int32) 1 := by unfold vp_in; decide +kernel
theorem np_L_draw_ : (parseMethodDescriptor mm_L_draw_.1.desc).map (fun d => d.parameters.length) = some 2 := by decide +kernel
theorem np_X11_board : (parseMethodDescriptor mm_X11_board.1.desc).map (fun d => d.parameters.length) = some 2 := by decide +kernel
theorem hx_L_board_0 : tq_hdP mm_L_board 3 "java/lang/IllegalArgumentException" 7 := ⟨[], ⟨0, 6, 7, 13⟩, [], "java/lang/IllegalArgumentException", rfl, (fun _ h => nomatch h), by decide +kernel, by decide, tq_i5 195 rfl, tq_i5 208 rfl, rfl⟩
theorem np_L_board : (parseMethodDescriptor mm_L_board.1.desc).map (fun d => d.parameters.length) = some 3 := by decide +kernel
theorem np_X11_form : (parseMethodDescriptor mm_X11_form.1.desc).map (fun d => d.parameters.length) = some 2 := by decide +kernel
theorem hx_L_form_0 : tq_hdP mm_L_form 3 "java/lang/IllegalArgumentException" 7 := ⟨[], ⟨0, 6, 7, 13⟩, [], "java/lang/IllegalArgumentException", rfl, (fun _ h => nomatch h), by decide +kernel, by decide, tq_i5 195 rfl, tq_i5 208 rfl, rfl⟩
theorem np_L_form : (parseMethodDescriptor mm_L_form.1.desc).map (fun d => d.parameters.length) = some 3 := by decide +kernel
theorem np_X11_cells : (parseMethodDescriptor mm_X11_cells.1.desc).map (fun d => d.parameters.length) = some 1 := by decide +kernel
theorem hx_L_cells_0 : tq_hdP mm_L_cells 2 "java/lang/IllegalArgumentException" 6 := ⟨[], ⟨0, 5, 6, 13⟩, [], "java/lang/IllegalArgumentException", rfl, (fun _ h => nomatch h), by decide +kernel, by decide, tq_i5 195 rfl, tq_i5 208 rfl, rfl⟩
theorem np_L_cells : (parseMethodDescriptor mm_L_cells.1.desc).map (fun d => d.parameters.length) = some 2 := by decide +kernel
theorem np_X11_cut : (parseMethodDescriptor mm_X11_cut.1.desc).map (fun d => d.parameters.length) = some 2 := by decide +kernel
theorem hx_L_cut_0 : tq_hdP mm_L_cut 3 "java/lang/IndexOutOfBoundsException" 7 := ⟨[], ⟨0, 6, 7, 23⟩, [], "java/lang/IndexOutOfBoundsException", rfl, (fun _ h => nomatch h), by decide +kernel, by decide, tq_i5 141 rfl, tq_i5 171 rfl, rfl⟩
theorem np_L_cut : (parseMethodDescriptor mm_L_cut.1.desc).map (fun d => d.parameters.length) = some 3 := by decide +kernel
theorem np_X11_has : (parseMethodDescriptor mm_X11_has.1.desc).map (fun d => d.parameters.length) = some 2 := by decide +kernel
theorem np_L_has : (parseMethodDescriptor mm_L_has.1.desc).map (fun d => d.parameters.length) = some 3 := by decide +kernel
theorem np_X11_roll : (parseMethodDescriptor mm_X11_roll.1.desc).map (fun d => d.parameters.length) = some 1 := by decide +kernel
theorem hx_L_roll_0 : tq_hdP mm_L_roll 2 "java/lang/UnsupportedOperationException" 14 := ⟨[], ⟨0, 13, 14, 29⟩, [], "java/lang/UnsupportedOperationException", rfl, (fun _ h => nomatch h), by decide +kernel, by decide, tq_i3 22 rfl, tq_i3 57 rfl, rfl⟩
theorem np_L_roll : (parseMethodDescriptor mm_L_roll.1.desc).map (fun d => d.parameters.length) = some 2 := by decide +kernel
theorem np_L_drawn : (parseMethodDescriptor mm_L_drawn.1.desc).map (fun d => d.parameters.length) = some 2 := by decide +kernel
theorem np_X11_covers : (parseMethodDescriptor mm_X11_covers.1.desc).map (fun d => d.parameters.length) = some 0 := by decide +kernel
theorem np_L_covers : (parseMethodDescriptor mm_L_covers.1.desc).map (fun d => d.parameters.length) = some 1 := by decide +kernel
theorem np_X11_signAt : (parseMethodDescriptor mm_X11_signAt.1.desc).map (fun d => d.parameters.length) = some 1 := by decide +kernel
theorem hx_L_signAt_0 : tq_hdP mm_L_signAt 2 "java/lang/IndexOutOfBoundsException" 6 := ⟨[], ⟨0, 5, 6, 23⟩, [], "java/lang/IndexOutOfBoundsException", rfl, (fun _ h => nomatch h), by decide +kernel, by decide, tq_i5 141 rfl, tq_i5 171 rfl, rfl⟩
theorem np_L_signAt : (parseMethodDescriptor mm_L_signAt.1.desc).map (fun d => d.parameters.length) = some 2 := by decide +kernel
theorem np_L_told : (parseMethodDescriptor mm_L_told.1.desc).map (fun d => d.parameters.length) = some 2 := by decide +kernel
theorem np_X11_bySigns : (parseMethodDescriptor mm_X11_bySigns.1.desc).map (fun d => d.parameters.length) = some 0 := by decide +kernel
theorem hx_L_bySigns_0 : tq_hdP mm_L_bySigns 1 "java/lang/UnsupportedOperationException" 5 := ⟨[], ⟨0, 4, 5, 29⟩, [], "java/lang/UnsupportedOperationException", rfl, (fun _ h => nomatch h), by decide +kernel, by decide, tq_i3 22 rfl, tq_i3 57 rfl, rfl⟩
theorem np_L_bySigns : (parseMethodDescriptor mm_L_bySigns.1.desc).map (fun d => d.parameters.length) = some 1 := by decide +kernel
theorem np_X11_having : (parseMethodDescriptor mm_X11_having.1.desc).map (fun d => d.parameters.length) = some 3 := by decide +kernel
theorem hx_L_having_0 : tq_hdP mm_L_having 4 "java/lang/IndexOutOfBoundsException" 8 := ⟨[], ⟨0, 7, 8, 23⟩, [], "java/lang/IndexOutOfBoundsException", rfl, (fun _ h => nomatch h), by decide +kernel, by decide, tq_i5 141 rfl, tq_i5 171 rfl, rfl⟩
theorem np_L_having : (parseMethodDescriptor mm_L_having.1.desc).map (fun d => d.parameters.length) = some 4 := by decide +kernel
theorem np_L_leftOf : (parseMethodDescriptor mm_L_leftOf.1.desc).map (fun d => d.parameters.length) = some 3 := by decide +kernel
theorem np_L_counts : (parseMethodDescriptor mm_L_counts.1.desc).map (fun d => d.parameters.length) = some 2 := by decide +kernel
theorem np_X11_roles : (parseMethodDescriptor mm_X11_roles.1.desc).map (fun d => d.parameters.length) = some 1 := by decide +kernel
theorem hx_L_roles_0 : tq_hdP mm_L_roles 2 "java/lang/IllegalArgumentException" 6 := ⟨[], ⟨0, 5, 6, 13⟩, [], "java/lang/IllegalArgumentException", rfl, (fun _ h => nomatch h), by decide +kernel, by decide, tq_i5 195 rfl, tq_i5 208 rfl, rfl⟩
theorem np_L_roles : (parseMethodDescriptor mm_L_roles.1.desc).map (fun d => d.parameters.length) = some 2 := by decide +kernel
theorem np_X11_free : (parseMethodDescriptor mm_X11_free.1.desc).map (fun d => d.parameters.length) = some 0 := by decide +kernel
theorem np_L_free : (parseMethodDescriptor mm_L_free.1.desc).map (fun d => d.parameters.length) = some 1 := by decide +kernel
theorem kb_120 : (Int8.ofInt (120)).toInt32 = (120 : Int32) := by decide +kernel
theorem np_L_freed : (parseMethodDescriptor mm_L_freed.1.desc).map (fun d => d.parameters.length) = some 1 := by decide +kernel
theorem np_X11_draw : (parseMethodDescriptor mm_X11_draw.1.desc).map (fun d => d.parameters.length) = some 1 := by decide +kernel
theorem hx_L_draw_0 : tq_hdP mm_L_draw 2 "java/util/NoSuchElementException" 6 := ⟨[], ⟨0, 5, 6, 58⟩, [], "java/util/NoSuchElementException", rfl, (fun _ h => nomatch h), by decide +kernel, by decide, tq_i3 195 rfl, tq_i3 202 rfl, rfl⟩
theorem np_L_draw : (parseMethodDescriptor mm_L_draw.1.desc).map (fun d => d.parameters.length) = some 2 := by decide +kernel
theorem np_X11_number : (parseMethodDescriptor mm_X11_number.1.desc).map (fun d => d.parameters.length) = some 0 := by decide +kernel
theorem hx_L_number_0 : tq_hdP mm_L_number 1 "java/util/NoSuchElementException" 5 := ⟨[], ⟨0, 4, 5, 58⟩, [], "java/util/NoSuchElementException", rfl, (fun _ h => nomatch h), by decide +kernel, by decide, tq_i3 195 rfl, tq_i3 202 rfl, rfl⟩
theorem np_L_number : (parseMethodDescriptor mm_L_number.1.desc).map (fun d => d.parameters.length) = some 1 := by decide +kernel
theorem np_X11_flips : (parseMethodDescriptor mm_X11_flips.1.desc).map (fun d => d.parameters.length) = some 0 := by decide +kernel
theorem hx_L_flips_0 : tq_hdP mm_L_flips 1 "java/util/NoSuchElementException" 5 := ⟨[], ⟨0, 4, 5, 58⟩, [], "java/util/NoSuchElementException", rfl, (fun _ h => nomatch h), by decide +kernel, by decide, tq_i3 195 rfl, tq_i3 202 rfl, rfl⟩
theorem np_L_flips : (parseMethodDescriptor mm_L_flips.1.desc).map (fun d => d.parameters.length) = some 1 := by decide +kernel
theorem np_X11_next : (parseMethodDescriptor mm_X11_next.1.desc).map (fun d => d.parameters.length) = some 0 := by decide +kernel
theorem hx_L_next_0 : tq_hdP mm_L_next 1 "java/util/NoSuchElementException" 13 := ⟨[], ⟨0, 12, 13, 58⟩, [], "java/util/NoSuchElementException", rfl, (fun _ h => nomatch h), by decide +kernel, by decide, tq_i3 195 rfl, tq_i3 202 rfl, rfl⟩
theorem np_L_next : (parseMethodDescriptor mm_L_next.1.desc).map (fun d => d.parameters.length) = some 1 := by decide +kernel
theorem np_X11_previous : (parseMethodDescriptor mm_X11_previous.1.desc).map (fun d => d.parameters.length) = some 0 := by decide +kernel
theorem hx_L_previous_0 : tq_hdP mm_L_previous 1 "java/util/NoSuchElementException" 13 := ⟨[], ⟨0, 12, 13, 58⟩, [], "java/util/NoSuchElementException", rfl, (fun _ h => nomatch h), by decide +kernel, by decide, tq_i3 195 rfl, tq_i3 202 rfl, rfl⟩
theorem np_L_previous : (parseMethodDescriptor mm_L_previous.1.desc).map (fun d => d.parameters.length) = some 1 := by decide +kernel
theorem np_X11_undo : (parseMethodDescriptor mm_X11_undo.1.desc).map (fun d => d.parameters.length) = some 0 := by decide +kernel
theorem hx_L_undo_0 : tq_hdP mm_L_undo 1 "java/lang/IllegalStateException" 5 := ⟨[], ⟨0, 4, 5, 81⟩, [], "java/lang/IllegalStateException", rfl, (fun _ h => nomatch h), by decide +kernel, by decide, tq_i6 97 rfl, tq_i6 104 rfl, rfl⟩
theorem np_L_undo : (parseMethodDescriptor mm_L_undo.1.desc).map (fun d => d.parameters.length) = some 1 := by decide +kernel
theorem np_X11_keep : (parseMethodDescriptor mm_X11_keep.1.desc).map (fun d => d.parameters.length) = some 0 := by decide +kernel
theorem hx_L_keep_0 : tq_hdP mm_L_keep 1 "java/util/NoSuchElementException" 5 := ⟨[], ⟨0, 4, 5, 58⟩, [], "java/util/NoSuchElementException", rfl, (fun _ h => nomatch h), by decide +kernel, by decide, tq_i3 195 rfl, tq_i3 202 rfl, rfl⟩
theorem np_L_keep : (parseMethodDescriptor mm_L_keep.1.desc).map (fun d => d.parameters.length) = some 1 := by decide +kernel
theorem np_X11_cuts : (parseMethodDescriptor mm_X11_cuts.1.desc).map (fun d => d.parameters.length) = some 0 := by decide +kernel
theorem hx_L_cuts_0 : tq_hdP mm_L_cuts 1 "java/util/NoSuchElementException" 5 := ⟨[], ⟨0, 4, 5, 58⟩, [], "java/util/NoSuchElementException", rfl, (fun _ h => nomatch h), by decide +kernel, by decide, tq_i3 195 rfl, tq_i3 202 rfl, rfl⟩
theorem np_L_cuts : (parseMethodDescriptor mm_L_cuts.1.desc).map (fun d => d.parameters.length) = some 1 := by decide +kernel
theorem np_X11_apart : (parseMethodDescriptor mm_X11_apart.1.desc).map (fun d => d.parameters.length) = some 0 := by decide +kernel
theorem hx_L_apart_0 : tq_hdP mm_L_apart 1 "java/lang/UnsupportedOperationException" 5 := ⟨[], ⟨0, 4, 5, 29⟩, [⟨0, 4, 9, 58⟩], "java/lang/UnsupportedOperationException", rfl, (fun _ h => nomatch h), by decide +kernel, by decide, tq_i3 22 rfl, tq_i3 57 rfl, rfl⟩
theorem hx_L_apart_1 : tq_hdP mm_L_apart 1 "java/util/NoSuchElementException" 9 := ⟨[⟨0, 4, 5, 29⟩], ⟨0, 4, 9, 58⟩, [], "java/util/NoSuchElementException", rfl, (List.forall_mem_cons.mpr ⟨Or.inr ⟨by decide, "java/lang/UnsupportedOperationException", tq_i3 22 rfl, by decide +kernel⟩, (fun _ h => nomatch h)⟩), by decide +kernel, by decide, tq_i3 195 rfl, tq_i3 202 rfl, rfl⟩
theorem np_L_apart : (parseMethodDescriptor mm_L_apart.1.desc).map (fun d => d.parameters.length) = some 1 := by decide +kernel
theorem np_X11_flip : (parseMethodDescriptor mm_X11_flip.1.desc).map (fun d => d.parameters.length) = some 1 := by decide +kernel
theorem hx_L_flip_0 : tq_hdP mm_L_flip 2 "java/util/NoSuchElementException" 6 := ⟨[], ⟨0, 5, 6, 58⟩, [⟨0, 5, 10, 23⟩], "java/util/NoSuchElementException", rfl, (fun _ h => nomatch h), by decide +kernel, by decide, tq_i3 195 rfl, tq_i3 202 rfl, rfl⟩
theorem hx_L_flip_1 : tq_hdP mm_L_flip 2 "java/lang/IndexOutOfBoundsException" 10 := ⟨[⟨0, 5, 6, 58⟩], ⟨0, 5, 10, 23⟩, [], "java/lang/IndexOutOfBoundsException", rfl, (List.forall_mem_cons.mpr ⟨Or.inr ⟨by decide, "java/util/NoSuchElementException", tq_i3 195 rfl, by decide +kernel⟩, (fun _ h => nomatch h)⟩), by decide +kernel, by decide, tq_i5 141 rfl, tq_i5 171 rfl, rfl⟩
theorem np_L_flip : (parseMethodDescriptor mm_L_flip.1.desc).map (fun d => d.parameters.length) = some 2 := by decide +kernel
theorem np_L_numbered : (parseMethodDescriptor mm_L_numbered.1.desc).map (fun d => d.parameters.length) = some 3 := by decide +kernel
theorem np_X11_order : (parseMethodDescriptor mm_X11_order.1.desc).map (fun d => d.parameters.length) = some 1 := by decide +kernel
theorem hx_L_order_0 : tq_hdP mm_L_order 2 "java/lang/IllegalArgumentException" 6 := ⟨[], ⟨0, 5, 6, 13⟩, [], "java/lang/IllegalArgumentException", rfl, (fun _ h => nomatch h), by decide +kernel, by decide, tq_i5 195 rfl, tq_i5 208 rfl, rfl⟩
theorem np_L_order : (parseMethodDescriptor mm_L_order.1.desc).map (fun d => d.parameters.length) = some 2 := by decide +kernel
theorem np_X11_rule : (parseMethodDescriptor mm_X11_rule.1.desc).map (fun d => d.parameters.length) = some 2 := by decide +kernel
theorem hx_L_rule_0 : tq_hdP mm_L_rule 3 "java/lang/IllegalArgumentException" 7 := ⟨[], ⟨0, 6, 7, 13⟩, [⟨0, 6, 11, 23⟩], "java/lang/IllegalArgumentException", rfl, (fun _ h => nomatch h), by decide +kernel, by decide, tq_i5 195 rfl, tq_i5 208 rfl, rfl⟩
theorem hx_L_rule_1 : tq_hdP mm_L_rule 3 "java/lang/IndexOutOfBoundsException" 11 := ⟨[⟨0, 6, 7, 13⟩], ⟨0, 6, 11, 23⟩, [], "java/lang/IndexOutOfBoundsException", rfl, (List.forall_mem_cons.mpr ⟨Or.inr ⟨by decide, "java/lang/IllegalArgumentException", tq_i5 195 rfl, by decide +kernel⟩, (fun _ h => nomatch h)⟩), by decide +kernel, by decide, tq_i5 141 rfl, tq_i5 171 rfl, rfl⟩
theorem np_L_rule : (parseMethodDescriptor mm_L_rule.1.desc).map (fun d => d.parameters.length) = some 3 := by decide +kernel
theorem np_X11_strip : (parseMethodDescriptor mm_X11_strip.1.desc).map (fun d => d.parameters.length) = some 2 := by decide +kernel
theorem hx_L_strip_0 : tq_hdP mm_L_strip 3 "java/lang/IllegalArgumentException" 7 := ⟨[], ⟨0, 6, 7, 13⟩, [], "java/lang/IllegalArgumentException", rfl, (fun _ h => nomatch h), by decide +kernel, by decide, tq_i5 195 rfl, tq_i5 208 rfl, rfl⟩
theorem np_L_strip : (parseMethodDescriptor mm_L_strip.1.desc).map (fun d => d.parameters.length) = some 3 := by decide +kernel
theorem np_X11_hexagon : (parseMethodDescriptor mm_X11_hexagon.1.desc).map (fun d => d.parameters.length) = some 3 := by decide +kernel
theorem hx_L_hexagon_0 : tq_hdP mm_L_hexagon 4 "java/lang/IllegalArgumentException" 8 := ⟨[], ⟨0, 7, 8, 13⟩, [], "java/lang/IllegalArgumentException", rfl, (fun _ h => nomatch h), by decide +kernel, by decide, tq_i5 195 rfl, tq_i5 208 rfl, rfl⟩
theorem np_L_hexagon : (parseMethodDescriptor mm_L_hexagon.1.desc).map (fun d => d.parameters.length) = some 4 := by decide +kernel
theorem np_X11_heaps : (parseMethodDescriptor mm_X11_heaps.1.desc).map (fun d => d.parameters.length) = some 3 := by decide +kernel
theorem hx_L_heaps_0 : tq_hdP mm_L_heaps 4 "java/lang/IllegalArgumentException" 8 := ⟨[], ⟨0, 7, 8, 13⟩, [], "java/lang/IllegalArgumentException", rfl, (fun _ h => nomatch h), by decide +kernel, by decide, tq_i5 195 rfl, tq_i5 208 rfl, rfl⟩
theorem np_L_heaps : (parseMethodDescriptor mm_L_heaps.1.desc).map (fun d => d.parameters.length) = some 4 := by decide +kernel
theorem np_L_strips : (parseMethodDescriptor mm_L_strips.1.desc).map (fun d => d.parameters.length) = some 2 := by decide +kernel
theorem np_X11_isSound : (parseMethodDescriptor mm_X11_isSound.1.desc).map (fun d => d.parameters.length) = some 0 := by decide +kernel
theorem np_L_isSound : (parseMethodDescriptor mm_L_isSound.1.desc).map (fun d => d.parameters.length) = some 1 := by decide +kernel
