/-! ===== the law's own frame: room left over, the switch ===== -/
abbrev mm_law : tq_MD := (x, code, 9, ret, [], 13)
theorem tq_Tx {K : Nat × (Nat → Int32)} {d x : Nat} {M : tq_MD} {pc : Nat} {L st : List Value} {z : tq_S} {Q : tq_O → tq_S → Prop} (h : tq_T K d x M pc L st z Q) : tq_T K d (x + 1) M pc L st z Q :=
  fun p l e R s m args below meth c ρ D dA A mc ms F H locs cells slots ls ⟨v1, v2, v3, v4, v5, v6⟩ => h p l e R s m args below meth c ρ D dA A mc ms F H locs cells slots ls ⟨v1, v2, v3, v4, by omega, by omega⟩
theorem tq_tsw_in {K : Nat × (Nat → Int32)} {d x : Nat} {M : tq_MD} {pc : Nat} {L st : List Value} {z : tq_S} {Q : tq_O → tq_S → Prop} {kv : Int32} {df high : Int} {offs : Array Int} {len n tgt : Nat} (hd : decode M.2.1 pc = .ok (.tableswitch df 0 high offs, len)) (hk : kv = Int32.ofNat n)
    (h1 : (Int32.ofNat n).toInt = (n : Int)) (h2 : (n : Int) ≤ high) (h3 : (offs[n]?).map (fun o => (pc : Int) + o) = some (tgt : Int)) (k : tq_T K d x M tgt L st z Q) : tq_T K d x M pc L (.int kv :: st) z Q := by
  subst hk
  intro p l e R s m args below meth c ρ D dA A mc ms F H locs cells slots ls V T hT X
  obtain ⟨o, ho, he⟩ := Option.map_eq_some_iff.mp h3
  obtain ⟨t, st1, q⟩ := k p l e R s m args below meth c ρ D dA A mc ms F H locs cells slots ls V T hT X
  refine ⟨t, ?_, q⟩
  refine X.tableswitchIn F.1 (g := F0 m pc ls ((Value.int (Int32.ofNat n) :: st).map (tq_tr ρ))) rfl (k := Int32.ofNat n) (rest := st.map (tq_tr ρ)) rfl (by rw [F.2.1]; exact hd) (by rw [h1]; omega) (off := o) (by rw [h1]; simpa using ho) (by show 0 ≤ (pc : Int) + o; omega) t ?_
  have e9 : ((pc : Int) + o).toNat = tgt := by omega
  show Steps p.tables e below (T.setTop { F0 m pc ls ((Value.int (Int32.ofNat n) :: st).map (tq_tr ρ)) with pc := ((pc : Int) + o).toNat, stack := st.map (tq_tr ρ) }) t
  rw [e9]
  exact st1
def tq_an (kv : Int32) (N : Nat) : Prop := ∀ i, i < N → ¬ kv = Int32.ofNat i
theorem tq_an0 (kv : Int32) : tq_an kv 0 := fun _ h => absurd h (Nat.not_lt_zero _)
theorem tq_an1 {kv : Int32} {N : Nat} (h : tq_an kv N) (h1 : ¬ kv = Int32.ofNat N) : tq_an kv (N + 1) := fun i hi => by
  rcases Nat.lt_succ_iff_lt_or_eq.mp hi with h2 | rfl
  · exact h i h2
  · exact h1
theorem tq_tsw_out {K : Nat × (Nat → Int32)} {d x : Nat} {M : tq_MD} {pc : Nat} {L st : List Value} {z : tq_S} {Q : tq_O → tq_S → Prop} {kv : Int32} {df high : Int} {offs : Array Int} {len N tgt : Nat} (hd : decode M.2.1 pc = .ok (.tableswitch df 0 high offs, len)) (hk : tq_an kv N)
    (h2 : high + 1 = (N : Int) ∧ (pc : Int) + df = (tgt : Int)) (k : tq_T K d x M tgt L st z Q) : tq_T K d x M pc L (.int kv :: st) z Q := by
  intro p l e R s m args below meth c ρ D dA A mc ms F H locs cells slots ls V T hT X
  obtain ⟨t, st1, q⟩ := k p l e R s m args below meth c ρ D dA A mc ms F H locs cells slots ls V T hT X
  have hout : kv.toInt < 0 ∨ kv.toInt > high := by
    by_cases h0 : kv.toInt < 0
    · exact Or.inl h0
    · refine Or.inr (Decidable.byContradiction fun h1 => ?_)
      have h3 : kv = Int32.ofNat kv.toInt.toNat := by
        have h4 : Int32.ofInt kv.toInt = kv := by simp
        have h5 : kv.toInt = (kv.toInt.toNat : Int) := by omega
        rw [h5] at h4
        exact h4.symm
      exact hk kv.toInt.toNat (by omega) h3
  refine ⟨t, ?_, q⟩
  refine X.tableswitchOut F.1 (g := F0 m pc ls ((Value.int kv :: st).map (tq_tr ρ))) rfl (k := kv) (rest := st.map (tq_tr ρ)) rfl (by rw [F.2.1]; exact hd) hout (by show 0 ≤ (pc : Int) + df; omega) t ?_
  have e9 : ((pc : Int) + df).toNat = tgt := by omega
  show Steps p.tables e below (T.setTop { F0 m pc ls ((Value.int kv :: st).map (tq_tr ρ)) with pc := ((pc : Int) + df).toNat, stack := st.map (tq_tr ρ) }) t
  rw [e9]
  exact st1
theorem tsw_law : decode mm_law.2.1 44 = .ok (.tableswitch 2704 0 45 #[200, 268, 338, 406, 474, 553, 611, 648, 661, 674, 687, 731, 827, 883, 971, 1022, 1073, 1117, 1185, 1229, 1285, 1329, 1373, 1417, 1485, 1529, 1542, 1610, 1668, 1736, 1848, 1861, 1905, 1949, 2029, 2097, 2153, 2221, 2301, 2381, 2437, 2450, 2494, 2612, 2677, 2691], 200) := by decide +kernel
theorem np_X11_isSound : (parseMethodDescriptor mm_X11_isSound.1.desc).map (fun d => d.parameters.length) = some 0 := by decide +kernel
theorem np_X12_isSound : (parseMethodDescriptor mm_X12_isSound.1.desc).map (fun d => d.parameters.length) = some 0 := by decide +kernel
theorem np_X11_checksum : (parseMethodDescriptor mm_X11_checksum.1.desc).map (fun d => d.parameters.length) = some 0 := by decide +kernel
theorem np_X12_checksum : (parseMethodDescriptor mm_X12_checksum.1.desc).map (fun d => d.parameters.length) = some 0 := by decide +kernel
theorem np_X11_meanPart : (parseMethodDescriptor mm_X11_meanPart.1.desc).map (fun d => d.parameters.length) = some 0 := by decide +kernel
theorem tq_g_dast {K : Nat × (Nat → Int32)} {d x : Nat} {M : tq_MD} {pc : Nat} {L st : List Value} {z : tq_S} {Q : tq_O → tq_S → Prop} {b n : Nat} {i : Int32} {v : UInt64} (hd : decode M.2.1 pc = .ok (.dastore, 1)) (hb : tq_sh[b]? = some (.inl (4, n))) (hin : vp_in i n) (k : ∀ z1, z1 = tq_sad z b (vf_upd (tq_ad z b) (Int32.toNatClampNeg i) v) → tq_T K d x M (pc + 1) L st z1 Q) : tq_T K d x M pc L (.double v :: .int i :: .ref b :: st) z Q := tq_s_dast hd hb hin (k _ rfl)
theorem sh_88 : tq_sh[88]? = some (.inl (4, 1)) := rfl
theorem vi_0_1 : vp_in (0 : Int32) 1 := by unfold vp_in; decide +kernel
theorem hx_L_meanPart_0 : tq_hdP mm_L_meanPart 3 "java/lang/ArithmeticException" 10 := ⟨[], ⟨0, 7, 10, 141⟩, [], "java/lang/ArithmeticException", rfl, (fun _ h => nomatch h), by decide +kernel, by decide, tq_i7 191 rfl, tq_i7 203 rfl, rfl⟩
theorem np_L_meanPart : (parseMethodDescriptor mm_L_meanPart.1.desc).map (fun d => d.parameters.length) = some 2 := by decide +kernel
theorem np_X12_meanPart : (parseMethodDescriptor mm_X12_meanPart.1.desc).map (fun d => d.parameters.length) = some 0 := by decide +kernel
theorem np_X12_thrown : (parseMethodDescriptor mm_X12_thrown.1.desc).map (fun d => d.parameters.length) = some 0 := by decide +kernel
theorem np_X11_share : (parseMethodDescriptor mm_X11_share.1.desc).map (fun d => d.parameters.length) = some 3 := by decide +kernel
theorem hx_L_share_0 : tq_hdP mm_L_share 7 "java/lang/IndexOutOfBoundsException" 15 := ⟨[], ⟨0, 12, 15, 22⟩, [⟨0, 12, 19, 141⟩], "java/lang/IndexOutOfBoundsException", rfl, (fun _ h => nomatch h), by decide +kernel, by decide, tq_i5 184 rfl, tq_i5 214 rfl, rfl⟩
theorem hx_L_share_1 : tq_hdP mm_L_share 7 "java/lang/ArithmeticException" 19 := ⟨[⟨0, 12, 15, 22⟩], ⟨0, 12, 19, 141⟩, [], "java/lang/ArithmeticException", rfl, (List.forall_mem_cons.mpr ⟨Or.inr ⟨by decide, "java/lang/IndexOutOfBoundsException", tq_i5 184 rfl, by decide +kernel⟩, (fun _ h => nomatch h)⟩), by decide +kernel, by decide, tq_i7 191 rfl, tq_i7 203 rfl, rfl⟩
theorem np_L_share : (parseMethodDescriptor mm_L_share.1.desc).map (fun d => d.parameters.length) = some 5 := by decide +kernel
theorem np_X12_share : (parseMethodDescriptor mm_X12_share.1.desc).map (fun d => d.parameters.length) = some 3 := by decide +kernel
theorem np_X11_loops : (parseMethodDescriptor mm_X11_loops.1.desc).map (fun d => d.parameters.length) = some 0 := by decide +kernel
theorem sh_87 : tq_sh[87]? = some (.inl (3, 1)) := rfl
theorem hx_L_loops_0 : tq_hdP mm_L_loops 3 "java/lang/UnsupportedOperationException" 11 := ⟨[], ⟨0, 8, 11, 31⟩, [], "java/lang/UnsupportedOperationException", rfl, (fun _ h => nomatch h), by decide +kernel, by decide, tq_i6 4 rfl, tq_i6 15 rfl, rfl⟩
theorem np_L_loops : (parseMethodDescriptor mm_L_loops.1.desc).map (fun d => d.parameters.length) = some 2 := by decide +kernel
theorem np_X12_loops : (parseMethodDescriptor mm_X12_loops.1.desc).map (fun d => d.parameters.length) = some 0 := by decide +kernel
theorem np_X11_mostRooks : (parseMethodDescriptor mm_X11_mostRooks.1.desc).map (fun d => d.parameters.length) = some 0 := by decide +kernel
theorem np_X12_mostRooks : (parseMethodDescriptor mm_X12_mostRooks.1.desc).map (fun d => d.parameters.length) = some 0 := by decide +kernel
theorem np_X11_rooks : (parseMethodDescriptor mm_X11_rooks.1.desc).map (fun d => d.parameters.length) = some 1 := by decide +kernel
theorem hx_L_rooks_0 : tq_hdP mm_L_rooks 4 "java/lang/IllegalArgumentException" 12 := ⟨[], ⟨0, 9, 12, 13⟩, [], "java/lang/IllegalArgumentException", rfl, (fun _ h => nomatch h), by decide +kernel, by decide, tq_i5 73 rfl, tq_i5 83 rfl, rfl⟩
theorem np_L_rooks : (parseMethodDescriptor mm_L_rooks.1.desc).map (fun d => d.parameters.length) = some 3 := by decide +kernel
theorem np_X12_rooks : (parseMethodDescriptor mm_X12_rooks.1.desc).map (fun d => d.parameters.length) = some 1 := by decide +kernel
theorem np_X11_heaps : (parseMethodDescriptor mm_X11_heaps.1.desc).map (fun d => d.parameters.length) = some 3 := by decide +kernel
theorem hx_L_heaps_0 : tq_hdP mm_L_heaps 7 "java/lang/IllegalArgumentException" 15 := ⟨[], ⟨0, 12, 15, 13⟩, [], "java/lang/IllegalArgumentException", rfl, (fun _ h => nomatch h), by decide +kernel, by decide, tq_i5 73 rfl, tq_i5 83 rfl, rfl⟩
theorem np_L_heaps : (parseMethodDescriptor mm_L_heaps.1.desc).map (fun d => d.parameters.length) = some 5 := by decide +kernel
theorem np_X11_hexagon : (parseMethodDescriptor mm_X11_hexagon.1.desc).map (fun d => d.parameters.length) = some 3 := by decide +kernel
theorem hx_L_hexagon_0 : tq_hdP mm_L_hexagon 7 "java/lang/IllegalArgumentException" 15 := ⟨[], ⟨0, 12, 15, 13⟩, [], "java/lang/IllegalArgumentException", rfl, (fun _ h => nomatch h), by decide +kernel, by decide, tq_i5 73 rfl, tq_i5 83 rfl, rfl⟩
theorem np_L_hexagon : (parseMethodDescriptor mm_L_hexagon.1.desc).map (fun d => d.parameters.length) = some 5 := by decide +kernel
theorem np_X12_hexagon : (parseMethodDescriptor mm_X12_hexagon.1.desc).map (fun d => d.parameters.length) = some 3 := by decide +kernel
theorem np_X11_rule : (parseMethodDescriptor mm_X11_rule.1.desc).map (fun d => d.parameters.length) = some 2 := by decide +kernel
theorem hx_L_rule_0 : tq_hdP mm_L_rule 5 "java/lang/IllegalArgumentException" 13 := ⟨[], ⟨0, 10, 13, 13⟩, [⟨0, 10, 17, 22⟩], "java/lang/IllegalArgumentException", rfl, (fun _ h => nomatch h), by decide +kernel, by decide, tq_i5 73 rfl, tq_i5 83 rfl, rfl⟩
theorem hx_L_rule_1 : tq_hdP mm_L_rule 5 "java/lang/IndexOutOfBoundsException" 17 := ⟨[⟨0, 10, 13, 13⟩], ⟨0, 10, 17, 22⟩, [], "java/lang/IndexOutOfBoundsException", rfl, (List.forall_mem_cons.mpr ⟨Or.inr ⟨by decide, "java/lang/IllegalArgumentException", tq_i5 73 rfl, by decide +kernel⟩, (fun _ h => nomatch h)⟩), by decide +kernel, by decide, tq_i5 184 rfl, tq_i5 214 rfl, rfl⟩
theorem np_L_rule : (parseMethodDescriptor mm_L_rule.1.desc).map (fun d => d.parameters.length) = some 4 := by decide +kernel
theorem np_X12_rule : (parseMethodDescriptor mm_X12_rule.1.desc).map (fun d => d.parameters.length) = some 2 := by decide +kernel
theorem np_X11_order : (parseMethodDescriptor mm_X11_order.1.desc).map (fun d => d.parameters.length) = some 1 := by decide +kernel
theorem hx_L_order_0 : tq_hdP mm_L_order 4 "java/lang/IllegalArgumentException" 12 := ⟨[], ⟨0, 9, 12, 13⟩, [], "java/lang/IllegalArgumentException", rfl, (fun _ h => nomatch h), by decide +kernel, by decide, tq_i5 73 rfl, tq_i5 83 rfl, rfl⟩
theorem np_L_order : (parseMethodDescriptor mm_L_order.1.desc).map (fun d => d.parameters.length) = some 3 := by decide +kernel
theorem np_X12_order : (parseMethodDescriptor mm_X12_order.1.desc).map (fun d => d.parameters.length) = some 1 := by decide +kernel
theorem np_X11_strip : (parseMethodDescriptor mm_X11_strip.1.desc).map (fun d => d.parameters.length) = some 2 := by decide +kernel
theorem hx_L_strip_0 : tq_hdP mm_L_strip 5 "java/lang/IllegalArgumentException" 13 := ⟨[], ⟨0, 10, 13, 13⟩, [], "java/lang/IllegalArgumentException", rfl, (fun _ h => nomatch h), by decide +kernel, by decide, tq_i5 73 rfl, tq_i5 83 rfl, rfl⟩
theorem np_L_strip : (parseMethodDescriptor mm_L_strip.1.desc).map (fun d => d.parameters.length) = some 4 := by decide +kernel
theorem np_X12_strip : (parseMethodDescriptor mm_X12_strip.1.desc).map (fun d => d.parameters.length) = some 2 := by decide +kernel
theorem np_X11_kindAt : (parseMethodDescriptor mm_X11_kindAt.1.desc).map (fun d => d.parameters.length) = some 3 := by decide +kernel
theorem hx_L_kindAt_0 : tq_hdP mm_L_kindAt 7 "java/lang/UnsupportedOperationException" 15 := ⟨[], ⟨0, 12, 15, 31⟩, [⟨0, 12, 19, 53⟩, ⟨0, 12, 23, 22⟩], "java/lang/UnsupportedOperationException", rfl, (fun _ h => nomatch h), by decide +kernel, by decide, tq_i6 4 rfl, tq_i6 15 rfl, rfl⟩
theorem hx_L_kindAt_1 : tq_hdP mm_L_kindAt 7 "java/util/NoSuchElementException" 19 := ⟨[⟨0, 12, 15, 31⟩], ⟨0, 12, 19, 53⟩, [⟨0, 12, 23, 22⟩], "java/util/NoSuchElementException", rfl, (List.forall_mem_cons.mpr ⟨Or.inr ⟨by decide, "java/lang/UnsupportedOperationException", tq_i6 4 rfl, by decide +kernel⟩, (fun _ h => nomatch h)⟩), by decide +kernel, by decide, tq_i6 78 rfl, tq_i6 85 rfl, rfl⟩
theorem hx_L_kindAt_2 : tq_hdP mm_L_kindAt 7 "java/lang/IndexOutOfBoundsException" 23 := ⟨[⟨0, 12, 15, 31⟩, ⟨0, 12, 19, 53⟩], ⟨0, 12, 23, 22⟩, [], "java/lang/IndexOutOfBoundsException", rfl, (List.forall_mem_cons.mpr ⟨Or.inr ⟨by decide, "java/lang/UnsupportedOperationException", tq_i6 4 rfl, by decide +kernel⟩, (List.forall_mem_cons.mpr ⟨Or.inr ⟨by decide, "java/util/NoSuchElementException", tq_i6 78 rfl, by decide +kernel⟩, (fun _ h => nomatch h)⟩)⟩), by decide +kernel, by decide, tq_i5 184 rfl, tq_i5 214 rfl, rfl⟩
theorem np_L_kindAt : (parseMethodDescriptor mm_L_kindAt.1.desc).map (fun d => d.parameters.length) = some 5 := by decide +kernel
theorem np_X12_kindAt : (parseMethodDescriptor mm_X12_kindAt.1.desc).map (fun d => d.parameters.length) = some 3 := by decide +kernel
theorem np_X11_unlike : (parseMethodDescriptor mm_X11_unlike.1.desc).map (fun d => d.parameters.length) = some 0 := by decide +kernel
theorem hx_L_unlike_0 : tq_hdP mm_L_unlike 3 "java/lang/UnsupportedOperationException" 11 := ⟨[], ⟨0, 8, 11, 31⟩, [], "java/lang/UnsupportedOperationException", rfl, (fun _ h => nomatch h), by decide +kernel, by decide, tq_i6 4 rfl, tq_i6 15 rfl, rfl⟩
theorem np_L_unlike : (parseMethodDescriptor mm_L_unlike.1.desc).map (fun d => d.parameters.length) = some 2 := by decide +kernel
theorem np_X12_unlike : (parseMethodDescriptor mm_X12_unlike.1.desc).map (fun d => d.parameters.length) = some 0 := by decide +kernel
theorem np_X11_exact : (parseMethodDescriptor mm_X11_exact.1.desc).map (fun d => d.parameters.length) = some 0 := by decide +kernel
theorem hx_L_exact_0 : tq_hdP mm_L_exact 3 "java/lang/UnsupportedOperationException" 11 := ⟨[], ⟨0, 8, 11, 31⟩, [], "java/lang/UnsupportedOperationException", rfl, (fun _ h => nomatch h), by decide +kernel, by decide, tq_i6 4 rfl, tq_i6 15 rfl, rfl⟩
theorem np_L_exact : (parseMethodDescriptor mm_L_exact.1.desc).map (fun d => d.parameters.length) = some 2 := by decide +kernel
theorem np_X12_exact : (parseMethodDescriptor mm_X12_exact.1.desc).map (fun d => d.parameters.length) = some 0 := by decide +kernel
theorem np_X11_clear : (parseMethodDescriptor mm_X11_clear.1.desc).map (fun d => d.parameters.length) = some 0 := by decide +kernel
theorem np_X12_clear : (parseMethodDescriptor mm_X12_clear.1.desc).map (fun d => d.parameters.length) = some 0 := by decide +kernel
theorem np_X11_kind : (parseMethodDescriptor mm_X11_kind.1.desc).map (fun d => d.parameters.length) = some 3 := by decide +kernel
theorem hx_L_kind_0 : tq_hdP mm_L_kind 7 "java/lang/IllegalArgumentException" 15 := ⟨[], ⟨0, 12, 15, 13⟩, [⟨0, 12, 19, 79⟩, ⟨0, 12, 23, 31⟩], "java/lang/IllegalArgumentException", rfl, (fun _ h => nomatch h), by decide +kernel, by decide, tq_i5 73 rfl, tq_i5 83 rfl, rfl⟩
theorem hx_L_kind_1 : tq_hdP mm_L_kind 7 "java/lang/IllegalStateException" 19 := ⟨[⟨0, 12, 15, 13⟩], ⟨0, 12, 19, 79⟩, [⟨0, 12, 23, 31⟩], "java/lang/IllegalStateException", rfl, (List.forall_mem_cons.mpr ⟨Or.inr ⟨by decide, "java/lang/IllegalArgumentException", tq_i5 73 rfl, by decide +kernel⟩, (fun _ h => nomatch h)⟩), by decide +kernel, by decide, tq_i6 160 rfl, tq_i6 167 rfl, rfl⟩
theorem hx_L_kind_2 : tq_hdP mm_L_kind 7 "java/lang/UnsupportedOperationException" 23 := ⟨[⟨0, 12, 15, 13⟩, ⟨0, 12, 19, 79⟩], ⟨0, 12, 23, 31⟩, [], "java/lang/UnsupportedOperationException", rfl, (List.forall_mem_cons.mpr ⟨Or.inr ⟨by decide, "java/lang/IllegalArgumentException", tq_i5 73 rfl, by decide +kernel⟩, (List.forall_mem_cons.mpr ⟨Or.inr ⟨by decide, "java/lang/IllegalStateException", tq_i6 160 rfl, by decide +kernel⟩, (fun _ h => nomatch h)⟩)⟩), by decide +kernel, by decide, tq_i6 4 rfl, tq_i6 15 rfl, rfl⟩
theorem np_L_kind : (parseMethodDescriptor mm_L_kind.1.desc).map (fun d => d.parameters.length) = some 5 := by decide +kernel
theorem np_X12_kind : (parseMethodDescriptor mm_X12_kind.1.desc).map (fun d => d.parameters.length) = some 3 := by decide +kernel
theorem np_X11_pieceCell : (parseMethodDescriptor mm_X11_pieceCell.1.desc).map (fun d => d.parameters.length) = some 2 := by decide +kernel
theorem hx_L_pieceCell_0 : tq_hdP mm_L_pieceCell 5 "java/lang/IllegalArgumentException" 13 := ⟨[], ⟨0, 10, 13, 13⟩, [⟨0, 10, 17, 79⟩], "java/lang/IllegalArgumentException", rfl, (fun _ h => nomatch h), by decide +kernel, by decide, tq_i5 73 rfl, tq_i5 83 rfl, rfl⟩
theorem hx_L_pieceCell_1 : tq_hdP mm_L_pieceCell 5 "java/lang/IllegalStateException" 17 := ⟨[⟨0, 10, 13, 13⟩], ⟨0, 10, 17, 79⟩, [], "java/lang/IllegalStateException", rfl, (List.forall_mem_cons.mpr ⟨Or.inr ⟨by decide, "java/lang/IllegalArgumentException", tq_i5 73 rfl, by decide +kernel⟩, (fun _ h => nomatch h)⟩), by decide +kernel, by decide, tq_i6 160 rfl, tq_i6 167 rfl, rfl⟩
theorem np_L_pieceCell : (parseMethodDescriptor mm_L_pieceCell.1.desc).map (fun d => d.parameters.length) = some 4 := by decide +kernel
theorem np_X12_pieceCell : (parseMethodDescriptor mm_X12_pieceCell.1.desc).map (fun d => d.parameters.length) = some 2 := by decide +kernel
theorem np_X11_roles : (parseMethodDescriptor mm_X11_roles.1.desc).map (fun d => d.parameters.length) = some 1 := by decide +kernel
theorem hx_L_roles_0 : tq_hdP mm_L_roles 4 "java/lang/IllegalArgumentException" 12 := ⟨[], ⟨0, 9, 12, 13⟩, [], "java/lang/IllegalArgumentException", rfl, (fun _ h => nomatch h), by decide +kernel, by decide, tq_i5 73 rfl, tq_i5 83 rfl, rfl⟩
theorem np_L_roles : (parseMethodDescriptor mm_L_roles.1.desc).map (fun d => d.parameters.length) = some 3 := by decide +kernel
theorem np_X12_roles : (parseMethodDescriptor mm_X12_roles.1.desc).map (fun d => d.parameters.length) = some 1 := by decide +kernel
theorem np_X11_role : (parseMethodDescriptor mm_X11_role.1.desc).map (fun d => d.parameters.length) = some 2 := by decide +kernel
theorem hx_L_role_0 : tq_hdP mm_L_role 5 "java/lang/IndexOutOfBoundsException" 13 := ⟨[], ⟨0, 10, 13, 22⟩, [], "java/lang/IndexOutOfBoundsException", rfl, (fun _ h => nomatch h), by decide +kernel, by decide, tq_i5 184 rfl, tq_i5 214 rfl, rfl⟩
theorem np_L_role : (parseMethodDescriptor mm_L_role.1.desc).map (fun d => d.parameters.length) = some 4 := by decide +kernel
theorem np_X12_role : (parseMethodDescriptor mm_X12_role.1.desc).map (fun d => d.parameters.length) = some 2 := by decide +kernel
theorem np_X11_free : (parseMethodDescriptor mm_X11_free.1.desc).map (fun d => d.parameters.length) = some 0 := by decide +kernel
theorem np_X12_free : (parseMethodDescriptor mm_X12_free.1.desc).map (fun d => d.parameters.length) = some 0 := by decide +kernel
theorem np_X11_cuts : (parseMethodDescriptor mm_X11_cuts.1.desc).map (fun d => d.parameters.length) = some 0 := by decide +kernel
theorem hx_L_cuts_0 : tq_hdP mm_L_cuts 3 "java/util/NoSuchElementException" 11 := ⟨[], ⟨0, 8, 11, 53⟩, [], "java/util/NoSuchElementException", rfl, (fun _ h => nomatch h), by decide +kernel, by decide, tq_i6 78 rfl, tq_i6 85 rfl, rfl⟩
theorem np_L_cuts : (parseMethodDescriptor mm_L_cuts.1.desc).map (fun d => d.parameters.length) = some 2 := by decide +kernel
theorem np_X12_cuts : (parseMethodDescriptor mm_X12_cuts.1.desc).map (fun d => d.parameters.length) = some 0 := by decide +kernel
theorem np_X11_height : (parseMethodDescriptor mm_X11_height.1.desc).map (fun d => d.parameters.length) = some 2 := by decide +kernel
theorem hx_L_height_0 : tq_hdP mm_L_height 5 "java/lang/UnsupportedOperationException" 13 := ⟨[], ⟨0, 10, 13, 31⟩, [⟨0, 10, 17, 22⟩, ⟨0, 10, 21, 53⟩], "java/lang/UnsupportedOperationException", rfl, (fun _ h => nomatch h), by decide +kernel, by decide, tq_i6 4 rfl, tq_i6 15 rfl, rfl⟩
theorem hx_L_height_1 : tq_hdP mm_L_height 5 "java/lang/IndexOutOfBoundsException" 17 := ⟨[⟨0, 10, 13, 31⟩], ⟨0, 10, 17, 22⟩, [⟨0, 10, 21, 53⟩], "java/lang/IndexOutOfBoundsException", rfl, (List.forall_mem_cons.mpr ⟨Or.inr ⟨by decide, "java/lang/UnsupportedOperationException", tq_i6 4 rfl, by decide +kernel⟩, (fun _ h => nomatch h)⟩), by decide +kernel, by decide, tq_i5 184 rfl, tq_i5 214 rfl, rfl⟩
theorem hx_L_height_2 : tq_hdP mm_L_height 5 "java/util/NoSuchElementException" 21 := ⟨[⟨0, 10, 13, 31⟩, ⟨0, 10, 17, 22⟩], ⟨0, 10, 21, 53⟩, [], "java/util/NoSuchElementException", rfl, (List.forall_mem_cons.mpr ⟨Or.inr ⟨by decide, "java/lang/UnsupportedOperationException", tq_i6 4 rfl, by decide +kernel⟩, (List.forall_mem_cons.mpr ⟨Or.inr ⟨by decide, "java/lang/IndexOutOfBoundsException", tq_i5 184 rfl, by decide +kernel⟩, (fun _ h => nomatch h)⟩)⟩), by decide +kernel, by decide, tq_i6 78 rfl, tq_i6 85 rfl, rfl⟩
theorem np_L_height : (parseMethodDescriptor mm_L_height.1.desc).map (fun d => d.parameters.length) = some 4 := by decide +kernel
theorem np_X12_height : (parseMethodDescriptor mm_X12_height.1.desc).map (fun d => d.parameters.length) = some 2 := by decide +kernel
theorem np_X11_apart : (parseMethodDescriptor mm_X11_apart.1.desc).map (fun d => d.parameters.length) = some 0 := by decide +kernel
theorem hx_L_apart_0 : tq_hdP mm_L_apart 3 "java/lang/UnsupportedOperationException" 11 := ⟨[], ⟨0, 8, 11, 31⟩, [⟨0, 8, 14, 53⟩], "java/lang/UnsupportedOperationException", rfl, (fun _ h => nomatch h), by decide +kernel, by decide, tq_i6 4 rfl, tq_i6 15 rfl, rfl⟩
theorem hx_L_apart_1 : tq_hdP mm_L_apart 3 "java/util/NoSuchElementException" 14 := ⟨[⟨0, 8, 11, 31⟩], ⟨0, 8, 14, 53⟩, [], "java/util/NoSuchElementException", rfl, (List.forall_mem_cons.mpr ⟨Or.inr ⟨by decide, "java/lang/UnsupportedOperationException", tq_i6 4 rfl, by decide +kernel⟩, (fun _ h => nomatch h)⟩), by decide +kernel, by decide, tq_i6 78 rfl, tq_i6 85 rfl, rfl⟩
theorem np_L_apart : (parseMethodDescriptor mm_L_apart.1.desc).map (fun d => d.parameters.length) = some 2 := by decide +kernel
theorem np_X12_apart : (parseMethodDescriptor mm_X12_apart.1.desc).map (fun d => d.parameters.length) = some 0 := by decide +kernel
theorem np_X11_keep : (parseMethodDescriptor mm_X11_keep.1.desc).map (fun d => d.parameters.length) = some 0 := by decide +kernel
theorem hx_L_keep_0 : tq_hdP mm_L_keep 3 "java/util/NoSuchElementException" 11 := ⟨[], ⟨0, 8, 11, 53⟩, [], "java/util/NoSuchElementException", rfl, (fun _ h => nomatch h), by decide +kernel, by decide, tq_i6 78 rfl, tq_i6 85 rfl, rfl⟩
theorem np_L_keep : (parseMethodDescriptor mm_L_keep.1.desc).map (fun d => d.parameters.length) = some 2 := by decide +kernel
theorem np_X12_keep : (parseMethodDescriptor mm_X12_keep.1.desc).map (fun d => d.parameters.length) = some 0 := by decide +kernel
theorem np_X11_undo : (parseMethodDescriptor mm_X11_undo.1.desc).map (fun d => d.parameters.length) = some 0 := by decide +kernel
theorem hx_L_undo_0 : tq_hdP mm_L_undo 3 "java/lang/IllegalStateException" 11 := ⟨[], ⟨0, 8, 11, 79⟩, [], "java/lang/IllegalStateException", rfl, (fun _ h => nomatch h), by decide +kernel, by decide, tq_i6 160 rfl, tq_i6 167 rfl, rfl⟩
theorem np_L_undo : (parseMethodDescriptor mm_L_undo.1.desc).map (fun d => d.parameters.length) = some 2 := by decide +kernel
theorem np_X12_undo : (parseMethodDescriptor mm_X12_undo.1.desc).map (fun d => d.parameters.length) = some 0 := by decide +kernel
theorem np_X11_flip : (parseMethodDescriptor mm_X11_flip.1.desc).map (fun d => d.parameters.length) = some 1 := by decide +kernel
theorem hx_L_flip_0 : tq_hdP mm_L_flip 4 "java/util/NoSuchElementException" 12 := ⟨[], ⟨0, 9, 12, 53⟩, [⟨0, 9, 15, 22⟩], "java/util/NoSuchElementException", rfl, (fun _ h => nomatch h), by decide +kernel, by decide, tq_i6 78 rfl, tq_i6 85 rfl, rfl⟩
theorem hx_L_flip_1 : tq_hdP mm_L_flip 4 "java/lang/IndexOutOfBoundsException" 15 := ⟨[⟨0, 9, 12, 53⟩], ⟨0, 9, 15, 22⟩, [], "java/lang/IndexOutOfBoundsException", rfl, (List.forall_mem_cons.mpr ⟨Or.inr ⟨by decide, "java/util/NoSuchElementException", tq_i6 78 rfl, by decide +kernel⟩, (fun _ h => nomatch h)⟩), by decide +kernel, by decide, tq_i5 184 rfl, tq_i5 214 rfl, rfl⟩
theorem np_L_flip : (parseMethodDescriptor mm_L_flip.1.desc).map (fun d => d.parameters.length) = some 3 := by decide +kernel
theorem np_X12_flip : (parseMethodDescriptor mm_X12_flip.1.desc).map (fun d => d.parameters.length) = some 1 := by decide +kernel
theorem np_X11_flips : (parseMethodDescriptor mm_X11_flips.1.desc).map (fun d => d.parameters.length) = some 0 := by decide +kernel
theorem hx_L_flips_0 : tq_hdP mm_L_flips 3 "java/util/NoSuchElementException" 11 := ⟨[], ⟨0, 8, 11, 53⟩, [], "java/util/NoSuchElementException", rfl, (fun _ h => nomatch h), by decide +kernel, by decide, tq_i6 78 rfl, tq_i6 85 rfl, rfl⟩
theorem np_L_flips : (parseMethodDescriptor mm_L_flips.1.desc).map (fun d => d.parameters.length) = some 2 := by decide +kernel
theorem np_X12_flips : (parseMethodDescriptor mm_X12_flips.1.desc).map (fun d => d.parameters.length) = some 0 := by decide +kernel
theorem np_X11_other : (parseMethodDescriptor mm_X11_other.1.desc).map (fun d => d.parameters.length) = some 2 := by decide +kernel
theorem hx_L_other_0 : tq_hdP mm_L_other 5 "java/lang/IndexOutOfBoundsException" 13 := ⟨[], ⟨0, 10, 13, 22⟩, [⟨0, 10, 17, 53⟩], "java/lang/IndexOutOfBoundsException", rfl, (fun _ h => nomatch h), by decide +kernel, by decide, tq_i5 184 rfl, tq_i5 214 rfl, rfl⟩
theorem hx_L_other_1 : tq_hdP mm_L_other 5 "java/util/NoSuchElementException" 17 := ⟨[⟨0, 10, 13, 22⟩], ⟨0, 10, 17, 53⟩, [], "java/util/NoSuchElementException", rfl, (List.forall_mem_cons.mpr ⟨Or.inr ⟨by decide, "java/lang/IndexOutOfBoundsException", tq_i5 184 rfl, by decide +kernel⟩, (fun _ h => nomatch h)⟩), by decide +kernel, by decide, tq_i6 78 rfl, tq_i6 85 rfl, rfl⟩
theorem np_L_other : (parseMethodDescriptor mm_L_other.1.desc).map (fun d => d.parameters.length) = some 4 := by decide +kernel
theorem np_X12_other : (parseMethodDescriptor mm_X12_other.1.desc).map (fun d => d.parameters.length) = some 2 := by decide +kernel
theorem np_X11_number : (parseMethodDescriptor mm_X11_number.1.desc).map (fun d => d.parameters.length) = some 0 := by decide +kernel
theorem hx_L_number_0 : tq_hdP mm_L_number 3 "java/util/NoSuchElementException" 11 := ⟨[], ⟨0, 8, 11, 53⟩, [], "java/util/NoSuchElementException", rfl, (fun _ h => nomatch h), by decide +kernel, by decide, tq_i6 78 rfl, tq_i6 85 rfl, rfl⟩
theorem np_L_number : (parseMethodDescriptor mm_L_number.1.desc).map (fun d => d.parameters.length) = some 2 := by decide +kernel
theorem np_X12_number : (parseMethodDescriptor mm_X12_number.1.desc).map (fun d => d.parameters.length) = some 0 := by decide +kernel
theorem np_X11_previous : (parseMethodDescriptor mm_X11_previous.1.desc).map (fun d => d.parameters.length) = some 0 := by decide +kernel
theorem hx_L_previous_0 : tq_hdP mm_L_previous 3 "java/util/NoSuchElementException" 18 := ⟨[], ⟨0, 15, 18, 53⟩, [], "java/util/NoSuchElementException", rfl, (fun _ h => nomatch h), by decide +kernel, by decide, tq_i6 78 rfl, tq_i6 85 rfl, rfl⟩
theorem np_L_previous : (parseMethodDescriptor mm_L_previous.1.desc).map (fun d => d.parameters.length) = some 2 := by decide +kernel
theorem np_X12_previous : (parseMethodDescriptor mm_X12_previous.1.desc).map (fun d => d.parameters.length) = some 0 := by decide +kernel
theorem np_X11_next : (parseMethodDescriptor mm_X11_next.1.desc).map (fun d => d.parameters.length) = some 0 := by decide +kernel
theorem hx_L_next_0 : tq_hdP mm_L_next 3 "java/util/NoSuchElementException" 18 := ⟨[], ⟨0, 15, 18, 53⟩, [], "java/util/NoSuchElementException", rfl, (fun _ h => nomatch h), by decide +kernel, by decide, tq_i6 78 rfl, tq_i6 85 rfl, rfl⟩
theorem np_L_next : (parseMethodDescriptor mm_L_next.1.desc).map (fun d => d.parameters.length) = some 2 := by decide +kernel
theorem np_X12_next : (parseMethodDescriptor mm_X12_next.1.desc).map (fun d => d.parameters.length) = some 0 := by decide +kernel
theorem np_X11_draw : (parseMethodDescriptor mm_X11_draw.1.desc).map (fun d => d.parameters.length) = some 1 := by decide +kernel
theorem hx_L_draw_0 : tq_hdP mm_L_draw 4 "java/util/NoSuchElementException" 12 := ⟨[], ⟨0, 9, 12, 53⟩, [], "java/util/NoSuchElementException", rfl, (fun _ h => nomatch h), by decide +kernel, by decide, tq_i6 78 rfl, tq_i6 85 rfl, rfl⟩
theorem np_L_draw : (parseMethodDescriptor mm_L_draw.1.desc).map (fun d => d.parameters.length) = some 3 := by decide +kernel
theorem np_X12_draw : (parseMethodDescriptor mm_X12_draw.1.desc).map (fun d => d.parameters.length) = some 1 := by decide +kernel
theorem np_X11_signAt : (parseMethodDescriptor mm_X11_signAt.1.desc).map (fun d => d.parameters.length) = some 1 := by decide +kernel
theorem hx_L_signAt_0 : tq_hdP mm_L_signAt 4 "java/lang/IndexOutOfBoundsException" 12 := ⟨[], ⟨0, 9, 12, 22⟩, [], "java/lang/IndexOutOfBoundsException", rfl, (fun _ h => nomatch h), by decide +kernel, by decide, tq_i5 184 rfl, tq_i5 214 rfl, rfl⟩
theorem np_L_signAt : (parseMethodDescriptor mm_L_signAt.1.desc).map (fun d => d.parameters.length) = some 3 := by decide +kernel
theorem np_X12_signAt : (parseMethodDescriptor mm_X12_signAt.1.desc).map (fun d => d.parameters.length) = some 1 := by decide +kernel
theorem np_X11_having : (parseMethodDescriptor mm_X11_having.1.desc).map (fun d => d.parameters.length) = some 3 := by decide +kernel
theorem hx_L_having_0 : tq_hdP mm_L_having 7 "java/lang/IndexOutOfBoundsException" 15 := ⟨[], ⟨0, 12, 15, 22⟩, [], "java/lang/IndexOutOfBoundsException", rfl, (fun _ h => nomatch h), by decide +kernel, by decide, tq_i5 184 rfl, tq_i5 214 rfl, rfl⟩
theorem np_L_having : (parseMethodDescriptor mm_L_having.1.desc).map (fun d => d.parameters.length) = some 5 := by decide +kernel
theorem np_X12_having : (parseMethodDescriptor mm_X12_having.1.desc).map (fun d => d.parameters.length) = some 3 := by decide +kernel
theorem np_X11_bySigns : (parseMethodDescriptor mm_X11_bySigns.1.desc).map (fun d => d.parameters.length) = some 0 := by decide +kernel
theorem hx_L_bySigns_0 : tq_hdP mm_L_bySigns 3 "java/lang/UnsupportedOperationException" 11 := ⟨[], ⟨0, 8, 11, 31⟩, [], "java/lang/UnsupportedOperationException", rfl, (fun _ h => nomatch h), by decide +kernel, by decide, tq_i6 4 rfl, tq_i6 15 rfl, rfl⟩
theorem np_L_bySigns : (parseMethodDescriptor mm_L_bySigns.1.desc).map (fun d => d.parameters.length) = some 2 := by decide +kernel
theorem np_X12_bySigns : (parseMethodDescriptor mm_X12_bySigns.1.desc).map (fun d => d.parameters.length) = some 0 := by decide +kernel
theorem np_X11_covers : (parseMethodDescriptor mm_X11_covers.1.desc).map (fun d => d.parameters.length) = some 0 := by decide +kernel
theorem np_X12_covers : (parseMethodDescriptor mm_X12_covers.1.desc).map (fun d => d.parameters.length) = some 0 := by decide +kernel
theorem np_X11_holes : (parseMethodDescriptor mm_X11_holes.1.desc).map (fun d => d.parameters.length) = some 0 := by decide +kernel
theorem np_X12_holes : (parseMethodDescriptor mm_X12_holes.1.desc).map (fun d => d.parameters.length) = some 0 := by decide +kernel
theorem np_X11_parts : (parseMethodDescriptor mm_X11_parts.1.desc).map (fun d => d.parameters.length) = some 0 := by decide +kernel
theorem np_X12_parts : (parseMethodDescriptor mm_X12_parts.1.desc).map (fun d => d.parameters.length) = some 0 := by decide +kernel
theorem np_X11_has : (parseMethodDescriptor mm_X11_has.1.desc).map (fun d => d.parameters.length) = some 2 := by decide +kernel
theorem np_X12_has : (parseMethodDescriptor mm_X12_has.1.desc).map (fun d => d.parameters.length) = some 2 := by decide +kernel
theorem np_X11_cells : (parseMethodDescriptor mm_X11_cells.1.desc).map (fun d => d.parameters.length) = some 1 := by decide +kernel
theorem hx_L_cells_0 : tq_hdP mm_L_cells 4 "java/lang/IllegalArgumentException" 12 := ⟨[], ⟨0, 9, 12, 13⟩, [], "java/lang/IllegalArgumentException", rfl, (fun _ h => nomatch h), by decide +kernel, by decide, tq_i5 73 rfl, tq_i5 83 rfl, rfl⟩
theorem np_L_cells : (parseMethodDescriptor mm_L_cells.1.desc).map (fun d => d.parameters.length) = some 3 := by decide +kernel
theorem np_X12_cells : (parseMethodDescriptor mm_X12_cells.1.desc).map (fun d => d.parameters.length) = some 1 := by decide +kernel
theorem np_X11_roll : (parseMethodDescriptor mm_X11_roll.1.desc).map (fun d => d.parameters.length) = some 1 := by decide +kernel
theorem hx_L_roll_0 : tq_hdP mm_L_roll 4 "java/lang/UnsupportedOperationException" 19 := ⟨[], ⟨0, 16, 19, 31⟩, [], "java/lang/UnsupportedOperationException", rfl, (fun _ h => nomatch h), by decide +kernel, by decide, tq_i6 4 rfl, tq_i6 15 rfl, rfl⟩
theorem np_L_roll : (parseMethodDescriptor mm_L_roll.1.desc).map (fun d => d.parameters.length) = some 3 := by decide +kernel
theorem np_X12_roll : (parseMethodDescriptor mm_X12_roll.1.desc).map (fun d => d.parameters.length) = some 1 := by decide +kernel
theorem np_X11_fill : (parseMethodDescriptor mm_X11_fill.1.desc).map (fun d => d.parameters.length) = some 2 := by decide +kernel
theorem hx_L_fill_0 : tq_hdP mm_L_fill 5 "java/lang/IndexOutOfBoundsException" 13 := ⟨[], ⟨0, 10, 13, 22⟩, [], "java/lang/IndexOutOfBoundsException", rfl, (fun _ h => nomatch h), by decide +kernel, by decide, tq_i5 184 rfl, tq_i5 214 rfl, rfl⟩
theorem np_L_fill : (parseMethodDescriptor mm_L_fill.1.desc).map (fun d => d.parameters.length) = some 4 := by decide +kernel
theorem np_X12_fill : (parseMethodDescriptor mm_X12_fill.1.desc).map (fun d => d.parameters.length) = some 2 := by decide +kernel
theorem np_X11_cut : (parseMethodDescriptor mm_X11_cut.1.desc).map (fun d => d.parameters.length) = some 2 := by decide +kernel
theorem hx_L_cut_0 : tq_hdP mm_L_cut 5 "java/lang/IndexOutOfBoundsException" 13 := ⟨[], ⟨0, 10, 13, 22⟩, [], "java/lang/IndexOutOfBoundsException", rfl, (fun _ h => nomatch h), by decide +kernel, by decide, tq_i5 184 rfl, tq_i5 214 rfl, rfl⟩
theorem np_L_cut : (parseMethodDescriptor mm_L_cut.1.desc).map (fun d => d.parameters.length) = some 4 := by decide +kernel
theorem np_X12_cut : (parseMethodDescriptor mm_X12_cut.1.desc).map (fun d => d.parameters.length) = some 2 := by decide +kernel
theorem np_X11_form : (parseMethodDescriptor mm_X11_form.1.desc).map (fun d => d.parameters.length) = some 2 := by decide +kernel
theorem hx_L_form_0 : tq_hdP mm_L_form 5 "java/lang/IllegalArgumentException" 13 := ⟨[], ⟨0, 10, 13, 13⟩, [], "java/lang/IllegalArgumentException", rfl, (fun _ h => nomatch h), by decide +kernel, by decide, tq_i5 73 rfl, tq_i5 83 rfl, rfl⟩
theorem np_L_form : (parseMethodDescriptor mm_L_form.1.desc).map (fun d => d.parameters.length) = some 4 := by decide +kernel
theorem np_X12_form : (parseMethodDescriptor mm_X12_form.1.desc).map (fun d => d.parameters.length) = some 2 := by decide +kernel
theorem np_X11_board : (parseMethodDescriptor mm_X11_board.1.desc).map (fun d => d.parameters.length) = some 2 := by decide +kernel
theorem hx_L_board_0 : tq_hdP mm_L_board 5 "java/lang/IllegalArgumentException" 13 := ⟨[], ⟨0, 10, 13, 13⟩, [], "java/lang/IllegalArgumentException", rfl, (fun _ h => nomatch h), by decide +kernel, by decide, tq_i5 73 rfl, tq_i5 83 rfl, rfl⟩
theorem np_L_board : (parseMethodDescriptor mm_L_board.1.desc).map (fun d => d.parameters.length) = some 4 := by decide +kernel
theorem np_X12_board : (parseMethodDescriptor mm_X12_board.1.desc).map (fun d => d.parameters.length) = some 2 := by decide +kernel
