/-! ===== the constructors ===== -/
def tq_zz : tq_S := (fun _ => 0, fun _ => 0, fun _ _ => 0, fun _ _ => 0, fun _ _ => 0)
theorem ni_def {t : Nat} (ht : t < 4) (N : Nat) (cA : ClassId) : vp_cell cA (N, tq_ct tq_zz 0 t) = arrV cA N (fun _ => defaultValue (tq_ty t)) := by
  rcases (show t = 0 ∨ t = 1 ∨ t = 2 ∨ t = 3 by omega) with rfl | rfl | rfl | rfl <;> rfl
theorem ni_arr {p : Program} {l : Launch} {e : Env} {R : Room} {s : State} {m : MethodId} {args : Array Value} {below : List Frame} {meth : Method} {c : Code} {H H0 : Heap} {locs : List Loc} {cells slots : Nat} {Q : State → Prop} {ls : Array Slot} {rest : List Value} {pc : Nat} {cc : ByteArray} {A : Nat → Prop} {D : va_G} {ws : va_W} {dA : Nat → ClassId} (hx : p.tables.exec = Jvm.exec) (hb : c.code = cc) {atype : ArrayType} {t : Nat} (ht : t < 4) (hty : newarray.typeOf atype = tq_ty t) (harr : (Cond.arrayClass (newarray.typeOf atype)).before args s = true) (hK : va_K D tq_cl (tq_tys dA) s) (hP : va_P D tq_cl ws H) (hD : va_D A ws) (hS : va_S A H0 H locs) (hA : ∀ q, H0.size ≤ q → A q) {n : Int32} {N : Nat} (hn : ¬ n < 0) (hN : n.toNatClampNeg = N) (hbytes : N * componentBytes (tq_ty t) ≤ 536870912) (hcells : cells + 1 ≤ R.cells) (hslots : slots + N ≤ R.slots) (hdg : decode cc pc = .ok (.newarray atype, 2)) (kk : ∀ (q : Nat) (H1 : Heap), va_P D tq_cl (ws ++ [(q, .inl (dA t, (N, tq_ct tq_zz 0 t)))]) H1 → va_D A (ws ++ [(q, .inl (dA t, (N, tq_ct tq_zz 0 t)))]) → va_S A H0 H1 locs → W p l e R s m args below meth c H1 locs (cells + 1) (slots + N) Q (F0 m (pc + 2) ls (.ref q :: rest))) : W p l e R s m args below meth c H locs cells slots Q (F0 m pc ls (.int n :: rest)) := by
  refine va_newa (a0 := (N, tq_ct tq_zz 0 t)) hx hb harr hty hK hP hD hS hA (ni_def ht N) hn hN hbytes hcells hslots hdg (fun q cA H1 hK2 hP hD hS => ?_)
  have h1 : va_RA s cA (tq_ty t) := (hK2.2 4 (cA, tq_ty t) rfl).2
  have h2 : va_RA s (dA t) (tq_ty t) := (hK.2 t _ (tq_tys_get dA ht)).2
  have e : cA = dA t := by
    rcases (show t = 0 ∨ t = 1 ∨ t = 2 ∨ t = 3 by omega) with rfl | rfl | rfl | rfl <;> exact Option.some.inj (Eq.trans (Eq.symm h1) h2)
  subst e
  exact kk q H1 hP hD hS
theorem ids_X1 : ∀ j, j < 5 → defaultValue (tyX1 j) = vp_V [.int 0, .int 0, .int 0, .long 0, .int 0] j := fun j => match j with
  | 0 => fun _ => rfl
  | 1 => fun _ => rfl
  | 2 => fun _ => rfl
  | 3 => fun _ => rfl
  | 4 => fun _ => rfl
  | _ + 5 => fun h => absurd h (by omega)
theorem ids_X5 : ∀ j, j < 10 → defaultValue (tyX5 j) = vp_V [.null, .null, .null, .null, .null, .null, .int 0, .int 0, .long 0, .long 0] j := fun j => match j with
  | 0 => fun _ => rfl
  | 1 => fun _ => rfl
  | 2 => fun _ => rfl
  | 3 => fun _ => rfl
  | 4 => fun _ => rfl
  | 5 => fun _ => rfl
  | 6 => fun _ => rfl
  | 7 => fun _ => rfl
  | 8 => fun _ => rfl
  | 9 => fun _ => rfl
  | _ + 10 => fun h => absurd h (by omega)
theorem ids_X2 : ∀ j, j < 11 → defaultValue (tyX2 j) = vp_V [.null, .null, .null, .null, .int 0, .long 0, .long 0, .int 0, .long 0, .long 0, .int 0] j := fun j => match j with
  | 0 => fun _ => rfl
  | 1 => fun _ => rfl
  | 2 => fun _ => rfl
  | 3 => fun _ => rfl
  | 4 => fun _ => rfl
  | 5 => fun _ => rfl
  | 6 => fun _ => rfl
  | 7 => fun _ => rfl
  | 8 => fun _ => rfl
  | 9 => fun _ => rfl
  | 10 => fun _ => rfl
  | _ + 11 => fun h => absurd h (by omega)
theorem ids_X7 : ∀ j, j < 6 → defaultValue (tyX7 j) = vp_V [.null, .null, .null, .null, .long 0, .long 0] j := fun j => match j with
  | 0 => fun _ => rfl
  | 1 => fun _ => rfl
  | 2 => fun _ => rfl
  | 3 => fun _ => rfl
  | 4 => fun _ => rfl
  | 5 => fun _ => rfl
  | _ + 6 => fun h => absurd h (by omega)
theorem ids_X3 : ∀ j, j < 2 → defaultValue (tyX3 j) = vp_V [.null, .null] j := fun j => match j with
  | 0 => fun _ => rfl
  | 1 => fun _ => rfl
  | _ + 2 => fun h => absurd h (by omega)
theorem ids_X9 : ∀ j, j < 8 → defaultValue (tyX9 j) = vp_V [.null, .null, .null, .null, .int 0, .long 0, .long 0, .long 0] j := fun j => match j with
  | 0 => fun _ => rfl
  | 1 => fun _ => rfl
  | 2 => fun _ => rfl
  | 3 => fun _ => rfl
  | 4 => fun _ => rfl
  | 5 => fun _ => rfl
  | 6 => fun _ => rfl
  | 7 => fun _ => rfl
  | _ + 8 => fun h => absurd h (by omega)
theorem ids_X8 : ∀ j, j < 7 → defaultValue (tyX8 j) = vp_V [.null, .null, .null, .null, .long 0, .int 0, .int 0] j := fun j => match j with
  | 0 => fun _ => rfl
  | 1 => fun _ => rfl
  | 2 => fun _ => rfl
  | 3 => fun _ => rfl
  | 4 => fun _ => rfl
  | 5 => fun _ => rfl
  | 6 => fun _ => rfl
  | _ + 7 => fun h => absurd h (by omega)
theorem ids_X4 : ∀ j, j < 19 → defaultValue (tyX4 j) = vp_V [.null, .null, .null, .null, .null, .null, .null, .null, .null, .null, .null, .int 0, .int 0, .int 0, .int 0, .int 0, .int 0, .long 0, .long 0] j := fun j => match j with
  | 0 => fun _ => rfl
  | 1 => fun _ => rfl
  | 2 => fun _ => rfl
  | 3 => fun _ => rfl
  | 4 => fun _ => rfl
  | 5 => fun _ => rfl
  | 6 => fun _ => rfl
  | 7 => fun _ => rfl
  | 8 => fun _ => rfl
  | 9 => fun _ => rfl
  | 10 => fun _ => rfl
  | 11 => fun _ => rfl
  | 12 => fun _ => rfl
  | 13 => fun _ => rfl
  | 14 => fun _ => rfl
  | 15 => fun _ => rfl
  | 16 => fun _ => rfl
  | 17 => fun _ => rfl
  | 18 => fun _ => rfl
  | _ + 19 => fun h => absurd h (by omega)
theorem ids_X6 : ∀ j, j < 3 → defaultValue (tyX6 j) = vp_V [.null, .null, .null] j := fun j => match j with
  | 0 => fun _ => rfl
  | 1 => fun _ => rfl
  | 2 => fun _ => rfl
  | _ + 3 => fun h => absurd h (by omega)
theorem ids_X10 : ∀ j, j < 5 → defaultValue (tyX10 j) = vp_V [.null, .null, .null, .null, .long 0] j := fun j => match j with
  | 0 => fun _ => rfl
  | 1 => fun _ => rfl
  | 2 => fun _ => rfl
  | 3 => fun _ => rfl
  | 4 => fun _ => rfl
  | _ + 5 => fun h => absurd h (by omega)
theorem ids_X0 : ∀ j, j < 3 → defaultValue (tyX0 j) = vp_V [.null, .int 0, .int 0] j := fun j => match j with
  | 0 => fun _ => rfl
  | 1 => fun _ => rfl
  | 2 => fun _ => rfl
  | _ + 3 => fun h => absurd h (by omega)
abbrev mi_X1 : tq_MD := (yX1_init, cX1_init, 1, none, [], 1)
theorem mic_X1 : tq_cw mi_X1 ∈ lw_tbl := tq_i1 39 rfl
theorem mil_X1 : ∀ w ∈ u_ws RX1 TX1 5, w ∈ tq_TS := tq_lays_good tq_cl_X1.1
theorem di_X1_0 : decode cX1_init 0 = .ok (.aload_n 0, 1) := by decide +kernel
theorem di_X1_1 : decode cX1_init 1 = .ok (.invokespecial 1, 3) := by decide +kernel
theorem ik_40 : (.methodLink RX1 1 objectInit : Cond) ∈ lw_tbl := tq_i1 40 rfl
theorem ik_33 : (.instanceMethod objectInit : Cond) ∈ lw_tbl := tq_i1 33 rfl
theorem ik_34 : (.code objectInit ⟨#[0xb1]⟩ 1 none : Cond) ∈ lw_tbl := tq_i1 34 rfl
theorem di_X1_4 : decode cX1_init 4 = .ok (.aload_n 0, 1) := by decide +kernel
theorem di_X1_5 : decode cX1_init 5 = .ok (.iconst 1, 1) := by decide +kernel
theorem di_X1_6 : decode cX1_init 6 = .ok (.putfield 7, 3) := by decide +kernel
theorem ik_41 : (.fieldLink RX1 7 RX1 "width" "I" : Cond) ∈ lw_tbl := tq_i1 41 rfl
theorem di_X1_9 : decode cX1_init 9 = .ok (.aload_n 0, 1) := by decide +kernel
theorem di_X1_10 : decode cX1_init 10 = .ok (.iconst 1, 1) := by decide +kernel
theorem di_X1_11 : decode cX1_init 11 = .ok (.putfield 13, 3) := by decide +kernel
theorem ik_48 : (.fieldLink RX1 13 RX1 "height" "I" : Cond) ∈ lw_tbl := tq_i1 48 rfl
theorem di_X1_14 : decode cX1_init 14 = .ok (.aload_n 0, 1) := by decide +kernel
theorem di_X1_15 : decode cX1_init 15 = .ok (.iconst 0, 1) := by decide +kernel
theorem di_X1_16 : decode cX1_init 16 = .ok (.putfield 16, 3) := by decide +kernel
theorem ik_55 : (.fieldLink RX1 16 RX1 "isRolled" "Z" : Cond) ∈ lw_tbl := tq_i1 55 rfl
theorem di_X1_19 : decode cX1_init 19 = .ok (.aload_n 0, 1) := by decide +kernel
theorem di_X1_20 : decode cX1_init 20 = .ok (.lconst 0, 1) := by decide +kernel
theorem di_X1_21 : decode cX1_init 21 = .ok (.putfield 20, 3) := by decide +kernel
theorem ik_60 : (.fieldLink RX1 20 RX1 "cells" "J" : Cond) ∈ lw_tbl := tq_i1 60 rfl
theorem di_X1_24 : decode cX1_init 24 = .ok (.aload_n 0, 1) := by decide +kernel
theorem di_X1_25 : decode cX1_init 25 = .ok (.iconst 0, 1) := by decide +kernel
theorem di_X1_26 : decode cX1_init 26 = .ok (.putfield 24, 3) := by decide +kernel
theorem ik_66 : (.fieldLink RX1 24 RX1 "changes" "I" : Cond) ∈ lw_tbl := tq_i1 66 rfl
theorem di_X1_29 : decode cX1_init 29 = .ok (.return_, 1) := by decide +kernel
set_option maxHeartbeats 8000000 in
set_option maxRecDepth 100000 in
theorem ci_X1 (l : Launch) (D : va_G) (dA : Nat → ClassId) (h0 : Nat) (sz : Nat) : Met l yX1_init (tq_ws mi_X1) ({ frames := 2, cells := 0, slots := 0, locals := 60 }) (va_Pc [.ref h0] (fun U => U.heap.size = sz ∧ va_P D tq_cl [(h0, .inr (1, [.int 0, .int 0, .int 0, .long 0, .int 0]))] U.heap ∧ va_K D tq_cl (tq_tys dA) U ∧ va_D (fun _ => True) [(h0, .inr (1, [.int 0, .int 0, .int 0, .long 0, .int 0]))])) (va_Qv (fun _ : Unit => True) (fun _ t => va_P D tq_cl [(h0, .inr (1, [.int 1, .int 1, .int 0, .long 0, .int 0]))] t.heap ∧ va_K D tq_cl (tq_tys dA) t ∧ va_D (va_A [(h0, .inr (1, [.int 0, .int 0, .int 0, .long 0, .int 0]))] sz) [(h0, .inr (1, [.int 1, .int 1, .int 0, .long 0, .int 0]))]) (va_A [(h0, .inr (1, [.int 0, .int 0, .int 0, .long 0, .int 0]))] sz)) 0 0 (va_A [(h0, .inr (1, [.int 0, .int 0, .int 0, .long 0, .int 0]))] sz) := by
  refine Met.ofW (cc := cX1_init) (maxL := 1) (ret := none) (by decide) rfl ?_
  intro p e s m args below meth c s₁ B hml hv
  obtain ⟨rfl, hsz, hP, hK, hD0⟩ := hv
  have hx := B.exec
  have hb := B.bytes
  have hr := B.returns
  have hts0 := atoms_spec (ws := tq_ws mi_X1) B.pre
  have hts : ∀ w ∈ tq_TS, w.before _ s = true := fun w hw => hts0 w (List.mem_cons_of_mem _ hw)
  have hw : ∀ w, w ∈ lw_tbl → goodWord w = true → w.before _ s = true := fun w h1 h2 => hts w (List.mem_filter.mpr ⟨h1, h2⟩)
  have hown : s.vm.findClass RX1 = some m.cls := findClass_of_methodNamed B.named
  have hin : meth.name = "<init>" := (name_of_methodNamed B.named B.method).1
  subst hsz
  have hD := hD0.self (sz := s.heap.size)
  generalize hAe : va_A [(h0, .inr (1, [.int 0, .int 0, .int 0, .long 0, .int 0]))] s.heap.size = A at hD ⊢
  have hA : ∀ q : Nat, s.heap.size ≤ q → A q := fun q h => by rw [← hAe]; exact Or.inr h
  have hS : va_S A s.heap s.heap [] := va_S.rf
  have hP : va_P D tq_cl [(h0, .inr (1, [.int 0, .int 0, .int 0, .long 0, .int 0]))] s.heap := hP
  have hl := lv_entry ([.ref h0]) (n := 1) (Nat.le_of_ble_eq_true rfl)
  rw [lg_entry_eq]
  generalize (lg_sl ([.ref h0]) ++ List.replicate (1 - (lg_sl ([.ref h0])).length) Slot.unset).toArray = ls at hl ⊢
  have hl : lv_has ls 1 [(0, .ref h0)] := hl
  refine lv_aload_n hx hb di_X1_0 rfl (lv_at hl 0 rfl) ?_
  refine W.objInit hx hb hown (hw _ ik_40 rfl) (hw _ ik_33 rfl) (hw _ ik_34 rfl) rfl (by rw [hml]; exact hl.1) rfl di_X1_1 (Nat.le_of_ble_eq_true rfl) (Nat.le_of_ble_eq_true rfl) ?_
  refine W.eq (g2 := F0 m 4 ls []) rfl ?_
  refine lv_aload_n hx hb di_X1_4 rfl (lv_at hl 0 rfl) ?_
  refine lv_iconst (v := 1) hx hb di_X1_5 (by decide) ?_
  refine va_put (D := D) (ci := 1) (v := .int 1) (ty := .int) (C := RX1) (T := TX1) (N := 5) hx hb hts mil_X1 tyX1 tyX1_ok nmX1 hown hK hP hD hS 0 rfl rfl 0 (by decide) (hw _ ik_41 rfl) (fun _ h9 => h9) rfl rfl rfl rfl (Nat.le_of_ble_eq_true rfl) di_X1_6 (fun H locs hP hD hS => ?_)
  have hP : va_P D tq_cl [(h0, .inr (1, [.int 1, .int 0, .int 0, .long 0, .int 0]))] H := hP
  have hD : va_D A [(h0, .inr (1, [.int 1, .int 0, .int 0, .long 0, .int 0]))] := hD
  refine lv_aload_n hx hb di_X1_9 rfl (lv_at hl 0 rfl) ?_
  refine lv_iconst (v := 1) hx hb di_X1_10 (by decide) ?_
  refine va_put (D := D) (ci := 1) (v := .int 1) (ty := .int) (C := RX1) (T := TX1) (N := 5) hx hb hts mil_X1 tyX1 tyX1_ok nmX1 hown hK hP hD hS 0 rfl rfl 1 (by decide) (hw _ ik_48 rfl) (fun _ h9 => h9) rfl rfl rfl rfl (Nat.le_of_ble_eq_true rfl) di_X1_11 (fun H locs hP hD hS => ?_)
  have hP : va_P D tq_cl [(h0, .inr (1, [.int 1, .int 1, .int 0, .long 0, .int 0]))] H := hP
  have hD : va_D A [(h0, .inr (1, [.int 1, .int 1, .int 0, .long 0, .int 0]))] := hD
  refine lv_aload_n hx hb di_X1_14 rfl (lv_at hl 0 rfl) ?_
  refine lv_iconst (v := 0) hx hb di_X1_15 (by decide) ?_
  refine va_put (D := D) (ci := 1) (v := .int 0) (ty := .boolean) (C := RX1) (T := TX1) (N := 5) hx hb hts mil_X1 tyX1 tyX1_ok nmX1 hown hK hP hD hS 0 rfl rfl 2 (by decide) (hw _ ik_55 rfl) (fun _ h9 => h9) rfl rfl rfl rfl (Nat.le_of_ble_eq_true rfl) di_X1_16 (fun H locs hP hD hS => ?_)
  have hP : va_P D tq_cl [(h0, .inr (1, [.int 1, .int 1, .int 0, .long 0, .int 0]))] H := hP
  have hD : va_D A [(h0, .inr (1, [.int 1, .int 1, .int 0, .long 0, .int 0]))] := hD
  refine lv_aload_n hx hb di_X1_19 rfl (lv_at hl 0 rfl) ?_
  refine lv_lconst (v := 0) hx hb di_X1_20 (by decide) ?_
  refine va_put (D := D) (ci := 1) (v := .long 0) (ty := .long) (C := RX1) (T := TX1) (N := 5) hx hb hts mil_X1 tyX1 tyX1_ok nmX1 hown hK hP hD hS 0 rfl rfl 3 (by decide) (hw _ ik_60 rfl) (fun _ h9 => h9) rfl rfl rfl rfl (Nat.le_of_ble_eq_true rfl) di_X1_21 (fun H locs hP hD hS => ?_)
  have hP : va_P D tq_cl [(h0, .inr (1, [.int 1, .int 1, .int 0, .long 0, .int 0]))] H := hP
  have hD : va_D A [(h0, .inr (1, [.int 1, .int 1, .int 0, .long 0, .int 0]))] := hD
  refine lv_aload_n hx hb di_X1_24 rfl (lv_at hl 0 rfl) ?_
  refine lv_iconst (v := 0) hx hb di_X1_25 (by decide) ?_
  refine va_put (D := D) (ci := 1) (v := .int 0) (ty := .int) (C := RX1) (T := TX1) (N := 5) hx hb hts mil_X1 tyX1 tyX1_ok nmX1 hown hK hP hD hS 0 rfl rfl 4 (by decide) (hw _ ik_66 rfl) (fun _ h9 => h9) rfl rfl rfl rfl (Nat.le_of_ble_eq_true rfl) di_X1_26 (fun H locs hP hD hS => ?_)
  have hP : va_P D tq_cl [(h0, .inr (1, [.int 1, .int 1, .int 0, .long 0, .int 0]))] H := hP
  have hD : va_D A [(h0, .inr (1, [.int 1, .int 1, .int 0, .long 0, .int 0]))] := hD
  exact W.vret hx hb hr (fun t ht hW => ⟨⟨(), rfl, trivial, by rw [ht]; exact hP, va_K.moved hW.alike hK, hD⟩, hS.F ht⟩) hS.2.2 di_X1_29
abbrev mi_X5 : tq_MD := (yX5_init, cX5_init, 2, none, [], 5)
theorem mic_X5 : tq_cw mi_X5 ∈ lw_tbl := tq_i1 85 rfl
theorem mil_X5 : ∀ w ∈ u_ws RX5 TX5 10, w ∈ tq_TS := tq_lays_good tq_cl_X5.1
theorem di_X5_0 : decode cX5_init 0 = .ok (.aload_n 0, 1) := by decide +kernel
theorem di_X5_1 : decode cX5_init 1 = .ok (.invokespecial 1, 3) := by decide +kernel
theorem ik_86 : (.methodLink RX5 1 objectInit : Cond) ∈ lw_tbl := tq_i1 86 rfl
theorem di_X5_4 : decode cX5_init 4 = .ok (.aload_n 0, 1) := by decide +kernel
theorem di_X5_5 : decode cX5_init 5 = .ok (.aload_n 1, 1) := by decide +kernel
theorem di_X5_6 : decode cX5_init 6 = .ok (.putfield 7, 3) := by decide +kernel
theorem ik_87 : (.fieldLink RX5 7 RX5 "board" "LTilecount$Board;" : Cond) ∈ lw_tbl := tq_i1 87 rfl
theorem di_X5_9 : decode cX5_init 9 = .ok (.aload_n 0, 1) := by decide +kernel
theorem di_X5_10 : decode cX5_init 10 = .ok (.sipush 2304, 3) := by decide +kernel
theorem di_X5_13 : decode cX5_init 13 = .ok (.newarray .long, 2) := by decide +kernel
theorem ik_120 : (.arrayClass .long : Cond) ∈ lw_tbl := tq_i1 120 rfl
theorem di_X5_15 : decode cX5_init 15 = .ok (.putfield 15, 3) := by decide +kernel
theorem ik_88 : (.fieldLink RX5 15 RX5 "fromRow" "[J" : Cond) ∈ lw_tbl := tq_i1 88 rfl
theorem di_X5_18 : decode cX5_init 18 = .ok (.aload_n 0, 1) := by decide +kernel
theorem di_X5_19 : decode cX5_init 19 = .ok (.sipush 4608, 3) := by decide +kernel
theorem di_X5_22 : decode cX5_init 22 = .ok (.newarray .long, 2) := by decide +kernel
theorem di_X5_24 : decode cX5_init 24 = .ok (.putfield 19, 3) := by decide +kernel
theorem ik_89 : (.fieldLink RX5 19 RX5 "fromCell" "[J" : Cond) ∈ lw_tbl := tq_i1 89 rfl
theorem di_X5_27 : decode cX5_init 27 = .ok (.aload_n 0, 1) := by decide +kernel
theorem di_X5_28 : decode cX5_init 28 = .ok (.sipush 512, 3) := by decide +kernel
theorem di_X5_31 : decode cX5_init 31 = .ok (.newarray .long, 2) := by decide +kernel
theorem di_X5_33 : decode cX5_init 33 = .ok (.putfield 22, 3) := by decide +kernel
theorem ik_90 : (.fieldLink RX5 22 RX5 "come" "[J" : Cond) ∈ lw_tbl := tq_i1 90 rfl
theorem di_X5_36 : decode cX5_init 36 = .ok (.aload_n 0, 1) := by decide +kernel
theorem di_X5_37 : decode cX5_init 37 = .ok (.sipush 512, 3) := by decide +kernel
theorem di_X5_40 : decode cX5_init 40 = .ok (.newarray .long, 2) := by decide +kernel
theorem di_X5_42 : decode cX5_init 42 = .ok (.putfield 25, 3) := by decide +kernel
theorem ik_91 : (.fieldLink RX5 25 RX5 "go" "[J" : Cond) ∈ lw_tbl := tq_i1 91 rfl
theorem di_X5_45 : decode cX5_init 45 = .ok (.aload_n 0, 1) := by decide +kernel
theorem di_X5_46 : decode cX5_init 46 = .ok (.sipush 128, 3) := by decide +kernel
theorem di_X5_49 : decode cX5_init 49 = .ok (.newarray .long, 2) := by decide +kernel
theorem di_X5_51 : decode cX5_init 51 = .ok (.putfield 28, 3) := by decide +kernel
theorem ik_92 : (.fieldLink RX5 28 RX5 "having" "[J" : Cond) ∈ lw_tbl := tq_i1 92 rfl
theorem di_X5_54 : decode cX5_init 54 = .ok (.aload_n 0, 1) := by decide +kernel
theorem di_X5_55 : decode cX5_init 55 = .ok (.iconst (-1), 1) := by decide +kernel
theorem di_X5_56 : decode cX5_init 56 = .ok (.putfield 31, 3) := by decide +kernel
theorem ik_93 : (.fieldLink RX5 31 RX5 "countedAt" "I" : Cond) ∈ lw_tbl := tq_i1 93 rfl
theorem di_X5_59 : decode cX5_init 59 = .ok (.aload_n 0, 1) := by decide +kernel
theorem di_X5_60 : decode cX5_init 60 = .ok (.iconst (-1), 1) := by decide +kernel
theorem di_X5_61 : decode cX5_init 61 = .ok (.putfield 35, 3) := by decide +kernel
theorem ik_94 : (.fieldLink RX5 35 RX5 "sharedAt" "I" : Cond) ∈ lw_tbl := tq_i1 94 rfl
theorem di_X5_64 : decode cX5_init 64 = .ok (.aload_n 0, 1) := by decide +kernel
theorem di_X5_65 : decode cX5_init 65 = .ok (.lconst 0, 1) := by decide +kernel
theorem di_X5_66 : decode cX5_init 66 = .ok (.putfield 38, 3) := by decide +kernel
theorem ik_95 : (.fieldLink RX5 38 RX5 "madeRight" "J" : Cond) ∈ lw_tbl := tq_i1 95 rfl
theorem di_X5_69 : decode cX5_init 69 = .ok (.aload_n 0, 1) := by decide +kernel
theorem di_X5_70 : decode cX5_init 70 = .ok (.lconst 0, 1) := by decide +kernel
theorem di_X5_71 : decode cX5_init 71 = .ok (.putfield 42, 3) := by decide +kernel
theorem ik_97 : (.fieldLink RX5 42 RX5 "madeDown" "J" : Cond) ∈ lw_tbl := tq_i1 97 rfl
theorem di_X5_74 : decode cX5_init 74 = .ok (.return_, 1) := by decide +kernel
set_option maxHeartbeats 8000000 in
set_option maxRecDepth 100000 in
theorem ci_X5 (l : Launch) (D : va_G) (dA : Nat → ClassId) (h0 h1 : Nat) (sz : Nat) : Met l yX5_init (tq_ws mi_X5) ({ frames := 2, cells := 5, slots := 8064, locals := 60 }) (va_Pc [.ref h0, .ref h1] (fun U => U.heap.size = sz ∧ va_P D tq_cl [(h0, .inr (5, [.null, .null, .null, .null, .null, .null, .int 0, .int 0, .long 0, .long 0]))] U.heap ∧ va_K D tq_cl (tq_tys dA) U ∧ va_D (fun _ => True) [(h0, .inr (5, [.null, .null, .null, .null, .null, .null, .int 0, .int 0, .long 0, .long 0]))])) (va_Qv (fun _ : Unit => True) (fun _ t => ∃ (q13 q22 q31 q40 q49 : Nat), va_P D tq_cl [(h0, .inr (5, [.ref h1, .ref q13, .ref q22, .ref q31, .ref q40, .ref q49, .int (-1), .int (-1), .long 0, .long 0])), (q13, .inl (dA 3, (2304, tq_ct tq_zz 0 3))), (q22, .inl (dA 3, (4608, tq_ct tq_zz 0 3))), (q31, .inl (dA 3, (512, tq_ct tq_zz 0 3))), (q40, .inl (dA 3, (512, tq_ct tq_zz 0 3))), (q49, .inl (dA 3, (128, tq_ct tq_zz 0 3)))] t.heap ∧ va_K D tq_cl (tq_tys dA) t ∧ va_D (va_A [(h0, .inr (5, [.null, .null, .null, .null, .null, .null, .int 0, .int 0, .long 0, .long 0]))] sz) [(h0, .inr (5, [.ref h1, .ref q13, .ref q22, .ref q31, .ref q40, .ref q49, .int (-1), .int (-1), .long 0, .long 0])), (q13, .inl (dA 3, (2304, tq_ct tq_zz 0 3))), (q22, .inl (dA 3, (4608, tq_ct tq_zz 0 3))), (q31, .inl (dA 3, (512, tq_ct tq_zz 0 3))), (q40, .inl (dA 3, (512, tq_ct tq_zz 0 3))), (q49, .inl (dA 3, (128, tq_ct tq_zz 0 3)))]) (va_A [(h0, .inr (5, [.null, .null, .null, .null, .null, .null, .int 0, .int 0, .long 0, .long 0]))] sz)) 5 8064 (va_A [(h0, .inr (5, [.null, .null, .null, .null, .null, .null, .int 0, .int 0, .long 0, .long 0]))] sz) := by
  refine Met.ofW (cc := cX5_init) (maxL := 2) (ret := none) (by decide) rfl ?_
  intro p e s m args below meth c s₁ B hml hv
  obtain ⟨rfl, hsz, hP, hK, hD0⟩ := hv
  have hx := B.exec
  have hb := B.bytes
  have hr := B.returns
  have hts0 := atoms_spec (ws := tq_ws mi_X5) B.pre
  have hts : ∀ w ∈ tq_TS, w.before _ s = true := fun w hw => hts0 w (List.mem_cons_of_mem _ hw)
  have hw : ∀ w, w ∈ lw_tbl → goodWord w = true → w.before _ s = true := fun w h1 h2 => hts w (List.mem_filter.mpr ⟨h1, h2⟩)
  have hown : s.vm.findClass RX5 = some m.cls := findClass_of_methodNamed B.named
  have hin : meth.name = "<init>" := (name_of_methodNamed B.named B.method).1
  subst hsz
  have hD := hD0.self (sz := s.heap.size)
  generalize hAe : va_A [(h0, .inr (5, [.null, .null, .null, .null, .null, .null, .int 0, .int 0, .long 0, .long 0]))] s.heap.size = A at hD ⊢
  have hA : ∀ q : Nat, s.heap.size ≤ q → A q := fun q h => by rw [← hAe]; exact Or.inr h
  have hS : va_S A s.heap s.heap [] := va_S.rf
  have hP : va_P D tq_cl [(h0, .inr (5, [.null, .null, .null, .null, .null, .null, .int 0, .int 0, .long 0, .long 0]))] s.heap := hP
  have hl := lv_entry ([.ref h0, .ref h1]) (n := 2) (Nat.le_of_ble_eq_true rfl)
  rw [lg_entry_eq]
  generalize (lg_sl ([.ref h0, .ref h1]) ++ List.replicate (2 - (lg_sl ([.ref h0, .ref h1])).length) Slot.unset).toArray = ls at hl ⊢
  have hl : lv_has ls 2 [(0, .ref h0), (1, .ref h1)] := hl
  refine lv_aload_n hx hb di_X5_0 rfl (lv_at hl 0 rfl) ?_
  refine W.objInit hx hb hown (hw _ ik_86 rfl) (hw _ ik_33 rfl) (hw _ ik_34 rfl) rfl (by rw [hml]; exact hl.1) rfl di_X5_1 (Nat.le_of_ble_eq_true rfl) (Nat.le_of_ble_eq_true rfl) ?_
  refine W.eq (g2 := F0 m 4 ls []) rfl ?_
  refine lv_aload_n hx hb di_X5_4 rfl (lv_at hl 0 rfl) ?_
  refine lv_aload_n hx hb di_X5_5 rfl (lv_at hl 1 rfl) ?_
  refine va_putF (D := D) (ci := 5) (v := .ref h1) (ty := (.object "Tilecount$Board")) (C := RX5) (T := TX5) (N := 10) hx hb hts mil_X5 tyX5 tyX5_ok nmX5 hown hK hP hD hS 0 rfl rfl 0 (by decide) (hw _ ik_87 rfl) (fun _ h9 => h9) rfl hin rfl rfl rfl rfl (Nat.le_of_ble_eq_true rfl) di_X5_6 (fun H locs hP hD hS => ?_)
  have hP : va_P D tq_cl [(h0, .inr (5, [.ref h1, .null, .null, .null, .null, .null, .int 0, .int 0, .long 0, .long 0]))] H := hP
  have hD : va_D A [(h0, .inr (5, [.ref h1, .null, .null, .null, .null, .null, .int 0, .int 0, .long 0, .long 0]))] := hD
  refine lv_aload_n hx hb di_X5_9 rfl (lv_at hl 0 rfl) ?_
  refine lv_sipush (v := 2304) hx hb di_X5_10 (by decide) ?_
  refine ni_arr (t := 3) (N := 2304) (atype := .long) hx hb (by decide) rfl (hw _ ik_120 rfl) hK hP hD hS hA (by decide) (by decide) (Nat.le_of_ble_eq_true rfl) (Nat.le_of_ble_eq_true rfl) (Nat.le_of_ble_eq_true rfl) di_X5_13 (fun q13 H hP hD hS => ?_)
  refine W.widen (k := 1) (n := 2304) (Nat.le_of_ble_eq_true rfl) (Nat.le_of_ble_eq_true rfl) ?_
  have hP : va_P D tq_cl [(h0, .inr (5, [.ref h1, .null, .null, .null, .null, .null, .int 0, .int 0, .long 0, .long 0])), (q13, .inl (dA 3, (2304, tq_ct tq_zz 0 3)))] H := hP
  have hD : va_D A [(h0, .inr (5, [.ref h1, .null, .null, .null, .null, .null, .int 0, .int 0, .long 0, .long 0])), (q13, .inl (dA 3, (2304, tq_ct tq_zz 0 3)))] := hD
  refine va_putF (D := D) (ci := 5) (v := .ref q13) (ty := (.array .long)) (C := RX5) (T := TX5) (N := 10) hx hb hts mil_X5 tyX5 tyX5_ok nmX5 hown hK hP hD hS 0 rfl rfl 1 (by decide) (hw _ ik_88 rfl) (fun _ h9 => h9) rfl hin rfl rfl rfl rfl (Nat.le_of_ble_eq_true rfl) di_X5_15 (fun H locs hP hD hS => ?_)
  have hP : va_P D tq_cl [(h0, .inr (5, [.ref h1, .ref q13, .null, .null, .null, .null, .int 0, .int 0, .long 0, .long 0])), (q13, .inl (dA 3, (2304, tq_ct tq_zz 0 3)))] H := hP
  have hD : va_D A [(h0, .inr (5, [.ref h1, .ref q13, .null, .null, .null, .null, .int 0, .int 0, .long 0, .long 0])), (q13, .inl (dA 3, (2304, tq_ct tq_zz 0 3)))] := hD
  refine lv_aload_n hx hb di_X5_18 rfl (lv_at hl 0 rfl) ?_
  refine lv_sipush (v := 4608) hx hb di_X5_19 (by decide) ?_
  refine ni_arr (t := 3) (N := 4608) (atype := .long) hx hb (by decide) rfl (hw _ ik_120 rfl) hK hP hD hS hA (by decide) (by decide) (Nat.le_of_ble_eq_true rfl) (Nat.le_of_ble_eq_true rfl) (Nat.le_of_ble_eq_true rfl) di_X5_22 (fun q22 H hP hD hS => ?_)
  refine W.widen (k := 2) (n := 6912) (Nat.le_of_ble_eq_true rfl) (Nat.le_of_ble_eq_true rfl) ?_
  have hP : va_P D tq_cl [(h0, .inr (5, [.ref h1, .ref q13, .null, .null, .null, .null, .int 0, .int 0, .long 0, .long 0])), (q13, .inl (dA 3, (2304, tq_ct tq_zz 0 3))), (q22, .inl (dA 3, (4608, tq_ct tq_zz 0 3)))] H := hP
  have hD : va_D A [(h0, .inr (5, [.ref h1, .ref q13, .null, .null, .null, .null, .int 0, .int 0, .long 0, .long 0])), (q13, .inl (dA 3, (2304, tq_ct tq_zz 0 3))), (q22, .inl (dA 3, (4608, tq_ct tq_zz 0 3)))] := hD
  refine va_putF (D := D) (ci := 5) (v := .ref q22) (ty := (.array .long)) (C := RX5) (T := TX5) (N := 10) hx hb hts mil_X5 tyX5 tyX5_ok nmX5 hown hK hP hD hS 0 rfl rfl 2 (by decide) (hw _ ik_89 rfl) (fun _ h9 => h9) rfl hin rfl rfl rfl rfl (Nat.le_of_ble_eq_true rfl) di_X5_24 (fun H locs hP hD hS => ?_)
  have hP : va_P D tq_cl [(h0, .inr (5, [.ref h1, .ref q13, .ref q22, .null, .null, .null, .int 0, .int 0, .long 0, .long 0])), (q13, .inl (dA 3, (2304, tq_ct tq_zz 0 3))), (q22, .inl (dA 3, (4608, tq_ct tq_zz 0 3)))] H := hP
  have hD : va_D A [(h0, .inr (5, [.ref h1, .ref q13, .ref q22, .null, .null, .null, .int 0, .int 0, .long 0, .long 0])), (q13, .inl (dA 3, (2304, tq_ct tq_zz 0 3))), (q22, .inl (dA 3, (4608, tq_ct tq_zz 0 3)))] := hD
  refine lv_aload_n hx hb di_X5_27 rfl (lv_at hl 0 rfl) ?_
  refine lv_sipush (v := 512) hx hb di_X5_28 (by decide) ?_
  refine ni_arr (t := 3) (N := 512) (atype := .long) hx hb (by decide) rfl (hw _ ik_120 rfl) hK hP hD hS hA (by decide) (by decide) (Nat.le_of_ble_eq_true rfl) (Nat.le_of_ble_eq_true rfl) (Nat.le_of_ble_eq_true rfl) di_X5_31 (fun q31 H hP hD hS => ?_)
  refine W.widen (k := 3) (n := 7424) (Nat.le_of_ble_eq_true rfl) (Nat.le_of_ble_eq_true rfl) ?_
  have hP : va_P D tq_cl [(h0, .inr (5, [.ref h1, .ref q13, .ref q22, .null, .null, .null, .int 0, .int 0, .long 0, .long 0])), (q13, .inl (dA 3, (2304, tq_ct tq_zz 0 3))), (q22, .inl (dA 3, (4608, tq_ct tq_zz 0 3))), (q31, .inl (dA 3, (512, tq_ct tq_zz 0 3)))] H := hP
  have hD : va_D A [(h0, .inr (5, [.ref h1, .ref q13, .ref q22, .null, .null, .null, .int 0, .int 0, .long 0, .long 0])), (q13, .inl (dA 3, (2304, tq_ct tq_zz 0 3))), (q22, .inl (dA 3, (4608, tq_ct tq_zz 0 3))), (q31, .inl (dA 3, (512, tq_ct tq_zz 0 3)))] := hD
  refine va_putF (D := D) (ci := 5) (v := .ref q31) (ty := (.array .long)) (C := RX5) (T := TX5) (N := 10) hx hb hts mil_X5 tyX5 tyX5_ok nmX5 hown hK hP hD hS 0 rfl rfl 3 (by decide) (hw _ ik_90 rfl) (fun _ h9 => h9) rfl hin rfl rfl rfl rfl (Nat.le_of_ble_eq_true rfl) di_X5_33 (fun H locs hP hD hS => ?_)
  have hP : va_P D tq_cl [(h0, .inr (5, [.ref h1, .ref q13, .ref q22, .ref q31, .null, .null, .int 0, .int 0, .long 0, .long 0])), (q13, .inl (dA 3, (2304, tq_ct tq_zz 0 3))), (q22, .inl (dA 3, (4608, tq_ct tq_zz 0 3))), (q31, .inl (dA 3, (512, tq_ct tq_zz 0 3)))] H := hP
  have hD : va_D A [(h0, .inr (5, [.ref h1, .ref q13, .ref q22, .ref q31, .null, .null, .int 0, .int 0, .long 0, .long 0])), (q13, .inl (dA 3, (2304, tq_ct tq_zz 0 3))), (q22, .inl (dA 3, (4608, tq_ct tq_zz 0 3))), (q31, .inl (dA 3, (512, tq_ct tq_zz 0 3)))] := hD
  refine lv_aload_n hx hb di_X5_36 rfl (lv_at hl 0 rfl) ?_
  refine lv_sipush (v := 512) hx hb di_X5_37 (by decide) ?_
  refine ni_arr (t := 3) (N := 512) (atype := .long) hx hb (by decide) rfl (hw _ ik_120 rfl) hK hP hD hS hA (by decide) (by decide) (Nat.le_of_ble_eq_true rfl) (Nat.le_of_ble_eq_true rfl) (Nat.le_of_ble_eq_true rfl) di_X5_40 (fun q40 H hP hD hS => ?_)
  refine W.widen (k := 4) (n := 7936) (Nat.le_of_ble_eq_true rfl) (Nat.le_of_ble_eq_true rfl) ?_
  have hP : va_P D tq_cl [(h0, .inr (5, [.ref h1, .ref q13, .ref q22, .ref q31, .null, .null, .int 0, .int 0, .long 0, .long 0])), (q13, .inl (dA 3, (2304, tq_ct tq_zz 0 3))), (q22, .inl (dA 3, (4608, tq_ct tq_zz 0 3))), (q31, .inl (dA 3, (512, tq_ct tq_zz 0 3))), (q40, .inl (dA 3, (512, tq_ct tq_zz 0 3)))] H := hP
  have hD : va_D A [(h0, .inr (5, [.ref h1, .ref q13, .ref q22, .ref q31, .null, .null, .int 0, .int 0, .long 0, .long 0])), (q13, .inl (dA 3, (2304, tq_ct tq_zz 0 3))), (q22, .inl (dA 3, (4608, tq_ct tq_zz 0 3))), (q31, .inl (dA 3, (512, tq_ct tq_zz 0 3))), (q40, .inl (dA 3, (512, tq_ct tq_zz 0 3)))] := hD
  refine va_putF (D := D) (ci := 5) (v := .ref q40) (ty := (.array .long)) (C := RX5) (T := TX5) (N := 10) hx hb hts mil_X5 tyX5 tyX5_ok nmX5 hown hK hP hD hS 0 rfl rfl 4 (by decide) (hw _ ik_91 rfl) (fun _ h9 => h9) rfl hin rfl rfl rfl rfl (Nat.le_of_ble_eq_true rfl) di_X5_42 (fun H locs hP hD hS => ?_)
  have hP : va_P D tq_cl [(h0, .inr (5, [.ref h1, .ref q13, .ref q22, .ref q31, .ref q40, .null, .int 0, .int 0, .long 0, .long 0])), (q13, .inl (dA 3, (2304, tq_ct tq_zz 0 3))), (q22, .inl (dA 3, (4608, tq_ct tq_zz 0 3))), (q31, .inl (dA 3, (512, tq_ct tq_zz 0 3))), (q40, .inl (dA 3, (512, tq_ct tq_zz 0 3)))] H := hP
  have hD : va_D A [(h0, .inr (5, [.ref h1, .ref q13, .ref q22, .ref q31, .ref q40, .null, .int 0, .int 0, .long 0, .long 0])), (q13, .inl (dA 3, (2304, tq_ct tq_zz 0 3))), (q22, .inl (dA 3, (4608, tq_ct tq_zz 0 3))), (q31, .inl (dA 3, (512, tq_ct tq_zz 0 3))), (q40, .inl (dA 3, (512, tq_ct tq_zz 0 3)))] := hD
  refine lv_aload_n hx hb di_X5_45 rfl (lv_at hl 0 rfl) ?_
  refine lv_sipush (v := 128) hx hb di_X5_46 (by decide) ?_
  refine ni_arr (t := 3) (N := 128) (atype := .long) hx hb (by decide) rfl (hw _ ik_120 rfl) hK hP hD hS hA (by decide) (by decide) (Nat.le_of_ble_eq_true rfl) (Nat.le_of_ble_eq_true rfl) (Nat.le_of_ble_eq_true rfl) di_X5_49 (fun q49 H hP hD hS => ?_)
  refine W.widen (k := 5) (n := 8064) (Nat.le_of_ble_eq_true rfl) (Nat.le_of_ble_eq_true rfl) ?_
  have hP : va_P D tq_cl [(h0, .inr (5, [.ref h1, .ref q13, .ref q22, .ref q31, .ref q40, .null, .int 0, .int 0, .long 0, .long 0])), (q13, .inl (dA 3, (2304, tq_ct tq_zz 0 3))), (q22, .inl (dA 3, (4608, tq_ct tq_zz 0 3))), (q31, .inl (dA 3, (512, tq_ct tq_zz 0 3))), (q40, .inl (dA 3, (512, tq_ct tq_zz 0 3))), (q49, .inl (dA 3, (128, tq_ct tq_zz 0 3)))] H := hP
  have hD : va_D A [(h0, .inr (5, [.ref h1, .ref q13, .ref q22, .ref q31, .ref q40, .null, .int 0, .int 0, .long 0, .long 0])), (q13, .inl (dA 3, (2304, tq_ct tq_zz 0 3))), (q22, .inl (dA 3, (4608, tq_ct tq_zz 0 3))), (q31, .inl (dA 3, (512, tq_ct tq_zz 0 3))), (q40, .inl (dA 3, (512, tq_ct tq_zz 0 3))), (q49, .inl (dA 3, (128, tq_ct tq_zz 0 3)))] := hD
  refine va_putF (D := D) (ci := 5) (v := .ref q49) (ty := (.array .long)) (C := RX5) (T := TX5) (N := 10) hx hb hts mil_X5 tyX5 tyX5_ok nmX5 hown hK hP hD hS 0 rfl rfl 5 (by decide) (hw _ ik_92 rfl) (fun _ h9 => h9) rfl hin rfl rfl rfl rfl (Nat.le_of_ble_eq_true rfl) di_X5_51 (fun H locs hP hD hS => ?_)
  have hP : va_P D tq_cl [(h0, .inr (5, [.ref h1, .ref q13, .ref q22, .ref q31, .ref q40, .ref q49, .int 0, .int 0, .long 0, .long 0])), (q13, .inl (dA 3, (2304, tq_ct tq_zz 0 3))), (q22, .inl (dA 3, (4608, tq_ct tq_zz 0 3))), (q31, .inl (dA 3, (512, tq_ct tq_zz 0 3))), (q40, .inl (dA 3, (512, tq_ct tq_zz 0 3))), (q49, .inl (dA 3, (128, tq_ct tq_zz 0 3)))] H := hP
  have hD : va_D A [(h0, .inr (5, [.ref h1, .ref q13, .ref q22, .ref q31, .ref q40, .ref q49, .int 0, .int 0, .long 0, .long 0])), (q13, .inl (dA 3, (2304, tq_ct tq_zz 0 3))), (q22, .inl (dA 3, (4608, tq_ct tq_zz 0 3))), (q31, .inl (dA 3, (512, tq_ct tq_zz 0 3))), (q40, .inl (dA 3, (512, tq_ct tq_zz 0 3))), (q49, .inl (dA 3, (128, tq_ct tq_zz 0 3)))] := hD
  refine lv_aload_n hx hb di_X5_54 rfl (lv_at hl 0 rfl) ?_
  refine lv_iconst (v := (-1)) hx hb di_X5_55 (by decide) ?_
  refine va_put (D := D) (ci := 5) (v := .int (-1)) (ty := .int) (C := RX5) (T := TX5) (N := 10) hx hb hts mil_X5 tyX5 tyX5_ok nmX5 hown hK hP hD hS 0 rfl rfl 6 (by decide) (hw _ ik_93 rfl) (fun _ h9 => h9) rfl rfl rfl rfl (Nat.le_of_ble_eq_true rfl) di_X5_56 (fun H locs hP hD hS => ?_)
  have hP : va_P D tq_cl [(h0, .inr (5, [.ref h1, .ref q13, .ref q22, .ref q31, .ref q40, .ref q49, .int (-1), .int 0, .long 0, .long 0])), (q13, .inl (dA 3, (2304, tq_ct tq_zz 0 3))), (q22, .inl (dA 3, (4608, tq_ct tq_zz 0 3))), (q31, .inl (dA 3, (512, tq_ct tq_zz 0 3))), (q40, .inl (dA 3, (512, tq_ct tq_zz 0 3))), (q49, .inl (dA 3, (128, tq_ct tq_zz 0 3)))] H := hP
  have hD : va_D A [(h0, .inr (5, [.ref h1, .ref q13, .ref q22, .ref q31, .ref q40, .ref q49, .int (-1), .int 0, .long 0, .long 0])), (q13, .inl (dA 3, (2304, tq_ct tq_zz 0 3))), (q22, .inl (dA 3, (4608, tq_ct tq_zz 0 3))), (q31, .inl (dA 3, (512, tq_ct tq_zz 0 3))), (q40, .inl (dA 3, (512, tq_ct tq_zz 0 3))), (q49, .inl (dA 3, (128, tq_ct tq_zz 0 3)))] := hD
  refine lv_aload_n hx hb di_X5_59 rfl (lv_at hl 0 rfl) ?_
  refine lv_iconst (v := (-1)) hx hb di_X5_60 (by decide) ?_
  refine va_put (D := D) (ci := 5) (v := .int (-1)) (ty := .int) (C := RX5) (T := TX5) (N := 10) hx hb hts mil_X5 tyX5 tyX5_ok nmX5 hown hK hP hD hS 0 rfl rfl 7 (by decide) (hw _ ik_94 rfl) (fun _ h9 => h9) rfl rfl rfl rfl (Nat.le_of_ble_eq_true rfl) di_X5_61 (fun H locs hP hD hS => ?_)
  have hP : va_P D tq_cl [(h0, .inr (5, [.ref h1, .ref q13, .ref q22, .ref q31, .ref q40, .ref q49, .int (-1), .int (-1), .long 0, .long 0])), (q13, .inl (dA 3, (2304, tq_ct tq_zz 0 3))), (q22, .inl (dA 3, (4608, tq_ct tq_zz 0 3))), (q31, .inl (dA 3, (512, tq_ct tq_zz 0 3))), (q40, .inl (dA 3, (512, tq_ct tq_zz 0 3))), (q49, .inl (dA 3, (128, tq_ct tq_zz 0 3)))] H := hP
  have hD : va_D A [(h0, .inr (5, [.ref h1, .ref q13, .ref q22, .ref q31, .ref q40, .ref q49, .int (-1), .int (-1), .long 0, .long 0])), (q13, .inl (dA 3, (2304, tq_ct tq_zz 0 3))), (q22, .inl (dA 3, (4608, tq_ct tq_zz 0 3))), (q31, .inl (dA 3, (512, tq_ct tq_zz 0 3))), (q40, .inl (dA 3, (512, tq_ct tq_zz 0 3))), (q49, .inl (dA 3, (128, tq_ct tq_zz 0 3)))] := hD
  refine lv_aload_n hx hb di_X5_64 rfl (lv_at hl 0 rfl) ?_
  refine lv_lconst (v := 0) hx hb di_X5_65 (by decide) ?_
  refine va_put (D := D) (ci := 5) (v := .long 0) (ty := .long) (C := RX5) (T := TX5) (N := 10) hx hb hts mil_X5 tyX5 tyX5_ok nmX5 hown hK hP hD hS 0 rfl rfl 8 (by decide) (hw _ ik_95 rfl) (fun _ h9 => h9) rfl rfl rfl rfl (Nat.le_of_ble_eq_true rfl) di_X5_66 (fun H locs hP hD hS => ?_)
  have hP : va_P D tq_cl [(h0, .inr (5, [.ref h1, .ref q13, .ref q22, .ref q31, .ref q40, .ref q49, .int (-1), .int (-1), .long 0, .long 0])), (q13, .inl (dA 3, (2304, tq_ct tq_zz 0 3))), (q22, .inl (dA 3, (4608, tq_ct tq_zz 0 3))), (q31, .inl (dA 3, (512, tq_ct tq_zz 0 3))), (q40, .inl (dA 3, (512, tq_ct tq_zz 0 3))), (q49, .inl (dA 3, (128, tq_ct tq_zz 0 3)))] H := hP
  have hD : va_D A [(h0, .inr (5, [.ref h1, .ref q13, .ref q22, .ref q31, .ref q40, .ref q49, .int (-1), .int (-1), .long 0, .long 0])), (q13, .inl (dA 3, (2304, tq_ct tq_zz 0 3))), (q22, .inl (dA 3, (4608, tq_ct tq_zz 0 3))), (q31, .inl (dA 3, (512, tq_ct tq_zz 0 3))), (q40, .inl (dA 3, (512, tq_ct tq_zz 0 3))), (q49, .inl (dA 3, (128, tq_ct tq_zz 0 3)))] := hD
  refine lv_aload_n hx hb di_X5_69 rfl (lv_at hl 0 rfl) ?_
  refine lv_lconst (v := 0) hx hb di_X5_70 (by decide) ?_
  refine va_put (D := D) (ci := 5) (v := .long 0) (ty := .long) (C := RX5) (T := TX5) (N := 10) hx hb hts mil_X5 tyX5 tyX5_ok nmX5 hown hK hP hD hS 0 rfl rfl 9 (by decide) (hw _ ik_97 rfl) (fun _ h9 => h9) rfl rfl rfl rfl (Nat.le_of_ble_eq_true rfl) di_X5_71 (fun H locs hP hD hS => ?_)
  have hP : va_P D tq_cl [(h0, .inr (5, [.ref h1, .ref q13, .ref q22, .ref q31, .ref q40, .ref q49, .int (-1), .int (-1), .long 0, .long 0])), (q13, .inl (dA 3, (2304, tq_ct tq_zz 0 3))), (q22, .inl (dA 3, (4608, tq_ct tq_zz 0 3))), (q31, .inl (dA 3, (512, tq_ct tq_zz 0 3))), (q40, .inl (dA 3, (512, tq_ct tq_zz 0 3))), (q49, .inl (dA 3, (128, tq_ct tq_zz 0 3)))] H := hP
  have hD : va_D A [(h0, .inr (5, [.ref h1, .ref q13, .ref q22, .ref q31, .ref q40, .ref q49, .int (-1), .int (-1), .long 0, .long 0])), (q13, .inl (dA 3, (2304, tq_ct tq_zz 0 3))), (q22, .inl (dA 3, (4608, tq_ct tq_zz 0 3))), (q31, .inl (dA 3, (512, tq_ct tq_zz 0 3))), (q40, .inl (dA 3, (512, tq_ct tq_zz 0 3))), (q49, .inl (dA 3, (128, tq_ct tq_zz 0 3)))] := hD
  exact W.vret hx hb hr (fun t ht hW => ⟨⟨(), rfl, trivial, q13, q22, q31, q40, q49, by rw [ht]; exact hP, va_K.moved hW.alike hK, hD⟩, hS.F ht⟩) hS.2.2 di_X5_74
abbrev mi_X2 : tq_MD := (yX2_init, cX2_init, 2, none, [], 2)
theorem mic_X2 : tq_cw mi_X2 ∈ lw_tbl := tq_i1 125 rfl
theorem mil_X2 : ∀ w ∈ u_ws RX2 TX2 11, w ∈ tq_TS := tq_lays_good tq_cl_X2.1
theorem di_X2_0 : decode cX2_init 0 = .ok (.aload_n 0, 1) := by decide +kernel
theorem di_X2_1 : decode cX2_init 1 = .ok (.invokespecial 1, 3) := by decide +kernel
theorem ik_126 : (.methodLink RX2 1 objectInit : Cond) ∈ lw_tbl := tq_i1 126 rfl
theorem di_X2_4 : decode cX2_init 4 = .ok (.aload_n 0, 1) := by decide +kernel
theorem di_X2_5 : decode cX2_init 5 = .ok (.aload_n 1, 1) := by decide +kernel
theorem di_X2_6 : decode cX2_init 6 = .ok (.putfield 7, 3) := by decide +kernel
theorem ik_127 : (.fieldLink RX2 7 RX2 "board" "LTilecount$Board;" : Cond) ∈ lw_tbl := tq_i1 127 rfl
theorem di_X2_9 : decode cX2_init 9 = .ok (.aload_n 0, 1) := by decide +kernel
theorem di_X2_10 : decode cX2_init 10 = .ok (.bipush 10, 2) := by decide +kernel
theorem di_X2_12 : decode cX2_init 12 = .ok (.newarray .long, 2) := by decide +kernel
theorem di_X2_14 : decode cX2_init 14 = .ok (.putfield 13, 3) := by decide +kernel
theorem ik_128 : (.fieldLink RX2 13 RX2 "pastRight" "[J" : Cond) ∈ lw_tbl := tq_i1 128 rfl
theorem di_X2_17 : decode cX2_init 17 = .ok (.aload_n 0, 1) := by decide +kernel
theorem di_X2_18 : decode cX2_init 18 = .ok (.bipush 10, 2) := by decide +kernel
theorem di_X2_20 : decode cX2_init 20 = .ok (.newarray .long, 2) := by decide +kernel
theorem di_X2_22 : decode cX2_init 22 = .ok (.putfield 17, 3) := by decide +kernel
theorem ik_129 : (.fieldLink RX2 17 RX2 "pastDown" "[J" : Cond) ∈ lw_tbl := tq_i1 129 rfl
theorem di_X2_25 : decode cX2_init 25 = .ok (.aload_n 0, 1) := by decide +kernel
theorem di_X2_26 : decode cX2_init 26 = .ok (.bipush 10, 2) := by decide +kernel
theorem di_X2_28 : decode cX2_init 28 = .ok (.newarray .boolean, 2) := by decide +kernel
theorem ik_168 : (.arrayClass .boolean : Cond) ∈ lw_tbl := tq_i1 168 rfl
theorem di_X2_30 : decode cX2_init 30 = .ok (.putfield 20, 3) := by decide +kernel
theorem ik_130 : (.fieldLink RX2 20 RX2 "wasThere" "[Z" : Cond) ∈ lw_tbl := tq_i1 130 rfl
theorem di_X2_33 : decode cX2_init 33 = .ok (.aload_n 0, 1) := by decide +kernel
theorem di_X2_34 : decode cX2_init 34 = .ok (.iconst 0, 1) := by decide +kernel
theorem di_X2_35 : decode cX2_init 35 = .ok (.putfield 24, 3) := by decide +kernel
theorem ik_143 : (.fieldLink RX2 24 RX2 "past" "I" : Cond) ∈ lw_tbl := tq_i1 143 rfl
theorem di_X2_38 : decode cX2_init 38 = .ok (.aload_n 0, 1) := by decide +kernel
theorem di_X2_39 : decode cX2_init 39 = .ok (.iconst 0, 1) := by decide +kernel
theorem di_X2_40 : decode cX2_init 40 = .ok (.putfield 28, 3) := by decide +kernel
theorem ik_131 : (.fieldLink RX2 28 RX2 "isThere" "Z" : Cond) ∈ lw_tbl := tq_i1 131 rfl
theorem di_X2_43 : decode cX2_init 43 = .ok (.aload_n 0, 1) := by decide +kernel
theorem di_X2_44 : decode cX2_init 44 = .ok (.iconst 0, 1) := by decide +kernel
theorem di_X2_45 : decode cX2_init 45 = .ok (.putfield 32, 3) := by decide +kernel
theorem ik_137 : (.fieldLink RX2 32 RX2 "isKept" "Z" : Cond) ∈ lw_tbl := tq_i1 137 rfl
theorem di_X2_48 : decode cX2_init 48 = .ok (.return_, 1) := by decide +kernel
set_option maxHeartbeats 8000000 in
set_option maxRecDepth 100000 in
theorem ci_X2 (l : Launch) (D : va_G) (dA : Nat → ClassId) (h0 h1 : Nat) (sz : Nat) : Met l yX2_init (tq_ws mi_X2) ({ frames := 2, cells := 3, slots := 30, locals := 60 }) (va_Pc [.ref h0, .ref h1] (fun U => U.heap.size = sz ∧ va_P D tq_cl [(h0, .inr (2, [.null, .null, .null, .null, .int 0, .long 0, .long 0, .int 0, .long 0, .long 0, .int 0]))] U.heap ∧ va_K D tq_cl (tq_tys dA) U ∧ va_D (fun _ => True) [(h0, .inr (2, [.null, .null, .null, .null, .int 0, .long 0, .long 0, .int 0, .long 0, .long 0, .int 0]))])) (va_Qv (fun _ : Unit => True) (fun _ t => ∃ (q12 q20 q28 : Nat), va_P D tq_cl [(h0, .inr (2, [.ref h1, .ref q12, .ref q20, .ref q28, .int 0, .long 0, .long 0, .int 0, .long 0, .long 0, .int 0])), (q12, .inl (dA 3, (10, tq_ct tq_zz 0 3))), (q20, .inl (dA 3, (10, tq_ct tq_zz 0 3))), (q28, .inl (dA 1, (10, tq_ct tq_zz 0 1)))] t.heap ∧ va_K D tq_cl (tq_tys dA) t ∧ va_D (va_A [(h0, .inr (2, [.null, .null, .null, .null, .int 0, .long 0, .long 0, .int 0, .long 0, .long 0, .int 0]))] sz) [(h0, .inr (2, [.ref h1, .ref q12, .ref q20, .ref q28, .int 0, .long 0, .long 0, .int 0, .long 0, .long 0, .int 0])), (q12, .inl (dA 3, (10, tq_ct tq_zz 0 3))), (q20, .inl (dA 3, (10, tq_ct tq_zz 0 3))), (q28, .inl (dA 1, (10, tq_ct tq_zz 0 1)))]) (va_A [(h0, .inr (2, [.null, .null, .null, .null, .int 0, .long 0, .long 0, .int 0, .long 0, .long 0, .int 0]))] sz)) 3 30 (va_A [(h0, .inr (2, [.null, .null, .null, .null, .int 0, .long 0, .long 0, .int 0, .long 0, .long 0, .int 0]))] sz) := by
  refine Met.ofW (cc := cX2_init) (maxL := 2) (ret := none) (by decide) rfl ?_
  intro p e s m args below meth c s₁ B hml hv
  obtain ⟨rfl, hsz, hP, hK, hD0⟩ := hv
  have hx := B.exec
  have hb := B.bytes
  have hr := B.returns
  have hts0 := atoms_spec (ws := tq_ws mi_X2) B.pre
  have hts : ∀ w ∈ tq_TS, w.before _ s = true := fun w hw => hts0 w (List.mem_cons_of_mem _ hw)
  have hw : ∀ w, w ∈ lw_tbl → goodWord w = true → w.before _ s = true := fun w h1 h2 => hts w (List.mem_filter.mpr ⟨h1, h2⟩)
  have hown : s.vm.findClass RX2 = some m.cls := findClass_of_methodNamed B.named
  have hin : meth.name = "<init>" := (name_of_methodNamed B.named B.method).1
  subst hsz
  have hD := hD0.self (sz := s.heap.size)
  generalize hAe : va_A [(h0, .inr (2, [.null, .null, .null, .null, .int 0, .long 0, .long 0, .int 0, .long 0, .long 0, .int 0]))] s.heap.size = A at hD ⊢
  have hA : ∀ q : Nat, s.heap.size ≤ q → A q := fun q h => by rw [← hAe]; exact Or.inr h
  have hS : va_S A s.heap s.heap [] := va_S.rf
  have hP : va_P D tq_cl [(h0, .inr (2, [.null, .null, .null, .null, .int 0, .long 0, .long 0, .int 0, .long 0, .long 0, .int 0]))] s.heap := hP
  have hl := lv_entry ([.ref h0, .ref h1]) (n := 2) (Nat.le_of_ble_eq_true rfl)
  rw [lg_entry_eq]
  generalize (lg_sl ([.ref h0, .ref h1]) ++ List.replicate (2 - (lg_sl ([.ref h0, .ref h1])).length) Slot.unset).toArray = ls at hl ⊢
  have hl : lv_has ls 2 [(0, .ref h0), (1, .ref h1)] := hl
  refine lv_aload_n hx hb di_X2_0 rfl (lv_at hl 0 rfl) ?_
  refine W.objInit hx hb hown (hw _ ik_126 rfl) (hw _ ik_33 rfl) (hw _ ik_34 rfl) rfl (by rw [hml]; exact hl.1) rfl di_X2_1 (Nat.le_of_ble_eq_true rfl) (Nat.le_of_ble_eq_true rfl) ?_
  refine W.eq (g2 := F0 m 4 ls []) rfl ?_
  refine lv_aload_n hx hb di_X2_4 rfl (lv_at hl 0 rfl) ?_
  refine lv_aload_n hx hb di_X2_5 rfl (lv_at hl 1 rfl) ?_
  refine va_putF (D := D) (ci := 2) (v := .ref h1) (ty := (.object "Tilecount$Board")) (C := RX2) (T := TX2) (N := 11) hx hb hts mil_X2 tyX2 tyX2_ok nmX2 hown hK hP hD hS 0 rfl rfl 0 (by decide) (hw _ ik_127 rfl) (fun _ h9 => h9) rfl hin rfl rfl rfl rfl (Nat.le_of_ble_eq_true rfl) di_X2_6 (fun H locs hP hD hS => ?_)
  have hP : va_P D tq_cl [(h0, .inr (2, [.ref h1, .null, .null, .null, .int 0, .long 0, .long 0, .int 0, .long 0, .long 0, .int 0]))] H := hP
  have hD : va_D A [(h0, .inr (2, [.ref h1, .null, .null, .null, .int 0, .long 0, .long 0, .int 0, .long 0, .long 0, .int 0]))] := hD
  refine lv_aload_n hx hb di_X2_9 rfl (lv_at hl 0 rfl) ?_
  refine lv_bipush (v := 10) hx hb di_X2_10 (by decide) ?_
  refine ni_arr (t := 3) (N := 10) (atype := .long) hx hb (by decide) rfl (hw _ ik_120 rfl) hK hP hD hS hA (by decide) (by decide) (Nat.le_of_ble_eq_true rfl) (Nat.le_of_ble_eq_true rfl) (Nat.le_of_ble_eq_true rfl) di_X2_12 (fun q12 H hP hD hS => ?_)
  refine W.widen (k := 1) (n := 10) (Nat.le_of_ble_eq_true rfl) (Nat.le_of_ble_eq_true rfl) ?_
  have hP : va_P D tq_cl [(h0, .inr (2, [.ref h1, .null, .null, .null, .int 0, .long 0, .long 0, .int 0, .long 0, .long 0, .int 0])), (q12, .inl (dA 3, (10, tq_ct tq_zz 0 3)))] H := hP
  have hD : va_D A [(h0, .inr (2, [.ref h1, .null, .null, .null, .int 0, .long 0, .long 0, .int 0, .long 0, .long 0, .int 0])), (q12, .inl (dA 3, (10, tq_ct tq_zz 0 3)))] := hD
  refine va_putF (D := D) (ci := 2) (v := .ref q12) (ty := (.array .long)) (C := RX2) (T := TX2) (N := 11) hx hb hts mil_X2 tyX2 tyX2_ok nmX2 hown hK hP hD hS 0 rfl rfl 1 (by decide) (hw _ ik_128 rfl) (fun _ h9 => h9) rfl hin rfl rfl rfl rfl (Nat.le_of_ble_eq_true rfl) di_X2_14 (fun H locs hP hD hS => ?_)
  have hP : va_P D tq_cl [(h0, .inr (2, [.ref h1, .ref q12, .null, .null, .int 0, .long 0, .long 0, .int 0, .long 0, .long 0, .int 0])), (q12, .inl (dA 3, (10, tq_ct tq_zz 0 3)))] H := hP
  have hD : va_D A [(h0, .inr (2, [.ref h1, .ref q12, .null, .null, .int 0, .long 0, .long 0, .int 0, .long 0, .long 0, .int 0])), (q12, .inl (dA 3, (10, tq_ct tq_zz 0 3)))] := hD
  refine lv_aload_n hx hb di_X2_17 rfl (lv_at hl 0 rfl) ?_
  refine lv_bipush (v := 10) hx hb di_X2_18 (by decide) ?_
  refine ni_arr (t := 3) (N := 10) (atype := .long) hx hb (by decide) rfl (hw _ ik_120 rfl) hK hP hD hS hA (by decide) (by decide) (Nat.le_of_ble_eq_true rfl) (Nat.le_of_ble_eq_true rfl) (Nat.le_of_ble_eq_true rfl) di_X2_20 (fun q20 H hP hD hS => ?_)
  refine W.widen (k := 2) (n := 20) (Nat.le_of_ble_eq_true rfl) (Nat.le_of_ble_eq_true rfl) ?_
  have hP : va_P D tq_cl [(h0, .inr (2, [.ref h1, .ref q12, .null, .null, .int 0, .long 0, .long 0, .int 0, .long 0, .long 0, .int 0])), (q12, .inl (dA 3, (10, tq_ct tq_zz 0 3))), (q20, .inl (dA 3, (10, tq_ct tq_zz 0 3)))] H := hP
  have hD : va_D A [(h0, .inr (2, [.ref h1, .ref q12, .null, .null, .int 0, .long 0, .long 0, .int 0, .long 0, .long 0, .int 0])), (q12, .inl (dA 3, (10, tq_ct tq_zz 0 3))), (q20, .inl (dA 3, (10, tq_ct tq_zz 0 3)))] := hD
  refine va_putF (D := D) (ci := 2) (v := .ref q20) (ty := (.array .long)) (C := RX2) (T := TX2) (N := 11) hx hb hts mil_X2 tyX2 tyX2_ok nmX2 hown hK hP hD hS 0 rfl rfl 2 (by decide) (hw _ ik_129 rfl) (fun _ h9 => h9) rfl hin rfl rfl rfl rfl (Nat.le_of_ble_eq_true rfl) di_X2_22 (fun H locs hP hD hS => ?_)
  have hP : va_P D tq_cl [(h0, .inr (2, [.ref h1, .ref q12, .ref q20, .null, .int 0, .long 0, .long 0, .int 0, .long 0, .long 0, .int 0])), (q12, .inl (dA 3, (10, tq_ct tq_zz 0 3))), (q20, .inl (dA 3, (10, tq_ct tq_zz 0 3)))] H := hP
  have hD : va_D A [(h0, .inr (2, [.ref h1, .ref q12, .ref q20, .null, .int 0, .long 0, .long 0, .int 0, .long 0, .long 0, .int 0])), (q12, .inl (dA 3, (10, tq_ct tq_zz 0 3))), (q20, .inl (dA 3, (10, tq_ct tq_zz 0 3)))] := hD
  refine lv_aload_n hx hb di_X2_25 rfl (lv_at hl 0 rfl) ?_
  refine lv_bipush (v := 10) hx hb di_X2_26 (by decide) ?_
  refine ni_arr (t := 1) (N := 10) (atype := .boolean) hx hb (by decide) rfl (hw _ ik_168 rfl) hK hP hD hS hA (by decide) (by decide) (Nat.le_of_ble_eq_true rfl) (Nat.le_of_ble_eq_true rfl) (Nat.le_of_ble_eq_true rfl) di_X2_28 (fun q28 H hP hD hS => ?_)
  refine W.widen (k := 3) (n := 30) (Nat.le_of_ble_eq_true rfl) (Nat.le_of_ble_eq_true rfl) ?_
  have hP : va_P D tq_cl [(h0, .inr (2, [.ref h1, .ref q12, .ref q20, .null, .int 0, .long 0, .long 0, .int 0, .long 0, .long 0, .int 0])), (q12, .inl (dA 3, (10, tq_ct tq_zz 0 3))), (q20, .inl (dA 3, (10, tq_ct tq_zz 0 3))), (q28, .inl (dA 1, (10, tq_ct tq_zz 0 1)))] H := hP
  have hD : va_D A [(h0, .inr (2, [.ref h1, .ref q12, .ref q20, .null, .int 0, .long 0, .long 0, .int 0, .long 0, .long 0, .int 0])), (q12, .inl (dA 3, (10, tq_ct tq_zz 0 3))), (q20, .inl (dA 3, (10, tq_ct tq_zz 0 3))), (q28, .inl (dA 1, (10, tq_ct tq_zz 0 1)))] := hD
  refine va_putF (D := D) (ci := 2) (v := .ref q28) (ty := (.array .boolean)) (C := RX2) (T := TX2) (N := 11) hx hb hts mil_X2 tyX2 tyX2_ok nmX2 hown hK hP hD hS 0 rfl rfl 3 (by decide) (hw _ ik_130 rfl) (fun _ h9 => h9) rfl hin rfl rfl rfl rfl (Nat.le_of_ble_eq_true rfl) di_X2_30 (fun H locs hP hD hS => ?_)
  have hP : va_P D tq_cl [(h0, .inr (2, [.ref h1, .ref q12, .ref q20, .ref q28, .int 0, .long 0, .long 0, .int 0, .long 0, .long 0, .int 0])), (q12, .inl (dA 3, (10, tq_ct tq_zz 0 3))), (q20, .inl (dA 3, (10, tq_ct tq_zz 0 3))), (q28, .inl (dA 1, (10, tq_ct tq_zz 0 1)))] H := hP
  have hD : va_D A [(h0, .inr (2, [.ref h1, .ref q12, .ref q20, .ref q28, .int 0, .long 0, .long 0, .int 0, .long 0, .long 0, .int 0])), (q12, .inl (dA 3, (10, tq_ct tq_zz 0 3))), (q20, .inl (dA 3, (10, tq_ct tq_zz 0 3))), (q28, .inl (dA 1, (10, tq_ct tq_zz 0 1)))] := hD
  refine lv_aload_n hx hb di_X2_33 rfl (lv_at hl 0 rfl) ?_
  refine lv_iconst (v := 0) hx hb di_X2_34 (by decide) ?_
  refine va_put (D := D) (ci := 2) (v := .int 0) (ty := .int) (C := RX2) (T := TX2) (N := 11) hx hb hts mil_X2 tyX2 tyX2_ok nmX2 hown hK hP hD hS 0 rfl rfl 10 (by decide) (hw _ ik_143 rfl) (fun _ h9 => h9) rfl rfl rfl rfl (Nat.le_of_ble_eq_true rfl) di_X2_35 (fun H locs hP hD hS => ?_)
  have hP : va_P D tq_cl [(h0, .inr (2, [.ref h1, .ref q12, .ref q20, .ref q28, .int 0, .long 0, .long 0, .int 0, .long 0, .long 0, .int 0])), (q12, .inl (dA 3, (10, tq_ct tq_zz 0 3))), (q20, .inl (dA 3, (10, tq_ct tq_zz 0 3))), (q28, .inl (dA 1, (10, tq_ct tq_zz 0 1)))] H := hP
  have hD : va_D A [(h0, .inr (2, [.ref h1, .ref q12, .ref q20, .ref q28, .int 0, .long 0, .long 0, .int 0, .long 0, .long 0, .int 0])), (q12, .inl (dA 3, (10, tq_ct tq_zz 0 3))), (q20, .inl (dA 3, (10, tq_ct tq_zz 0 3))), (q28, .inl (dA 1, (10, tq_ct tq_zz 0 1)))] := hD
  refine lv_aload_n hx hb di_X2_38 rfl (lv_at hl 0 rfl) ?_
  refine lv_iconst (v := 0) hx hb di_X2_39 (by decide) ?_
  refine va_put (D := D) (ci := 2) (v := .int 0) (ty := .boolean) (C := RX2) (T := TX2) (N := 11) hx hb hts mil_X2 tyX2 tyX2_ok nmX2 hown hK hP hD hS 0 rfl rfl 4 (by decide) (hw _ ik_131 rfl) (fun _ h9 => h9) rfl rfl rfl rfl (Nat.le_of_ble_eq_true rfl) di_X2_40 (fun H locs hP hD hS => ?_)
  have hP : va_P D tq_cl [(h0, .inr (2, [.ref h1, .ref q12, .ref q20, .ref q28, .int 0, .long 0, .long 0, .int 0, .long 0, .long 0, .int 0])), (q12, .inl (dA 3, (10, tq_ct tq_zz 0 3))), (q20, .inl (dA 3, (10, tq_ct tq_zz 0 3))), (q28, .inl (dA 1, (10, tq_ct tq_zz 0 1)))] H := hP
  have hD : va_D A [(h0, .inr (2, [.ref h1, .ref q12, .ref q20, .ref q28, .int 0, .long 0, .long 0, .int 0, .long 0, .long 0, .int 0])), (q12, .inl (dA 3, (10, tq_ct tq_zz 0 3))), (q20, .inl (dA 3, (10, tq_ct tq_zz 0 3))), (q28, .inl (dA 1, (10, tq_ct tq_zz 0 1)))] := hD
  refine lv_aload_n hx hb di_X2_43 rfl (lv_at hl 0 rfl) ?_
  refine lv_iconst (v := 0) hx hb di_X2_44 (by decide) ?_
  refine va_put (D := D) (ci := 2) (v := .int 0) (ty := .boolean) (C := RX2) (T := TX2) (N := 11) hx hb hts mil_X2 tyX2 tyX2_ok nmX2 hown hK hP hD hS 0 rfl rfl 7 (by decide) (hw _ ik_137 rfl) (fun _ h9 => h9) rfl rfl rfl rfl (Nat.le_of_ble_eq_true rfl) di_X2_45 (fun H locs hP hD hS => ?_)
  have hP : va_P D tq_cl [(h0, .inr (2, [.ref h1, .ref q12, .ref q20, .ref q28, .int 0, .long 0, .long 0, .int 0, .long 0, .long 0, .int 0])), (q12, .inl (dA 3, (10, tq_ct tq_zz 0 3))), (q20, .inl (dA 3, (10, tq_ct tq_zz 0 3))), (q28, .inl (dA 1, (10, tq_ct tq_zz 0 1)))] H := hP
  have hD : va_D A [(h0, .inr (2, [.ref h1, .ref q12, .ref q20, .ref q28, .int 0, .long 0, .long 0, .int 0, .long 0, .long 0, .int 0])), (q12, .inl (dA 3, (10, tq_ct tq_zz 0 3))), (q20, .inl (dA 3, (10, tq_ct tq_zz 0 3))), (q28, .inl (dA 1, (10, tq_ct tq_zz 0 1)))] := hD
  exact W.vret hx hb hr (fun t ht hW => ⟨⟨(), rfl, trivial, q12, q20, q28, by rw [ht]; exact hP, va_K.moved hW.alike hK, hD⟩, hS.F ht⟩) hS.2.2 di_X2_48
abbrev mi_X7 : tq_MD := (yX7_init, cX7_init, 2, none, [], 7)
theorem mic_X7 : tq_cw mi_X7 ∈ lw_tbl := tq_i1 173 rfl
theorem mil_X7 : ∀ w ∈ u_ws RX7 TX7 6, w ∈ tq_TS := tq_lays_good tq_cl_X7.1
theorem di_X7_0 : decode cX7_init 0 = .ok (.aload_n 0, 1) := by decide +kernel
theorem di_X7_1 : decode cX7_init 1 = .ok (.invokespecial 1, 3) := by decide +kernel
theorem ik_174 : (.methodLink RX7 1 objectInit : Cond) ∈ lw_tbl := tq_i1 174 rfl
theorem di_X7_4 : decode cX7_init 4 = .ok (.aload_n 0, 1) := by decide +kernel
theorem di_X7_5 : decode cX7_init 5 = .ok (.aload_n 1, 1) := by decide +kernel
theorem di_X7_6 : decode cX7_init 6 = .ok (.putfield 7, 3) := by decide +kernel
theorem ik_175 : (.fieldLink RX7 7 RX7 "board" "LTilecount$Board;" : Cond) ∈ lw_tbl := tq_i1 175 rfl
theorem di_X7_9 : decode cX7_init 9 = .ok (.aload_n 0, 1) := by decide +kernel
theorem di_X7_10 : decode cX7_init 10 = .ok (.bipush 81, 2) := by decide +kernel
theorem di_X7_12 : decode cX7_init 12 = .ok (.newarray .int, 2) := by decide +kernel
theorem ik_194 : (.arrayClass .int : Cond) ∈ lw_tbl := tq_i1 194 rfl
theorem di_X7_14 : decode cX7_init 14 = .ok (.putfield 13, 3) := by decide +kernel
theorem ik_176 : (.fieldLink RX7 13 RX7 "now" "[I" : Cond) ∈ lw_tbl := tq_i1 176 rfl
theorem di_X7_17 : decode cX7_init 17 = .ok (.aload_n 0, 1) := by decide +kernel
theorem di_X7_18 : decode cX7_init 18 = .ok (.bipush 81, 2) := by decide +kernel
theorem di_X7_20 : decode cX7_init 20 = .ok (.newarray .int, 2) := by decide +kernel
theorem di_X7_22 : decode cX7_init 22 = .ok (.putfield 17, 3) := by decide +kernel
theorem ik_177 : (.fieldLink RX7 17 RX7 "kept" "[I" : Cond) ∈ lw_tbl := tq_i1 177 rfl
theorem di_X7_25 : decode cX7_init 25 = .ok (.aload_n 0, 1) := by decide +kernel
theorem di_X7_26 : decode cX7_init 26 = .ok (.bipush 81, 2) := by decide +kernel
theorem di_X7_28 : decode cX7_init 28 = .ok (.newarray .int, 2) := by decide +kernel
theorem di_X7_30 : decode cX7_init 30 = .ok (.putfield 20, 3) := by decide +kernel
theorem ik_178 : (.fieldLink RX7 20 RX7 "queue" "[I" : Cond) ∈ lw_tbl := tq_i1 178 rfl
theorem di_X7_33 : decode cX7_init 33 = .ok (.return_, 1) := by decide +kernel
set_option maxHeartbeats 8000000 in
set_option maxRecDepth 100000 in
theorem ci_X7 (l : Launch) (D : va_G) (dA : Nat → ClassId) (h0 h1 : Nat) (sz : Nat) : Met l yX7_init (tq_ws mi_X7) ({ frames := 2, cells := 3, slots := 243, locals := 60 }) (va_Pc [.ref h0, .ref h1] (fun U => U.heap.size = sz ∧ va_P D tq_cl [(h0, .inr (7, [.null, .null, .null, .null, .long 0, .long 0]))] U.heap ∧ va_K D tq_cl (tq_tys dA) U ∧ va_D (fun _ => True) [(h0, .inr (7, [.null, .null, .null, .null, .long 0, .long 0]))])) (va_Qv (fun _ : Unit => True) (fun _ t => ∃ (q12 q20 q28 : Nat), va_P D tq_cl [(h0, .inr (7, [.ref h1, .ref q12, .ref q20, .ref q28, .long 0, .long 0])), (q12, .inl (dA 0, (81, tq_ct tq_zz 0 0))), (q20, .inl (dA 0, (81, tq_ct tq_zz 0 0))), (q28, .inl (dA 0, (81, tq_ct tq_zz 0 0)))] t.heap ∧ va_K D tq_cl (tq_tys dA) t ∧ va_D (va_A [(h0, .inr (7, [.null, .null, .null, .null, .long 0, .long 0]))] sz) [(h0, .inr (7, [.ref h1, .ref q12, .ref q20, .ref q28, .long 0, .long 0])), (q12, .inl (dA 0, (81, tq_ct tq_zz 0 0))), (q20, .inl (dA 0, (81, tq_ct tq_zz 0 0))), (q28, .inl (dA 0, (81, tq_ct tq_zz 0 0)))]) (va_A [(h0, .inr (7, [.null, .null, .null, .null, .long 0, .long 0]))] sz)) 3 243 (va_A [(h0, .inr (7, [.null, .null, .null, .null, .long 0, .long 0]))] sz) := by
  refine Met.ofW (cc := cX7_init) (maxL := 2) (ret := none) (by decide) rfl ?_
  intro p e s m args below meth c s₁ B hml hv
  obtain ⟨rfl, hsz, hP, hK, hD0⟩ := hv
  have hx := B.exec
  have hb := B.bytes
  have hr := B.returns
  have hts0 := atoms_spec (ws := tq_ws mi_X7) B.pre
  have hts : ∀ w ∈ tq_TS, w.before _ s = true := fun w hw => hts0 w (List.mem_cons_of_mem _ hw)
  have hw : ∀ w, w ∈ lw_tbl → goodWord w = true → w.before _ s = true := fun w h1 h2 => hts w (List.mem_filter.mpr ⟨h1, h2⟩)
  have hown : s.vm.findClass RX7 = some m.cls := findClass_of_methodNamed B.named
  have hin : meth.name = "<init>" := (name_of_methodNamed B.named B.method).1
  subst hsz
  have hD := hD0.self (sz := s.heap.size)
  generalize hAe : va_A [(h0, .inr (7, [.null, .null, .null, .null, .long 0, .long 0]))] s.heap.size = A at hD ⊢
  have hA : ∀ q : Nat, s.heap.size ≤ q → A q := fun q h => by rw [← hAe]; exact Or.inr h
  have hS : va_S A s.heap s.heap [] := va_S.rf
  have hP : va_P D tq_cl [(h0, .inr (7, [.null, .null, .null, .null, .long 0, .long 0]))] s.heap := hP
  have hl := lv_entry ([.ref h0, .ref h1]) (n := 2) (Nat.le_of_ble_eq_true rfl)
  rw [lg_entry_eq]
  generalize (lg_sl ([.ref h0, .ref h1]) ++ List.replicate (2 - (lg_sl ([.ref h0, .ref h1])).length) Slot.unset).toArray = ls at hl ⊢
  have hl : lv_has ls 2 [(0, .ref h0), (1, .ref h1)] := hl
  refine lv_aload_n hx hb di_X7_0 rfl (lv_at hl 0 rfl) ?_
  refine W.objInit hx hb hown (hw _ ik_174 rfl) (hw _ ik_33 rfl) (hw _ ik_34 rfl) rfl (by rw [hml]; exact hl.1) rfl di_X7_1 (Nat.le_of_ble_eq_true rfl) (Nat.le_of_ble_eq_true rfl) ?_
  refine W.eq (g2 := F0 m 4 ls []) rfl ?_
  refine lv_aload_n hx hb di_X7_4 rfl (lv_at hl 0 rfl) ?_
  refine lv_aload_n hx hb di_X7_5 rfl (lv_at hl 1 rfl) ?_
  refine va_putF (D := D) (ci := 7) (v := .ref h1) (ty := (.object "Tilecount$Board")) (C := RX7) (T := TX7) (N := 6) hx hb hts mil_X7 tyX7 tyX7_ok nmX7 hown hK hP hD hS 0 rfl rfl 0 (by decide) (hw _ ik_175 rfl) (fun _ h9 => h9) rfl hin rfl rfl rfl rfl (Nat.le_of_ble_eq_true rfl) di_X7_6 (fun H locs hP hD hS => ?_)
  have hP : va_P D tq_cl [(h0, .inr (7, [.ref h1, .null, .null, .null, .long 0, .long 0]))] H := hP
  have hD : va_D A [(h0, .inr (7, [.ref h1, .null, .null, .null, .long 0, .long 0]))] := hD
  refine lv_aload_n hx hb di_X7_9 rfl (lv_at hl 0 rfl) ?_
  refine lv_bipush (v := 81) hx hb di_X7_10 (by decide) ?_
  refine ni_arr (t := 0) (N := 81) (atype := .int) hx hb (by decide) rfl (hw _ ik_194 rfl) hK hP hD hS hA (by decide) (by decide) (Nat.le_of_ble_eq_true rfl) (Nat.le_of_ble_eq_true rfl) (Nat.le_of_ble_eq_true rfl) di_X7_12 (fun q12 H hP hD hS => ?_)
  refine W.widen (k := 1) (n := 81) (Nat.le_of_ble_eq_true rfl) (Nat.le_of_ble_eq_true rfl) ?_
  have hP : va_P D tq_cl [(h0, .inr (7, [.ref h1, .null, .null, .null, .long 0, .long 0])), (q12, .inl (dA 0, (81, tq_ct tq_zz 0 0)))] H := hP
  have hD : va_D A [(h0, .inr (7, [.ref h1, .null, .null, .null, .long 0, .long 0])), (q12, .inl (dA 0, (81, tq_ct tq_zz 0 0)))] := hD
  refine va_putF (D := D) (ci := 7) (v := .ref q12) (ty := (.array .int)) (C := RX7) (T := TX7) (N := 6) hx hb hts mil_X7 tyX7 tyX7_ok nmX7 hown hK hP hD hS 0 rfl rfl 1 (by decide) (hw _ ik_176 rfl) (fun _ h9 => h9) rfl hin rfl rfl rfl rfl (Nat.le_of_ble_eq_true rfl) di_X7_14 (fun H locs hP hD hS => ?_)
  have hP : va_P D tq_cl [(h0, .inr (7, [.ref h1, .ref q12, .null, .null, .long 0, .long 0])), (q12, .inl (dA 0, (81, tq_ct tq_zz 0 0)))] H := hP
  have hD : va_D A [(h0, .inr (7, [.ref h1, .ref q12, .null, .null, .long 0, .long 0])), (q12, .inl (dA 0, (81, tq_ct tq_zz 0 0)))] := hD
  refine lv_aload_n hx hb di_X7_17 rfl (lv_at hl 0 rfl) ?_
  refine lv_bipush (v := 81) hx hb di_X7_18 (by decide) ?_
  refine ni_arr (t := 0) (N := 81) (atype := .int) hx hb (by decide) rfl (hw _ ik_194 rfl) hK hP hD hS hA (by decide) (by decide) (Nat.le_of_ble_eq_true rfl) (Nat.le_of_ble_eq_true rfl) (Nat.le_of_ble_eq_true rfl) di_X7_20 (fun q20 H hP hD hS => ?_)
  refine W.widen (k := 2) (n := 162) (Nat.le_of_ble_eq_true rfl) (Nat.le_of_ble_eq_true rfl) ?_
  have hP : va_P D tq_cl [(h0, .inr (7, [.ref h1, .ref q12, .null, .null, .long 0, .long 0])), (q12, .inl (dA 0, (81, tq_ct tq_zz 0 0))), (q20, .inl (dA 0, (81, tq_ct tq_zz 0 0)))] H := hP
  have hD : va_D A [(h0, .inr (7, [.ref h1, .ref q12, .null, .null, .long 0, .long 0])), (q12, .inl (dA 0, (81, tq_ct tq_zz 0 0))), (q20, .inl (dA 0, (81, tq_ct tq_zz 0 0)))] := hD
  refine va_putF (D := D) (ci := 7) (v := .ref q20) (ty := (.array .int)) (C := RX7) (T := TX7) (N := 6) hx hb hts mil_X7 tyX7 tyX7_ok nmX7 hown hK hP hD hS 0 rfl rfl 2 (by decide) (hw _ ik_177 rfl) (fun _ h9 => h9) rfl hin rfl rfl rfl rfl (Nat.le_of_ble_eq_true rfl) di_X7_22 (fun H locs hP hD hS => ?_)
  have hP : va_P D tq_cl [(h0, .inr (7, [.ref h1, .ref q12, .ref q20, .null, .long 0, .long 0])), (q12, .inl (dA 0, (81, tq_ct tq_zz 0 0))), (q20, .inl (dA 0, (81, tq_ct tq_zz 0 0)))] H := hP
  have hD : va_D A [(h0, .inr (7, [.ref h1, .ref q12, .ref q20, .null, .long 0, .long 0])), (q12, .inl (dA 0, (81, tq_ct tq_zz 0 0))), (q20, .inl (dA 0, (81, tq_ct tq_zz 0 0)))] := hD
  refine lv_aload_n hx hb di_X7_25 rfl (lv_at hl 0 rfl) ?_
  refine lv_bipush (v := 81) hx hb di_X7_26 (by decide) ?_
  refine ni_arr (t := 0) (N := 81) (atype := .int) hx hb (by decide) rfl (hw _ ik_194 rfl) hK hP hD hS hA (by decide) (by decide) (Nat.le_of_ble_eq_true rfl) (Nat.le_of_ble_eq_true rfl) (Nat.le_of_ble_eq_true rfl) di_X7_28 (fun q28 H hP hD hS => ?_)
  refine W.widen (k := 3) (n := 243) (Nat.le_of_ble_eq_true rfl) (Nat.le_of_ble_eq_true rfl) ?_
  have hP : va_P D tq_cl [(h0, .inr (7, [.ref h1, .ref q12, .ref q20, .null, .long 0, .long 0])), (q12, .inl (dA 0, (81, tq_ct tq_zz 0 0))), (q20, .inl (dA 0, (81, tq_ct tq_zz 0 0))), (q28, .inl (dA 0, (81, tq_ct tq_zz 0 0)))] H := hP
  have hD : va_D A [(h0, .inr (7, [.ref h1, .ref q12, .ref q20, .null, .long 0, .long 0])), (q12, .inl (dA 0, (81, tq_ct tq_zz 0 0))), (q20, .inl (dA 0, (81, tq_ct tq_zz 0 0))), (q28, .inl (dA 0, (81, tq_ct tq_zz 0 0)))] := hD
  refine va_putF (D := D) (ci := 7) (v := .ref q28) (ty := (.array .int)) (C := RX7) (T := TX7) (N := 6) hx hb hts mil_X7 tyX7 tyX7_ok nmX7 hown hK hP hD hS 0 rfl rfl 3 (by decide) (hw _ ik_178 rfl) (fun _ h9 => h9) rfl hin rfl rfl rfl rfl (Nat.le_of_ble_eq_true rfl) di_X7_30 (fun H locs hP hD hS => ?_)
  have hP : va_P D tq_cl [(h0, .inr (7, [.ref h1, .ref q12, .ref q20, .ref q28, .long 0, .long 0])), (q12, .inl (dA 0, (81, tq_ct tq_zz 0 0))), (q20, .inl (dA 0, (81, tq_ct tq_zz 0 0))), (q28, .inl (dA 0, (81, tq_ct tq_zz 0 0)))] H := hP
  have hD : va_D A [(h0, .inr (7, [.ref h1, .ref q12, .ref q20, .ref q28, .long 0, .long 0])), (q12, .inl (dA 0, (81, tq_ct tq_zz 0 0))), (q20, .inl (dA 0, (81, tq_ct tq_zz 0 0))), (q28, .inl (dA 0, (81, tq_ct tq_zz 0 0)))] := hD
  exact W.vret hx hb hr (fun t ht hW => ⟨⟨(), rfl, trivial, q12, q20, q28, by rw [ht]; exact hP, va_K.moved hW.alike hK, hD⟩, hS.F ht⟩) hS.2.2 di_X7_33
abbrev mi_X3 : tq_MD := (yX3_init, cX3_init, 1, none, [], 3)
theorem mic_X3 : tq_cw mi_X3 ∈ lw_tbl := tq_i1 199 rfl
theorem mil_X3 : ∀ w ∈ u_ws RX3 TX3 2, w ∈ tq_TS := tq_lays_good tq_cl_X3.1
theorem di_X3_0 : decode cX3_init 0 = .ok (.aload_n 0, 1) := by decide +kernel
theorem di_X3_1 : decode cX3_init 1 = .ok (.invokespecial 1, 3) := by decide +kernel
theorem ik_200 : (.methodLink RX3 1 objectInit : Cond) ∈ lw_tbl := tq_i1 200 rfl
theorem di_X3_4 : decode cX3_init 4 = .ok (.aload_n 0, 1) := by decide +kernel
theorem di_X3_5 : decode cX3_init 5 = .ok (.sipush 1024, 3) := by decide +kernel
theorem di_X3_8 : decode cX3_init 8 = .ok (.newarray .long, 2) := by decide +kernel
theorem di_X3_10 : decode cX3_init 10 = .ok (.putfield 9, 3) := by decide +kernel
theorem ik_201 : (.fieldLink RX3 9 RX3 "matrix" "[J" : Cond) ∈ lw_tbl := tq_i1 201 rfl
theorem di_X3_13 : decode cX3_init 13 = .ok (.aload_n 0, 1) := by decide +kernel
theorem di_X3_14 : decode cX3_init 14 = .ok (.iconst 3, 1) := by decide +kernel
theorem di_X3_15 : decode cX3_init 15 = .ok (.newarray .long, 2) := by decide +kernel
theorem di_X3_17 : decode cX3_init 17 = .ok (.putfield 13, 3) := by decide +kernel
theorem ik_202 : (.fieldLink RX3 13 RX3 "rests" "[J" : Cond) ∈ lw_tbl := tq_i1 202 rfl
theorem di_X3_20 : decode cX3_init 20 = .ok (.return_, 1) := by decide +kernel
set_option maxHeartbeats 8000000 in
set_option maxRecDepth 100000 in
theorem ci_X3 (l : Launch) (D : va_G) (dA : Nat → ClassId) (h0 : Nat) (sz : Nat) : Met l yX3_init (tq_ws mi_X3) ({ frames := 2, cells := 2, slots := 1027, locals := 60 }) (va_Pc [.ref h0] (fun U => U.heap.size = sz ∧ va_P D tq_cl [(h0, .inr (3, [.null, .null]))] U.heap ∧ va_K D tq_cl (tq_tys dA) U ∧ va_D (fun _ => True) [(h0, .inr (3, [.null, .null]))])) (va_Qv (fun _ : Unit => True) (fun _ t => ∃ (q8 q15 : Nat), va_P D tq_cl [(h0, .inr (3, [.ref q8, .ref q15])), (q8, .inl (dA 3, (1024, tq_ct tq_zz 0 3))), (q15, .inl (dA 3, (3, tq_ct tq_zz 0 3)))] t.heap ∧ va_K D tq_cl (tq_tys dA) t ∧ va_D (va_A [(h0, .inr (3, [.null, .null]))] sz) [(h0, .inr (3, [.ref q8, .ref q15])), (q8, .inl (dA 3, (1024, tq_ct tq_zz 0 3))), (q15, .inl (dA 3, (3, tq_ct tq_zz 0 3)))]) (va_A [(h0, .inr (3, [.null, .null]))] sz)) 2 1027 (va_A [(h0, .inr (3, [.null, .null]))] sz) := by
  refine Met.ofW (cc := cX3_init) (maxL := 1) (ret := none) (by decide) rfl ?_
  intro p e s m args below meth c s₁ B hml hv
  obtain ⟨rfl, hsz, hP, hK, hD0⟩ := hv
  have hx := B.exec
  have hb := B.bytes
  have hr := B.returns
  have hts0 := atoms_spec (ws := tq_ws mi_X3) B.pre
  have hts : ∀ w ∈ tq_TS, w.before _ s = true := fun w hw => hts0 w (List.mem_cons_of_mem _ hw)
  have hw : ∀ w, w ∈ lw_tbl → goodWord w = true → w.before _ s = true := fun w h1 h2 => hts w (List.mem_filter.mpr ⟨h1, h2⟩)
  have hown : s.vm.findClass RX3 = some m.cls := findClass_of_methodNamed B.named
  have hin : meth.name = "<init>" := (name_of_methodNamed B.named B.method).1
  subst hsz
  have hD := hD0.self (sz := s.heap.size)
  generalize hAe : va_A [(h0, .inr (3, [.null, .null]))] s.heap.size = A at hD ⊢
  have hA : ∀ q : Nat, s.heap.size ≤ q → A q := fun q h => by rw [← hAe]; exact Or.inr h
  have hS : va_S A s.heap s.heap [] := va_S.rf
  have hP : va_P D tq_cl [(h0, .inr (3, [.null, .null]))] s.heap := hP
  have hl := lv_entry ([.ref h0]) (n := 1) (Nat.le_of_ble_eq_true rfl)
  rw [lg_entry_eq]
  generalize (lg_sl ([.ref h0]) ++ List.replicate (1 - (lg_sl ([.ref h0])).length) Slot.unset).toArray = ls at hl ⊢
  have hl : lv_has ls 1 [(0, .ref h0)] := hl
  refine lv_aload_n hx hb di_X3_0 rfl (lv_at hl 0 rfl) ?_
  refine W.objInit hx hb hown (hw _ ik_200 rfl) (hw _ ik_33 rfl) (hw _ ik_34 rfl) rfl (by rw [hml]; exact hl.1) rfl di_X3_1 (Nat.le_of_ble_eq_true rfl) (Nat.le_of_ble_eq_true rfl) ?_
  refine W.eq (g2 := F0 m 4 ls []) rfl ?_
  refine lv_aload_n hx hb di_X3_4 rfl (lv_at hl 0 rfl) ?_
  refine lv_sipush (v := 1024) hx hb di_X3_5 (by decide) ?_
  refine ni_arr (t := 3) (N := 1024) (atype := .long) hx hb (by decide) rfl (hw _ ik_120 rfl) hK hP hD hS hA (by decide) (by decide) (Nat.le_of_ble_eq_true rfl) (Nat.le_of_ble_eq_true rfl) (Nat.le_of_ble_eq_true rfl) di_X3_8 (fun q8 H hP hD hS => ?_)
  refine W.widen (k := 1) (n := 1024) (Nat.le_of_ble_eq_true rfl) (Nat.le_of_ble_eq_true rfl) ?_
  have hP : va_P D tq_cl [(h0, .inr (3, [.null, .null])), (q8, .inl (dA 3, (1024, tq_ct tq_zz 0 3)))] H := hP
  have hD : va_D A [(h0, .inr (3, [.null, .null])), (q8, .inl (dA 3, (1024, tq_ct tq_zz 0 3)))] := hD
  refine va_putF (D := D) (ci := 3) (v := .ref q8) (ty := (.array .long)) (C := RX3) (T := TX3) (N := 2) hx hb hts mil_X3 tyX3 tyX3_ok nmX3 hown hK hP hD hS 0 rfl rfl 0 (by decide) (hw _ ik_201 rfl) (fun _ h9 => h9) rfl hin rfl rfl rfl rfl (Nat.le_of_ble_eq_true rfl) di_X3_10 (fun H locs hP hD hS => ?_)
  have hP : va_P D tq_cl [(h0, .inr (3, [.ref q8, .null])), (q8, .inl (dA 3, (1024, tq_ct tq_zz 0 3)))] H := hP
  have hD : va_D A [(h0, .inr (3, [.ref q8, .null])), (q8, .inl (dA 3, (1024, tq_ct tq_zz 0 3)))] := hD
  refine lv_aload_n hx hb di_X3_13 rfl (lv_at hl 0 rfl) ?_
  refine lv_iconst (v := 3) hx hb di_X3_14 (by decide) ?_
  refine ni_arr (t := 3) (N := 3) (atype := .long) hx hb (by decide) rfl (hw _ ik_120 rfl) hK hP hD hS hA (by decide) (by decide) (Nat.le_of_ble_eq_true rfl) (Nat.le_of_ble_eq_true rfl) (Nat.le_of_ble_eq_true rfl) di_X3_15 (fun q15 H hP hD hS => ?_)
  refine W.widen (k := 2) (n := 1027) (Nat.le_of_ble_eq_true rfl) (Nat.le_of_ble_eq_true rfl) ?_
  have hP : va_P D tq_cl [(h0, .inr (3, [.ref q8, .null])), (q8, .inl (dA 3, (1024, tq_ct tq_zz 0 3))), (q15, .inl (dA 3, (3, tq_ct tq_zz 0 3)))] H := hP
  have hD : va_D A [(h0, .inr (3, [.ref q8, .null])), (q8, .inl (dA 3, (1024, tq_ct tq_zz 0 3))), (q15, .inl (dA 3, (3, tq_ct tq_zz 0 3)))] := hD
  refine va_putF (D := D) (ci := 3) (v := .ref q15) (ty := (.array .long)) (C := RX3) (T := TX3) (N := 2) hx hb hts mil_X3 tyX3 tyX3_ok nmX3 hown hK hP hD hS 0 rfl rfl 1 (by decide) (hw _ ik_202 rfl) (fun _ h9 => h9) rfl hin rfl rfl rfl rfl (Nat.le_of_ble_eq_true rfl) di_X3_17 (fun H locs hP hD hS => ?_)
  have hP : va_P D tq_cl [(h0, .inr (3, [.ref q8, .ref q15])), (q8, .inl (dA 3, (1024, tq_ct tq_zz 0 3))), (q15, .inl (dA 3, (3, tq_ct tq_zz 0 3)))] H := hP
  have hD : va_D A [(h0, .inr (3, [.ref q8, .ref q15])), (q8, .inl (dA 3, (1024, tq_ct tq_zz 0 3))), (q15, .inl (dA 3, (3, tq_ct tq_zz 0 3)))] := hD
  exact W.vret hx hb hr (fun t ht hW => ⟨⟨(), rfl, trivial, q8, q15, by rw [ht]; exact hP, va_K.moved hW.alike hK, hD⟩, hS.F ht⟩) hS.2.2 di_X3_20
abbrev mi_X9 : tq_MD := (yX9_init, cX9_init, 2, none, [], 9)
theorem mic_X9 : tq_cw mi_X9 ∈ lw_tbl := tq_i1 212 rfl
theorem mil_X9 : ∀ w ∈ u_ws RX9 TX9 8, w ∈ tq_TS := tq_lays_good tq_cl_X9.1
theorem di_X9_0 : decode cX9_init 0 = .ok (.aload_n 0, 1) := by decide +kernel
theorem di_X9_1 : decode cX9_init 1 = .ok (.invokespecial 1, 3) := by decide +kernel
theorem ik_213 : (.methodLink RX9 1 objectInit : Cond) ∈ lw_tbl := tq_i1 213 rfl
theorem di_X9_4 : decode cX9_init 4 = .ok (.aload_n 0, 1) := by decide +kernel
theorem di_X9_5 : decode cX9_init 5 = .ok (.aload_n 1, 1) := by decide +kernel
theorem di_X9_6 : decode cX9_init 6 = .ok (.putfield 7, 3) := by decide +kernel
theorem ik_214 : (.fieldLink RX9 7 RX9 "board" "LTilecount$Board;" : Cond) ∈ lw_tbl := tq_i1 214 rfl
theorem di_X9_9 : decode cX9_init 9 = .ok (.aload_n 0, 1) := by decide +kernel
theorem di_X9_10 : decode cX9_init 10 = .ok (.bipush 64, 2) := by decide +kernel
theorem di_X9_12 : decode cX9_init 12 = .ok (.newarray .int, 2) := by decide +kernel
theorem di_X9_14 : decode cX9_init 14 = .ok (.putfield 15, 3) := by decide +kernel
theorem ik_215 : (.fieldLink RX9 15 RX9 "mate" "[I" : Cond) ∈ lw_tbl := tq_i1 215 rfl
theorem di_X9_17 : decode cX9_init 17 = .ok (.aload_n 0, 1) := by decide +kernel
theorem di_X9_18 : decode cX9_init 18 = .ok (.bipush 64, 2) := by decide +kernel
theorem di_X9_20 : decode cX9_init 20 = .ok (.newarray .int, 2) := by decide +kernel
theorem di_X9_22 : decode cX9_init 22 = .ok (.putfield 19, 3) := by decide +kernel
theorem ik_216 : (.fieldLink RX9 19 RX9 "from" "[I" : Cond) ∈ lw_tbl := tq_i1 216 rfl
theorem di_X9_25 : decode cX9_init 25 = .ok (.aload_n 0, 1) := by decide +kernel
theorem di_X9_26 : decode cX9_init 26 = .ok (.bipush 64, 2) := by decide +kernel
theorem di_X9_28 : decode cX9_init 28 = .ok (.newarray .int, 2) := by decide +kernel
theorem di_X9_30 : decode cX9_init 30 = .ok (.putfield 22, 3) := by decide +kernel
theorem ik_217 : (.fieldLink RX9 22 RX9 "queue" "[I" : Cond) ∈ lw_tbl := tq_i1 217 rfl
theorem di_X9_33 : decode cX9_init 33 = .ok (.aload_n 0, 1) := by decide +kernel
theorem di_X9_34 : decode cX9_init 34 = .ok (.iconst (-1), 1) := by decide +kernel
theorem di_X9_35 : decode cX9_init 35 = .ok (.putfield 25, 3) := by decide +kernel
theorem ik_218 : (.fieldLink RX9 25 RX9 "pairedAt" "I" : Cond) ∈ lw_tbl := tq_i1 218 rfl
theorem di_X9_38 : decode cX9_init 38 = .ok (.return_, 1) := by decide +kernel
set_option maxHeartbeats 8000000 in
set_option maxRecDepth 100000 in
theorem ci_X9 (l : Launch) (D : va_G) (dA : Nat → ClassId) (h0 h1 : Nat) (sz : Nat) : Met l yX9_init (tq_ws mi_X9) ({ frames := 2, cells := 3, slots := 192, locals := 60 }) (va_Pc [.ref h0, .ref h1] (fun U => U.heap.size = sz ∧ va_P D tq_cl [(h0, .inr (9, [.null, .null, .null, .null, .int 0, .long 0, .long 0, .long 0]))] U.heap ∧ va_K D tq_cl (tq_tys dA) U ∧ va_D (fun _ => True) [(h0, .inr (9, [.null, .null, .null, .null, .int 0, .long 0, .long 0, .long 0]))])) (va_Qv (fun _ : Unit => True) (fun _ t => ∃ (q12 q20 q28 : Nat), va_P D tq_cl [(h0, .inr (9, [.ref h1, .ref q12, .ref q20, .ref q28, .int (-1), .long 0, .long 0, .long 0])), (q12, .inl (dA 0, (64, tq_ct tq_zz 0 0))), (q20, .inl (dA 0, (64, tq_ct tq_zz 0 0))), (q28, .inl (dA 0, (64, tq_ct tq_zz 0 0)))] t.heap ∧ va_K D tq_cl (tq_tys dA) t ∧ va_D (va_A [(h0, .inr (9, [.null, .null, .null, .null, .int 0, .long 0, .long 0, .long 0]))] sz) [(h0, .inr (9, [.ref h1, .ref q12, .ref q20, .ref q28, .int (-1), .long 0, .long 0, .long 0])), (q12, .inl (dA 0, (64, tq_ct tq_zz 0 0))), (q20, .inl (dA 0, (64, tq_ct tq_zz 0 0))), (q28, .inl (dA 0, (64, tq_ct tq_zz 0 0)))]) (va_A [(h0, .inr (9, [.null, .null, .null, .null, .int 0, .long 0, .long 0, .long 0]))] sz)) 3 192 (va_A [(h0, .inr (9, [.null, .null, .null, .null, .int 0, .long 0, .long 0, .long 0]))] sz) := by
  refine Met.ofW (cc := cX9_init) (maxL := 2) (ret := none) (by decide) rfl ?_
  intro p e s m args below meth c s₁ B hml hv
  obtain ⟨rfl, hsz, hP, hK, hD0⟩ := hv
  have hx := B.exec
  have hb := B.bytes
  have hr := B.returns
  have hts0 := atoms_spec (ws := tq_ws mi_X9) B.pre
  have hts : ∀ w ∈ tq_TS, w.before _ s = true := fun w hw => hts0 w (List.mem_cons_of_mem _ hw)
  have hw : ∀ w, w ∈ lw_tbl → goodWord w = true → w.before _ s = true := fun w h1 h2 => hts w (List.mem_filter.mpr ⟨h1, h2⟩)
  have hown : s.vm.findClass RX9 = some m.cls := findClass_of_methodNamed B.named
  have hin : meth.name = "<init>" := (name_of_methodNamed B.named B.method).1
  subst hsz
  have hD := hD0.self (sz := s.heap.size)
  generalize hAe : va_A [(h0, .inr (9, [.null, .null, .null, .null, .int 0, .long 0, .long 0, .long 0]))] s.heap.size = A at hD ⊢
  have hA : ∀ q : Nat, s.heap.size ≤ q → A q := fun q h => by rw [← hAe]; exact Or.inr h
  have hS : va_S A s.heap s.heap [] := va_S.rf
  have hP : va_P D tq_cl [(h0, .inr (9, [.null, .null, .null, .null, .int 0, .long 0, .long 0, .long 0]))] s.heap := hP
  have hl := lv_entry ([.ref h0, .ref h1]) (n := 2) (Nat.le_of_ble_eq_true rfl)
  rw [lg_entry_eq]
  generalize (lg_sl ([.ref h0, .ref h1]) ++ List.replicate (2 - (lg_sl ([.ref h0, .ref h1])).length) Slot.unset).toArray = ls at hl ⊢
  have hl : lv_has ls 2 [(0, .ref h0), (1, .ref h1)] := hl
  refine lv_aload_n hx hb di_X9_0 rfl (lv_at hl 0 rfl) ?_
  refine W.objInit hx hb hown (hw _ ik_213 rfl) (hw _ ik_33 rfl) (hw _ ik_34 rfl) rfl (by rw [hml]; exact hl.1) rfl di_X9_1 (Nat.le_of_ble_eq_true rfl) (Nat.le_of_ble_eq_true rfl) ?_
  refine W.eq (g2 := F0 m 4 ls []) rfl ?_
  refine lv_aload_n hx hb di_X9_4 rfl (lv_at hl 0 rfl) ?_
  refine lv_aload_n hx hb di_X9_5 rfl (lv_at hl 1 rfl) ?_
  refine va_putF (D := D) (ci := 9) (v := .ref h1) (ty := (.object "Tilecount$Board")) (C := RX9) (T := TX9) (N := 8) hx hb hts mil_X9 tyX9 tyX9_ok nmX9 hown hK hP hD hS 0 rfl rfl 0 (by decide) (hw _ ik_214 rfl) (fun _ h9 => h9) rfl hin rfl rfl rfl rfl (Nat.le_of_ble_eq_true rfl) di_X9_6 (fun H locs hP hD hS => ?_)
  have hP : va_P D tq_cl [(h0, .inr (9, [.ref h1, .null, .null, .null, .int 0, .long 0, .long 0, .long 0]))] H := hP
  have hD : va_D A [(h0, .inr (9, [.ref h1, .null, .null, .null, .int 0, .long 0, .long 0, .long 0]))] := hD
  refine lv_aload_n hx hb di_X9_9 rfl (lv_at hl 0 rfl) ?_
  refine lv_bipush (v := 64) hx hb di_X9_10 (by decide) ?_
  refine ni_arr (t := 0) (N := 64) (atype := .int) hx hb (by decide) rfl (hw _ ik_194 rfl) hK hP hD hS hA (by decide) (by decide) (Nat.le_of_ble_eq_true rfl) (Nat.le_of_ble_eq_true rfl) (Nat.le_of_ble_eq_true rfl) di_X9_12 (fun q12 H hP hD hS => ?_)
  refine W.widen (k := 1) (n := 64) (Nat.le_of_ble_eq_true rfl) (Nat.le_of_ble_eq_true rfl) ?_
  have hP : va_P D tq_cl [(h0, .inr (9, [.ref h1, .null, .null, .null, .int 0, .long 0, .long 0, .long 0])), (q12, .inl (dA 0, (64, tq_ct tq_zz 0 0)))] H := hP
  have hD : va_D A [(h0, .inr (9, [.ref h1, .null, .null, .null, .int 0, .long 0, .long 0, .long 0])), (q12, .inl (dA 0, (64, tq_ct tq_zz 0 0)))] := hD
  refine va_putF (D := D) (ci := 9) (v := .ref q12) (ty := (.array .int)) (C := RX9) (T := TX9) (N := 8) hx hb hts mil_X9 tyX9 tyX9_ok nmX9 hown hK hP hD hS 0 rfl rfl 1 (by decide) (hw _ ik_215 rfl) (fun _ h9 => h9) rfl hin rfl rfl rfl rfl (Nat.le_of_ble_eq_true rfl) di_X9_14 (fun H locs hP hD hS => ?_)
  have hP : va_P D tq_cl [(h0, .inr (9, [.ref h1, .ref q12, .null, .null, .int 0, .long 0, .long 0, .long 0])), (q12, .inl (dA 0, (64, tq_ct tq_zz 0 0)))] H := hP
  have hD : va_D A [(h0, .inr (9, [.ref h1, .ref q12, .null, .null, .int 0, .long 0, .long 0, .long 0])), (q12, .inl (dA 0, (64, tq_ct tq_zz 0 0)))] := hD
  refine lv_aload_n hx hb di_X9_17 rfl (lv_at hl 0 rfl) ?_
  refine lv_bipush (v := 64) hx hb di_X9_18 (by decide) ?_
  refine ni_arr (t := 0) (N := 64) (atype := .int) hx hb (by decide) rfl (hw _ ik_194 rfl) hK hP hD hS hA (by decide) (by decide) (Nat.le_of_ble_eq_true rfl) (Nat.le_of_ble_eq_true rfl) (Nat.le_of_ble_eq_true rfl) di_X9_20 (fun q20 H hP hD hS => ?_)
  refine W.widen (k := 2) (n := 128) (Nat.le_of_ble_eq_true rfl) (Nat.le_of_ble_eq_true rfl) ?_
  have hP : va_P D tq_cl [(h0, .inr (9, [.ref h1, .ref q12, .null, .null, .int 0, .long 0, .long 0, .long 0])), (q12, .inl (dA 0, (64, tq_ct tq_zz 0 0))), (q20, .inl (dA 0, (64, tq_ct tq_zz 0 0)))] H := hP
  have hD : va_D A [(h0, .inr (9, [.ref h1, .ref q12, .null, .null, .int 0, .long 0, .long 0, .long 0])), (q12, .inl (dA 0, (64, tq_ct tq_zz 0 0))), (q20, .inl (dA 0, (64, tq_ct tq_zz 0 0)))] := hD
  refine va_putF (D := D) (ci := 9) (v := .ref q20) (ty := (.array .int)) (C := RX9) (T := TX9) (N := 8) hx hb hts mil_X9 tyX9 tyX9_ok nmX9 hown hK hP hD hS 0 rfl rfl 2 (by decide) (hw _ ik_216 rfl) (fun _ h9 => h9) rfl hin rfl rfl rfl rfl (Nat.le_of_ble_eq_true rfl) di_X9_22 (fun H locs hP hD hS => ?_)
  have hP : va_P D tq_cl [(h0, .inr (9, [.ref h1, .ref q12, .ref q20, .null, .int 0, .long 0, .long 0, .long 0])), (q12, .inl (dA 0, (64, tq_ct tq_zz 0 0))), (q20, .inl (dA 0, (64, tq_ct tq_zz 0 0)))] H := hP
  have hD : va_D A [(h0, .inr (9, [.ref h1, .ref q12, .ref q20, .null, .int 0, .long 0, .long 0, .long 0])), (q12, .inl (dA 0, (64, tq_ct tq_zz 0 0))), (q20, .inl (dA 0, (64, tq_ct tq_zz 0 0)))] := hD
  refine lv_aload_n hx hb di_X9_25 rfl (lv_at hl 0 rfl) ?_
  refine lv_bipush (v := 64) hx hb di_X9_26 (by decide) ?_
  refine ni_arr (t := 0) (N := 64) (atype := .int) hx hb (by decide) rfl (hw _ ik_194 rfl) hK hP hD hS hA (by decide) (by decide) (Nat.le_of_ble_eq_true rfl) (Nat.le_of_ble_eq_true rfl) (Nat.le_of_ble_eq_true rfl) di_X9_28 (fun q28 H hP hD hS => ?_)
  refine W.widen (k := 3) (n := 192) (Nat.le_of_ble_eq_true rfl) (Nat.le_of_ble_eq_true rfl) ?_
  have hP : va_P D tq_cl [(h0, .inr (9, [.ref h1, .ref q12, .ref q20, .null, .int 0, .long 0, .long 0, .long 0])), (q12, .inl (dA 0, (64, tq_ct tq_zz 0 0))), (q20, .inl (dA 0, (64, tq_ct tq_zz 0 0))), (q28, .inl (dA 0, (64, tq_ct tq_zz 0 0)))] H := hP
  have hD : va_D A [(h0, .inr (9, [.ref h1, .ref q12, .ref q20, .null, .int 0, .long 0, .long 0, .long 0])), (q12, .inl (dA 0, (64, tq_ct tq_zz 0 0))), (q20, .inl (dA 0, (64, tq_ct tq_zz 0 0))), (q28, .inl (dA 0, (64, tq_ct tq_zz 0 0)))] := hD
  refine va_putF (D := D) (ci := 9) (v := .ref q28) (ty := (.array .int)) (C := RX9) (T := TX9) (N := 8) hx hb hts mil_X9 tyX9 tyX9_ok nmX9 hown hK hP hD hS 0 rfl rfl 3 (by decide) (hw _ ik_217 rfl) (fun _ h9 => h9) rfl hin rfl rfl rfl rfl (Nat.le_of_ble_eq_true rfl) di_X9_30 (fun H locs hP hD hS => ?_)
  have hP : va_P D tq_cl [(h0, .inr (9, [.ref h1, .ref q12, .ref q20, .ref q28, .int 0, .long 0, .long 0, .long 0])), (q12, .inl (dA 0, (64, tq_ct tq_zz 0 0))), (q20, .inl (dA 0, (64, tq_ct tq_zz 0 0))), (q28, .inl (dA 0, (64, tq_ct tq_zz 0 0)))] H := hP
  have hD : va_D A [(h0, .inr (9, [.ref h1, .ref q12, .ref q20, .ref q28, .int 0, .long 0, .long 0, .long 0])), (q12, .inl (dA 0, (64, tq_ct tq_zz 0 0))), (q20, .inl (dA 0, (64, tq_ct tq_zz 0 0))), (q28, .inl (dA 0, (64, tq_ct tq_zz 0 0)))] := hD
  refine lv_aload_n hx hb di_X9_33 rfl (lv_at hl 0 rfl) ?_
  refine lv_iconst (v := (-1)) hx hb di_X9_34 (by decide) ?_
  refine va_put (D := D) (ci := 9) (v := .int (-1)) (ty := .int) (C := RX9) (T := TX9) (N := 8) hx hb hts mil_X9 tyX9 tyX9_ok nmX9 hown hK hP hD hS 0 rfl rfl 4 (by decide) (hw _ ik_218 rfl) (fun _ h9 => h9) rfl rfl rfl rfl (Nat.le_of_ble_eq_true rfl) di_X9_35 (fun H locs hP hD hS => ?_)
  have hP : va_P D tq_cl [(h0, .inr (9, [.ref h1, .ref q12, .ref q20, .ref q28, .int (-1), .long 0, .long 0, .long 0])), (q12, .inl (dA 0, (64, tq_ct tq_zz 0 0))), (q20, .inl (dA 0, (64, tq_ct tq_zz 0 0))), (q28, .inl (dA 0, (64, tq_ct tq_zz 0 0)))] H := hP
  have hD : va_D A [(h0, .inr (9, [.ref h1, .ref q12, .ref q20, .ref q28, .int (-1), .long 0, .long 0, .long 0])), (q12, .inl (dA 0, (64, tq_ct tq_zz 0 0))), (q20, .inl (dA 0, (64, tq_ct tq_zz 0 0))), (q28, .inl (dA 0, (64, tq_ct tq_zz 0 0)))] := hD
  exact W.vret hx hb hr (fun t ht hW => ⟨⟨(), rfl, trivial, q12, q20, q28, by rw [ht]; exact hP, va_K.moved hW.alike hK, hD⟩, hS.F ht⟩) hS.2.2 di_X9_38
abbrev mi_X8 : tq_MD := (yX8_init, cX8_init, 1, none, [], 8)
theorem mic_X8 : tq_cw mi_X8 ∈ lw_tbl := tq_i2 6 rfl
theorem mil_X8 : ∀ w ∈ u_ws RX8 TX8 7, w ∈ tq_TS := tq_lays_good tq_cl_X8.1
theorem di_X8_0 : decode cX8_init 0 = .ok (.aload_n 0, 1) := by decide +kernel
theorem di_X8_1 : decode cX8_init 1 = .ok (.invokespecial 1, 3) := by decide +kernel
theorem ik_247 : (.methodLink RX8 1 objectInit : Cond) ∈ lw_tbl := tq_i2 7 rfl
theorem di_X8_4 : decode cX8_init 4 = .ok (.aload_n 0, 1) := by decide +kernel
theorem di_X8_5 : decode cX8_init 5 = .ok (.bipush 48, 2) := by decide +kernel
theorem di_X8_7 : decode cX8_init 7 = .ok (.newarray .long, 2) := by decide +kernel
theorem di_X8_9 : decode cX8_init 9 = .ok (.putfield 9, 3) := by decide +kernel
theorem ik_248 : (.fieldLink RX8 9 RX8 "shapes" "[J" : Cond) ∈ lw_tbl := tq_i2 8 rfl
theorem di_X8_12 : decode cX8_init 12 = .ok (.aload_n 0, 1) := by decide +kernel
theorem di_X8_13 : decode cX8_init 13 = .ok (.bipush 6, 2) := by decide +kernel
theorem di_X8_15 : decode cX8_init 15 = .ok (.newarray .int, 2) := by decide +kernel
theorem di_X8_17 : decode cX8_init 17 = .ok (.putfield 13, 3) := by decide +kernel
theorem ik_250 : (.fieldLink RX8 13 RX8 "shapeCounts" "[I" : Cond) ∈ lw_tbl := tq_i2 10 rfl
theorem di_X8_20 : decode cX8_init 20 = .ok (.aload_n 0, 1) := by decide +kernel
theorem di_X8_21 : decode cX8_init 21 = .ok (.bipush 6, 2) := by decide +kernel
theorem di_X8_23 : decode cX8_init 23 = .ok (.newarray .int, 2) := by decide +kernel
theorem di_X8_25 : decode cX8_init 25 = .ok (.putfield 17, 3) := by decide +kernel
theorem ik_252 : (.fieldLink RX8 17 RX8 "manyOf" "[I" : Cond) ∈ lw_tbl := tq_i2 12 rfl
theorem di_X8_28 : decode cX8_init 28 = .ok (.aload_n 0, 1) := by decide +kernel
theorem di_X8_29 : decode cX8_init 29 = .ok (.bipush 6, 2) := by decide +kernel
theorem di_X8_31 : decode cX8_init 31 = .ok (.newarray .int, 2) := by decide +kernel
theorem di_X8_33 : decode cX8_init 33 = .ok (.putfield 20, 3) := by decide +kernel
theorem ik_254 : (.fieldLink RX8 20 RX8 "sizeOf" "[I" : Cond) ∈ lw_tbl := tq_i2 14 rfl
theorem di_X8_36 : decode cX8_init 36 = .ok (.aload_n 0, 1) := by decide +kernel
theorem di_X8_37 : decode cX8_init 37 = .ok (.lconst 0, 1) := by decide +kernel
theorem di_X8_38 : decode cX8_init 38 = .ok (.putfield 23, 3) := by decide +kernel
theorem ik_256 : (.fieldLink RX8 23 RX8 "typed" "J" : Cond) ∈ lw_tbl := tq_i2 16 rfl
theorem di_X8_41 : decode cX8_init 41 = .ok (.aload_n 0, 1) := by decide +kernel
theorem di_X8_42 : decode cX8_init 42 = .ok (.iconst 0, 1) := by decide +kernel
theorem di_X8_43 : decode cX8_init 43 = .ok (.putfield 27, 3) := by decide +kernel
theorem ik_257 : (.fieldLink RX8 27 RX8 "count" "I" : Cond) ∈ lw_tbl := tq_i2 17 rfl
theorem di_X8_46 : decode cX8_init 46 = .ok (.aload_n 0, 1) := by decide +kernel
theorem di_X8_47 : decode cX8_init 47 = .ok (.iconst 0, 1) := by decide +kernel
theorem di_X8_48 : decode cX8_init 48 = .ok (.putfield 31, 3) := by decide +kernel
theorem ik_259 : (.fieldLink RX8 31 RX8 "changes" "I" : Cond) ∈ lw_tbl := tq_i2 19 rfl
theorem di_X8_51 : decode cX8_init 51 = .ok (.return_, 1) := by decide +kernel
set_option maxHeartbeats 8000000 in
set_option maxRecDepth 100000 in
theorem ci_X8 (l : Launch) (D : va_G) (dA : Nat → ClassId) (h0 : Nat) (sz : Nat) : Met l yX8_init (tq_ws mi_X8) ({ frames := 2, cells := 4, slots := 66, locals := 60 }) (va_Pc [.ref h0] (fun U => U.heap.size = sz ∧ va_P D tq_cl [(h0, .inr (8, [.null, .null, .null, .null, .long 0, .int 0, .int 0]))] U.heap ∧ va_K D tq_cl (tq_tys dA) U ∧ va_D (fun _ => True) [(h0, .inr (8, [.null, .null, .null, .null, .long 0, .int 0, .int 0]))])) (va_Qv (fun _ : Unit => True) (fun _ t => ∃ (q7 q15 q23 q31 : Nat), va_P D tq_cl [(h0, .inr (8, [.ref q7, .ref q15, .ref q23, .ref q31, .long 0, .int 0, .int 0])), (q7, .inl (dA 3, (48, tq_ct tq_zz 0 3))), (q15, .inl (dA 0, (6, tq_ct tq_zz 0 0))), (q23, .inl (dA 0, (6, tq_ct tq_zz 0 0))), (q31, .inl (dA 0, (6, tq_ct tq_zz 0 0)))] t.heap ∧ va_K D tq_cl (tq_tys dA) t ∧ va_D (va_A [(h0, .inr (8, [.null, .null, .null, .null, .long 0, .int 0, .int 0]))] sz) [(h0, .inr (8, [.ref q7, .ref q15, .ref q23, .ref q31, .long 0, .int 0, .int 0])), (q7, .inl (dA 3, (48, tq_ct tq_zz 0 3))), (q15, .inl (dA 0, (6, tq_ct tq_zz 0 0))), (q23, .inl (dA 0, (6, tq_ct tq_zz 0 0))), (q31, .inl (dA 0, (6, tq_ct tq_zz 0 0)))]) (va_A [(h0, .inr (8, [.null, .null, .null, .null, .long 0, .int 0, .int 0]))] sz)) 4 66 (va_A [(h0, .inr (8, [.null, .null, .null, .null, .long 0, .int 0, .int 0]))] sz) := by
  refine Met.ofW (cc := cX8_init) (maxL := 1) (ret := none) (by decide) rfl ?_
  intro p e s m args below meth c s₁ B hml hv
  obtain ⟨rfl, hsz, hP, hK, hD0⟩ := hv
  have hx := B.exec
  have hb := B.bytes
  have hr := B.returns
  have hts0 := atoms_spec (ws := tq_ws mi_X8) B.pre
  have hts : ∀ w ∈ tq_TS, w.before _ s = true := fun w hw => hts0 w (List.mem_cons_of_mem _ hw)
  have hw : ∀ w, w ∈ lw_tbl → goodWord w = true → w.before _ s = true := fun w h1 h2 => hts w (List.mem_filter.mpr ⟨h1, h2⟩)
  have hown : s.vm.findClass RX8 = some m.cls := findClass_of_methodNamed B.named
  have hin : meth.name = "<init>" := (name_of_methodNamed B.named B.method).1
  subst hsz
  have hD := hD0.self (sz := s.heap.size)
  generalize hAe : va_A [(h0, .inr (8, [.null, .null, .null, .null, .long 0, .int 0, .int 0]))] s.heap.size = A at hD ⊢
  have hA : ∀ q : Nat, s.heap.size ≤ q → A q := fun q h => by rw [← hAe]; exact Or.inr h
  have hS : va_S A s.heap s.heap [] := va_S.rf
  have hP : va_P D tq_cl [(h0, .inr (8, [.null, .null, .null, .null, .long 0, .int 0, .int 0]))] s.heap := hP
  have hl := lv_entry ([.ref h0]) (n := 1) (Nat.le_of_ble_eq_true rfl)
  rw [lg_entry_eq]
  generalize (lg_sl ([.ref h0]) ++ List.replicate (1 - (lg_sl ([.ref h0])).length) Slot.unset).toArray = ls at hl ⊢
  have hl : lv_has ls 1 [(0, .ref h0)] := hl
  refine lv_aload_n hx hb di_X8_0 rfl (lv_at hl 0 rfl) ?_
  refine W.objInit hx hb hown (hw _ ik_247 rfl) (hw _ ik_33 rfl) (hw _ ik_34 rfl) rfl (by rw [hml]; exact hl.1) rfl di_X8_1 (Nat.le_of_ble_eq_true rfl) (Nat.le_of_ble_eq_true rfl) ?_
  refine W.eq (g2 := F0 m 4 ls []) rfl ?_
  refine lv_aload_n hx hb di_X8_4 rfl (lv_at hl 0 rfl) ?_
  refine lv_bipush (v := 48) hx hb di_X8_5 (by decide) ?_
  refine ni_arr (t := 3) (N := 48) (atype := .long) hx hb (by decide) rfl (hw _ ik_120 rfl) hK hP hD hS hA (by decide) (by decide) (Nat.le_of_ble_eq_true rfl) (Nat.le_of_ble_eq_true rfl) (Nat.le_of_ble_eq_true rfl) di_X8_7 (fun q7 H hP hD hS => ?_)
  refine W.widen (k := 1) (n := 48) (Nat.le_of_ble_eq_true rfl) (Nat.le_of_ble_eq_true rfl) ?_
  have hP : va_P D tq_cl [(h0, .inr (8, [.null, .null, .null, .null, .long 0, .int 0, .int 0])), (q7, .inl (dA 3, (48, tq_ct tq_zz 0 3)))] H := hP
  have hD : va_D A [(h0, .inr (8, [.null, .null, .null, .null, .long 0, .int 0, .int 0])), (q7, .inl (dA 3, (48, tq_ct tq_zz 0 3)))] := hD
  refine va_putF (D := D) (ci := 8) (v := .ref q7) (ty := (.array .long)) (C := RX8) (T := TX8) (N := 7) hx hb hts mil_X8 tyX8 tyX8_ok nmX8 hown hK hP hD hS 0 rfl rfl 0 (by decide) (hw _ ik_248 rfl) (fun _ h9 => h9) rfl hin rfl rfl rfl rfl (Nat.le_of_ble_eq_true rfl) di_X8_9 (fun H locs hP hD hS => ?_)
  have hP : va_P D tq_cl [(h0, .inr (8, [.ref q7, .null, .null, .null, .long 0, .int 0, .int 0])), (q7, .inl (dA 3, (48, tq_ct tq_zz 0 3)))] H := hP
  have hD : va_D A [(h0, .inr (8, [.ref q7, .null, .null, .null, .long 0, .int 0, .int 0])), (q7, .inl (dA 3, (48, tq_ct tq_zz 0 3)))] := hD
  refine lv_aload_n hx hb di_X8_12 rfl (lv_at hl 0 rfl) ?_
  refine lv_bipush (v := 6) hx hb di_X8_13 (by decide) ?_
  refine ni_arr (t := 0) (N := 6) (atype := .int) hx hb (by decide) rfl (hw _ ik_194 rfl) hK hP hD hS hA (by decide) (by decide) (Nat.le_of_ble_eq_true rfl) (Nat.le_of_ble_eq_true rfl) (Nat.le_of_ble_eq_true rfl) di_X8_15 (fun q15 H hP hD hS => ?_)
  refine W.widen (k := 2) (n := 54) (Nat.le_of_ble_eq_true rfl) (Nat.le_of_ble_eq_true rfl) ?_
  have hP : va_P D tq_cl [(h0, .inr (8, [.ref q7, .null, .null, .null, .long 0, .int 0, .int 0])), (q7, .inl (dA 3, (48, tq_ct tq_zz 0 3))), (q15, .inl (dA 0, (6, tq_ct tq_zz 0 0)))] H := hP
  have hD : va_D A [(h0, .inr (8, [.ref q7, .null, .null, .null, .long 0, .int 0, .int 0])), (q7, .inl (dA 3, (48, tq_ct tq_zz 0 3))), (q15, .inl (dA 0, (6, tq_ct tq_zz 0 0)))] := hD
  refine va_putF (D := D) (ci := 8) (v := .ref q15) (ty := (.array .int)) (C := RX8) (T := TX8) (N := 7) hx hb hts mil_X8 tyX8 tyX8_ok nmX8 hown hK hP hD hS 0 rfl rfl 1 (by decide) (hw _ ik_250 rfl) (fun _ h9 => h9) rfl hin rfl rfl rfl rfl (Nat.le_of_ble_eq_true rfl) di_X8_17 (fun H locs hP hD hS => ?_)
  have hP : va_P D tq_cl [(h0, .inr (8, [.ref q7, .ref q15, .null, .null, .long 0, .int 0, .int 0])), (q7, .inl (dA 3, (48, tq_ct tq_zz 0 3))), (q15, .inl (dA 0, (6, tq_ct tq_zz 0 0)))] H := hP
  have hD : va_D A [(h0, .inr (8, [.ref q7, .ref q15, .null, .null, .long 0, .int 0, .int 0])), (q7, .inl (dA 3, (48, tq_ct tq_zz 0 3))), (q15, .inl (dA 0, (6, tq_ct tq_zz 0 0)))] := hD
  refine lv_aload_n hx hb di_X8_20 rfl (lv_at hl 0 rfl) ?_
  refine lv_bipush (v := 6) hx hb di_X8_21 (by decide) ?_
  refine ni_arr (t := 0) (N := 6) (atype := .int) hx hb (by decide) rfl (hw _ ik_194 rfl) hK hP hD hS hA (by decide) (by decide) (Nat.le_of_ble_eq_true rfl) (Nat.le_of_ble_eq_true rfl) (Nat.le_of_ble_eq_true rfl) di_X8_23 (fun q23 H hP hD hS => ?_)
  refine W.widen (k := 3) (n := 60) (Nat.le_of_ble_eq_true rfl) (Nat.le_of_ble_eq_true rfl) ?_
  have hP : va_P D tq_cl [(h0, .inr (8, [.ref q7, .ref q15, .null, .null, .long 0, .int 0, .int 0])), (q7, .inl (dA 3, (48, tq_ct tq_zz 0 3))), (q15, .inl (dA 0, (6, tq_ct tq_zz 0 0))), (q23, .inl (dA 0, (6, tq_ct tq_zz 0 0)))] H := hP
  have hD : va_D A [(h0, .inr (8, [.ref q7, .ref q15, .null, .null, .long 0, .int 0, .int 0])), (q7, .inl (dA 3, (48, tq_ct tq_zz 0 3))), (q15, .inl (dA 0, (6, tq_ct tq_zz 0 0))), (q23, .inl (dA 0, (6, tq_ct tq_zz 0 0)))] := hD
  refine va_putF (D := D) (ci := 8) (v := .ref q23) (ty := (.array .int)) (C := RX8) (T := TX8) (N := 7) hx hb hts mil_X8 tyX8 tyX8_ok nmX8 hown hK hP hD hS 0 rfl rfl 2 (by decide) (hw _ ik_252 rfl) (fun _ h9 => h9) rfl hin rfl rfl rfl rfl (Nat.le_of_ble_eq_true rfl) di_X8_25 (fun H locs hP hD hS => ?_)
  have hP : va_P D tq_cl [(h0, .inr (8, [.ref q7, .ref q15, .ref q23, .null, .long 0, .int 0, .int 0])), (q7, .inl (dA 3, (48, tq_ct tq_zz 0 3))), (q15, .inl (dA 0, (6, tq_ct tq_zz 0 0))), (q23, .inl (dA 0, (6, tq_ct tq_zz 0 0)))] H := hP
  have hD : va_D A [(h0, .inr (8, [.ref q7, .ref q15, .ref q23, .null, .long 0, .int 0, .int 0])), (q7, .inl (dA 3, (48, tq_ct tq_zz 0 3))), (q15, .inl (dA 0, (6, tq_ct tq_zz 0 0))), (q23, .inl (dA 0, (6, tq_ct tq_zz 0 0)))] := hD
  refine lv_aload_n hx hb di_X8_28 rfl (lv_at hl 0 rfl) ?_
  refine lv_bipush (v := 6) hx hb di_X8_29 (by decide) ?_
  refine ni_arr (t := 0) (N := 6) (atype := .int) hx hb (by decide) rfl (hw _ ik_194 rfl) hK hP hD hS hA (by decide) (by decide) (Nat.le_of_ble_eq_true rfl) (Nat.le_of_ble_eq_true rfl) (Nat.le_of_ble_eq_true rfl) di_X8_31 (fun q31 H hP hD hS => ?_)
  refine W.widen (k := 4) (n := 66) (Nat.le_of_ble_eq_true rfl) (Nat.le_of_ble_eq_true rfl) ?_
  have hP : va_P D tq_cl [(h0, .inr (8, [.ref q7, .ref q15, .ref q23, .null, .long 0, .int 0, .int 0])), (q7, .inl (dA 3, (48, tq_ct tq_zz 0 3))), (q15, .inl (dA 0, (6, tq_ct tq_zz 0 0))), (q23, .inl (dA 0, (6, tq_ct tq_zz 0 0))), (q31, .inl (dA 0, (6, tq_ct tq_zz 0 0)))] H := hP
  have hD : va_D A [(h0, .inr (8, [.ref q7, .ref q15, .ref q23, .null, .long 0, .int 0, .int 0])), (q7, .inl (dA 3, (48, tq_ct tq_zz 0 3))), (q15, .inl (dA 0, (6, tq_ct tq_zz 0 0))), (q23, .inl (dA 0, (6, tq_ct tq_zz 0 0))), (q31, .inl (dA 0, (6, tq_ct tq_zz 0 0)))] := hD
  refine va_putF (D := D) (ci := 8) (v := .ref q31) (ty := (.array .int)) (C := RX8) (T := TX8) (N := 7) hx hb hts mil_X8 tyX8 tyX8_ok nmX8 hown hK hP hD hS 0 rfl rfl 3 (by decide) (hw _ ik_254 rfl) (fun _ h9 => h9) rfl hin rfl rfl rfl rfl (Nat.le_of_ble_eq_true rfl) di_X8_33 (fun H locs hP hD hS => ?_)
  have hP : va_P D tq_cl [(h0, .inr (8, [.ref q7, .ref q15, .ref q23, .ref q31, .long 0, .int 0, .int 0])), (q7, .inl (dA 3, (48, tq_ct tq_zz 0 3))), (q15, .inl (dA 0, (6, tq_ct tq_zz 0 0))), (q23, .inl (dA 0, (6, tq_ct tq_zz 0 0))), (q31, .inl (dA 0, (6, tq_ct tq_zz 0 0)))] H := hP
  have hD : va_D A [(h0, .inr (8, [.ref q7, .ref q15, .ref q23, .ref q31, .long 0, .int 0, .int 0])), (q7, .inl (dA 3, (48, tq_ct tq_zz 0 3))), (q15, .inl (dA 0, (6, tq_ct tq_zz 0 0))), (q23, .inl (dA 0, (6, tq_ct tq_zz 0 0))), (q31, .inl (dA 0, (6, tq_ct tq_zz 0 0)))] := hD
  refine lv_aload_n hx hb di_X8_36 rfl (lv_at hl 0 rfl) ?_
  refine lv_lconst (v := 0) hx hb di_X8_37 (by decide) ?_
  refine va_put (D := D) (ci := 8) (v := .long 0) (ty := .long) (C := RX8) (T := TX8) (N := 7) hx hb hts mil_X8 tyX8 tyX8_ok nmX8 hown hK hP hD hS 0 rfl rfl 4 (by decide) (hw _ ik_256 rfl) (fun _ h9 => h9) rfl rfl rfl rfl (Nat.le_of_ble_eq_true rfl) di_X8_38 (fun H locs hP hD hS => ?_)
  have hP : va_P D tq_cl [(h0, .inr (8, [.ref q7, .ref q15, .ref q23, .ref q31, .long 0, .int 0, .int 0])), (q7, .inl (dA 3, (48, tq_ct tq_zz 0 3))), (q15, .inl (dA 0, (6, tq_ct tq_zz 0 0))), (q23, .inl (dA 0, (6, tq_ct tq_zz 0 0))), (q31, .inl (dA 0, (6, tq_ct tq_zz 0 0)))] H := hP
  have hD : va_D A [(h0, .inr (8, [.ref q7, .ref q15, .ref q23, .ref q31, .long 0, .int 0, .int 0])), (q7, .inl (dA 3, (48, tq_ct tq_zz 0 3))), (q15, .inl (dA 0, (6, tq_ct tq_zz 0 0))), (q23, .inl (dA 0, (6, tq_ct tq_zz 0 0))), (q31, .inl (dA 0, (6, tq_ct tq_zz 0 0)))] := hD
  refine lv_aload_n hx hb di_X8_41 rfl (lv_at hl 0 rfl) ?_
  refine lv_iconst (v := 0) hx hb di_X8_42 (by decide) ?_
  refine va_put (D := D) (ci := 8) (v := .int 0) (ty := .int) (C := RX8) (T := TX8) (N := 7) hx hb hts mil_X8 tyX8 tyX8_ok nmX8 hown hK hP hD hS 0 rfl rfl 5 (by decide) (hw _ ik_257 rfl) (fun _ h9 => h9) rfl rfl rfl rfl (Nat.le_of_ble_eq_true rfl) di_X8_43 (fun H locs hP hD hS => ?_)
  have hP : va_P D tq_cl [(h0, .inr (8, [.ref q7, .ref q15, .ref q23, .ref q31, .long 0, .int 0, .int 0])), (q7, .inl (dA 3, (48, tq_ct tq_zz 0 3))), (q15, .inl (dA 0, (6, tq_ct tq_zz 0 0))), (q23, .inl (dA 0, (6, tq_ct tq_zz 0 0))), (q31, .inl (dA 0, (6, tq_ct tq_zz 0 0)))] H := hP
  have hD : va_D A [(h0, .inr (8, [.ref q7, .ref q15, .ref q23, .ref q31, .long 0, .int 0, .int 0])), (q7, .inl (dA 3, (48, tq_ct tq_zz 0 3))), (q15, .inl (dA 0, (6, tq_ct tq_zz 0 0))), (q23, .inl (dA 0, (6, tq_ct tq_zz 0 0))), (q31, .inl (dA 0, (6, tq_ct tq_zz 0 0)))] := hD
  refine lv_aload_n hx hb di_X8_46 rfl (lv_at hl 0 rfl) ?_
  refine lv_iconst (v := 0) hx hb di_X8_47 (by decide) ?_
  refine va_put (D := D) (ci := 8) (v := .int 0) (ty := .int) (C := RX8) (T := TX8) (N := 7) hx hb hts mil_X8 tyX8 tyX8_ok nmX8 hown hK hP hD hS 0 rfl rfl 6 (by decide) (hw _ ik_259 rfl) (fun _ h9 => h9) rfl rfl rfl rfl (Nat.le_of_ble_eq_true rfl) di_X8_48 (fun H locs hP hD hS => ?_)
  have hP : va_P D tq_cl [(h0, .inr (8, [.ref q7, .ref q15, .ref q23, .ref q31, .long 0, .int 0, .int 0])), (q7, .inl (dA 3, (48, tq_ct tq_zz 0 3))), (q15, .inl (dA 0, (6, tq_ct tq_zz 0 0))), (q23, .inl (dA 0, (6, tq_ct tq_zz 0 0))), (q31, .inl (dA 0, (6, tq_ct tq_zz 0 0)))] H := hP
  have hD : va_D A [(h0, .inr (8, [.ref q7, .ref q15, .ref q23, .ref q31, .long 0, .int 0, .int 0])), (q7, .inl (dA 3, (48, tq_ct tq_zz 0 3))), (q15, .inl (dA 0, (6, tq_ct tq_zz 0 0))), (q23, .inl (dA 0, (6, tq_ct tq_zz 0 0))), (q31, .inl (dA 0, (6, tq_ct tq_zz 0 0)))] := hD
  exact W.vret hx hb hr (fun t ht hW => ⟨⟨(), rfl, trivial, q7, q15, q23, q31, by rw [ht]; exact hP, va_K.moved hW.alike hK, hD⟩, hS.F ht⟩) hS.2.2 di_X8_51
abbrev mi_X4 : tq_MD := (yX4_init, cX4_init, 3, none, [], 4)
theorem mic_X4 : tq_cw mi_X4 ∈ lw_tbl := tq_i2 40 rfl
theorem mil_X4 : ∀ w ∈ u_ws RX4 TX4 19, w ∈ tq_TS := tq_lays_good tq_cl_X4.1
theorem di_X4_0 : decode cX4_init 0 = .ok (.aload_n 0, 1) := by decide +kernel
theorem di_X4_1 : decode cX4_init 1 = .ok (.invokespecial 5, 3) := by decide +kernel
theorem ik_281 : (.methodLink RX4 5 objectInit : Cond) ∈ lw_tbl := tq_i2 41 rfl
theorem di_X4_4 : decode cX4_init 4 = .ok (.aload_n 0, 1) := by decide +kernel
theorem di_X4_5 : decode cX4_init 5 = .ok (.aload_n 1, 1) := by decide +kernel
theorem di_X4_6 : decode cX4_init 6 = .ok (.putfield 11, 3) := by decide +kernel
theorem ik_282 : (.fieldLink RX4 11 RX4 "board" "LTilecount$Board;" : Cond) ∈ lw_tbl := tq_i2 42 rfl
theorem di_X4_9 : decode cX4_init 9 = .ok (.aload_n 0, 1) := by decide +kernel
theorem di_X4_10 : decode cX4_init 10 = .ok (.aload_n 2, 1) := by decide +kernel
theorem di_X4_11 : decode cX4_init 11 = .ok (.putfield 15, 3) := by decide +kernel
theorem ik_283 : (.fieldLink RX4 15 RX4 "kinds" "LTilecount$Kinds;" : Cond) ∈ lw_tbl := tq_i2 43 rfl
theorem di_X4_14 : decode cX4_init 14 = .ok (.aload_n 0, 1) := by decide +kernel
theorem di_X4_15 : decode cX4_init 15 = .ok (.sipush 1152, 3) := by decide +kernel
theorem di_X4_18 : decode cX4_init 18 = .ok (.newarray .long, 2) := by decide +kernel
theorem di_X4_20 : decode cX4_init 20 = .ok (.putfield 19, 3) := by decide +kernel
theorem ik_284 : (.fieldLink RX4 19 RX4 "pieces" "[J" : Cond) ∈ lw_tbl := tq_i2 44 rfl
theorem di_X4_23 : decode cX4_init 23 = .ok (.aload_n 0, 1) := by decide +kernel
theorem di_X4_24 : decode cX4_init 24 = .ok (.bipush 25, 2) := by decide +kernel
theorem di_X4_26 : decode cX4_init 26 = .ok (.newarray .int, 2) := by decide +kernel
theorem di_X4_28 : decode cX4_init 28 = .ok (.putfield 23, 3) := by decide +kernel
theorem ik_285 : (.fieldLink RX4 23 RX4 "starts" "[I" : Cond) ∈ lw_tbl := tq_i2 45 rfl
theorem di_X4_31 : decode cX4_init 31 = .ok (.aload_n 0, 1) := by decide +kernel
theorem di_X4_32 : decode cX4_init 32 = .ok (.bipush 24, 2) := by decide +kernel
theorem di_X4_34 : decode cX4_init 34 = .ok (.newarray .int, 2) := by decide +kernel
theorem di_X4_36 : decode cX4_init 36 = .ok (.putfield 27, 3) := by decide +kernel
theorem ik_286 : (.fieldLink RX4 27 RX4 "cellAt" "[I" : Cond) ∈ lw_tbl := tq_i2 46 rfl
theorem di_X4_39 : decode cX4_init 39 = .ok (.aload_n 0, 1) := by decide +kernel
theorem di_X4_40 : decode cX4_init 40 = .ok (.bipush 64, 2) := by decide +kernel
theorem di_X4_42 : decode cX4_init 42 = .ok (.newarray .int, 2) := by decide +kernel
theorem di_X4_44 : decode cX4_init 44 = .ok (.putfield 32, 3) := by decide +kernel
theorem ik_287 : (.fieldLink RX4 32 RX4 "indexOf" "[I" : Cond) ∈ lw_tbl := tq_i2 47 rfl
theorem di_X4_47 : decode cX4_init 47 = .ok (.aload_n 0, 1) := by decide +kernel
theorem di_X4_48 : decode cX4_init 48 = .ok (.sipush 192, 3) := by decide +kernel
theorem di_X4_51 : decode cX4_init 51 = .ok (.newarray .int, 2) := by decide +kernel
theorem di_X4_53 : decode cX4_init 53 = .ok (.putfield 37, 3) := by decide +kernel
theorem ik_288 : (.fieldLink RX4 37 RX4 "movedTo" "[I" : Cond) ∈ lw_tbl := tq_i2 48 rfl
theorem di_X4_56 : decode cX4_init 56 = .ok (.aload_n 0, 1) := by decide +kernel
theorem di_X4_57 : decode cX4_init 57 = .ok (.sipush 2048, 3) := by decide +kernel
theorem di_X4_60 : decode cX4_init 60 = .ok (.newarray .long, 2) := by decide +kernel
theorem di_X4_62 : decode cX4_init 62 = .ok (.putfield 40, 3) := by decide +kernel
theorem ik_289 : (.fieldLink RX4 40 RX4 "keys" "[J" : Cond) ∈ lw_tbl := tq_i2 49 rfl
theorem di_X4_65 : decode cX4_init 65 = .ok (.aload_n 0, 1) := by decide +kernel
theorem di_X4_66 : decode cX4_init 66 = .ok (.sipush 2048, 3) := by decide +kernel
theorem di_X4_69 : decode cX4_init 69 = .ok (.newarray .long, 2) := by decide +kernel
theorem di_X4_71 : decode cX4_init 71 = .ok (.putfield 43, 3) := by decide +kernel
theorem ik_290 : (.fieldLink RX4 43 RX4 "values" "[J" : Cond) ∈ lw_tbl := tq_i2 50 rfl
theorem di_X4_74 : decode cX4_init 74 = .ok (.aload_n 0, 1) := by decide +kernel
theorem di_X4_75 : decode cX4_init 75 = .ok (.sipush 288, 3) := by decide +kernel
theorem di_X4_78 : decode cX4_init 78 = .ok (.newarray .long, 2) := by decide +kernel
theorem di_X4_80 : decode cX4_init 80 = .ok (.putfield 46, 3) := by decide +kernel
theorem ik_291 : (.fieldLink RX4 46 RX4 "openings" "[J" : Cond) ∈ lw_tbl := tq_i2 51 rfl
theorem di_X4_83 : decode cX4_init 83 = .ok (.aload_n 0, 1) := by decide +kernel
theorem di_X4_84 : decode cX4_init 84 = .ok (.bipush 8, 2) := by decide +kernel
theorem di_X4_86 : decode cX4_init 86 = .ok (.newarray .int, 2) := by decide +kernel
theorem di_X4_88 : decode cX4_init 88 = .ok (.putfield 49, 3) := by decide +kernel
theorem ik_292 : (.fieldLink RX4 49 RX4 "chosen" "[I" : Cond) ∈ lw_tbl := tq_i2 52 rfl
theorem di_X4_91 : decode cX4_init 91 = .ok (.aload_n 0, 1) := by decide +kernel
theorem di_X4_92 : decode cX4_init 92 = .ok (.iconst (-1), 1) := by decide +kernel
theorem di_X4_93 : decode cX4_init 93 = .ok (.putfield 52, 3) := by decide +kernel
theorem ik_297 : (.fieldLink RX4 52 RX4 "boardAt" "I" : Cond) ∈ lw_tbl := tq_i2 57 rfl
theorem di_X4_96 : decode cX4_init 96 = .ok (.aload_n 0, 1) := by decide +kernel
theorem di_X4_97 : decode cX4_init 97 = .ok (.iconst (-1), 1) := by decide +kernel
theorem di_X4_98 : decode cX4_init 98 = .ok (.putfield 56, 3) := by decide +kernel
theorem ik_298 : (.fieldLink RX4 56 RX4 "kindsAt" "I" : Cond) ∈ lw_tbl := tq_i2 58 rfl
theorem di_X4_101 : decode cX4_init 101 = .ok (.return_, 1) := by decide +kernel
set_option maxHeartbeats 8000000 in
set_option maxRecDepth 100000 in
theorem ci_X4 (l : Launch) (D : va_G) (dA : Nat → ClassId) (h0 h1 h2 : Nat) (sz : Nat) : Met l yX4_init (tq_ws mi_X4) ({ frames := 2, cells := 9, slots := 5849, locals := 60 }) (va_Pc [.ref h0, .ref h1, .ref h2] (fun U => U.heap.size = sz ∧ va_P D tq_cl [(h0, .inr (4, [.null, .null, .null, .null, .null, .null, .null, .null, .null, .null, .null, .int 0, .int 0, .int 0, .int 0, .int 0, .int 0, .long 0, .long 0]))] U.heap ∧ va_K D tq_cl (tq_tys dA) U ∧ va_D (fun _ => True) [(h0, .inr (4, [.null, .null, .null, .null, .null, .null, .null, .null, .null, .null, .null, .int 0, .int 0, .int 0, .int 0, .int 0, .int 0, .long 0, .long 0]))])) (va_Qv (fun _ : Unit => True) (fun _ t => ∃ (q18 q26 q34 q42 q51 q60 q69 q78 q86 : Nat), va_P D tq_cl [(h0, .inr (4, [.ref h1, .ref h2, .ref q18, .ref q26, .ref q34, .ref q42, .ref q51, .ref q60, .ref q69, .ref q78, .ref q86, .int 0, .int 0, .int 0, .int 0, .int (-1), .int (-1), .long 0, .long 0])), (q18, .inl (dA 3, (1152, tq_ct tq_zz 0 3))), (q26, .inl (dA 0, (25, tq_ct tq_zz 0 0))), (q34, .inl (dA 0, (24, tq_ct tq_zz 0 0))), (q42, .inl (dA 0, (64, tq_ct tq_zz 0 0))), (q51, .inl (dA 0, (192, tq_ct tq_zz 0 0))), (q60, .inl (dA 3, (2048, tq_ct tq_zz 0 3))), (q69, .inl (dA 3, (2048, tq_ct tq_zz 0 3))), (q78, .inl (dA 3, (288, tq_ct tq_zz 0 3))), (q86, .inl (dA 0, (8, tq_ct tq_zz 0 0)))] t.heap ∧ va_K D tq_cl (tq_tys dA) t ∧ va_D (va_A [(h0, .inr (4, [.null, .null, .null, .null, .null, .null, .null, .null, .null, .null, .null, .int 0, .int 0, .int 0, .int 0, .int 0, .int 0, .long 0, .long 0]))] sz) [(h0, .inr (4, [.ref h1, .ref h2, .ref q18, .ref q26, .ref q34, .ref q42, .ref q51, .ref q60, .ref q69, .ref q78, .ref q86, .int 0, .int 0, .int 0, .int 0, .int (-1), .int (-1), .long 0, .long 0])), (q18, .inl (dA 3, (1152, tq_ct tq_zz 0 3))), (q26, .inl (dA 0, (25, tq_ct tq_zz 0 0))), (q34, .inl (dA 0, (24, tq_ct tq_zz 0 0))), (q42, .inl (dA 0, (64, tq_ct tq_zz 0 0))), (q51, .inl (dA 0, (192, tq_ct tq_zz 0 0))), (q60, .inl (dA 3, (2048, tq_ct tq_zz 0 3))), (q69, .inl (dA 3, (2048, tq_ct tq_zz 0 3))), (q78, .inl (dA 3, (288, tq_ct tq_zz 0 3))), (q86, .inl (dA 0, (8, tq_ct tq_zz 0 0)))]) (va_A [(h0, .inr (4, [.null, .null, .null, .null, .null, .null, .null, .null, .null, .null, .null, .int 0, .int 0, .int 0, .int 0, .int 0, .int 0, .long 0, .long 0]))] sz)) 9 5849 (va_A [(h0, .inr (4, [.null, .null, .null, .null, .null, .null, .null, .null, .null, .null, .null, .int 0, .int 0, .int 0, .int 0, .int 0, .int 0, .long 0, .long 0]))] sz) := by
  refine Met.ofW (cc := cX4_init) (maxL := 3) (ret := none) (by decide) rfl ?_
  intro p e s m args below meth c s₁ B hml hv
  obtain ⟨rfl, hsz, hP, hK, hD0⟩ := hv
  have hx := B.exec
  have hb := B.bytes
  have hr := B.returns
  have hts0 := atoms_spec (ws := tq_ws mi_X4) B.pre
  have hts : ∀ w ∈ tq_TS, w.before _ s = true := fun w hw => hts0 w (List.mem_cons_of_mem _ hw)
  have hw : ∀ w, w ∈ lw_tbl → goodWord w = true → w.before _ s = true := fun w h1 h2 => hts w (List.mem_filter.mpr ⟨h1, h2⟩)
  have hown : s.vm.findClass RX4 = some m.cls := findClass_of_methodNamed B.named
  have hin : meth.name = "<init>" := (name_of_methodNamed B.named B.method).1
  subst hsz
  have hD := hD0.self (sz := s.heap.size)
  generalize hAe : va_A [(h0, .inr (4, [.null, .null, .null, .null, .null, .null, .null, .null, .null, .null, .null, .int 0, .int 0, .int 0, .int 0, .int 0, .int 0, .long 0, .long 0]))] s.heap.size = A at hD ⊢
  have hA : ∀ q : Nat, s.heap.size ≤ q → A q := fun q h => by rw [← hAe]; exact Or.inr h
  have hS : va_S A s.heap s.heap [] := va_S.rf
  have hP : va_P D tq_cl [(h0, .inr (4, [.null, .null, .null, .null, .null, .null, .null, .null, .null, .null, .null, .int 0, .int 0, .int 0, .int 0, .int 0, .int 0, .long 0, .long 0]))] s.heap := hP
  have hl := lv_entry ([.ref h0, .ref h1, .ref h2]) (n := 3) (Nat.le_of_ble_eq_true rfl)
  rw [lg_entry_eq]
  generalize (lg_sl ([.ref h0, .ref h1, .ref h2]) ++ List.replicate (3 - (lg_sl ([.ref h0, .ref h1, .ref h2])).length) Slot.unset).toArray = ls at hl ⊢
  have hl : lv_has ls 3 [(0, .ref h0), (1, .ref h1), (2, .ref h2)] := hl
  refine lv_aload_n hx hb di_X4_0 rfl (lv_at hl 0 rfl) ?_
  refine W.objInit hx hb hown (hw _ ik_281 rfl) (hw _ ik_33 rfl) (hw _ ik_34 rfl) rfl (by rw [hml]; exact hl.1) rfl di_X4_1 (Nat.le_of_ble_eq_true rfl) (Nat.le_of_ble_eq_true rfl) ?_
  refine W.eq (g2 := F0 m 4 ls []) rfl ?_
  refine lv_aload_n hx hb di_X4_4 rfl (lv_at hl 0 rfl) ?_
  refine lv_aload_n hx hb di_X4_5 rfl (lv_at hl 1 rfl) ?_
  refine va_putF (D := D) (ci := 4) (v := .ref h1) (ty := (.object "Tilecount$Board")) (C := RX4) (T := TX4) (N := 19) hx hb hts mil_X4 tyX4 tyX4_ok nmX4 hown hK hP hD hS 0 rfl rfl 0 (by decide) (hw _ ik_282 rfl) (fun _ h9 => h9) rfl hin rfl rfl rfl rfl (Nat.le_of_ble_eq_true rfl) di_X4_6 (fun H locs hP hD hS => ?_)
  have hP : va_P D tq_cl [(h0, .inr (4, [.ref h1, .null, .null, .null, .null, .null, .null, .null, .null, .null, .null, .int 0, .int 0, .int 0, .int 0, .int 0, .int 0, .long 0, .long 0]))] H := hP
  have hD : va_D A [(h0, .inr (4, [.ref h1, .null, .null, .null, .null, .null, .null, .null, .null, .null, .null, .int 0, .int 0, .int 0, .int 0, .int 0, .int 0, .long 0, .long 0]))] := hD
  refine lv_aload_n hx hb di_X4_9 rfl (lv_at hl 0 rfl) ?_
  refine lv_aload_n hx hb di_X4_10 rfl (lv_at hl 2 rfl) ?_
  refine va_putF (D := D) (ci := 4) (v := .ref h2) (ty := (.object "Tilecount$Kinds")) (C := RX4) (T := TX4) (N := 19) hx hb hts mil_X4 tyX4 tyX4_ok nmX4 hown hK hP hD hS 0 rfl rfl 1 (by decide) (hw _ ik_283 rfl) (fun _ h9 => h9) rfl hin rfl rfl rfl rfl (Nat.le_of_ble_eq_true rfl) di_X4_11 (fun H locs hP hD hS => ?_)
  have hP : va_P D tq_cl [(h0, .inr (4, [.ref h1, .ref h2, .null, .null, .null, .null, .null, .null, .null, .null, .null, .int 0, .int 0, .int 0, .int 0, .int 0, .int 0, .long 0, .long 0]))] H := hP
  have hD : va_D A [(h0, .inr (4, [.ref h1, .ref h2, .null, .null, .null, .null, .null, .null, .null, .null, .null, .int 0, .int 0, .int 0, .int 0, .int 0, .int 0, .long 0, .long 0]))] := hD
  refine lv_aload_n hx hb di_X4_14 rfl (lv_at hl 0 rfl) ?_
  refine lv_sipush (v := 1152) hx hb di_X4_15 (by decide) ?_
  refine ni_arr (t := 3) (N := 1152) (atype := .long) hx hb (by decide) rfl (hw _ ik_120 rfl) hK hP hD hS hA (by decide) (by decide) (Nat.le_of_ble_eq_true rfl) (Nat.le_of_ble_eq_true rfl) (Nat.le_of_ble_eq_true rfl) di_X4_18 (fun q18 H hP hD hS => ?_)
  refine W.widen (k := 1) (n := 1152) (Nat.le_of_ble_eq_true rfl) (Nat.le_of_ble_eq_true rfl) ?_
  have hP : va_P D tq_cl [(h0, .inr (4, [.ref h1, .ref h2, .null, .null, .null, .null, .null, .null, .null, .null, .null, .int 0, .int 0, .int 0, .int 0, .int 0, .int 0, .long 0, .long 0])), (q18, .inl (dA 3, (1152, tq_ct tq_zz 0 3)))] H := hP
  have hD : va_D A [(h0, .inr (4, [.ref h1, .ref h2, .null, .null, .null, .null, .null, .null, .null, .null, .null, .int 0, .int 0, .int 0, .int 0, .int 0, .int 0, .long 0, .long 0])), (q18, .inl (dA 3, (1152, tq_ct tq_zz 0 3)))] := hD
  refine va_putF (D := D) (ci := 4) (v := .ref q18) (ty := (.array .long)) (C := RX4) (T := TX4) (N := 19) hx hb hts mil_X4 tyX4 tyX4_ok nmX4 hown hK hP hD hS 0 rfl rfl 2 (by decide) (hw _ ik_284 rfl) (fun _ h9 => h9) rfl hin rfl rfl rfl rfl (Nat.le_of_ble_eq_true rfl) di_X4_20 (fun H locs hP hD hS => ?_)
  have hP : va_P D tq_cl [(h0, .inr (4, [.ref h1, .ref h2, .ref q18, .null, .null, .null, .null, .null, .null, .null, .null, .int 0, .int 0, .int 0, .int 0, .int 0, .int 0, .long 0, .long 0])), (q18, .inl (dA 3, (1152, tq_ct tq_zz 0 3)))] H := hP
  have hD : va_D A [(h0, .inr (4, [.ref h1, .ref h2, .ref q18, .null, .null, .null, .null, .null, .null, .null, .null, .int 0, .int 0, .int 0, .int 0, .int 0, .int 0, .long 0, .long 0])), (q18, .inl (dA 3, (1152, tq_ct tq_zz 0 3)))] := hD
  refine lv_aload_n hx hb di_X4_23 rfl (lv_at hl 0 rfl) ?_
  refine lv_bipush (v := 25) hx hb di_X4_24 (by decide) ?_
  refine ni_arr (t := 0) (N := 25) (atype := .int) hx hb (by decide) rfl (hw _ ik_194 rfl) hK hP hD hS hA (by decide) (by decide) (Nat.le_of_ble_eq_true rfl) (Nat.le_of_ble_eq_true rfl) (Nat.le_of_ble_eq_true rfl) di_X4_26 (fun q26 H hP hD hS => ?_)
  refine W.widen (k := 2) (n := 1177) (Nat.le_of_ble_eq_true rfl) (Nat.le_of_ble_eq_true rfl) ?_
  have hP : va_P D tq_cl [(h0, .inr (4, [.ref h1, .ref h2, .ref q18, .null, .null, .null, .null, .null, .null, .null, .null, .int 0, .int 0, .int 0, .int 0, .int 0, .int 0, .long 0, .long 0])), (q18, .inl (dA 3, (1152, tq_ct tq_zz 0 3))), (q26, .inl (dA 0, (25, tq_ct tq_zz 0 0)))] H := hP
  have hD : va_D A [(h0, .inr (4, [.ref h1, .ref h2, .ref q18, .null, .null, .null, .null, .null, .null, .null, .null, .int 0, .int 0, .int 0, .int 0, .int 0, .int 0, .long 0, .long 0])), (q18, .inl (dA 3, (1152, tq_ct tq_zz 0 3))), (q26, .inl (dA 0, (25, tq_ct tq_zz 0 0)))] := hD
  refine va_putF (D := D) (ci := 4) (v := .ref q26) (ty := (.array .int)) (C := RX4) (T := TX4) (N := 19) hx hb hts mil_X4 tyX4 tyX4_ok nmX4 hown hK hP hD hS 0 rfl rfl 3 (by decide) (hw _ ik_285 rfl) (fun _ h9 => h9) rfl hin rfl rfl rfl rfl (Nat.le_of_ble_eq_true rfl) di_X4_28 (fun H locs hP hD hS => ?_)
  have hP : va_P D tq_cl [(h0, .inr (4, [.ref h1, .ref h2, .ref q18, .ref q26, .null, .null, .null, .null, .null, .null, .null, .int 0, .int 0, .int 0, .int 0, .int 0, .int 0, .long 0, .long 0])), (q18, .inl (dA 3, (1152, tq_ct tq_zz 0 3))), (q26, .inl (dA 0, (25, tq_ct tq_zz 0 0)))] H := hP
  have hD : va_D A [(h0, .inr (4, [.ref h1, .ref h2, .ref q18, .ref q26, .null, .null, .null, .null, .null, .null, .null, .int 0, .int 0, .int 0, .int 0, .int 0, .int 0, .long 0, .long 0])), (q18, .inl (dA 3, (1152, tq_ct tq_zz 0 3))), (q26, .inl (dA 0, (25, tq_ct tq_zz 0 0)))] := hD
  refine lv_aload_n hx hb di_X4_31 rfl (lv_at hl 0 rfl) ?_
  refine lv_bipush (v := 24) hx hb di_X4_32 (by decide) ?_
  refine ni_arr (t := 0) (N := 24) (atype := .int) hx hb (by decide) rfl (hw _ ik_194 rfl) hK hP hD hS hA (by decide) (by decide) (Nat.le_of_ble_eq_true rfl) (Nat.le_of_ble_eq_true rfl) (Nat.le_of_ble_eq_true rfl) di_X4_34 (fun q34 H hP hD hS => ?_)
  refine W.widen (k := 3) (n := 1201) (Nat.le_of_ble_eq_true rfl) (Nat.le_of_ble_eq_true rfl) ?_
  have hP : va_P D tq_cl [(h0, .inr (4, [.ref h1, .ref h2, .ref q18, .ref q26, .null, .null, .null, .null, .null, .null, .null, .int 0, .int 0, .int 0, .int 0, .int 0, .int 0, .long 0, .long 0])), (q18, .inl (dA 3, (1152, tq_ct tq_zz 0 3))), (q26, .inl (dA 0, (25, tq_ct tq_zz 0 0))), (q34, .inl (dA 0, (24, tq_ct tq_zz 0 0)))] H := hP
  have hD : va_D A [(h0, .inr (4, [.ref h1, .ref h2, .ref q18, .ref q26, .null, .null, .null, .null, .null, .null, .null, .int 0, .int 0, .int 0, .int 0, .int 0, .int 0, .long 0, .long 0])), (q18, .inl (dA 3, (1152, tq_ct tq_zz 0 3))), (q26, .inl (dA 0, (25, tq_ct tq_zz 0 0))), (q34, .inl (dA 0, (24, tq_ct tq_zz 0 0)))] := hD
  refine va_putF (D := D) (ci := 4) (v := .ref q34) (ty := (.array .int)) (C := RX4) (T := TX4) (N := 19) hx hb hts mil_X4 tyX4 tyX4_ok nmX4 hown hK hP hD hS 0 rfl rfl 4 (by decide) (hw _ ik_286 rfl) (fun _ h9 => h9) rfl hin rfl rfl rfl rfl (Nat.le_of_ble_eq_true rfl) di_X4_36 (fun H locs hP hD hS => ?_)
  have hP : va_P D tq_cl [(h0, .inr (4, [.ref h1, .ref h2, .ref q18, .ref q26, .ref q34, .null, .null, .null, .null, .null, .null, .int 0, .int 0, .int 0, .int 0, .int 0, .int 0, .long 0, .long 0])), (q18, .inl (dA 3, (1152, tq_ct tq_zz 0 3))), (q26, .inl (dA 0, (25, tq_ct tq_zz 0 0))), (q34, .inl (dA 0, (24, tq_ct tq_zz 0 0)))] H := hP
  have hD : va_D A [(h0, .inr (4, [.ref h1, .ref h2, .ref q18, .ref q26, .ref q34, .null, .null, .null, .null, .null, .null, .int 0, .int 0, .int 0, .int 0, .int 0, .int 0, .long 0, .long 0])), (q18, .inl (dA 3, (1152, tq_ct tq_zz 0 3))), (q26, .inl (dA 0, (25, tq_ct tq_zz 0 0))), (q34, .inl (dA 0, (24, tq_ct tq_zz 0 0)))] := hD
  refine lv_aload_n hx hb di_X4_39 rfl (lv_at hl 0 rfl) ?_
  refine lv_bipush (v := 64) hx hb di_X4_40 (by decide) ?_
  refine ni_arr (t := 0) (N := 64) (atype := .int) hx hb (by decide) rfl (hw _ ik_194 rfl) hK hP hD hS hA (by decide) (by decide) (Nat.le_of_ble_eq_true rfl) (Nat.le_of_ble_eq_true rfl) (Nat.le_of_ble_eq_true rfl) di_X4_42 (fun q42 H hP hD hS => ?_)
  refine W.widen (k := 4) (n := 1265) (Nat.le_of_ble_eq_true rfl) (Nat.le_of_ble_eq_true rfl) ?_
  have hP : va_P D tq_cl [(h0, .inr (4, [.ref h1, .ref h2, .ref q18, .ref q26, .ref q34, .null, .null, .null, .null, .null, .null, .int 0, .int 0, .int 0, .int 0, .int 0, .int 0, .long 0, .long 0])), (q18, .inl (dA 3, (1152, tq_ct tq_zz 0 3))), (q26, .inl (dA 0, (25, tq_ct tq_zz 0 0))), (q34, .inl (dA 0, (24, tq_ct tq_zz 0 0))), (q42, .inl (dA 0, (64, tq_ct tq_zz 0 0)))] H := hP
  have hD : va_D A [(h0, .inr (4, [.ref h1, .ref h2, .ref q18, .ref q26, .ref q34, .null, .null, .null, .null, .null, .null, .int 0, .int 0, .int 0, .int 0, .int 0, .int 0, .long 0, .long 0])), (q18, .inl (dA 3, (1152, tq_ct tq_zz 0 3))), (q26, .inl (dA 0, (25, tq_ct tq_zz 0 0))), (q34, .inl (dA 0, (24, tq_ct tq_zz 0 0))), (q42, .inl (dA 0, (64, tq_ct tq_zz 0 0)))] := hD
  refine va_putF (D := D) (ci := 4) (v := .ref q42) (ty := (.array .int)) (C := RX4) (T := TX4) (N := 19) hx hb hts mil_X4 tyX4 tyX4_ok nmX4 hown hK hP hD hS 0 rfl rfl 5 (by decide) (hw _ ik_287 rfl) (fun _ h9 => h9) rfl hin rfl rfl rfl rfl (Nat.le_of_ble_eq_true rfl) di_X4_44 (fun H locs hP hD hS => ?_)
  have hP : va_P D tq_cl [(h0, .inr (4, [.ref h1, .ref h2, .ref q18, .ref q26, .ref q34, .ref q42, .null, .null, .null, .null, .null, .int 0, .int 0, .int 0, .int 0, .int 0, .int 0, .long 0, .long 0])), (q18, .inl (dA 3, (1152, tq_ct tq_zz 0 3))), (q26, .inl (dA 0, (25, tq_ct tq_zz 0 0))), (q34, .inl (dA 0, (24, tq_ct tq_zz 0 0))), (q42, .inl (dA 0, (64, tq_ct tq_zz 0 0)))] H := hP
  have hD : va_D A [(h0, .inr (4, [.ref h1, .ref h2, .ref q18, .ref q26, .ref q34, .ref q42, .null, .null, .null, .null, .null, .int 0, .int 0, .int 0, .int 0, .int 0, .int 0, .long 0, .long 0])), (q18, .inl (dA 3, (1152, tq_ct tq_zz 0 3))), (q26, .inl (dA 0, (25, tq_ct tq_zz 0 0))), (q34, .inl (dA 0, (24, tq_ct tq_zz 0 0))), (q42, .inl (dA 0, (64, tq_ct tq_zz 0 0)))] := hD
  refine lv_aload_n hx hb di_X4_47 rfl (lv_at hl 0 rfl) ?_
  refine lv_sipush (v := 192) hx hb di_X4_48 (by decide) ?_
  refine ni_arr (t := 0) (N := 192) (atype := .int) hx hb (by decide) rfl (hw _ ik_194 rfl) hK hP hD hS hA (by decide) (by decide) (Nat.le_of_ble_eq_true rfl) (Nat.le_of_ble_eq_true rfl) (Nat.le_of_ble_eq_true rfl) di_X4_51 (fun q51 H hP hD hS => ?_)
  refine W.widen (k := 5) (n := 1457) (Nat.le_of_ble_eq_true rfl) (Nat.le_of_ble_eq_true rfl) ?_
  have hP : va_P D tq_cl [(h0, .inr (4, [.ref h1, .ref h2, .ref q18, .ref q26, .ref q34, .ref q42, .null, .null, .null, .null, .null, .int 0, .int 0, .int 0, .int 0, .int 0, .int 0, .long 0, .long 0])), (q18, .inl (dA 3, (1152, tq_ct tq_zz 0 3))), (q26, .inl (dA 0, (25, tq_ct tq_zz 0 0))), (q34, .inl (dA 0, (24, tq_ct tq_zz 0 0))), (q42, .inl (dA 0, (64, tq_ct tq_zz 0 0))), (q51, .inl (dA 0, (192, tq_ct tq_zz 0 0)))] H := hP
  have hD : va_D A [(h0, .inr (4, [.ref h1, .ref h2, .ref q18, .ref q26, .ref q34, .ref q42, .null, .null, .null, .null, .null, .int 0, .int 0, .int 0, .int 0, .int 0, .int 0, .long 0, .long 0])), (q18, .inl (dA 3, (1152, tq_ct tq_zz 0 3))), (q26, .inl (dA 0, (25, tq_ct tq_zz 0 0))), (q34, .inl (dA 0, (24, tq_ct tq_zz 0 0))), (q42, .inl (dA 0, (64, tq_ct tq_zz 0 0))), (q51, .inl (dA 0, (192, tq_ct tq_zz 0 0)))] := hD
  refine va_putF (D := D) (ci := 4) (v := .ref q51) (ty := (.array .int)) (C := RX4) (T := TX4) (N := 19) hx hb hts mil_X4 tyX4 tyX4_ok nmX4 hown hK hP hD hS 0 rfl rfl 6 (by decide) (hw _ ik_288 rfl) (fun _ h9 => h9) rfl hin rfl rfl rfl rfl (Nat.le_of_ble_eq_true rfl) di_X4_53 (fun H locs hP hD hS => ?_)
  have hP : va_P D tq_cl [(h0, .inr (4, [.ref h1, .ref h2, .ref q18, .ref q26, .ref q34, .ref q42, .ref q51, .null, .null, .null, .null, .int 0, .int 0, .int 0, .int 0, .int 0, .int 0, .long 0, .long 0])), (q18, .inl (dA 3, (1152, tq_ct tq_zz 0 3))), (q26, .inl (dA 0, (25, tq_ct tq_zz 0 0))), (q34, .inl (dA 0, (24, tq_ct tq_zz 0 0))), (q42, .inl (dA 0, (64, tq_ct tq_zz 0 0))), (q51, .inl (dA 0, (192, tq_ct tq_zz 0 0)))] H := hP
  have hD : va_D A [(h0, .inr (4, [.ref h1, .ref h2, .ref q18, .ref q26, .ref q34, .ref q42, .ref q51, .null, .null, .null, .null, .int 0, .int 0, .int 0, .int 0, .int 0, .int 0, .long 0, .long 0])), (q18, .inl (dA 3, (1152, tq_ct tq_zz 0 3))), (q26, .inl (dA 0, (25, tq_ct tq_zz 0 0))), (q34, .inl (dA 0, (24, tq_ct tq_zz 0 0))), (q42, .inl (dA 0, (64, tq_ct tq_zz 0 0))), (q51, .inl (dA 0, (192, tq_ct tq_zz 0 0)))] := hD
  refine lv_aload_n hx hb di_X4_56 rfl (lv_at hl 0 rfl) ?_
  refine lv_sipush (v := 2048) hx hb di_X4_57 (by decide) ?_
  refine ni_arr (t := 3) (N := 2048) (atype := .long) hx hb (by decide) rfl (hw _ ik_120 rfl) hK hP hD hS hA (by decide) (by decide) (Nat.le_of_ble_eq_true rfl) (Nat.le_of_ble_eq_true rfl) (Nat.le_of_ble_eq_true rfl) di_X4_60 (fun q60 H hP hD hS => ?_)
  refine W.widen (k := 6) (n := 3505) (Nat.le_of_ble_eq_true rfl) (Nat.le_of_ble_eq_true rfl) ?_
  have hP : va_P D tq_cl [(h0, .inr (4, [.ref h1, .ref h2, .ref q18, .ref q26, .ref q34, .ref q42, .ref q51, .null, .null, .null, .null, .int 0, .int 0, .int 0, .int 0, .int 0, .int 0, .long 0, .long 0])), (q18, .inl (dA 3, (1152, tq_ct tq_zz 0 3))), (q26, .inl (dA 0, (25, tq_ct tq_zz 0 0))), (q34, .inl (dA 0, (24, tq_ct tq_zz 0 0))), (q42, .inl (dA 0, (64, tq_ct tq_zz 0 0))), (q51, .inl (dA 0, (192, tq_ct tq_zz 0 0))), (q60, .inl (dA 3, (2048, tq_ct tq_zz 0 3)))] H := hP
  have hD : va_D A [(h0, .inr (4, [.ref h1, .ref h2, .ref q18, .ref q26, .ref q34, .ref q42, .ref q51, .null, .null, .null, .null, .int 0, .int 0, .int 0, .int 0, .int 0, .int 0, .long 0, .long 0])), (q18, .inl (dA 3, (1152, tq_ct tq_zz 0 3))), (q26, .inl (dA 0, (25, tq_ct tq_zz 0 0))), (q34, .inl (dA 0, (24, tq_ct tq_zz 0 0))), (q42, .inl (dA 0, (64, tq_ct tq_zz 0 0))), (q51, .inl (dA 0, (192, tq_ct tq_zz 0 0))), (q60, .inl (dA 3, (2048, tq_ct tq_zz 0 3)))] := hD
  refine va_putF (D := D) (ci := 4) (v := .ref q60) (ty := (.array .long)) (C := RX4) (T := TX4) (N := 19) hx hb hts mil_X4 tyX4 tyX4_ok nmX4 hown hK hP hD hS 0 rfl rfl 7 (by decide) (hw _ ik_289 rfl) (fun _ h9 => h9) rfl hin rfl rfl rfl rfl (Nat.le_of_ble_eq_true rfl) di_X4_62 (fun H locs hP hD hS => ?_)
  have hP : va_P D tq_cl [(h0, .inr (4, [.ref h1, .ref h2, .ref q18, .ref q26, .ref q34, .ref q42, .ref q51, .ref q60, .null, .null, .null, .int 0, .int 0, .int 0, .int 0, .int 0, .int 0, .long 0, .long 0])), (q18, .inl (dA 3, (1152, tq_ct tq_zz 0 3))), (q26, .inl (dA 0, (25, tq_ct tq_zz 0 0))), (q34, .inl (dA 0, (24, tq_ct tq_zz 0 0))), (q42, .inl (dA 0, (64, tq_ct tq_zz 0 0))), (q51, .inl (dA 0, (192, tq_ct tq_zz 0 0))), (q60, .inl (dA 3, (2048, tq_ct tq_zz 0 3)))] H := hP
  have hD : va_D A [(h0, .inr (4, [.ref h1, .ref h2, .ref q18, .ref q26, .ref q34, .ref q42, .ref q51, .ref q60, .null, .null, .null, .int 0, .int 0, .int 0, .int 0, .int 0, .int 0, .long 0, .long 0])), (q18, .inl (dA 3, (1152, tq_ct tq_zz 0 3))), (q26, .inl (dA 0, (25, tq_ct tq_zz 0 0))), (q34, .inl (dA 0, (24, tq_ct tq_zz 0 0))), (q42, .inl (dA 0, (64, tq_ct tq_zz 0 0))), (q51, .inl (dA 0, (192, tq_ct tq_zz 0 0))), (q60, .inl (dA 3, (2048, tq_ct tq_zz 0 3)))] := hD
  refine lv_aload_n hx hb di_X4_65 rfl (lv_at hl 0 rfl) ?_
  refine lv_sipush (v := 2048) hx hb di_X4_66 (by decide) ?_
  refine ni_arr (t := 3) (N := 2048) (atype := .long) hx hb (by decide) rfl (hw _ ik_120 rfl) hK hP hD hS hA (by decide) (by decide) (Nat.le_of_ble_eq_true rfl) (Nat.le_of_ble_eq_true rfl) (Nat.le_of_ble_eq_true rfl) di_X4_69 (fun q69 H hP hD hS => ?_)
  refine W.widen (k := 7) (n := 5553) (Nat.le_of_ble_eq_true rfl) (Nat.le_of_ble_eq_true rfl) ?_
  have hP : va_P D tq_cl [(h0, .inr (4, [.ref h1, .ref h2, .ref q18, .ref q26, .ref q34, .ref q42, .ref q51, .ref q60, .null, .null, .null, .int 0, .int 0, .int 0, .int 0, .int 0, .int 0, .long 0, .long 0])), (q18, .inl (dA 3, (1152, tq_ct tq_zz 0 3))), (q26, .inl (dA 0, (25, tq_ct tq_zz 0 0))), (q34, .inl (dA 0, (24, tq_ct tq_zz 0 0))), (q42, .inl (dA 0, (64, tq_ct tq_zz 0 0))), (q51, .inl (dA 0, (192, tq_ct tq_zz 0 0))), (q60, .inl (dA 3, (2048, tq_ct tq_zz 0 3))), (q69, .inl (dA 3, (2048, tq_ct tq_zz 0 3)))] H := hP
  have hD : va_D A [(h0, .inr (4, [.ref h1, .ref h2, .ref q18, .ref q26, .ref q34, .ref q42, .ref q51, .ref q60, .null, .null, .null, .int 0, .int 0, .int 0, .int 0, .int 0, .int 0, .long 0, .long 0])), (q18, .inl (dA 3, (1152, tq_ct tq_zz 0 3))), (q26, .inl (dA 0, (25, tq_ct tq_zz 0 0))), (q34, .inl (dA 0, (24, tq_ct tq_zz 0 0))), (q42, .inl (dA 0, (64, tq_ct tq_zz 0 0))), (q51, .inl (dA 0, (192, tq_ct tq_zz 0 0))), (q60, .inl (dA 3, (2048, tq_ct tq_zz 0 3))), (q69, .inl (dA 3, (2048, tq_ct tq_zz 0 3)))] := hD
  refine va_putF (D := D) (ci := 4) (v := .ref q69) (ty := (.array .long)) (C := RX4) (T := TX4) (N := 19) hx hb hts mil_X4 tyX4 tyX4_ok nmX4 hown hK hP hD hS 0 rfl rfl 8 (by decide) (hw _ ik_290 rfl) (fun _ h9 => h9) rfl hin rfl rfl rfl rfl (Nat.le_of_ble_eq_true rfl) di_X4_71 (fun H locs hP hD hS => ?_)
  have hP : va_P D tq_cl [(h0, .inr (4, [.ref h1, .ref h2, .ref q18, .ref q26, .ref q34, .ref q42, .ref q51, .ref q60, .ref q69, .null, .null, .int 0, .int 0, .int 0, .int 0, .int 0, .int 0, .long 0, .long 0])), (q18, .inl (dA 3, (1152, tq_ct tq_zz 0 3))), (q26, .inl (dA 0, (25, tq_ct tq_zz 0 0))), (q34, .inl (dA 0, (24, tq_ct tq_zz 0 0))), (q42, .inl (dA 0, (64, tq_ct tq_zz 0 0))), (q51, .inl (dA 0, (192, tq_ct tq_zz 0 0))), (q60, .inl (dA 3, (2048, tq_ct tq_zz 0 3))), (q69, .inl (dA 3, (2048, tq_ct tq_zz 0 3)))] H := hP
  have hD : va_D A [(h0, .inr (4, [.ref h1, .ref h2, .ref q18, .ref q26, .ref q34, .ref q42, .ref q51, .ref q60, .ref q69, .null, .null, .int 0, .int 0, .int 0, .int 0, .int 0, .int 0, .long 0, .long 0])), (q18, .inl (dA 3, (1152, tq_ct tq_zz 0 3))), (q26, .inl (dA 0, (25, tq_ct tq_zz 0 0))), (q34, .inl (dA 0, (24, tq_ct tq_zz 0 0))), (q42, .inl (dA 0, (64, tq_ct tq_zz 0 0))), (q51, .inl (dA 0, (192, tq_ct tq_zz 0 0))), (q60, .inl (dA 3, (2048, tq_ct tq_zz 0 3))), (q69, .inl (dA 3, (2048, tq_ct tq_zz 0 3)))] := hD
  refine lv_aload_n hx hb di_X4_74 rfl (lv_at hl 0 rfl) ?_
  refine lv_sipush (v := 288) hx hb di_X4_75 (by decide) ?_
  refine ni_arr (t := 3) (N := 288) (atype := .long) hx hb (by decide) rfl (hw _ ik_120 rfl) hK hP hD hS hA (by decide) (by decide) (Nat.le_of_ble_eq_true rfl) (Nat.le_of_ble_eq_true rfl) (Nat.le_of_ble_eq_true rfl) di_X4_78 (fun q78 H hP hD hS => ?_)
  refine W.widen (k := 8) (n := 5841) (Nat.le_of_ble_eq_true rfl) (Nat.le_of_ble_eq_true rfl) ?_
  have hP : va_P D tq_cl [(h0, .inr (4, [.ref h1, .ref h2, .ref q18, .ref q26, .ref q34, .ref q42, .ref q51, .ref q60, .ref q69, .null, .null, .int 0, .int 0, .int 0, .int 0, .int 0, .int 0, .long 0, .long 0])), (q18, .inl (dA 3, (1152, tq_ct tq_zz 0 3))), (q26, .inl (dA 0, (25, tq_ct tq_zz 0 0))), (q34, .inl (dA 0, (24, tq_ct tq_zz 0 0))), (q42, .inl (dA 0, (64, tq_ct tq_zz 0 0))), (q51, .inl (dA 0, (192, tq_ct tq_zz 0 0))), (q60, .inl (dA 3, (2048, tq_ct tq_zz 0 3))), (q69, .inl (dA 3, (2048, tq_ct tq_zz 0 3))), (q78, .inl (dA 3, (288, tq_ct tq_zz 0 3)))] H := hP
  have hD : va_D A [(h0, .inr (4, [.ref h1, .ref h2, .ref q18, .ref q26, .ref q34, .ref q42, .ref q51, .ref q60, .ref q69, .null, .null, .int 0, .int 0, .int 0, .int 0, .int 0, .int 0, .long 0, .long 0])), (q18, .inl (dA 3, (1152, tq_ct tq_zz 0 3))), (q26, .inl (dA 0, (25, tq_ct tq_zz 0 0))), (q34, .inl (dA 0, (24, tq_ct tq_zz 0 0))), (q42, .inl (dA 0, (64, tq_ct tq_zz 0 0))), (q51, .inl (dA 0, (192, tq_ct tq_zz 0 0))), (q60, .inl (dA 3, (2048, tq_ct tq_zz 0 3))), (q69, .inl (dA 3, (2048, tq_ct tq_zz 0 3))), (q78, .inl (dA 3, (288, tq_ct tq_zz 0 3)))] := hD
  refine va_putF (D := D) (ci := 4) (v := .ref q78) (ty := (.array .long)) (C := RX4) (T := TX4) (N := 19) hx hb hts mil_X4 tyX4 tyX4_ok nmX4 hown hK hP hD hS 0 rfl rfl 9 (by decide) (hw _ ik_291 rfl) (fun _ h9 => h9) rfl hin rfl rfl rfl rfl (Nat.le_of_ble_eq_true rfl) di_X4_80 (fun H locs hP hD hS => ?_)
  have hP : va_P D tq_cl [(h0, .inr (4, [.ref h1, .ref h2, .ref q18, .ref q26, .ref q34, .ref q42, .ref q51, .ref q60, .ref q69, .ref q78, .null, .int 0, .int 0, .int 0, .int 0, .int 0, .int 0, .long 0, .long 0])), (q18, .inl (dA 3, (1152, tq_ct tq_zz 0 3))), (q26, .inl (dA 0, (25, tq_ct tq_zz 0 0))), (q34, .inl (dA 0, (24, tq_ct tq_zz 0 0))), (q42, .inl (dA 0, (64, tq_ct tq_zz 0 0))), (q51, .inl (dA 0, (192, tq_ct tq_zz 0 0))), (q60, .inl (dA 3, (2048, tq_ct tq_zz 0 3))), (q69, .inl (dA 3, (2048, tq_ct tq_zz 0 3))), (q78, .inl (dA 3, (288, tq_ct tq_zz 0 3)))] H := hP
  have hD : va_D A [(h0, .inr (4, [.ref h1, .ref h2, .ref q18, .ref q26, .ref q34, .ref q42, .ref q51, .ref q60, .ref q69, .ref q78, .null, .int 0, .int 0, .int 0, .int 0, .int 0, .int 0, .long 0, .long 0])), (q18, .inl (dA 3, (1152, tq_ct tq_zz 0 3))), (q26, .inl (dA 0, (25, tq_ct tq_zz 0 0))), (q34, .inl (dA 0, (24, tq_ct tq_zz 0 0))), (q42, .inl (dA 0, (64, tq_ct tq_zz 0 0))), (q51, .inl (dA 0, (192, tq_ct tq_zz 0 0))), (q60, .inl (dA 3, (2048, tq_ct tq_zz 0 3))), (q69, .inl (dA 3, (2048, tq_ct tq_zz 0 3))), (q78, .inl (dA 3, (288, tq_ct tq_zz 0 3)))] := hD
  refine lv_aload_n hx hb di_X4_83 rfl (lv_at hl 0 rfl) ?_
  refine lv_bipush (v := 8) hx hb di_X4_84 (by decide) ?_
  refine ni_arr (t := 0) (N := 8) (atype := .int) hx hb (by decide) rfl (hw _ ik_194 rfl) hK hP hD hS hA (by decide) (by decide) (Nat.le_of_ble_eq_true rfl) (Nat.le_of_ble_eq_true rfl) (Nat.le_of_ble_eq_true rfl) di_X4_86 (fun q86 H hP hD hS => ?_)
  refine W.widen (k := 9) (n := 5849) (Nat.le_of_ble_eq_true rfl) (Nat.le_of_ble_eq_true rfl) ?_
  have hP : va_P D tq_cl [(h0, .inr (4, [.ref h1, .ref h2, .ref q18, .ref q26, .ref q34, .ref q42, .ref q51, .ref q60, .ref q69, .ref q78, .null, .int 0, .int 0, .int 0, .int 0, .int 0, .int 0, .long 0, .long 0])), (q18, .inl (dA 3, (1152, tq_ct tq_zz 0 3))), (q26, .inl (dA 0, (25, tq_ct tq_zz 0 0))), (q34, .inl (dA 0, (24, tq_ct tq_zz 0 0))), (q42, .inl (dA 0, (64, tq_ct tq_zz 0 0))), (q51, .inl (dA 0, (192, tq_ct tq_zz 0 0))), (q60, .inl (dA 3, (2048, tq_ct tq_zz 0 3))), (q69, .inl (dA 3, (2048, tq_ct tq_zz 0 3))), (q78, .inl (dA 3, (288, tq_ct tq_zz 0 3))), (q86, .inl (dA 0, (8, tq_ct tq_zz 0 0)))] H := hP
  have hD : va_D A [(h0, .inr (4, [.ref h1, .ref h2, .ref q18, .ref q26, .ref q34, .ref q42, .ref q51, .ref q60, .ref q69, .ref q78, .null, .int 0, .int 0, .int 0, .int 0, .int 0, .int 0, .long 0, .long 0])), (q18, .inl (dA 3, (1152, tq_ct tq_zz 0 3))), (q26, .inl (dA 0, (25, tq_ct tq_zz 0 0))), (q34, .inl (dA 0, (24, tq_ct tq_zz 0 0))), (q42, .inl (dA 0, (64, tq_ct tq_zz 0 0))), (q51, .inl (dA 0, (192, tq_ct tq_zz 0 0))), (q60, .inl (dA 3, (2048, tq_ct tq_zz 0 3))), (q69, .inl (dA 3, (2048, tq_ct tq_zz 0 3))), (q78, .inl (dA 3, (288, tq_ct tq_zz 0 3))), (q86, .inl (dA 0, (8, tq_ct tq_zz 0 0)))] := hD
  refine va_putF (D := D) (ci := 4) (v := .ref q86) (ty := (.array .int)) (C := RX4) (T := TX4) (N := 19) hx hb hts mil_X4 tyX4 tyX4_ok nmX4 hown hK hP hD hS 0 rfl rfl 10 (by decide) (hw _ ik_292 rfl) (fun _ h9 => h9) rfl hin rfl rfl rfl rfl (Nat.le_of_ble_eq_true rfl) di_X4_88 (fun H locs hP hD hS => ?_)
  have hP : va_P D tq_cl [(h0, .inr (4, [.ref h1, .ref h2, .ref q18, .ref q26, .ref q34, .ref q42, .ref q51, .ref q60, .ref q69, .ref q78, .ref q86, .int 0, .int 0, .int 0, .int 0, .int 0, .int 0, .long 0, .long 0])), (q18, .inl (dA 3, (1152, tq_ct tq_zz 0 3))), (q26, .inl (dA 0, (25, tq_ct tq_zz 0 0))), (q34, .inl (dA 0, (24, tq_ct tq_zz 0 0))), (q42, .inl (dA 0, (64, tq_ct tq_zz 0 0))), (q51, .inl (dA 0, (192, tq_ct tq_zz 0 0))), (q60, .inl (dA 3, (2048, tq_ct tq_zz 0 3))), (q69, .inl (dA 3, (2048, tq_ct tq_zz 0 3))), (q78, .inl (dA 3, (288, tq_ct tq_zz 0 3))), (q86, .inl (dA 0, (8, tq_ct tq_zz 0 0)))] H := hP
  have hD : va_D A [(h0, .inr (4, [.ref h1, .ref h2, .ref q18, .ref q26, .ref q34, .ref q42, .ref q51, .ref q60, .ref q69, .ref q78, .ref q86, .int 0, .int 0, .int 0, .int 0, .int 0, .int 0, .long 0, .long 0])), (q18, .inl (dA 3, (1152, tq_ct tq_zz 0 3))), (q26, .inl (dA 0, (25, tq_ct tq_zz 0 0))), (q34, .inl (dA 0, (24, tq_ct tq_zz 0 0))), (q42, .inl (dA 0, (64, tq_ct tq_zz 0 0))), (q51, .inl (dA 0, (192, tq_ct tq_zz 0 0))), (q60, .inl (dA 3, (2048, tq_ct tq_zz 0 3))), (q69, .inl (dA 3, (2048, tq_ct tq_zz 0 3))), (q78, .inl (dA 3, (288, tq_ct tq_zz 0 3))), (q86, .inl (dA 0, (8, tq_ct tq_zz 0 0)))] := hD
  refine lv_aload_n hx hb di_X4_91 rfl (lv_at hl 0 rfl) ?_
  refine lv_iconst (v := (-1)) hx hb di_X4_92 (by decide) ?_
  refine va_put (D := D) (ci := 4) (v := .int (-1)) (ty := .int) (C := RX4) (T := TX4) (N := 19) hx hb hts mil_X4 tyX4 tyX4_ok nmX4 hown hK hP hD hS 0 rfl rfl 15 (by decide) (hw _ ik_297 rfl) (fun _ h9 => h9) rfl rfl rfl rfl (Nat.le_of_ble_eq_true rfl) di_X4_93 (fun H locs hP hD hS => ?_)
  have hP : va_P D tq_cl [(h0, .inr (4, [.ref h1, .ref h2, .ref q18, .ref q26, .ref q34, .ref q42, .ref q51, .ref q60, .ref q69, .ref q78, .ref q86, .int 0, .int 0, .int 0, .int 0, .int (-1), .int 0, .long 0, .long 0])), (q18, .inl (dA 3, (1152, tq_ct tq_zz 0 3))), (q26, .inl (dA 0, (25, tq_ct tq_zz 0 0))), (q34, .inl (dA 0, (24, tq_ct tq_zz 0 0))), (q42, .inl (dA 0, (64, tq_ct tq_zz 0 0))), (q51, .inl (dA 0, (192, tq_ct tq_zz 0 0))), (q60, .inl (dA 3, (2048, tq_ct tq_zz 0 3))), (q69, .inl (dA 3, (2048, tq_ct tq_zz 0 3))), (q78, .inl (dA 3, (288, tq_ct tq_zz 0 3))), (q86, .inl (dA 0, (8, tq_ct tq_zz 0 0)))] H := hP
  have hD : va_D A [(h0, .inr (4, [.ref h1, .ref h2, .ref q18, .ref q26, .ref q34, .ref q42, .ref q51, .ref q60, .ref q69, .ref q78, .ref q86, .int 0, .int 0, .int 0, .int 0, .int (-1), .int 0, .long 0, .long 0])), (q18, .inl (dA 3, (1152, tq_ct tq_zz 0 3))), (q26, .inl (dA 0, (25, tq_ct tq_zz 0 0))), (q34, .inl (dA 0, (24, tq_ct tq_zz 0 0))), (q42, .inl (dA 0, (64, tq_ct tq_zz 0 0))), (q51, .inl (dA 0, (192, tq_ct tq_zz 0 0))), (q60, .inl (dA 3, (2048, tq_ct tq_zz 0 3))), (q69, .inl (dA 3, (2048, tq_ct tq_zz 0 3))), (q78, .inl (dA 3, (288, tq_ct tq_zz 0 3))), (q86, .inl (dA 0, (8, tq_ct tq_zz 0 0)))] := hD
  refine lv_aload_n hx hb di_X4_96 rfl (lv_at hl 0 rfl) ?_
  refine lv_iconst (v := (-1)) hx hb di_X4_97 (by decide) ?_
  refine va_put (D := D) (ci := 4) (v := .int (-1)) (ty := .int) (C := RX4) (T := TX4) (N := 19) hx hb hts mil_X4 tyX4 tyX4_ok nmX4 hown hK hP hD hS 0 rfl rfl 16 (by decide) (hw _ ik_298 rfl) (fun _ h9 => h9) rfl rfl rfl rfl (Nat.le_of_ble_eq_true rfl) di_X4_98 (fun H locs hP hD hS => ?_)
  have hP : va_P D tq_cl [(h0, .inr (4, [.ref h1, .ref h2, .ref q18, .ref q26, .ref q34, .ref q42, .ref q51, .ref q60, .ref q69, .ref q78, .ref q86, .int 0, .int 0, .int 0, .int 0, .int (-1), .int (-1), .long 0, .long 0])), (q18, .inl (dA 3, (1152, tq_ct tq_zz 0 3))), (q26, .inl (dA 0, (25, tq_ct tq_zz 0 0))), (q34, .inl (dA 0, (24, tq_ct tq_zz 0 0))), (q42, .inl (dA 0, (64, tq_ct tq_zz 0 0))), (q51, .inl (dA 0, (192, tq_ct tq_zz 0 0))), (q60, .inl (dA 3, (2048, tq_ct tq_zz 0 3))), (q69, .inl (dA 3, (2048, tq_ct tq_zz 0 3))), (q78, .inl (dA 3, (288, tq_ct tq_zz 0 3))), (q86, .inl (dA 0, (8, tq_ct tq_zz 0 0)))] H := hP
  have hD : va_D A [(h0, .inr (4, [.ref h1, .ref h2, .ref q18, .ref q26, .ref q34, .ref q42, .ref q51, .ref q60, .ref q69, .ref q78, .ref q86, .int 0, .int 0, .int 0, .int 0, .int (-1), .int (-1), .long 0, .long 0])), (q18, .inl (dA 3, (1152, tq_ct tq_zz 0 3))), (q26, .inl (dA 0, (25, tq_ct tq_zz 0 0))), (q34, .inl (dA 0, (24, tq_ct tq_zz 0 0))), (q42, .inl (dA 0, (64, tq_ct tq_zz 0 0))), (q51, .inl (dA 0, (192, tq_ct tq_zz 0 0))), (q60, .inl (dA 3, (2048, tq_ct tq_zz 0 3))), (q69, .inl (dA 3, (2048, tq_ct tq_zz 0 3))), (q78, .inl (dA 3, (288, tq_ct tq_zz 0 3))), (q86, .inl (dA 0, (8, tq_ct tq_zz 0 0)))] := hD
  exact W.vret hx hb hr (fun t ht hW => ⟨⟨(), rfl, trivial, q18, q26, q34, q42, q51, q60, q69, q78, q86, by rw [ht]; exact hP, va_K.moved hW.alike hK, hD⟩, hS.F ht⟩) hS.2.2 di_X4_101
abbrev mi_X6 : tq_MD := (yX6_init, cX6_init, 1, none, [], 6)
theorem mic_X6 : tq_cw mi_X6 ∈ lw_tbl := tq_i2 105 rfl
theorem mil_X6 : ∀ w ∈ u_ws RX6 TX6 3, w ∈ tq_TS := tq_lays_good tq_cl_X6.1
theorem di_X6_0 : decode cX6_init 0 = .ok (.aload_n 0, 1) := by decide +kernel
theorem di_X6_1 : decode cX6_init 1 = .ok (.invokespecial 1, 3) := by decide +kernel
theorem ik_346 : (.methodLink RX6 1 objectInit : Cond) ∈ lw_tbl := tq_i2 106 rfl
theorem di_X6_4 : decode cX6_init 4 = .ok (.aload_n 0, 1) := by decide +kernel
theorem di_X6_5 : decode cX6_init 5 = .ok (.sipush 234, 3) := by decide +kernel
theorem di_X6_8 : decode cX6_init 8 = .ok (.newarray .int, 2) := by decide +kernel
theorem di_X6_10 : decode cX6_init 10 = .ok (.putfield 9, 3) := by decide +kernel
theorem ik_347 : (.fieldLink RX6 9 RX6 "terms" "[I" : Cond) ∈ lw_tbl := tq_i2 107 rfl
theorem di_X6_13 : decode cX6_init 13 = .ok (.aload_n 0, 1) := by decide +kernel
theorem di_X6_14 : decode cX6_init 14 = .ok (.bipush 64, 2) := by decide +kernel
theorem di_X6_16 : decode cX6_init 16 = .ok (.newarray .long, 2) := by decide +kernel
theorem di_X6_18 : decode cX6_init 18 = .ok (.putfield 13, 3) := by decide +kernel
theorem ik_348 : (.fieldLink RX6 13 RX6 "come" "[J" : Cond) ∈ lw_tbl := tq_i2 108 rfl
theorem di_X6_21 : decode cX6_init 21 = .ok (.aload_n 0, 1) := by decide +kernel
theorem di_X6_22 : decode cX6_init 22 = .ok (.bipush 64, 2) := by decide +kernel
theorem di_X6_24 : decode cX6_init 24 = .ok (.newarray .long, 2) := by decide +kernel
theorem di_X6_26 : decode cX6_init 26 = .ok (.putfield 17, 3) := by decide +kernel
theorem ik_349 : (.fieldLink RX6 17 RX6 "go" "[J" : Cond) ∈ lw_tbl := tq_i2 109 rfl
theorem di_X6_29 : decode cX6_init 29 = .ok (.return_, 1) := by decide +kernel
set_option maxHeartbeats 8000000 in
set_option maxRecDepth 100000 in
theorem ci_X6 (l : Launch) (D : va_G) (dA : Nat → ClassId) (h0 : Nat) (sz : Nat) : Met l yX6_init (tq_ws mi_X6) ({ frames := 2, cells := 3, slots := 362, locals := 60 }) (va_Pc [.ref h0] (fun U => U.heap.size = sz ∧ va_P D tq_cl [(h0, .inr (6, [.null, .null, .null]))] U.heap ∧ va_K D tq_cl (tq_tys dA) U ∧ va_D (fun _ => True) [(h0, .inr (6, [.null, .null, .null]))])) (va_Qv (fun _ : Unit => True) (fun _ t => ∃ (q8 q16 q24 : Nat), va_P D tq_cl [(h0, .inr (6, [.ref q8, .ref q16, .ref q24])), (q8, .inl (dA 0, (234, tq_ct tq_zz 0 0))), (q16, .inl (dA 3, (64, tq_ct tq_zz 0 3))), (q24, .inl (dA 3, (64, tq_ct tq_zz 0 3)))] t.heap ∧ va_K D tq_cl (tq_tys dA) t ∧ va_D (va_A [(h0, .inr (6, [.null, .null, .null]))] sz) [(h0, .inr (6, [.ref q8, .ref q16, .ref q24])), (q8, .inl (dA 0, (234, tq_ct tq_zz 0 0))), (q16, .inl (dA 3, (64, tq_ct tq_zz 0 3))), (q24, .inl (dA 3, (64, tq_ct tq_zz 0 3)))]) (va_A [(h0, .inr (6, [.null, .null, .null]))] sz)) 3 362 (va_A [(h0, .inr (6, [.null, .null, .null]))] sz) := by
  refine Met.ofW (cc := cX6_init) (maxL := 1) (ret := none) (by decide) rfl ?_
  intro p e s m args below meth c s₁ B hml hv
  obtain ⟨rfl, hsz, hP, hK, hD0⟩ := hv
  have hx := B.exec
  have hb := B.bytes
  have hr := B.returns
  have hts0 := atoms_spec (ws := tq_ws mi_X6) B.pre
  have hts : ∀ w ∈ tq_TS, w.before _ s = true := fun w hw => hts0 w (List.mem_cons_of_mem _ hw)
  have hw : ∀ w, w ∈ lw_tbl → goodWord w = true → w.before _ s = true := fun w h1 h2 => hts w (List.mem_filter.mpr ⟨h1, h2⟩)
  have hown : s.vm.findClass RX6 = some m.cls := findClass_of_methodNamed B.named
  have hin : meth.name = "<init>" := (name_of_methodNamed B.named B.method).1
  subst hsz
  have hD := hD0.self (sz := s.heap.size)
  generalize hAe : va_A [(h0, .inr (6, [.null, .null, .null]))] s.heap.size = A at hD ⊢
  have hA : ∀ q : Nat, s.heap.size ≤ q → A q := fun q h => by rw [← hAe]; exact Or.inr h
  have hS : va_S A s.heap s.heap [] := va_S.rf
  have hP : va_P D tq_cl [(h0, .inr (6, [.null, .null, .null]))] s.heap := hP
  have hl := lv_entry ([.ref h0]) (n := 1) (Nat.le_of_ble_eq_true rfl)
  rw [lg_entry_eq]
  generalize (lg_sl ([.ref h0]) ++ List.replicate (1 - (lg_sl ([.ref h0])).length) Slot.unset).toArray = ls at hl ⊢
  have hl : lv_has ls 1 [(0, .ref h0)] := hl
  refine lv_aload_n hx hb di_X6_0 rfl (lv_at hl 0 rfl) ?_
  refine W.objInit hx hb hown (hw _ ik_346 rfl) (hw _ ik_33 rfl) (hw _ ik_34 rfl) rfl (by rw [hml]; exact hl.1) rfl di_X6_1 (Nat.le_of_ble_eq_true rfl) (Nat.le_of_ble_eq_true rfl) ?_
  refine W.eq (g2 := F0 m 4 ls []) rfl ?_
  refine lv_aload_n hx hb di_X6_4 rfl (lv_at hl 0 rfl) ?_
  refine lv_sipush (v := 234) hx hb di_X6_5 (by decide) ?_
  refine ni_arr (t := 0) (N := 234) (atype := .int) hx hb (by decide) rfl (hw _ ik_194 rfl) hK hP hD hS hA (by decide) (by decide) (Nat.le_of_ble_eq_true rfl) (Nat.le_of_ble_eq_true rfl) (Nat.le_of_ble_eq_true rfl) di_X6_8 (fun q8 H hP hD hS => ?_)
  refine W.widen (k := 1) (n := 234) (Nat.le_of_ble_eq_true rfl) (Nat.le_of_ble_eq_true rfl) ?_
  have hP : va_P D tq_cl [(h0, .inr (6, [.null, .null, .null])), (q8, .inl (dA 0, (234, tq_ct tq_zz 0 0)))] H := hP
  have hD : va_D A [(h0, .inr (6, [.null, .null, .null])), (q8, .inl (dA 0, (234, tq_ct tq_zz 0 0)))] := hD
  refine va_putF (D := D) (ci := 6) (v := .ref q8) (ty := (.array .int)) (C := RX6) (T := TX6) (N := 3) hx hb hts mil_X6 tyX6 tyX6_ok nmX6 hown hK hP hD hS 0 rfl rfl 0 (by decide) (hw _ ik_347 rfl) (fun _ h9 => h9) rfl hin rfl rfl rfl rfl (Nat.le_of_ble_eq_true rfl) di_X6_10 (fun H locs hP hD hS => ?_)
  have hP : va_P D tq_cl [(h0, .inr (6, [.ref q8, .null, .null])), (q8, .inl (dA 0, (234, tq_ct tq_zz 0 0)))] H := hP
  have hD : va_D A [(h0, .inr (6, [.ref q8, .null, .null])), (q8, .inl (dA 0, (234, tq_ct tq_zz 0 0)))] := hD
  refine lv_aload_n hx hb di_X6_13 rfl (lv_at hl 0 rfl) ?_
  refine lv_bipush (v := 64) hx hb di_X6_14 (by decide) ?_
  refine ni_arr (t := 3) (N := 64) (atype := .long) hx hb (by decide) rfl (hw _ ik_120 rfl) hK hP hD hS hA (by decide) (by decide) (Nat.le_of_ble_eq_true rfl) (Nat.le_of_ble_eq_true rfl) (Nat.le_of_ble_eq_true rfl) di_X6_16 (fun q16 H hP hD hS => ?_)
  refine W.widen (k := 2) (n := 298) (Nat.le_of_ble_eq_true rfl) (Nat.le_of_ble_eq_true rfl) ?_
  have hP : va_P D tq_cl [(h0, .inr (6, [.ref q8, .null, .null])), (q8, .inl (dA 0, (234, tq_ct tq_zz 0 0))), (q16, .inl (dA 3, (64, tq_ct tq_zz 0 3)))] H := hP
  have hD : va_D A [(h0, .inr (6, [.ref q8, .null, .null])), (q8, .inl (dA 0, (234, tq_ct tq_zz 0 0))), (q16, .inl (dA 3, (64, tq_ct tq_zz 0 3)))] := hD
  refine va_putF (D := D) (ci := 6) (v := .ref q16) (ty := (.array .long)) (C := RX6) (T := TX6) (N := 3) hx hb hts mil_X6 tyX6 tyX6_ok nmX6 hown hK hP hD hS 0 rfl rfl 1 (by decide) (hw _ ik_348 rfl) (fun _ h9 => h9) rfl hin rfl rfl rfl rfl (Nat.le_of_ble_eq_true rfl) di_X6_18 (fun H locs hP hD hS => ?_)
  have hP : va_P D tq_cl [(h0, .inr (6, [.ref q8, .ref q16, .null])), (q8, .inl (dA 0, (234, tq_ct tq_zz 0 0))), (q16, .inl (dA 3, (64, tq_ct tq_zz 0 3)))] H := hP
  have hD : va_D A [(h0, .inr (6, [.ref q8, .ref q16, .null])), (q8, .inl (dA 0, (234, tq_ct tq_zz 0 0))), (q16, .inl (dA 3, (64, tq_ct tq_zz 0 3)))] := hD
  refine lv_aload_n hx hb di_X6_21 rfl (lv_at hl 0 rfl) ?_
  refine lv_bipush (v := 64) hx hb di_X6_22 (by decide) ?_
  refine ni_arr (t := 3) (N := 64) (atype := .long) hx hb (by decide) rfl (hw _ ik_120 rfl) hK hP hD hS hA (by decide) (by decide) (Nat.le_of_ble_eq_true rfl) (Nat.le_of_ble_eq_true rfl) (Nat.le_of_ble_eq_true rfl) di_X6_24 (fun q24 H hP hD hS => ?_)
  refine W.widen (k := 3) (n := 362) (Nat.le_of_ble_eq_true rfl) (Nat.le_of_ble_eq_true rfl) ?_
  have hP : va_P D tq_cl [(h0, .inr (6, [.ref q8, .ref q16, .null])), (q8, .inl (dA 0, (234, tq_ct tq_zz 0 0))), (q16, .inl (dA 3, (64, tq_ct tq_zz 0 3))), (q24, .inl (dA 3, (64, tq_ct tq_zz 0 3)))] H := hP
  have hD : va_D A [(h0, .inr (6, [.ref q8, .ref q16, .null])), (q8, .inl (dA 0, (234, tq_ct tq_zz 0 0))), (q16, .inl (dA 3, (64, tq_ct tq_zz 0 3))), (q24, .inl (dA 3, (64, tq_ct tq_zz 0 3)))] := hD
  refine va_putF (D := D) (ci := 6) (v := .ref q24) (ty := (.array .long)) (C := RX6) (T := TX6) (N := 3) hx hb hts mil_X6 tyX6 tyX6_ok nmX6 hown hK hP hD hS 0 rfl rfl 2 (by decide) (hw _ ik_349 rfl) (fun _ h9 => h9) rfl hin rfl rfl rfl rfl (Nat.le_of_ble_eq_true rfl) di_X6_26 (fun H locs hP hD hS => ?_)
  have hP : va_P D tq_cl [(h0, .inr (6, [.ref q8, .ref q16, .ref q24])), (q8, .inl (dA 0, (234, tq_ct tq_zz 0 0))), (q16, .inl (dA 3, (64, tq_ct tq_zz 0 3))), (q24, .inl (dA 3, (64, tq_ct tq_zz 0 3)))] H := hP
  have hD : va_D A [(h0, .inr (6, [.ref q8, .ref q16, .ref q24])), (q8, .inl (dA 0, (234, tq_ct tq_zz 0 0))), (q16, .inl (dA 3, (64, tq_ct tq_zz 0 3))), (q24, .inl (dA 3, (64, tq_ct tq_zz 0 3)))] := hD
  exact W.vret hx hb hr (fun t ht hW => ⟨⟨(), rfl, trivial, q8, q16, q24, by rw [ht]; exact hP, va_K.moved hW.alike hK, hD⟩, hS.F ht⟩) hS.2.2 di_X6_29
abbrev mi_X10 : tq_MD := (yX10_init, cX10_init, 2, none, [], 10)
theorem mic_X10 : tq_cw mi_X10 ∈ lw_tbl := tq_i2 121 rfl
theorem mil_X10 : ∀ w ∈ u_ws RX10 TX10 5, w ∈ tq_TS := tq_lays_good tq_cl_X10.1
theorem di_X10_0 : decode cX10_init 0 = .ok (.aload_n 0, 1) := by decide +kernel
theorem di_X10_1 : decode cX10_init 1 = .ok (.invokespecial 3, 3) := by decide +kernel
theorem ik_362 : (.methodLink RX10 3 objectInit : Cond) ∈ lw_tbl := tq_i2 122 rfl
theorem di_X10_4 : decode cX10_init 4 = .ok (.aload_n 0, 1) := by decide +kernel
theorem di_X10_5 : decode cX10_init 5 = .ok (.aload_n 1, 1) := by decide +kernel
theorem di_X10_6 : decode cX10_init 6 = .ok (.putfield 9, 3) := by decide +kernel
theorem ik_363 : (.fieldLink RX10 9 RX10 "board" "LTilecount$Board;" : Cond) ∈ lw_tbl := tq_i2 123 rfl
theorem di_X10_9 : decode cX10_init 9 = .ok (.aload_n 0, 1) := by decide +kernel
theorem di_X10_10 : decode cX10_init 10 = .ok (.sipush 256, 3) := by decide +kernel
theorem di_X10_13 : decode cX10_init 13 = .ok (.newarray .long, 2) := by decide +kernel
theorem di_X10_15 : decode cX10_init 15 = .ok (.putfield 13, 3) := by decide +kernel
theorem ik_364 : (.fieldLink RX10 13 RX10 "ways" "[J" : Cond) ∈ lw_tbl := tq_i2 124 rfl
theorem di_X10_18 : decode cX10_init 18 = .ok (.aload_n 0, 1) := by decide +kernel
theorem di_X10_19 : decode cX10_init 19 = .ok (.sipush 1024, 3) := by decide +kernel
theorem di_X10_22 : decode cX10_init 22 = .ok (.newarray .long, 2) := by decide +kernel
theorem di_X10_24 : decode cX10_init 24 = .ok (.putfield 17, 3) := by decide +kernel
theorem ik_365 : (.fieldLink RX10 17 RX10 "come" "[J" : Cond) ∈ lw_tbl := tq_i2 125 rfl
theorem di_X10_27 : decode cX10_init 27 = .ok (.aload_n 0, 1) := by decide +kernel
theorem di_X10_28 : decode cX10_init 28 = .ok (.sipush 1024, 3) := by decide +kernel
theorem di_X10_31 : decode cX10_init 31 = .ok (.newarray .long, 2) := by decide +kernel
theorem di_X10_33 : decode cX10_init 33 = .ok (.putfield 20, 3) := by decide +kernel
theorem ik_366 : (.fieldLink RX10 20 RX10 "go" "[J" : Cond) ∈ lw_tbl := tq_i2 126 rfl
theorem di_X10_36 : decode cX10_init 36 = .ok (.return_, 1) := by decide +kernel
set_option maxHeartbeats 8000000 in
set_option maxRecDepth 100000 in
theorem ci_X10 (l : Launch) (D : va_G) (dA : Nat → ClassId) (h0 h1 : Nat) (sz : Nat) : Met l yX10_init (tq_ws mi_X10) ({ frames := 2, cells := 3, slots := 2304, locals := 60 }) (va_Pc [.ref h0, .ref h1] (fun U => U.heap.size = sz ∧ va_P D tq_cl [(h0, .inr (10, [.null, .null, .null, .null, .long 0]))] U.heap ∧ va_K D tq_cl (tq_tys dA) U ∧ va_D (fun _ => True) [(h0, .inr (10, [.null, .null, .null, .null, .long 0]))])) (va_Qv (fun _ : Unit => True) (fun _ t => ∃ (q13 q22 q31 : Nat), va_P D tq_cl [(h0, .inr (10, [.ref h1, .ref q13, .ref q22, .ref q31, .long 0])), (q13, .inl (dA 3, (256, tq_ct tq_zz 0 3))), (q22, .inl (dA 3, (1024, tq_ct tq_zz 0 3))), (q31, .inl (dA 3, (1024, tq_ct tq_zz 0 3)))] t.heap ∧ va_K D tq_cl (tq_tys dA) t ∧ va_D (va_A [(h0, .inr (10, [.null, .null, .null, .null, .long 0]))] sz) [(h0, .inr (10, [.ref h1, .ref q13, .ref q22, .ref q31, .long 0])), (q13, .inl (dA 3, (256, tq_ct tq_zz 0 3))), (q22, .inl (dA 3, (1024, tq_ct tq_zz 0 3))), (q31, .inl (dA 3, (1024, tq_ct tq_zz 0 3)))]) (va_A [(h0, .inr (10, [.null, .null, .null, .null, .long 0]))] sz)) 3 2304 (va_A [(h0, .inr (10, [.null, .null, .null, .null, .long 0]))] sz) := by
  refine Met.ofW (cc := cX10_init) (maxL := 2) (ret := none) (by decide) rfl ?_
  intro p e s m args below meth c s₁ B hml hv
  obtain ⟨rfl, hsz, hP, hK, hD0⟩ := hv
  have hx := B.exec
  have hb := B.bytes
  have hr := B.returns
  have hts0 := atoms_spec (ws := tq_ws mi_X10) B.pre
  have hts : ∀ w ∈ tq_TS, w.before _ s = true := fun w hw => hts0 w (List.mem_cons_of_mem _ hw)
  have hw : ∀ w, w ∈ lw_tbl → goodWord w = true → w.before _ s = true := fun w h1 h2 => hts w (List.mem_filter.mpr ⟨h1, h2⟩)
  have hown : s.vm.findClass RX10 = some m.cls := findClass_of_methodNamed B.named
  have hin : meth.name = "<init>" := (name_of_methodNamed B.named B.method).1
  subst hsz
  have hD := hD0.self (sz := s.heap.size)
  generalize hAe : va_A [(h0, .inr (10, [.null, .null, .null, .null, .long 0]))] s.heap.size = A at hD ⊢
  have hA : ∀ q : Nat, s.heap.size ≤ q → A q := fun q h => by rw [← hAe]; exact Or.inr h
  have hS : va_S A s.heap s.heap [] := va_S.rf
  have hP : va_P D tq_cl [(h0, .inr (10, [.null, .null, .null, .null, .long 0]))] s.heap := hP
  have hl := lv_entry ([.ref h0, .ref h1]) (n := 2) (Nat.le_of_ble_eq_true rfl)
  rw [lg_entry_eq]
  generalize (lg_sl ([.ref h0, .ref h1]) ++ List.replicate (2 - (lg_sl ([.ref h0, .ref h1])).length) Slot.unset).toArray = ls at hl ⊢
  have hl : lv_has ls 2 [(0, .ref h0), (1, .ref h1)] := hl
  refine lv_aload_n hx hb di_X10_0 rfl (lv_at hl 0 rfl) ?_
  refine W.objInit hx hb hown (hw _ ik_362 rfl) (hw _ ik_33 rfl) (hw _ ik_34 rfl) rfl (by rw [hml]; exact hl.1) rfl di_X10_1 (Nat.le_of_ble_eq_true rfl) (Nat.le_of_ble_eq_true rfl) ?_
  refine W.eq (g2 := F0 m 4 ls []) rfl ?_
  refine lv_aload_n hx hb di_X10_4 rfl (lv_at hl 0 rfl) ?_
  refine lv_aload_n hx hb di_X10_5 rfl (lv_at hl 1 rfl) ?_
  refine va_putF (D := D) (ci := 10) (v := .ref h1) (ty := (.object "Tilecount$Board")) (C := RX10) (T := TX10) (N := 5) hx hb hts mil_X10 tyX10 tyX10_ok nmX10 hown hK hP hD hS 0 rfl rfl 0 (by decide) (hw _ ik_363 rfl) (fun _ h9 => h9) rfl hin rfl rfl rfl rfl (Nat.le_of_ble_eq_true rfl) di_X10_6 (fun H locs hP hD hS => ?_)
  have hP : va_P D tq_cl [(h0, .inr (10, [.ref h1, .null, .null, .null, .long 0]))] H := hP
  have hD : va_D A [(h0, .inr (10, [.ref h1, .null, .null, .null, .long 0]))] := hD
  refine lv_aload_n hx hb di_X10_9 rfl (lv_at hl 0 rfl) ?_
  refine lv_sipush (v := 256) hx hb di_X10_10 (by decide) ?_
  refine ni_arr (t := 3) (N := 256) (atype := .long) hx hb (by decide) rfl (hw _ ik_120 rfl) hK hP hD hS hA (by decide) (by decide) (Nat.le_of_ble_eq_true rfl) (Nat.le_of_ble_eq_true rfl) (Nat.le_of_ble_eq_true rfl) di_X10_13 (fun q13 H hP hD hS => ?_)
  refine W.widen (k := 1) (n := 256) (Nat.le_of_ble_eq_true rfl) (Nat.le_of_ble_eq_true rfl) ?_
  have hP : va_P D tq_cl [(h0, .inr (10, [.ref h1, .null, .null, .null, .long 0])), (q13, .inl (dA 3, (256, tq_ct tq_zz 0 3)))] H := hP
  have hD : va_D A [(h0, .inr (10, [.ref h1, .null, .null, .null, .long 0])), (q13, .inl (dA 3, (256, tq_ct tq_zz 0 3)))] := hD
  refine va_putF (D := D) (ci := 10) (v := .ref q13) (ty := (.array .long)) (C := RX10) (T := TX10) (N := 5) hx hb hts mil_X10 tyX10 tyX10_ok nmX10 hown hK hP hD hS 0 rfl rfl 1 (by decide) (hw _ ik_364 rfl) (fun _ h9 => h9) rfl hin rfl rfl rfl rfl (Nat.le_of_ble_eq_true rfl) di_X10_15 (fun H locs hP hD hS => ?_)
  have hP : va_P D tq_cl [(h0, .inr (10, [.ref h1, .ref q13, .null, .null, .long 0])), (q13, .inl (dA 3, (256, tq_ct tq_zz 0 3)))] H := hP
  have hD : va_D A [(h0, .inr (10, [.ref h1, .ref q13, .null, .null, .long 0])), (q13, .inl (dA 3, (256, tq_ct tq_zz 0 3)))] := hD
  refine lv_aload_n hx hb di_X10_18 rfl (lv_at hl 0 rfl) ?_
  refine lv_sipush (v := 1024) hx hb di_X10_19 (by decide) ?_
  refine ni_arr (t := 3) (N := 1024) (atype := .long) hx hb (by decide) rfl (hw _ ik_120 rfl) hK hP hD hS hA (by decide) (by decide) (Nat.le_of_ble_eq_true rfl) (Nat.le_of_ble_eq_true rfl) (Nat.le_of_ble_eq_true rfl) di_X10_22 (fun q22 H hP hD hS => ?_)
  refine W.widen (k := 2) (n := 1280) (Nat.le_of_ble_eq_true rfl) (Nat.le_of_ble_eq_true rfl) ?_
  have hP : va_P D tq_cl [(h0, .inr (10, [.ref h1, .ref q13, .null, .null, .long 0])), (q13, .inl (dA 3, (256, tq_ct tq_zz 0 3))), (q22, .inl (dA 3, (1024, tq_ct tq_zz 0 3)))] H := hP
  have hD : va_D A [(h0, .inr (10, [.ref h1, .ref q13, .null, .null, .long 0])), (q13, .inl (dA 3, (256, tq_ct tq_zz 0 3))), (q22, .inl (dA 3, (1024, tq_ct tq_zz 0 3)))] := hD
  refine va_putF (D := D) (ci := 10) (v := .ref q22) (ty := (.array .long)) (C := RX10) (T := TX10) (N := 5) hx hb hts mil_X10 tyX10 tyX10_ok nmX10 hown hK hP hD hS 0 rfl rfl 2 (by decide) (hw _ ik_365 rfl) (fun _ h9 => h9) rfl hin rfl rfl rfl rfl (Nat.le_of_ble_eq_true rfl) di_X10_24 (fun H locs hP hD hS => ?_)
  have hP : va_P D tq_cl [(h0, .inr (10, [.ref h1, .ref q13, .ref q22, .null, .long 0])), (q13, .inl (dA 3, (256, tq_ct tq_zz 0 3))), (q22, .inl (dA 3, (1024, tq_ct tq_zz 0 3)))] H := hP
  have hD : va_D A [(h0, .inr (10, [.ref h1, .ref q13, .ref q22, .null, .long 0])), (q13, .inl (dA 3, (256, tq_ct tq_zz 0 3))), (q22, .inl (dA 3, (1024, tq_ct tq_zz 0 3)))] := hD
  refine lv_aload_n hx hb di_X10_27 rfl (lv_at hl 0 rfl) ?_
  refine lv_sipush (v := 1024) hx hb di_X10_28 (by decide) ?_
  refine ni_arr (t := 3) (N := 1024) (atype := .long) hx hb (by decide) rfl (hw _ ik_120 rfl) hK hP hD hS hA (by decide) (by decide) (Nat.le_of_ble_eq_true rfl) (Nat.le_of_ble_eq_true rfl) (Nat.le_of_ble_eq_true rfl) di_X10_31 (fun q31 H hP hD hS => ?_)
  refine W.widen (k := 3) (n := 2304) (Nat.le_of_ble_eq_true rfl) (Nat.le_of_ble_eq_true rfl) ?_
  have hP : va_P D tq_cl [(h0, .inr (10, [.ref h1, .ref q13, .ref q22, .null, .long 0])), (q13, .inl (dA 3, (256, tq_ct tq_zz 0 3))), (q22, .inl (dA 3, (1024, tq_ct tq_zz 0 3))), (q31, .inl (dA 3, (1024, tq_ct tq_zz 0 3)))] H := hP
  have hD : va_D A [(h0, .inr (10, [.ref h1, .ref q13, .ref q22, .null, .long 0])), (q13, .inl (dA 3, (256, tq_ct tq_zz 0 3))), (q22, .inl (dA 3, (1024, tq_ct tq_zz 0 3))), (q31, .inl (dA 3, (1024, tq_ct tq_zz 0 3)))] := hD
  refine va_putF (D := D) (ci := 10) (v := .ref q31) (ty := (.array .long)) (C := RX10) (T := TX10) (N := 5) hx hb hts mil_X10 tyX10 tyX10_ok nmX10 hown hK hP hD hS 0 rfl rfl 3 (by decide) (hw _ ik_366 rfl) (fun _ h9 => h9) rfl hin rfl rfl rfl rfl (Nat.le_of_ble_eq_true rfl) di_X10_33 (fun H locs hP hD hS => ?_)
  have hP : va_P D tq_cl [(h0, .inr (10, [.ref h1, .ref q13, .ref q22, .ref q31, .long 0])), (q13, .inl (dA 3, (256, tq_ct tq_zz 0 3))), (q22, .inl (dA 3, (1024, tq_ct tq_zz 0 3))), (q31, .inl (dA 3, (1024, tq_ct tq_zz 0 3)))] H := hP
  have hD : va_D A [(h0, .inr (10, [.ref h1, .ref q13, .ref q22, .ref q31, .long 0])), (q13, .inl (dA 3, (256, tq_ct tq_zz 0 3))), (q22, .inl (dA 3, (1024, tq_ct tq_zz 0 3))), (q31, .inl (dA 3, (1024, tq_ct tq_zz 0 3)))] := hD
  exact W.vret hx hb hr (fun t ht hW => ⟨⟨(), rfl, trivial, q13, q22, q31, by rw [ht]; exact hP, va_K.moved hW.alike hK, hD⟩, hS.F ht⟩) hS.2.2 di_X10_36
abbrev mi_X0 : tq_MD := (yX0_init, cX0_init, 1, none, [], 0)
theorem mic_X0 : tq_cw mi_X0 ∈ lw_tbl := tq_i2 142 rfl
theorem mil_X0 : ∀ w ∈ u_ws RX0 TX0 3, w ∈ tq_TS := tq_lays_good tq_cl_X0.1
theorem di_X0_0 : decode cX0_init 0 = .ok (.aload_n 0, 1) := by decide +kernel
theorem di_X0_1 : decode cX0_init 1 = .ok (.invokespecial 1, 3) := by decide +kernel
theorem ik_383 : (.methodLink RX0 1 objectInit : Cond) ∈ lw_tbl := tq_i2 143 rfl
theorem di_X0_4 : decode cX0_init 4 = .ok (.aload_n 0, 1) := by decide +kernel
theorem di_X0_5 : decode cX0_init 5 = .ok (.bipush 34, 2) := by decide +kernel
theorem di_X0_7 : decode cX0_init 7 = .ok (.newarray .int, 2) := by decide +kernel
theorem di_X0_9 : decode cX0_init 9 = .ok (.putfield 9, 3) := by decide +kernel
theorem ik_384 : (.fieldLink RX0 9 RX0 "limbs" "[I" : Cond) ∈ lw_tbl := tq_i2 144 rfl
theorem di_X0_12 : decode cX0_init 12 = .ok (.aload_n 0, 1) := by decide +kernel
theorem di_X0_13 : decode cX0_init 13 = .ok (.iconst 0, 1) := by decide +kernel
theorem di_X0_14 : decode cX0_init 14 = .ok (.putfield 13, 3) := by decide +kernel
theorem ik_385 : (.fieldLink RX0 13 RX0 "used" "I" : Cond) ∈ lw_tbl := tq_i2 145 rfl
theorem di_X0_17 : decode cX0_init 17 = .ok (.aload_n 0, 1) := by decide +kernel
theorem di_X0_18 : decode cX0_init 18 = .ok (.iconst 0, 1) := by decide +kernel
theorem di_X0_19 : decode cX0_init 19 = .ok (.putfield 17, 3) := by decide +kernel
theorem ik_386 : (.fieldLink RX0 17 RX0 "isNegative" "Z" : Cond) ∈ lw_tbl := tq_i2 146 rfl
theorem di_X0_22 : decode cX0_init 22 = .ok (.return_, 1) := by decide +kernel
set_option maxHeartbeats 8000000 in
set_option maxRecDepth 100000 in
theorem ci_X0 (l : Launch) (D : va_G) (dA : Nat → ClassId) (h0 : Nat) (sz : Nat) : Met l yX0_init (tq_ws mi_X0) ({ frames := 2, cells := 1, slots := 34, locals := 60 }) (va_Pc [.ref h0] (fun U => U.heap.size = sz ∧ va_P D tq_cl [(h0, .inr (0, [.null, .int 0, .int 0]))] U.heap ∧ va_K D tq_cl (tq_tys dA) U ∧ va_D (fun _ => True) [(h0, .inr (0, [.null, .int 0, .int 0]))])) (va_Qv (fun _ : Unit => True) (fun _ t => ∃ (q7 : Nat), va_P D tq_cl [(h0, .inr (0, [.ref q7, .int 0, .int 0])), (q7, .inl (dA 0, (34, tq_ct tq_zz 0 0)))] t.heap ∧ va_K D tq_cl (tq_tys dA) t ∧ va_D (va_A [(h0, .inr (0, [.null, .int 0, .int 0]))] sz) [(h0, .inr (0, [.ref q7, .int 0, .int 0])), (q7, .inl (dA 0, (34, tq_ct tq_zz 0 0)))]) (va_A [(h0, .inr (0, [.null, .int 0, .int 0]))] sz)) 1 34 (va_A [(h0, .inr (0, [.null, .int 0, .int 0]))] sz) := by
  refine Met.ofW (cc := cX0_init) (maxL := 1) (ret := none) (by decide) rfl ?_
  intro p e s m args below meth c s₁ B hml hv
  obtain ⟨rfl, hsz, hP, hK, hD0⟩ := hv
  have hx := B.exec
  have hb := B.bytes
  have hr := B.returns
  have hts0 := atoms_spec (ws := tq_ws mi_X0) B.pre
  have hts : ∀ w ∈ tq_TS, w.before _ s = true := fun w hw => hts0 w (List.mem_cons_of_mem _ hw)
  have hw : ∀ w, w ∈ lw_tbl → goodWord w = true → w.before _ s = true := fun w h1 h2 => hts w (List.mem_filter.mpr ⟨h1, h2⟩)
  have hown : s.vm.findClass RX0 = some m.cls := findClass_of_methodNamed B.named
  have hin : meth.name = "<init>" := (name_of_methodNamed B.named B.method).1
  subst hsz
  have hD := hD0.self (sz := s.heap.size)
  generalize hAe : va_A [(h0, .inr (0, [.null, .int 0, .int 0]))] s.heap.size = A at hD ⊢
  have hA : ∀ q : Nat, s.heap.size ≤ q → A q := fun q h => by rw [← hAe]; exact Or.inr h
  have hS : va_S A s.heap s.heap [] := va_S.rf
  have hP : va_P D tq_cl [(h0, .inr (0, [.null, .int 0, .int 0]))] s.heap := hP
  have hl := lv_entry ([.ref h0]) (n := 1) (Nat.le_of_ble_eq_true rfl)
  rw [lg_entry_eq]
  generalize (lg_sl ([.ref h0]) ++ List.replicate (1 - (lg_sl ([.ref h0])).length) Slot.unset).toArray = ls at hl ⊢
  have hl : lv_has ls 1 [(0, .ref h0)] := hl
  refine lv_aload_n hx hb di_X0_0 rfl (lv_at hl 0 rfl) ?_
  refine W.objInit hx hb hown (hw _ ik_383 rfl) (hw _ ik_33 rfl) (hw _ ik_34 rfl) rfl (by rw [hml]; exact hl.1) rfl di_X0_1 (Nat.le_of_ble_eq_true rfl) (Nat.le_of_ble_eq_true rfl) ?_
  refine W.eq (g2 := F0 m 4 ls []) rfl ?_
  refine lv_aload_n hx hb di_X0_4 rfl (lv_at hl 0 rfl) ?_
  refine lv_bipush (v := 34) hx hb di_X0_5 (by decide) ?_
  refine ni_arr (t := 0) (N := 34) (atype := .int) hx hb (by decide) rfl (hw _ ik_194 rfl) hK hP hD hS hA (by decide) (by decide) (Nat.le_of_ble_eq_true rfl) (Nat.le_of_ble_eq_true rfl) (Nat.le_of_ble_eq_true rfl) di_X0_7 (fun q7 H hP hD hS => ?_)
  refine W.widen (k := 1) (n := 34) (Nat.le_of_ble_eq_true rfl) (Nat.le_of_ble_eq_true rfl) ?_
  have hP : va_P D tq_cl [(h0, .inr (0, [.null, .int 0, .int 0])), (q7, .inl (dA 0, (34, tq_ct tq_zz 0 0)))] H := hP
  have hD : va_D A [(h0, .inr (0, [.null, .int 0, .int 0])), (q7, .inl (dA 0, (34, tq_ct tq_zz 0 0)))] := hD
  refine va_putF (D := D) (ci := 0) (v := .ref q7) (ty := (.array .int)) (C := RX0) (T := TX0) (N := 3) hx hb hts mil_X0 tyX0 tyX0_ok nmX0 hown hK hP hD hS 0 rfl rfl 0 (by decide) (hw _ ik_384 rfl) (fun _ h9 => h9) rfl hin rfl rfl rfl rfl (Nat.le_of_ble_eq_true rfl) di_X0_9 (fun H locs hP hD hS => ?_)
  have hP : va_P D tq_cl [(h0, .inr (0, [.ref q7, .int 0, .int 0])), (q7, .inl (dA 0, (34, tq_ct tq_zz 0 0)))] H := hP
  have hD : va_D A [(h0, .inr (0, [.ref q7, .int 0, .int 0])), (q7, .inl (dA 0, (34, tq_ct tq_zz 0 0)))] := hD
  refine lv_aload_n hx hb di_X0_12 rfl (lv_at hl 0 rfl) ?_
  refine lv_iconst (v := 0) hx hb di_X0_13 (by decide) ?_
  refine va_put (D := D) (ci := 0) (v := .int 0) (ty := .int) (C := RX0) (T := TX0) (N := 3) hx hb hts mil_X0 tyX0 tyX0_ok nmX0 hown hK hP hD hS 0 rfl rfl 1 (by decide) (hw _ ik_385 rfl) (fun _ h9 => h9) rfl rfl rfl rfl (Nat.le_of_ble_eq_true rfl) di_X0_14 (fun H locs hP hD hS => ?_)
  have hP : va_P D tq_cl [(h0, .inr (0, [.ref q7, .int 0, .int 0])), (q7, .inl (dA 0, (34, tq_ct tq_zz 0 0)))] H := hP
  have hD : va_D A [(h0, .inr (0, [.ref q7, .int 0, .int 0])), (q7, .inl (dA 0, (34, tq_ct tq_zz 0 0)))] := hD
  refine lv_aload_n hx hb di_X0_17 rfl (lv_at hl 0 rfl) ?_
  refine lv_iconst (v := 0) hx hb di_X0_18 (by decide) ?_
  refine va_put (D := D) (ci := 0) (v := .int 0) (ty := .boolean) (C := RX0) (T := TX0) (N := 3) hx hb hts mil_X0 tyX0 tyX0_ok nmX0 hown hK hP hD hS 0 rfl rfl 2 (by decide) (hw _ ik_386 rfl) (fun _ h9 => h9) rfl rfl rfl rfl (Nat.le_of_ble_eq_true rfl) di_X0_19 (fun H locs hP hD hS => ?_)
  have hP : va_P D tq_cl [(h0, .inr (0, [.ref q7, .int 0, .int 0])), (q7, .inl (dA 0, (34, tq_ct tq_zz 0 0)))] H := hP
  have hD : va_D A [(h0, .inr (0, [.ref q7, .int 0, .int 0])), (q7, .inl (dA 0, (34, tq_ct tq_zz 0 0)))] := hD
  exact W.vret hx hb hr (fun t ht hW => ⟨⟨(), rfl, trivial, q7, by rw [ht]; exact hP, va_K.moved hW.alike hK, hD⟩, hS.F ht⟩) hS.2.2 di_X0_22
