/-! ===== the start of the law ===== -/
/-! THE CLAIM OUT OF ONE WALK OF THE LAW'S BODY. Your part is whole_start (and what it stands on); all else here is the same for every law, but numbers. -/
def R_law : String := "TilecountLaw"
def lw_P (b : Addr) (xs : List Int32) (args : Array Value) (s : State) : Prop := args = #[.ref b] ∧ s.IntsAt b xs ∧ xs.length ≤ 260 ∧ (Jvm.Cond.and given_1 narrow_1).before args s = true
def lw_Q (_ : Array Value) (s : State) (o : Outcome) (t : State) : Prop := o = .returned (some (.int 1)) ∧ Framed s o t [] 600390 7288599
def lw_Z (below : List Frame) (a : Array Value) (s : State) : State → Prop := fun t => ∃ o, t.status = .running ∧ Ended t below o ∧ lw_Q a s o t
/-- the law's own end, with 1 on the stack, nothing written that was there before, its room as the claim has it -/
theorem lw_ret {p : Program} {l : Launch} {e : Env} {s : State} {m : MethodId} {below : List Frame} {meth : Method} {c : Code} {b : Nat} (hx : p.tables.exec = Jvm.exec) (hb : c.code = code) (hr : meth.sig.returnType = ret) (hlocks : meth.locks = false) {pc : Nat} {H : Heap} {ls : Array Slot} (hdg : decode code pc = .ok (.ireturn, 1)) : W p l e room_1 s m #[Value.ref b] below meth c H [] 600390 7288599 (lw_Z below #[Value.ref b] s) (F0 m pc ls [.int 1]) := by
  intro T hT X
  obtain ⟨fs, hret, hrun, hended, hW, hframe⟩ := X.leave (v := some (.int 1)) (hlocks := hlocks) (fun h => by rw [hr] at h; cases h)
  have hmeth' : T.vm.method? m = some meth := X.method'
  refine ⟨T.setFrames fs, ?_, .returned (some (.int 1)), hrun, hended, rfl, ⟨_, rfl⟩, hW, hframe⟩
  jvm_step X.here [X.here.top, hx, hb, hdg, hmeth', hr, ret, narrow_b1]
  (try refine ⟨rfl, ?_⟩); (try refine ⟨rfl, ?_⟩)
  first | (intro acts; rw [hret _ acts rfl rfl rfl]) | rw [hret _ _ rfl rfl rfl]
  exact Steps.refl _
/-- what holds at the law's entry: the machine, the code, the tables' words (any of lw_tbl by 'hts w (by decide +kernel)'), the script of L ints xs at the cell b, what the Statement gives of the start (any of its parts by flat_of_before) -/
def lw_At (p : Program) (s : State) (m : MethodId) (meth : Method) (c : Code) (b L : Nat) (xs : Nat → Int32) : Prop :=
  p.tables.exec = Jvm.exec ∧ c.code = code ∧ meth.sig.returnType = ret ∧ c.maxLocals = 8 ∧ s.vm.findClass R_law = some m.cls ∧ (∀ w ∈ lw_tbl, w.before #[Value.ref b] s = true) ∧ va_X b L xs s s.heap ∧ b < s.heap.size ∧ meth.locks = false ∧ (Jvm.Cond.and given_1 narrow_1).before #[Value.ref b] s = true ∧ c.exceptionTable.toList = []
def tq_z0 : tq_S := (fun r => if r = 64 then 1 else if r = 65 then 1 else if r = 134 then (-1) else if r = 135 then (-1) else if r = 1220 then (-1) else if r = 1807 then (-1) else if r = 1808 then (-1) else 0, fun _ => 0, fun _ _ => 0, fun _ _ => 0, fun _ _ => 0)
theorem ik_27 : (.classLink RL 8 RX11 : Cond) ∈ lw_tbl := tq_i1 27 rfl
theorem ik_28 : (.instantiable RX11 14 : Cond) ∈ lw_tbl := tq_i1 28 rfl
theorem ik_1 : (.initialized RX11 : Cond) ∈ lw_tbl := tq_i1 1 rfl
theorem dl_0 : decode code 0 = .ok (.new 8, 3) := by decide +kernel
theorem dl_3 : decode code 3 = .ok (.dup, 1) := by decide +kernel
theorem ik_29 : (.methodLink RL 201 yX11_init : Cond) ∈ lw_tbl := tq_i1 29 rfl
theorem ik_30 : (.instanceMethod yX11_init : Cond) ∈ lw_tbl := tq_i1 30 rfl
theorem dl_4 : decode code 4 = .ok (.invokespecial 201, 3) := by decide +kernel
theorem dl_7 : decode code 7 = .ok (.astore_n 1, 1) := by decide +kernel
theorem dl_8 : decode code 8 = .ok (.iconst 1, 1) := by decide +kernel
theorem dl_9 : decode code 9 = .ok (.newarray .int, 2) := by decide +kernel
set_option maxHeartbeats 4000000 in
set_option maxRecDepth 100000 in
theorem mi_2 {α β : Type} (f : Nat → α → β) (a0 a1 : α) : List.mapIdx f [a0, a1] = [f 0 a0, f 1 a1] := by
  simp only [List.mapIdx_cons, List.mapIdx_nil, Nat.zero_add, Nat.reduceAdd]
set_option maxHeartbeats 4000000 in
set_option maxRecDepth 100000 in
theorem mi_3 {α β : Type} (f : Nat → α → β) (a0 a1 a2 : α) : List.mapIdx f [a0, a1, a2] = [f 0 a0, f 1 a1, f 2 a2] := by
  simp only [List.mapIdx_cons, List.mapIdx_nil, Nat.zero_add, Nat.reduceAdd]
set_option maxHeartbeats 4000000 in
set_option maxRecDepth 100000 in
theorem mi_5 {α β : Type} (f : Nat → α → β) (a0 a1 a2 a3 a4 : α) : List.mapIdx f [a0, a1, a2, a3, a4] = [f 0 a0, f 1 a1, f 2 a2, f 3 a3, f 4 a4] := by
  simp only [List.mapIdx_cons, List.mapIdx_nil, Nat.zero_add, Nat.reduceAdd]
set_option maxHeartbeats 4000000 in
set_option maxRecDepth 100000 in
theorem mi_6 {α β : Type} (f : Nat → α → β) (a0 a1 a2 a3 a4 a5 : α) : List.mapIdx f [a0, a1, a2, a3, a4, a5] = [f 0 a0, f 1 a1, f 2 a2, f 3 a3, f 4 a4, f 5 a5] := by
  simp only [List.mapIdx_cons, List.mapIdx_nil, Nat.zero_add, Nat.reduceAdd]
set_option maxHeartbeats 4000000 in
set_option maxRecDepth 100000 in
theorem mi_7 {α β : Type} (f : Nat → α → β) (a0 a1 a2 a3 a4 a5 a6 : α) : List.mapIdx f [a0, a1, a2, a3, a4, a5, a6] = [f 0 a0, f 1 a1, f 2 a2, f 3 a3, f 4 a4, f 5 a5, f 6 a6] := by
  simp only [List.mapIdx_cons, List.mapIdx_nil, Nat.zero_add, Nat.reduceAdd]
set_option maxHeartbeats 4000000 in
set_option maxRecDepth 100000 in
theorem mi_8 {α β : Type} (f : Nat → α → β) (a0 a1 a2 a3 a4 a5 a6 a7 : α) : List.mapIdx f [a0, a1, a2, a3, a4, a5, a6, a7] = [f 0 a0, f 1 a1, f 2 a2, f 3 a3, f 4 a4, f 5 a5, f 6 a6, f 7 a7] := by
  simp only [List.mapIdx_cons, List.mapIdx_nil, Nat.zero_add, Nat.reduceAdd]
set_option maxHeartbeats 4000000 in
set_option maxRecDepth 100000 in
theorem mi_10 {α β : Type} (f : Nat → α → β) (a0 a1 a2 a3 a4 a5 a6 a7 a8 a9 : α) : List.mapIdx f [a0, a1, a2, a3, a4, a5, a6, a7, a8, a9] = [f 0 a0, f 1 a1, f 2 a2, f 3 a3, f 4 a4, f 5 a5, f 6 a6, f 7 a7, f 8 a8, f 9 a9] := by
  simp only [List.mapIdx_cons, List.mapIdx_nil, Nat.zero_add, Nat.reduceAdd]
set_option maxHeartbeats 4000000 in
set_option maxRecDepth 100000 in
theorem mi_11 {α β : Type} (f : Nat → α → β) (a0 a1 a2 a3 a4 a5 a6 a7 a8 a9 a10 : α) : List.mapIdx f [a0, a1, a2, a3, a4, a5, a6, a7, a8, a9, a10] = [f 0 a0, f 1 a1, f 2 a2, f 3 a3, f 4 a4, f 5 a5, f 6 a6, f 7 a7, f 8 a8, f 9 a9, f 10 a10] := by
  simp only [List.mapIdx_cons, List.mapIdx_nil, Nat.zero_add, Nat.reduceAdd]
set_option maxHeartbeats 4000000 in
set_option maxRecDepth 100000 in
theorem mi_14 {α β : Type} (f : Nat → α → β) (a0 a1 a2 a3 a4 a5 a6 a7 a8 a9 a10 a11 a12 a13 : α) : List.mapIdx f [a0, a1, a2, a3, a4, a5, a6, a7, a8, a9, a10, a11, a12, a13] = [f 0 a0, f 1 a1, f 2 a2, f 3 a3, f 4 a4, f 5 a5, f 6 a6, f 7 a7, f 8 a8, f 9 a9, f 10 a10, f 11 a11, f 12 a12, f 13 a13] := by
  simp only [List.mapIdx_cons, List.mapIdx_nil, Nat.zero_add, Nat.reduceAdd]
set_option maxHeartbeats 4000000 in
set_option maxRecDepth 100000 in
theorem mi_19 {α β : Type} (f : Nat → α → β) (a0 a1 a2 a3 a4 a5 a6 a7 a8 a9 a10 a11 a12 a13 a14 a15 a16 a17 a18 : α) : List.mapIdx f [a0, a1, a2, a3, a4, a5, a6, a7, a8, a9, a10, a11, a12, a13, a14, a15, a16, a17, a18] = [f 0 a0, f 1 a1, f 2 a2, f 3 a3, f 4 a4, f 5 a5, f 6 a6, f 7 a7, f 8 a8, f 9 a9, f 10 a10, f 11 a11, f 12 a12, f 13 a13, f 14 a14, f 15 a15, f 16 a16, f 17 a17, f 18 a18] := by
  simp only [List.mapIdx_cons, List.mapIdx_nil, Nat.zero_add, Nat.reduceAdd]
set_option maxHeartbeats 4000000 in
set_option maxRecDepth 100000 in
theorem mi_52 {α β : Type} (f : Nat → α → β) (a0 a1 a2 a3 a4 a5 a6 a7 a8 a9 a10 a11 a12 a13 a14 a15 a16 a17 a18 a19 a20 a21 a22 a23 a24 a25 a26 a27 a28 a29 a30 a31 a32 a33 a34 a35 a36 a37 a38 a39 a40 a41 a42 a43 a44 a45 a46 a47 a48 a49 a50 a51 : α) : List.mapIdx f [a0, a1, a2, a3, a4, a5, a6, a7, a8, a9, a10, a11, a12, a13, a14, a15, a16, a17, a18, a19, a20, a21, a22, a23, a24, a25, a26, a27, a28, a29, a30, a31, a32, a33, a34, a35, a36, a37, a38, a39, a40, a41, a42, a43, a44, a45, a46, a47, a48, a49, a50, a51] = [f 0 a0, f 1 a1, f 2 a2, f 3 a3, f 4 a4, f 5 a5, f 6 a6, f 7 a7, f 8 a8, f 9 a9, f 10 a10, f 11 a11, f 12 a12, f 13 a13, f 14 a14, f 15 a15, f 16 a16, f 17 a17, f 18 a18, f 19 a19, f 20 a20, f 21 a21, f 22 a22, f 23 a23, f 24 a24, f 25 a25, f 26 a26, f 27 a27, f 28 a28, f 29 a29, f 30 a30, f 31 a31, f 32 a32, f 33 a33, f 34 a34, f 35 a35, f 36 a36, f 37 a37, f 38 a38, f 39 a39, f 40 a40, f 41 a41, f 42 a42, f 43 a43, f 44 a44, f 45 a45, f 46 a46, f 47 a47, f 48 a48, f 49 a49, f 50 a50, f 51 a51] := by
  simp only [List.mapIdx_cons, List.mapIdx_nil, Nat.zero_add, Nat.reduceAdd]
theorem w9_0 (ρ : Nat → Nat) (dA : Nat → ClassId) : ((ρ 0, tq_E ρ dA tq_z0 0 (.inr (11, [(0, 1), (0, 2), (0, 8), (0, 12), (0, 16), (0, 19), (0, 23), (0, 28), (0, 38), (0, 42), (0, 46), (0, 48), (0, 50), (1, 0)]))) : Nat × va_E) = (ρ 0, .inr (11, [.ref (ρ 1), .ref (ρ 2), .ref (ρ 8), .ref (ρ 12), .ref (ρ 16), .ref (ρ 19), .ref (ρ 23), .ref (ρ 28), .ref (ρ 38), .ref (ρ 42), .ref (ρ 46), .ref (ρ 48), .ref (ρ 50), .int 0])) := by
  unfold tq_E
  simp only [mi_14]
  rfl
theorem w9_1 (ρ : Nat → Nat) (dA : Nat → ClassId) : ((ρ 1, tq_E ρ dA tq_z0 1 (.inr (1, [(1, 0), (1, 0), (1, 1), (2, 0), (1, 0)]))) : Nat × va_E) = (ρ 1, .inr (1, [.int 1, .int 1, .int 0, .long 0, .int 0])) := by
  unfold tq_E
  simp only [mi_5]
  rfl
theorem w9_2 (ρ : Nat → Nat) (dA : Nat → ClassId) : ((ρ 2, tq_E ρ dA tq_z0 2 (.inr (5, [(0, 1), (0, 3), (0, 4), (0, 5), (0, 6), (0, 7), (1, 0), (1, 0), (2, 0), (2, 0)]))) : Nat × va_E) = (ρ 2, .inr (5, [.ref (ρ 1), .ref (ρ 3), .ref (ρ 4), .ref (ρ 5), .ref (ρ 6), .ref (ρ 7), .int (-1), .int (-1), .long 0, .long 0])) := by
  unfold tq_E
  simp only [mi_10]
  rfl
theorem w9_3 (ρ : Nat → Nat) (dA : Nat → ClassId) : ((ρ 3, tq_E ρ dA tq_z0 3 (.inl (3, 2304))) : Nat × va_E) = (ρ 3, .inl (dA 3, (2304, tq_ct tq_zz 0 3))) := by
  rfl
theorem w9_4 (ρ : Nat → Nat) (dA : Nat → ClassId) : ((ρ 4, tq_E ρ dA tq_z0 4 (.inl (3, 4608))) : Nat × va_E) = (ρ 4, .inl (dA 3, (4608, tq_ct tq_zz 0 3))) := by
  rfl
theorem w9_5 (ρ : Nat → Nat) (dA : Nat → ClassId) : ((ρ 5, tq_E ρ dA tq_z0 5 (.inl (3, 512))) : Nat × va_E) = (ρ 5, .inl (dA 3, (512, tq_ct tq_zz 0 3))) := by
  rfl
theorem w9_6 (ρ : Nat → Nat) (dA : Nat → ClassId) : ((ρ 6, tq_E ρ dA tq_z0 6 (.inl (3, 512))) : Nat × va_E) = (ρ 6, .inl (dA 3, (512, tq_ct tq_zz 0 3))) := by
  rfl
theorem w9_7 (ρ : Nat → Nat) (dA : Nat → ClassId) : ((ρ 7, tq_E ρ dA tq_z0 7 (.inl (3, 128))) : Nat × va_E) = (ρ 7, .inl (dA 3, (128, tq_ct tq_zz 0 3))) := by
  rfl
theorem w9_8 (ρ : Nat → Nat) (dA : Nat → ClassId) : ((ρ 8, tq_E ρ dA tq_z0 8 (.inr (2, [(0, 1), (0, 9), (0, 10), (0, 11), (1, 1), (2, 0), (2, 0), (1, 1), (2, 0), (2, 0), (1, 0)]))) : Nat × va_E) = (ρ 8, .inr (2, [.ref (ρ 1), .ref (ρ 9), .ref (ρ 10), .ref (ρ 11), .int 0, .long 0, .long 0, .int 0, .long 0, .long 0, .int 0])) := by
  unfold tq_E
  simp only [mi_11]
  rfl
theorem w9_9 (ρ : Nat → Nat) (dA : Nat → ClassId) : ((ρ 9, tq_E ρ dA tq_z0 9 (.inl (3, 10))) : Nat × va_E) = (ρ 9, .inl (dA 3, (10, tq_ct tq_zz 0 3))) := by
  rfl
theorem w9_10 (ρ : Nat → Nat) (dA : Nat → ClassId) : ((ρ 10, tq_E ρ dA tq_z0 10 (.inl (3, 10))) : Nat × va_E) = (ρ 10, .inl (dA 3, (10, tq_ct tq_zz 0 3))) := by
  rfl
theorem w9_11 (ρ : Nat → Nat) (dA : Nat → ClassId) : ((ρ 11, tq_E ρ dA tq_z0 11 (.inl (1, 10))) : Nat × va_E) = (ρ 11, .inl (dA 1, (10, tq_ct tq_zz 0 1))) := by
  rfl
theorem w9_12 (ρ : Nat → Nat) (dA : Nat → ClassId) : ((ρ 12, tq_E ρ dA tq_z0 12 (.inr (7, [(0, 1), (0, 13), (0, 14), (0, 15), (2, 0), (2, 0)]))) : Nat × va_E) = (ρ 12, .inr (7, [.ref (ρ 1), .ref (ρ 13), .ref (ρ 14), .ref (ρ 15), .long 0, .long 0])) := by
  unfold tq_E
  simp only [mi_6]
  rfl
theorem w9_13 (ρ : Nat → Nat) (dA : Nat → ClassId) : ((ρ 13, tq_E ρ dA tq_z0 13 (.inl (0, 81))) : Nat × va_E) = (ρ 13, .inl (dA 0, (81, tq_ct tq_zz 0 0))) := by
  rfl
theorem w9_14 (ρ : Nat → Nat) (dA : Nat → ClassId) : ((ρ 14, tq_E ρ dA tq_z0 14 (.inl (0, 81))) : Nat × va_E) = (ρ 14, .inl (dA 0, (81, tq_ct tq_zz 0 0))) := by
  rfl
theorem w9_15 (ρ : Nat → Nat) (dA : Nat → ClassId) : ((ρ 15, tq_E ρ dA tq_z0 15 (.inl (0, 81))) : Nat × va_E) = (ρ 15, .inl (dA 0, (81, tq_ct tq_zz 0 0))) := by
  rfl
theorem w9_16 (ρ : Nat → Nat) (dA : Nat → ClassId) : ((ρ 16, tq_E ρ dA tq_z0 16 (.inr (3, [(0, 17), (0, 18)]))) : Nat × va_E) = (ρ 16, .inr (3, [.ref (ρ 17), .ref (ρ 18)])) := by
  unfold tq_E
  simp only [mi_2]
  rfl
theorem w9_17 (ρ : Nat → Nat) (dA : Nat → ClassId) : ((ρ 17, tq_E ρ dA tq_z0 17 (.inl (3, 1024))) : Nat × va_E) = (ρ 17, .inl (dA 3, (1024, tq_ct tq_zz 0 3))) := by
  rfl
theorem w9_18 (ρ : Nat → Nat) (dA : Nat → ClassId) : ((ρ 18, tq_E ρ dA tq_z0 18 (.inl (3, 3))) : Nat × va_E) = (ρ 18, .inl (dA 3, (3, tq_ct tq_zz 0 3))) := by
  rfl
theorem w9_19 (ρ : Nat → Nat) (dA : Nat → ClassId) : ((ρ 19, tq_E ρ dA tq_z0 19 (.inr (9, [(0, 1), (0, 20), (0, 21), (0, 22), (1, 0), (2, 0), (2, 0), (2, 0)]))) : Nat × va_E) = (ρ 19, .inr (9, [.ref (ρ 1), .ref (ρ 20), .ref (ρ 21), .ref (ρ 22), .int (-1), .long 0, .long 0, .long 0])) := by
  unfold tq_E
  simp only [mi_8]
  rfl
theorem w9_20 (ρ : Nat → Nat) (dA : Nat → ClassId) : ((ρ 20, tq_E ρ dA tq_z0 20 (.inl (0, 64))) : Nat × va_E) = (ρ 20, .inl (dA 0, (64, tq_ct tq_zz 0 0))) := by
  rfl
theorem w9_21 (ρ : Nat → Nat) (dA : Nat → ClassId) : ((ρ 21, tq_E ρ dA tq_z0 21 (.inl (0, 64))) : Nat × va_E) = (ρ 21, .inl (dA 0, (64, tq_ct tq_zz 0 0))) := by
  rfl
theorem w9_22 (ρ : Nat → Nat) (dA : Nat → ClassId) : ((ρ 22, tq_E ρ dA tq_z0 22 (.inl (0, 64))) : Nat × va_E) = (ρ 22, .inl (dA 0, (64, tq_ct tq_zz 0 0))) := by
  rfl
theorem w9_23 (ρ : Nat → Nat) (dA : Nat → ClassId) : ((ρ 23, tq_E ρ dA tq_z0 23 (.inr (8, [(0, 24), (0, 25), (0, 26), (0, 27), (2, 0), (1, 0), (1, 0)]))) : Nat × va_E) = (ρ 23, .inr (8, [.ref (ρ 24), .ref (ρ 25), .ref (ρ 26), .ref (ρ 27), .long 0, .int 0, .int 0])) := by
  unfold tq_E
  simp only [mi_7]
  rfl
theorem w9_24 (ρ : Nat → Nat) (dA : Nat → ClassId) : ((ρ 24, tq_E ρ dA tq_z0 24 (.inl (3, 48))) : Nat × va_E) = (ρ 24, .inl (dA 3, (48, tq_ct tq_zz 0 3))) := by
  rfl
theorem w9_25 (ρ : Nat → Nat) (dA : Nat → ClassId) : ((ρ 25, tq_E ρ dA tq_z0 25 (.inl (0, 6))) : Nat × va_E) = (ρ 25, .inl (dA 0, (6, tq_ct tq_zz 0 0))) := by
  rfl
theorem w9_26 (ρ : Nat → Nat) (dA : Nat → ClassId) : ((ρ 26, tq_E ρ dA tq_z0 26 (.inl (0, 6))) : Nat × va_E) = (ρ 26, .inl (dA 0, (6, tq_ct tq_zz 0 0))) := by
  rfl
theorem w9_27 (ρ : Nat → Nat) (dA : Nat → ClassId) : ((ρ 27, tq_E ρ dA tq_z0 27 (.inl (0, 6))) : Nat × va_E) = (ρ 27, .inl (dA 0, (6, tq_ct tq_zz 0 0))) := by
  rfl
theorem w9_28 (ρ : Nat → Nat) (dA : Nat → ClassId) : ((ρ 28, tq_E ρ dA tq_z0 28 (.inr (4, [(0, 1), (0, 23), (0, 29), (0, 30), (0, 31), (0, 32), (0, 33), (0, 34), (0, 35), (0, 36), (0, 37), (1, 0), (1, 0), (1, 0), (1, 0), (1, 0), (1, 0), (2, 0), (2, 0)]))) : Nat × va_E) = (ρ 28, .inr (4, [.ref (ρ 1), .ref (ρ 23), .ref (ρ 29), .ref (ρ 30), .ref (ρ 31), .ref (ρ 32), .ref (ρ 33), .ref (ρ 34), .ref (ρ 35), .ref (ρ 36), .ref (ρ 37), .int 0, .int 0, .int 0, .int 0, .int (-1), .int (-1), .long 0, .long 0])) := by
  unfold tq_E
  simp only [mi_19]
  rfl
theorem w9_29 (ρ : Nat → Nat) (dA : Nat → ClassId) : ((ρ 29, tq_E ρ dA tq_z0 29 (.inl (3, 1152))) : Nat × va_E) = (ρ 29, .inl (dA 3, (1152, tq_ct tq_zz 0 3))) := by
  rfl
theorem w9_30 (ρ : Nat → Nat) (dA : Nat → ClassId) : ((ρ 30, tq_E ρ dA tq_z0 30 (.inl (0, 25))) : Nat × va_E) = (ρ 30, .inl (dA 0, (25, tq_ct tq_zz 0 0))) := by
  rfl
theorem w9_31 (ρ : Nat → Nat) (dA : Nat → ClassId) : ((ρ 31, tq_E ρ dA tq_z0 31 (.inl (0, 24))) : Nat × va_E) = (ρ 31, .inl (dA 0, (24, tq_ct tq_zz 0 0))) := by
  rfl
theorem w9_32 (ρ : Nat → Nat) (dA : Nat → ClassId) : ((ρ 32, tq_E ρ dA tq_z0 32 (.inl (0, 64))) : Nat × va_E) = (ρ 32, .inl (dA 0, (64, tq_ct tq_zz 0 0))) := by
  rfl
theorem w9_33 (ρ : Nat → Nat) (dA : Nat → ClassId) : ((ρ 33, tq_E ρ dA tq_z0 33 (.inl (0, 192))) : Nat × va_E) = (ρ 33, .inl (dA 0, (192, tq_ct tq_zz 0 0))) := by
  rfl
theorem w9_34 (ρ : Nat → Nat) (dA : Nat → ClassId) : ((ρ 34, tq_E ρ dA tq_z0 34 (.inl (3, 2048))) : Nat × va_E) = (ρ 34, .inl (dA 3, (2048, tq_ct tq_zz 0 3))) := by
  rfl
theorem w9_35 (ρ : Nat → Nat) (dA : Nat → ClassId) : ((ρ 35, tq_E ρ dA tq_z0 35 (.inl (3, 2048))) : Nat × va_E) = (ρ 35, .inl (dA 3, (2048, tq_ct tq_zz 0 3))) := by
  rfl
theorem w9_36 (ρ : Nat → Nat) (dA : Nat → ClassId) : ((ρ 36, tq_E ρ dA tq_z0 36 (.inl (3, 288))) : Nat × va_E) = (ρ 36, .inl (dA 3, (288, tq_ct tq_zz 0 3))) := by
  rfl
theorem w9_37 (ρ : Nat → Nat) (dA : Nat → ClassId) : ((ρ 37, tq_E ρ dA tq_z0 37 (.inl (0, 8))) : Nat × va_E) = (ρ 37, .inl (dA 0, (8, tq_ct tq_zz 0 0))) := by
  rfl
theorem w9_38 (ρ : Nat → Nat) (dA : Nat → ClassId) : ((ρ 38, tq_E ρ dA tq_z0 38 (.inr (6, [(0, 39), (0, 40), (0, 41)]))) : Nat × va_E) = (ρ 38, .inr (6, [.ref (ρ 39), .ref (ρ 40), .ref (ρ 41)])) := by
  unfold tq_E
  simp only [mi_3]
  rfl
theorem w9_39 (ρ : Nat → Nat) (dA : Nat → ClassId) : ((ρ 39, tq_E ρ dA tq_z0 39 (.inl (0, 234))) : Nat × va_E) = (ρ 39, .inl (dA 0, (234, tq_ct tq_zz 0 0))) := by
  rfl
theorem w9_40 (ρ : Nat → Nat) (dA : Nat → ClassId) : ((ρ 40, tq_E ρ dA tq_z0 40 (.inl (3, 64))) : Nat × va_E) = (ρ 40, .inl (dA 3, (64, tq_ct tq_zz 0 3))) := by
  rfl
theorem w9_41 (ρ : Nat → Nat) (dA : Nat → ClassId) : ((ρ 41, tq_E ρ dA tq_z0 41 (.inl (3, 64))) : Nat × va_E) = (ρ 41, .inl (dA 3, (64, tq_ct tq_zz 0 3))) := by
  rfl
theorem w9_42 (ρ : Nat → Nat) (dA : Nat → ClassId) : ((ρ 42, tq_E ρ dA tq_z0 42 (.inr (10, [(0, 1), (0, 43), (0, 44), (0, 45), (2, 0)]))) : Nat × va_E) = (ρ 42, .inr (10, [.ref (ρ 1), .ref (ρ 43), .ref (ρ 44), .ref (ρ 45), .long 0])) := by
  unfold tq_E
  simp only [mi_5]
  rfl
theorem w9_43 (ρ : Nat → Nat) (dA : Nat → ClassId) : ((ρ 43, tq_E ρ dA tq_z0 43 (.inl (3, 256))) : Nat × va_E) = (ρ 43, .inl (dA 3, (256, tq_ct tq_zz 0 3))) := by
  rfl
theorem w9_44 (ρ : Nat → Nat) (dA : Nat → ClassId) : ((ρ 44, tq_E ρ dA tq_z0 44 (.inl (3, 1024))) : Nat × va_E) = (ρ 44, .inl (dA 3, (1024, tq_ct tq_zz 0 3))) := by
  rfl
theorem w9_45 (ρ : Nat → Nat) (dA : Nat → ClassId) : ((ρ 45, tq_E ρ dA tq_z0 45 (.inl (3, 1024))) : Nat × va_E) = (ρ 45, .inl (dA 3, (1024, tq_ct tq_zz 0 3))) := by
  rfl
theorem w9_46 (ρ : Nat → Nat) (dA : Nat → ClassId) : ((ρ 46, tq_E ρ dA tq_z0 46 (.inr (0, [(0, 47), (1, 0), (1, 1)]))) : Nat × va_E) = (ρ 46, .inr (0, [.ref (ρ 47), .int 0, .int 0])) := by
  unfold tq_E
  simp only [mi_3]
  rfl
theorem w9_47 (ρ : Nat → Nat) (dA : Nat → ClassId) : ((ρ 47, tq_E ρ dA tq_z0 47 (.inl (0, 34))) : Nat × va_E) = (ρ 47, .inl (dA 0, (34, tq_ct tq_zz 0 0))) := by
  rfl
theorem w9_48 (ρ : Nat → Nat) (dA : Nat → ClassId) : ((ρ 48, tq_E ρ dA tq_z0 48 (.inr (0, [(0, 49), (1, 0), (1, 1)]))) : Nat × va_E) = (ρ 48, .inr (0, [.ref (ρ 49), .int 0, .int 0])) := by
  unfold tq_E
  simp only [mi_3]
  rfl
theorem w9_49 (ρ : Nat → Nat) (dA : Nat → ClassId) : ((ρ 49, tq_E ρ dA tq_z0 49 (.inl (0, 34))) : Nat × va_E) = (ρ 49, .inl (dA 0, (34, tq_ct tq_zz 0 0))) := by
  rfl
theorem w9_50 (ρ : Nat → Nat) (dA : Nat → ClassId) : ((ρ 50, tq_E ρ dA tq_z0 50 (.inl (2, 320))) : Nat × va_E) = (ρ 50, .inl (dA 2, (320, tq_ct tq_zz 0 2))) := by
  rfl
theorem w9_51 (ρ : Nat → Nat) (dA : Nat → ClassId) : ((ρ 51, tq_E ρ dA tq_z0 51 (.inl (0, 1))) : Nat × va_E) = (ρ 51, .inl (dA 0, (1, tq_ct tq_zz 0 0))) := by
  rfl
set_option maxHeartbeats 4000000 in
set_option maxRecDepth 100000 in
theorem w9_eq (ρ : Nat → Nat) (dA : Nat → ClassId) : tq_W tq_sh ρ dA tq_z0 = [(ρ 0, .inr (11, [.ref (ρ 1), .ref (ρ 2), .ref (ρ 8), .ref (ρ 12), .ref (ρ 16), .ref (ρ 19), .ref (ρ 23), .ref (ρ 28), .ref (ρ 38), .ref (ρ 42), .ref (ρ 46), .ref (ρ 48), .ref (ρ 50), .int 0])), (ρ 1, .inr (1, [.int 1, .int 1, .int 0, .long 0, .int 0])), (ρ 2, .inr (5, [.ref (ρ 1), .ref (ρ 3), .ref (ρ 4), .ref (ρ 5), .ref (ρ 6), .ref (ρ 7), .int (-1), .int (-1), .long 0, .long 0])), (ρ 3, .inl (dA 3, (2304, tq_ct tq_zz 0 3))), (ρ 4, .inl (dA 3, (4608, tq_ct tq_zz 0 3))), (ρ 5, .inl (dA 3, (512, tq_ct tq_zz 0 3))), (ρ 6, .inl (dA 3, (512, tq_ct tq_zz 0 3))), (ρ 7, .inl (dA 3, (128, tq_ct tq_zz 0 3))), (ρ 8, .inr (2, [.ref (ρ 1), .ref (ρ 9), .ref (ρ 10), .ref (ρ 11), .int 0, .long 0, .long 0, .int 0, .long 0, .long 0, .int 0])), (ρ 9, .inl (dA 3, (10, tq_ct tq_zz 0 3))), (ρ 10, .inl (dA 3, (10, tq_ct tq_zz 0 3))), (ρ 11, .inl (dA 1, (10, tq_ct tq_zz 0 1))), (ρ 12, .inr (7, [.ref (ρ 1), .ref (ρ 13), .ref (ρ 14), .ref (ρ 15), .long 0, .long 0])), (ρ 13, .inl (dA 0, (81, tq_ct tq_zz 0 0))), (ρ 14, .inl (dA 0, (81, tq_ct tq_zz 0 0))), (ρ 15, .inl (dA 0, (81, tq_ct tq_zz 0 0))), (ρ 16, .inr (3, [.ref (ρ 17), .ref (ρ 18)])), (ρ 17, .inl (dA 3, (1024, tq_ct tq_zz 0 3))), (ρ 18, .inl (dA 3, (3, tq_ct tq_zz 0 3))), (ρ 19, .inr (9, [.ref (ρ 1), .ref (ρ 20), .ref (ρ 21), .ref (ρ 22), .int (-1), .long 0, .long 0, .long 0])), (ρ 20, .inl (dA 0, (64, tq_ct tq_zz 0 0))), (ρ 21, .inl (dA 0, (64, tq_ct tq_zz 0 0))), (ρ 22, .inl (dA 0, (64, tq_ct tq_zz 0 0))), (ρ 23, .inr (8, [.ref (ρ 24), .ref (ρ 25), .ref (ρ 26), .ref (ρ 27), .long 0, .int 0, .int 0])), (ρ 24, .inl (dA 3, (48, tq_ct tq_zz 0 3))), (ρ 25, .inl (dA 0, (6, tq_ct tq_zz 0 0))), (ρ 26, .inl (dA 0, (6, tq_ct tq_zz 0 0))), (ρ 27, .inl (dA 0, (6, tq_ct tq_zz 0 0))), (ρ 28, .inr (4, [.ref (ρ 1), .ref (ρ 23), .ref (ρ 29), .ref (ρ 30), .ref (ρ 31), .ref (ρ 32), .ref (ρ 33), .ref (ρ 34), .ref (ρ 35), .ref (ρ 36), .ref (ρ 37), .int 0, .int 0, .int 0, .int 0, .int (-1), .int (-1), .long 0, .long 0])), (ρ 29, .inl (dA 3, (1152, tq_ct tq_zz 0 3))), (ρ 30, .inl (dA 0, (25, tq_ct tq_zz 0 0))), (ρ 31, .inl (dA 0, (24, tq_ct tq_zz 0 0))), (ρ 32, .inl (dA 0, (64, tq_ct tq_zz 0 0))), (ρ 33, .inl (dA 0, (192, tq_ct tq_zz 0 0))), (ρ 34, .inl (dA 3, (2048, tq_ct tq_zz 0 3))), (ρ 35, .inl (dA 3, (2048, tq_ct tq_zz 0 3))), (ρ 36, .inl (dA 3, (288, tq_ct tq_zz 0 3))), (ρ 37, .inl (dA 0, (8, tq_ct tq_zz 0 0))), (ρ 38, .inr (6, [.ref (ρ 39), .ref (ρ 40), .ref (ρ 41)])), (ρ 39, .inl (dA 0, (234, tq_ct tq_zz 0 0))), (ρ 40, .inl (dA 3, (64, tq_ct tq_zz 0 3))), (ρ 41, .inl (dA 3, (64, tq_ct tq_zz 0 3))), (ρ 42, .inr (10, [.ref (ρ 1), .ref (ρ 43), .ref (ρ 44), .ref (ρ 45), .long 0])), (ρ 43, .inl (dA 3, (256, tq_ct tq_zz 0 3))), (ρ 44, .inl (dA 3, (1024, tq_ct tq_zz 0 3))), (ρ 45, .inl (dA 3, (1024, tq_ct tq_zz 0 3))), (ρ 46, .inr (0, [.ref (ρ 47), .int 0, .int 0])), (ρ 47, .inl (dA 0, (34, tq_ct tq_zz 0 0))), (ρ 48, .inr (0, [.ref (ρ 49), .int 0, .int 0])), (ρ 49, .inl (dA 0, (34, tq_ct tq_zz 0 0))), (ρ 50, .inl (dA 2, (320, tq_ct tq_zz 0 2))), (ρ 51, .inl (dA 0, (1, tq_ct tq_zz 0 0)))] := by
  unfold tq_W tq_sh
  rw [mi_52]
  exact congr (congrArg List.cons (w9_0 ρ dA)) (congr (congrArg List.cons (w9_1 ρ dA)) (congr (congrArg List.cons (w9_2 ρ dA)) (congr (congrArg List.cons (w9_3 ρ dA)) (congr (congrArg List.cons (w9_4 ρ dA)) (congr (congrArg List.cons (w9_5 ρ dA)) (congr (congrArg List.cons (w9_6 ρ dA)) (congr (congrArg List.cons (w9_7 ρ dA)) (congr (congrArg List.cons (w9_8 ρ dA)) (congr (congrArg List.cons (w9_9 ρ dA)) (congr (congrArg List.cons (w9_10 ρ dA)) (congr (congrArg List.cons (w9_11 ρ dA)) (congr (congrArg List.cons (w9_12 ρ dA)) (congr (congrArg List.cons (w9_13 ρ dA)) (congr (congrArg List.cons (w9_14 ρ dA)) (congr (congrArg List.cons (w9_15 ρ dA)) (congr (congrArg List.cons (w9_16 ρ dA)) (congr (congrArg List.cons (w9_17 ρ dA)) (congr (congrArg List.cons (w9_18 ρ dA)) (congr (congrArg List.cons (w9_19 ρ dA)) (congr (congrArg List.cons (w9_20 ρ dA)) (congr (congrArg List.cons (w9_21 ρ dA)) (congr (congrArg List.cons (w9_22 ρ dA)) (congr (congrArg List.cons (w9_23 ρ dA)) (congr (congrArg List.cons (w9_24 ρ dA)) (congr (congrArg List.cons (w9_25 ρ dA)) (congr (congrArg List.cons (w9_26 ρ dA)) (congr (congrArg List.cons (w9_27 ρ dA)) (congr (congrArg List.cons (w9_28 ρ dA)) (congr (congrArg List.cons (w9_29 ρ dA)) (congr (congrArg List.cons (w9_30 ρ dA)) (congr (congrArg List.cons (w9_31 ρ dA)) (congr (congrArg List.cons (w9_32 ρ dA)) (congr (congrArg List.cons (w9_33 ρ dA)) (congr (congrArg List.cons (w9_34 ρ dA)) (congr (congrArg List.cons (w9_35 ρ dA)) (congr (congrArg List.cons (w9_36 ρ dA)) (congr (congrArg List.cons (w9_37 ρ dA)) (congr (congrArg List.cons (w9_38 ρ dA)) (congr (congrArg List.cons (w9_39 ρ dA)) (congr (congrArg List.cons (w9_40 ρ dA)) (congr (congrArg List.cons (w9_41 ρ dA)) (congr (congrArg List.cons (w9_42 ρ dA)) (congr (congrArg List.cons (w9_43 ρ dA)) (congr (congrArg List.cons (w9_44 ρ dA)) (congr (congrArg List.cons (w9_45 ρ dA)) (congr (congrArg List.cons (w9_46 ρ dA)) (congr (congrArg List.cons (w9_47 ρ dA)) (congr (congrArg List.cons (w9_48 ρ dA)) (congr (congrArg List.cons (w9_49 ρ dA)) (congr (congrArg List.cons (w9_50 ρ dA)) (congr (congrArg List.cons (w9_51 ρ dA)) rfl)))))))))))))))))))))))))))))))))))))))))))))))))))
theorem w9_inst : ∀ q ∈ tq_cl, Cond.instantiable q.1 q.2.2 ∈ lw_tbl := List.forall_mem_cons.mpr ⟨ik_379, List.forall_mem_cons.mpr ⟨ik_36, List.forall_mem_cons.mpr ⟨ik_122, List.forall_mem_cons.mpr ⟨ik_196, List.forall_mem_cons.mpr ⟨ik_277, List.forall_mem_cons.mpr ⟨ik_82, List.forall_mem_cons.mpr ⟨ik_342, List.forall_mem_cons.mpr ⟨ik_170, List.forall_mem_cons.mpr ⟨ik_243, List.forall_mem_cons.mpr ⟨ik_209, List.forall_mem_cons.mpr ⟨ik_358, List.forall_mem_cons.mpr ⟨ik_28, fun _ h => nomatch h⟩⟩⟩⟩⟩⟩⟩⟩⟩⟩⟩⟩
theorem w9_cls {args : Array Value} {s : State} (hts : ∀ w ∈ lw_tbl, w.before args s = true) : ∃ (dC : Nat → ClassId) (dI : Nat → Nat → Nat), ∀ (k : Nat) (q : vw_C), tq_cl[k]? = some q → u_Kn s q.1 q.2.1 q.2.2 (dC k) (dI k) := by
  have hcls : ∀ k : Nat, ∃ (c : ClassId) (i : Nat → Nat), ∀ q : vw_C, tq_cl[k]? = some q → u_Kn s q.1 q.2.1 q.2.2 c i := by
    intro k
    cases hq : tq_cl[k]? with
    | none => exact ⟨0, fun _ => 0, fun q h => (by cases h)⟩
    | some q =>
      have hm := List.mem_of_getElem? hq
      obtain ⟨c, i, h⟩ := u_known hts (tq_cl_ok q hm).1 (hts _ (w9_inst q hm))
      exact ⟨c, i, fun q' h' => by cases h'; exact h⟩
  exact ⟨fun k => Classical.choose (hcls k), fun k => Classical.choose (Classical.choose_spec (hcls k)), fun k q h => Classical.choose_spec (Classical.choose_spec (hcls k)) q h⟩
theorem w9_arr {args : Array Value} {s : State} (hts : ∀ w ∈ lw_tbl, w.before args s = true) : ∃ dA : Nat → ClassId, ∀ t, t < 4 → ArrOfT s (dA t) (tq_ty t) ∧ va_RA s (dA t) (tq_ty t) := by
  have one : ∀ ty : FieldType, (Cond.arrayClass ty).before args s = true → (∀ C, ty ≠ .object C) → ∃ cA, ArrOfT s cA ty ∧ va_RA s cA ty := by
    intro ty h no
    obtain ⟨cA, kA, comp, h1, h2, h3⟩ := Cond.arrayClass_spec h
    refine ⟨cA, fun n z => ⟨fun k h => (by cases h), kA, h2, comp, h3⟩, ?_⟩
    cases ty with
    | object C => exact absurd rfl (no C)
    | _ => exact h1
  have all : ∀ t, ∃ cA, t < 4 → ArrOfT s cA (tq_ty t) ∧ va_RA s cA (tq_ty t) := by
    intro t
    by_cases q : t < 4
    · rcases (show t = 0 ∨ t = 1 ∨ t = 2 ∨ t = 3 by omega) with rfl | rfl | rfl | rfl
      · obtain ⟨cA, h⟩ := one _ (hts _ ik_194) (fun C u => by cases u); exact ⟨cA, fun _ => h⟩
      · obtain ⟨cA, h⟩ := one _ (hts _ ik_168) (fun C u => by cases u); exact ⟨cA, fun _ => h⟩
      · obtain ⟨cA, h⟩ := one _ (hts _ ik_437) (fun C u => by cases u); exact ⟨cA, fun _ => h⟩
      · obtain ⟨cA, h⟩ := one _ (hts _ ik_120) (fun C u => by cases u); exact ⟨cA, fun _ => h⟩
    · exact ⟨0, fun u => absurd u q⟩
  exact ⟨fun t => Classical.choose (all t), fun t ht => Classical.choose_spec (all t) ht⟩
theorem J_0 : gS 0 tq_z0 := ⟨by omega, rfl, rfl, rfl, Or.inl rfl, Or.inl rfl, Or.inl rfl⟩
/-- the end of the logic's walk is the law's end -/
theorem lw_fin {s t : State} {below : List Frame} {b : Nat} {ρ : Nat → Nat} {D : va_G} {dA : Nat → ClassId} {A : Nat → Prop} (hA : ∀ q, A q → s.heap.size ≤ q) (h : vx_MQ below (tq_Qc ρ D dA A lz_Q) (tq_Xc ρ D dA A lz_Q) #[Value.ref b] s 600390 7288599 A t) : lw_Z below #[Value.ref b] s t := by
  obtain ⟨o, h1, h2, h3⟩ := h
  refine ⟨o, h1, h2, ?_⟩
  rcases h3 with ⟨⟨⟨v, z, e1, e2, -⟩, -⟩, L, ⟨f1, f2, f3⟩, f4⟩ | ⟨q, -, E, ce, L, ⟨⟨k, z, -, e2, -⟩, -⟩, -⟩
  · have ev : v = some (.int 1) := Sum.inl.inj e2
    subst ev
    exact ⟨e1, f1, f2, State.sameButNew.weaken f3 (fun x hx hlt => absurd hlt (Nat.not_lt.mpr (hA _ (f4 x hx)))) (Nat.le_refl _) (Nat.le_refl _)⟩
  · cases e2
set_option maxHeartbeats 8000000 in
set_option maxRecDepth 100000 in
theorem whole_start {p : Program} {e : Env} {s : State} {m : MethodId} {below : List Frame} {meth : Method} {c : Code} (l : Launch) (hflags : l.flags = flags0) {b L : Nat} {xs : Nat → Int32} (hL : L ≤ 260) (C0 : lw_At p s m meth c b L xs) : W p l e room_1 s m #[Value.ref b] below meth c s.heap [] 0 0 (lw_Z below #[Value.ref b] s) (entryFrame m ([Value.ref b] : List Value).toArray 8) := by
  obtain ⟨hx, hb, hr, hml, hown, hts0, hX, hbl, hlocks, hgv, hex⟩ := id C0
  obtain ⟨t1, t2, hXX⟩ := sx_X hL hts0 hgv hX hbl
  obtain ⟨A, hAe⟩ : ∃ A : Nat → Prop, A = fun q => s.heap.size ≤ q := ⟨_, rfl⟩
  rw [← hAe] at hXX
  have hA : ∀ q : Nat, s.heap.size ≤ q → A q := fun q h => by rw [hAe]; exact h
  have hA2 : ∀ q : Nat, A q → s.heap.size ≤ q := fun q h => by rw [hAe] at h; exact h
  have hts : ∀ w ∈ tq_TS, w.before _ s = true := fun w hw => hts0 w (List.mem_filter.mp hw).1
  have hw : ∀ w, w ∈ lw_tbl → goodWord w = true → w.before _ s = true := fun w h1 _ => hts0 w h1
  have htr : l.stackTraces = false := by unfold Launch.stackTraces; rw [hflags]; decide
  obtain ⟨dC, dI, hKc⟩ := w9_cls hts0
  obtain ⟨dA, hdA⟩ := w9_arr hts0
  obtain ⟨D, hDe⟩ : ∃ D : va_G, D = (dC, dI) := ⟨_, rfl⟩
  have hK : va_K D tq_cl (tq_tys dA) s := by
    rw [hDe]
    refine ⟨hKc, fun k q h => ?_⟩
    have hk : k < 4 := (List.getElem?_eq_some_iff.mp h).1
    rw [tq_tys_get dA hk] at h
    cases h
    exact hdA k hk
  have hS : va_S A s.heap s.heap [] := va_S.rf
  have hP : va_P D tq_cl [] s.heap := fun k q h => by simp at h
  have hD : va_D A [] := ⟨fun i j p q h => by simp at h, fun k q h => by simp at h⟩
  have hl := lv_entry ([.ref b]) (n := 8) (Nat.le_of_ble_eq_true rfl)
  rw [lg_entry_eq]
  generalize (lg_sl ([.ref b]) ++ List.replicate (8 - (lg_sl ([.ref b])).length) Slot.unset).toArray = ls at hl ⊢
  have hl : lv_has ls 8 [(0, .ref b)] := hl
  refine va_new (ci := 11) (fs := [.null, .null, .null, .null, .null, .null, .null, .null, .null, .null, .null, .null, .null, .int 0]) (C := RX11) (T := TX11) (N := 14) hx hb hts mil_X11 tyX11 tyX11_ok hown (hw _ ik_27 rfl) (hw _ ik_28 rfl) (hw _ ik_1 rfl) hK hP hD hS hA rfl ids_X11 (Nat.le_of_ble_eq_true rfl) (Nat.le_of_ble_eq_true rfl) dl_0 (fun p0 H hP hD hS => ?_)
  refine W.widen (k := 1) (n := 14) (Nat.le_of_ble_eq_true rfl) (Nat.le_of_ble_eq_true rfl) ?_
  have hP : va_P D tq_cl [(p0, .inr (11, [.null, .null, .null, .null, .null, .null, .null, .null, .null, .null, .null, .null, .null, .int 0]))] H := hP
  have hD : va_D A [(p0, .inr (11, [.null, .null, .null, .null, .null, .null, .null, .null, .null, .null, .null, .null, .null, .int 0]))] := hD
  refine lv_dup hx hb dl_3 rfl ?_
  have hPc := hP.sub (ws' := [(p0, .inr (11, [.null, .null, .null, .null, .null, .null, .null, .null, .null, .null, .null, .null, .null, .int 0]))]) [0] rfl
  have hDc := hD.sub (ws' := [(p0, .inr (11, [.null, .null, .null, .null, .null, .null, .null, .null, .null, .null, .null, .null, .null, .int 0]))]) [0] (by decide) rfl
  have hFc := va_free (wc := [(p0, .inr (11, [.null, .null, .null, .null, .null, .null, .null, .null, .null, .null, .null, .null, .null, .int 0]))]) hD hS hA [0] rfl
  refine va_callv (va_runI (As := []) (rest := [.ref p0]) ⟨hx, hb, hml, hown, hts⟩ (ci_X11 l D dA p0 H.size) (cwI 0 hts (tq_TS_good mi_X11 mic_X11) rfl rfl rfl (hw _ ik_1 rfl) (hw _ ik_29 rfl) (hw _ ik_30 rfl) rfl (by decide +kernel) ⟨(Nat.le_of_ble_eq_true rfl), (Nat.le_of_ble_eq_true rfl)⟩) ⟨fun a U g mk q => by obtain ⟨q0, q1, qP, qK, qD, qN⟩ := q; exact ⟨q0, q1, qP, va_K.moved (u := U) (U := U.calling g mk a) (Vm.Alike.refl U.vm) qK, qD, fun w h1 h2 => tq_nst_warm h2 (State.WarmedH.refl U) (qN w h1 h2)⟩, fun U hU hW => ⟨rfl, by rw [hU], by rw [hU]; exact hPc, va_K.moved hW.alike hK, hDc.weaken (fun _ _ _ _ => trivial), fun w h1 h2 => tq_nst_warm h2 hW (sa_n h2 (hts0 w h1))⟩⟩ rfl rfl hl.1 rfl (lv_room (Nat.le_of_ble_eq_true rfl)) dl_4 ⟨(Nat.le_of_ble_eq_true rfl), (Nat.le_of_ble_eq_true rfl)⟩) hS (fun q _ h => hFc q h) hFc (fun u t H1 locs ht hvm h5 hB hz1 hk1 hS => ?_)
  obtain ⟨a_q5, a_q16, a_c24_q13, a_c24_q22, a_c24_q31, a_c24_q40, a_c24_q49, a_q31, a_c39_q12, a_c39_q20, a_c39_q28, a_q46, a_c54_q12, a_c54_q20, a_c54_q28, a_q61, a_c65_q8, a_c65_q15, a_q72, a_c80_q12, a_c80_q20, a_c80_q28, a_q87, a_c91_q7, a_c91_q15, a_c91_q23, a_c91_q31, a_q98, a_c110_q18, a_c110_q26, a_c110_q34, a_c110_q42, a_c110_q51, a_c110_q60, a_c110_q69, a_c110_q78, a_c110_q86, a_q117, a_c121_q8, a_c121_q16, a_c121_q24, a_q128, a_c136_q13, a_c136_q22, a_c136_q31, a_q143, a_c147_q7, a_q154, a_c158_q7, a_q168, hP1, hK1, hD1⟩ := hB
  rw [ht] at hP1
  obtain ⟨hP, hD⟩ := va_join (wr := []) (w1 := [(p0, .inr (11, [.ref a_q5, .ref a_q16, .ref a_q31, .ref a_q46, .ref a_q61, .ref a_q72, .ref a_q87, .ref a_q98, .ref a_q117, .ref a_q128, .ref a_q143, .ref a_q154, .ref a_q168, .int 0])), (a_q5, .inr (1, [.int 1, .int 1, .int 0, .long 0, .int 0])), (a_q16, .inr (5, [.ref a_q5, .ref a_c24_q13, .ref a_c24_q22, .ref a_c24_q31, .ref a_c24_q40, .ref a_c24_q49, .int (-1), .int (-1), .long 0, .long 0])), (a_c24_q13, .inl (dA 3, (2304, tq_ct tq_zz 0 3))), (a_c24_q22, .inl (dA 3, (4608, tq_ct tq_zz 0 3))), (a_c24_q31, .inl (dA 3, (512, tq_ct tq_zz 0 3))), (a_c24_q40, .inl (dA 3, (512, tq_ct tq_zz 0 3))), (a_c24_q49, .inl (dA 3, (128, tq_ct tq_zz 0 3))), (a_q31, .inr (2, [.ref a_q5, .ref a_c39_q12, .ref a_c39_q20, .ref a_c39_q28, .int 0, .long 0, .long 0, .int 0, .long 0, .long 0, .int 0])), (a_c39_q12, .inl (dA 3, (10, tq_ct tq_zz 0 3))), (a_c39_q20, .inl (dA 3, (10, tq_ct tq_zz 0 3))), (a_c39_q28, .inl (dA 1, (10, tq_ct tq_zz 0 1))), (a_q46, .inr (7, [.ref a_q5, .ref a_c54_q12, .ref a_c54_q20, .ref a_c54_q28, .long 0, .long 0])), (a_c54_q12, .inl (dA 0, (81, tq_ct tq_zz 0 0))), (a_c54_q20, .inl (dA 0, (81, tq_ct tq_zz 0 0))), (a_c54_q28, .inl (dA 0, (81, tq_ct tq_zz 0 0))), (a_q61, .inr (3, [.ref a_c65_q8, .ref a_c65_q15])), (a_c65_q8, .inl (dA 3, (1024, tq_ct tq_zz 0 3))), (a_c65_q15, .inl (dA 3, (3, tq_ct tq_zz 0 3))), (a_q72, .inr (9, [.ref a_q5, .ref a_c80_q12, .ref a_c80_q20, .ref a_c80_q28, .int (-1), .long 0, .long 0, .long 0])), (a_c80_q12, .inl (dA 0, (64, tq_ct tq_zz 0 0))), (a_c80_q20, .inl (dA 0, (64, tq_ct tq_zz 0 0))), (a_c80_q28, .inl (dA 0, (64, tq_ct tq_zz 0 0))), (a_q87, .inr (8, [.ref a_c91_q7, .ref a_c91_q15, .ref a_c91_q23, .ref a_c91_q31, .long 0, .int 0, .int 0])), (a_c91_q7, .inl (dA 3, (48, tq_ct tq_zz 0 3))), (a_c91_q15, .inl (dA 0, (6, tq_ct tq_zz 0 0))), (a_c91_q23, .inl (dA 0, (6, tq_ct tq_zz 0 0))), (a_c91_q31, .inl (dA 0, (6, tq_ct tq_zz 0 0))), (a_q98, .inr (4, [.ref a_q5, .ref a_q87, .ref a_c110_q18, .ref a_c110_q26, .ref a_c110_q34, .ref a_c110_q42, .ref a_c110_q51, .ref a_c110_q60, .ref a_c110_q69, .ref a_c110_q78, .ref a_c110_q86, .int 0, .int 0, .int 0, .int 0, .int (-1), .int (-1), .long 0, .long 0])), (a_c110_q18, .inl (dA 3, (1152, tq_ct tq_zz 0 3))), (a_c110_q26, .inl (dA 0, (25, tq_ct tq_zz 0 0))), (a_c110_q34, .inl (dA 0, (24, tq_ct tq_zz 0 0))), (a_c110_q42, .inl (dA 0, (64, tq_ct tq_zz 0 0))), (a_c110_q51, .inl (dA 0, (192, tq_ct tq_zz 0 0))), (a_c110_q60, .inl (dA 3, (2048, tq_ct tq_zz 0 3))), (a_c110_q69, .inl (dA 3, (2048, tq_ct tq_zz 0 3))), (a_c110_q78, .inl (dA 3, (288, tq_ct tq_zz 0 3))), (a_c110_q86, .inl (dA 0, (8, tq_ct tq_zz 0 0))), (a_q117, .inr (6, [.ref a_c121_q8, .ref a_c121_q16, .ref a_c121_q24])), (a_c121_q8, .inl (dA 0, (234, tq_ct tq_zz 0 0))), (a_c121_q16, .inl (dA 3, (64, tq_ct tq_zz 0 3))), (a_c121_q24, .inl (dA 3, (64, tq_ct tq_zz 0 3))), (a_q128, .inr (10, [.ref a_q5, .ref a_c136_q13, .ref a_c136_q22, .ref a_c136_q31, .long 0])), (a_c136_q13, .inl (dA 3, (256, tq_ct tq_zz 0 3))), (a_c136_q22, .inl (dA 3, (1024, tq_ct tq_zz 0 3))), (a_c136_q31, .inl (dA 3, (1024, tq_ct tq_zz 0 3))), (a_q143, .inr (0, [.ref a_c147_q7, .int 0, .int 0])), (a_c147_q7, .inl (dA 0, (34, tq_ct tq_zz 0 0))), (a_q154, .inr (0, [.ref a_c158_q7, .int 0, .int 0])), (a_c158_q7, .inl (dA 0, (34, tq_ct tq_zz 0 0))), (a_q168, .inl (dA 2, (320, tq_ct tq_zz 0 2)))]) hP hD [0] [] rfl rfl (by decide) (by decide) hk1 hFc hP1 hD1
  generalize H1 = H at hP hS ⊢
  refine W.widen (k := 51) (n := 18621) (Nat.le_of_ble_eq_true rfl) (Nat.le_of_ble_eq_true rfl) ?_
  have hP : va_P D tq_cl [(p0, .inr (11, [.ref a_q5, .ref a_q16, .ref a_q31, .ref a_q46, .ref a_q61, .ref a_q72, .ref a_q87, .ref a_q98, .ref a_q117, .ref a_q128, .ref a_q143, .ref a_q154, .ref a_q168, .int 0])), (a_q5, .inr (1, [.int 1, .int 1, .int 0, .long 0, .int 0])), (a_q16, .inr (5, [.ref a_q5, .ref a_c24_q13, .ref a_c24_q22, .ref a_c24_q31, .ref a_c24_q40, .ref a_c24_q49, .int (-1), .int (-1), .long 0, .long 0])), (a_c24_q13, .inl (dA 3, (2304, tq_ct tq_zz 0 3))), (a_c24_q22, .inl (dA 3, (4608, tq_ct tq_zz 0 3))), (a_c24_q31, .inl (dA 3, (512, tq_ct tq_zz 0 3))), (a_c24_q40, .inl (dA 3, (512, tq_ct tq_zz 0 3))), (a_c24_q49, .inl (dA 3, (128, tq_ct tq_zz 0 3))), (a_q31, .inr (2, [.ref a_q5, .ref a_c39_q12, .ref a_c39_q20, .ref a_c39_q28, .int 0, .long 0, .long 0, .int 0, .long 0, .long 0, .int 0])), (a_c39_q12, .inl (dA 3, (10, tq_ct tq_zz 0 3))), (a_c39_q20, .inl (dA 3, (10, tq_ct tq_zz 0 3))), (a_c39_q28, .inl (dA 1, (10, tq_ct tq_zz 0 1))), (a_q46, .inr (7, [.ref a_q5, .ref a_c54_q12, .ref a_c54_q20, .ref a_c54_q28, .long 0, .long 0])), (a_c54_q12, .inl (dA 0, (81, tq_ct tq_zz 0 0))), (a_c54_q20, .inl (dA 0, (81, tq_ct tq_zz 0 0))), (a_c54_q28, .inl (dA 0, (81, tq_ct tq_zz 0 0))), (a_q61, .inr (3, [.ref a_c65_q8, .ref a_c65_q15])), (a_c65_q8, .inl (dA 3, (1024, tq_ct tq_zz 0 3))), (a_c65_q15, .inl (dA 3, (3, tq_ct tq_zz 0 3))), (a_q72, .inr (9, [.ref a_q5, .ref a_c80_q12, .ref a_c80_q20, .ref a_c80_q28, .int (-1), .long 0, .long 0, .long 0])), (a_c80_q12, .inl (dA 0, (64, tq_ct tq_zz 0 0))), (a_c80_q20, .inl (dA 0, (64, tq_ct tq_zz 0 0))), (a_c80_q28, .inl (dA 0, (64, tq_ct tq_zz 0 0))), (a_q87, .inr (8, [.ref a_c91_q7, .ref a_c91_q15, .ref a_c91_q23, .ref a_c91_q31, .long 0, .int 0, .int 0])), (a_c91_q7, .inl (dA 3, (48, tq_ct tq_zz 0 3))), (a_c91_q15, .inl (dA 0, (6, tq_ct tq_zz 0 0))), (a_c91_q23, .inl (dA 0, (6, tq_ct tq_zz 0 0))), (a_c91_q31, .inl (dA 0, (6, tq_ct tq_zz 0 0))), (a_q98, .inr (4, [.ref a_q5, .ref a_q87, .ref a_c110_q18, .ref a_c110_q26, .ref a_c110_q34, .ref a_c110_q42, .ref a_c110_q51, .ref a_c110_q60, .ref a_c110_q69, .ref a_c110_q78, .ref a_c110_q86, .int 0, .int 0, .int 0, .int 0, .int (-1), .int (-1), .long 0, .long 0])), (a_c110_q18, .inl (dA 3, (1152, tq_ct tq_zz 0 3))), (a_c110_q26, .inl (dA 0, (25, tq_ct tq_zz 0 0))), (a_c110_q34, .inl (dA 0, (24, tq_ct tq_zz 0 0))), (a_c110_q42, .inl (dA 0, (64, tq_ct tq_zz 0 0))), (a_c110_q51, .inl (dA 0, (192, tq_ct tq_zz 0 0))), (a_c110_q60, .inl (dA 3, (2048, tq_ct tq_zz 0 3))), (a_c110_q69, .inl (dA 3, (2048, tq_ct tq_zz 0 3))), (a_c110_q78, .inl (dA 3, (288, tq_ct tq_zz 0 3))), (a_c110_q86, .inl (dA 0, (8, tq_ct tq_zz 0 0))), (a_q117, .inr (6, [.ref a_c121_q8, .ref a_c121_q16, .ref a_c121_q24])), (a_c121_q8, .inl (dA 0, (234, tq_ct tq_zz 0 0))), (a_c121_q16, .inl (dA 3, (64, tq_ct tq_zz 0 3))), (a_c121_q24, .inl (dA 3, (64, tq_ct tq_zz 0 3))), (a_q128, .inr (10, [.ref a_q5, .ref a_c136_q13, .ref a_c136_q22, .ref a_c136_q31, .long 0])), (a_c136_q13, .inl (dA 3, (256, tq_ct tq_zz 0 3))), (a_c136_q22, .inl (dA 3, (1024, tq_ct tq_zz 0 3))), (a_c136_q31, .inl (dA 3, (1024, tq_ct tq_zz 0 3))), (a_q143, .inr (0, [.ref a_c147_q7, .int 0, .int 0])), (a_c147_q7, .inl (dA 0, (34, tq_ct tq_zz 0 0))), (a_q154, .inr (0, [.ref a_c158_q7, .int 0, .int 0])), (a_c158_q7, .inl (dA 0, (34, tq_ct tq_zz 0 0))), (a_q168, .inl (dA 2, (320, tq_ct tq_zz 0 2)))] H := hP
  have hD : va_D A [(p0, .inr (11, [.ref a_q5, .ref a_q16, .ref a_q31, .ref a_q46, .ref a_q61, .ref a_q72, .ref a_q87, .ref a_q98, .ref a_q117, .ref a_q128, .ref a_q143, .ref a_q154, .ref a_q168, .int 0])), (a_q5, .inr (1, [.int 1, .int 1, .int 0, .long 0, .int 0])), (a_q16, .inr (5, [.ref a_q5, .ref a_c24_q13, .ref a_c24_q22, .ref a_c24_q31, .ref a_c24_q40, .ref a_c24_q49, .int (-1), .int (-1), .long 0, .long 0])), (a_c24_q13, .inl (dA 3, (2304, tq_ct tq_zz 0 3))), (a_c24_q22, .inl (dA 3, (4608, tq_ct tq_zz 0 3))), (a_c24_q31, .inl (dA 3, (512, tq_ct tq_zz 0 3))), (a_c24_q40, .inl (dA 3, (512, tq_ct tq_zz 0 3))), (a_c24_q49, .inl (dA 3, (128, tq_ct tq_zz 0 3))), (a_q31, .inr (2, [.ref a_q5, .ref a_c39_q12, .ref a_c39_q20, .ref a_c39_q28, .int 0, .long 0, .long 0, .int 0, .long 0, .long 0, .int 0])), (a_c39_q12, .inl (dA 3, (10, tq_ct tq_zz 0 3))), (a_c39_q20, .inl (dA 3, (10, tq_ct tq_zz 0 3))), (a_c39_q28, .inl (dA 1, (10, tq_ct tq_zz 0 1))), (a_q46, .inr (7, [.ref a_q5, .ref a_c54_q12, .ref a_c54_q20, .ref a_c54_q28, .long 0, .long 0])), (a_c54_q12, .inl (dA 0, (81, tq_ct tq_zz 0 0))), (a_c54_q20, .inl (dA 0, (81, tq_ct tq_zz 0 0))), (a_c54_q28, .inl (dA 0, (81, tq_ct tq_zz 0 0))), (a_q61, .inr (3, [.ref a_c65_q8, .ref a_c65_q15])), (a_c65_q8, .inl (dA 3, (1024, tq_ct tq_zz 0 3))), (a_c65_q15, .inl (dA 3, (3, tq_ct tq_zz 0 3))), (a_q72, .inr (9, [.ref a_q5, .ref a_c80_q12, .ref a_c80_q20, .ref a_c80_q28, .int (-1), .long 0, .long 0, .long 0])), (a_c80_q12, .inl (dA 0, (64, tq_ct tq_zz 0 0))), (a_c80_q20, .inl (dA 0, (64, tq_ct tq_zz 0 0))), (a_c80_q28, .inl (dA 0, (64, tq_ct tq_zz 0 0))), (a_q87, .inr (8, [.ref a_c91_q7, .ref a_c91_q15, .ref a_c91_q23, .ref a_c91_q31, .long 0, .int 0, .int 0])), (a_c91_q7, .inl (dA 3, (48, tq_ct tq_zz 0 3))), (a_c91_q15, .inl (dA 0, (6, tq_ct tq_zz 0 0))), (a_c91_q23, .inl (dA 0, (6, tq_ct tq_zz 0 0))), (a_c91_q31, .inl (dA 0, (6, tq_ct tq_zz 0 0))), (a_q98, .inr (4, [.ref a_q5, .ref a_q87, .ref a_c110_q18, .ref a_c110_q26, .ref a_c110_q34, .ref a_c110_q42, .ref a_c110_q51, .ref a_c110_q60, .ref a_c110_q69, .ref a_c110_q78, .ref a_c110_q86, .int 0, .int 0, .int 0, .int 0, .int (-1), .int (-1), .long 0, .long 0])), (a_c110_q18, .inl (dA 3, (1152, tq_ct tq_zz 0 3))), (a_c110_q26, .inl (dA 0, (25, tq_ct tq_zz 0 0))), (a_c110_q34, .inl (dA 0, (24, tq_ct tq_zz 0 0))), (a_c110_q42, .inl (dA 0, (64, tq_ct tq_zz 0 0))), (a_c110_q51, .inl (dA 0, (192, tq_ct tq_zz 0 0))), (a_c110_q60, .inl (dA 3, (2048, tq_ct tq_zz 0 3))), (a_c110_q69, .inl (dA 3, (2048, tq_ct tq_zz 0 3))), (a_c110_q78, .inl (dA 3, (288, tq_ct tq_zz 0 3))), (a_c110_q86, .inl (dA 0, (8, tq_ct tq_zz 0 0))), (a_q117, .inr (6, [.ref a_c121_q8, .ref a_c121_q16, .ref a_c121_q24])), (a_c121_q8, .inl (dA 0, (234, tq_ct tq_zz 0 0))), (a_c121_q16, .inl (dA 3, (64, tq_ct tq_zz 0 3))), (a_c121_q24, .inl (dA 3, (64, tq_ct tq_zz 0 3))), (a_q128, .inr (10, [.ref a_q5, .ref a_c136_q13, .ref a_c136_q22, .ref a_c136_q31, .long 0])), (a_c136_q13, .inl (dA 3, (256, tq_ct tq_zz 0 3))), (a_c136_q22, .inl (dA 3, (1024, tq_ct tq_zz 0 3))), (a_c136_q31, .inl (dA 3, (1024, tq_ct tq_zz 0 3))), (a_q143, .inr (0, [.ref a_c147_q7, .int 0, .int 0])), (a_c147_q7, .inl (dA 0, (34, tq_ct tq_zz 0 0))), (a_q154, .inr (0, [.ref a_c158_q7, .int 0, .int 0])), (a_c158_q7, .inl (dA 0, (34, tq_ct tq_zz 0 0))), (a_q168, .inl (dA 2, (320, tq_ct tq_zz 0 2)))] := hD
  refine lv_astore_n (lv' := [(1, .ref p0), (0, .ref b)]) hx hb dl_7 rfl hl (by decide) rfl (fun ls hl => ?_)
  refine lv_iconst (v := 1) hx hb dl_8 (by decide) ?_
  refine ni_arr (t := 0) (N := 1) (atype := .int) hx hb (by decide) rfl (hw _ ik_194 rfl) hK hP hD hS hA (by decide) (by decide) (Nat.le_of_ble_eq_true rfl) (Nat.le_of_ble_eq_true rfl) (Nat.le_of_ble_eq_true rfl) dl_9 (fun p9 H hP hD hS => ?_)
  refine W.widen (k := 52) (n := 18622) (Nat.le_of_ble_eq_true rfl) (Nat.le_of_ble_eq_true rfl) ?_
  have hP : va_P D tq_cl [(p0, .inr (11, [.ref a_q5, .ref a_q16, .ref a_q31, .ref a_q46, .ref a_q61, .ref a_q72, .ref a_q87, .ref a_q98, .ref a_q117, .ref a_q128, .ref a_q143, .ref a_q154, .ref a_q168, .int 0])), (a_q5, .inr (1, [.int 1, .int 1, .int 0, .long 0, .int 0])), (a_q16, .inr (5, [.ref a_q5, .ref a_c24_q13, .ref a_c24_q22, .ref a_c24_q31, .ref a_c24_q40, .ref a_c24_q49, .int (-1), .int (-1), .long 0, .long 0])), (a_c24_q13, .inl (dA 3, (2304, tq_ct tq_zz 0 3))), (a_c24_q22, .inl (dA 3, (4608, tq_ct tq_zz 0 3))), (a_c24_q31, .inl (dA 3, (512, tq_ct tq_zz 0 3))), (a_c24_q40, .inl (dA 3, (512, tq_ct tq_zz 0 3))), (a_c24_q49, .inl (dA 3, (128, tq_ct tq_zz 0 3))), (a_q31, .inr (2, [.ref a_q5, .ref a_c39_q12, .ref a_c39_q20, .ref a_c39_q28, .int 0, .long 0, .long 0, .int 0, .long 0, .long 0, .int 0])), (a_c39_q12, .inl (dA 3, (10, tq_ct tq_zz 0 3))), (a_c39_q20, .inl (dA 3, (10, tq_ct tq_zz 0 3))), (a_c39_q28, .inl (dA 1, (10, tq_ct tq_zz 0 1))), (a_q46, .inr (7, [.ref a_q5, .ref a_c54_q12, .ref a_c54_q20, .ref a_c54_q28, .long 0, .long 0])), (a_c54_q12, .inl (dA 0, (81, tq_ct tq_zz 0 0))), (a_c54_q20, .inl (dA 0, (81, tq_ct tq_zz 0 0))), (a_c54_q28, .inl (dA 0, (81, tq_ct tq_zz 0 0))), (a_q61, .inr (3, [.ref a_c65_q8, .ref a_c65_q15])), (a_c65_q8, .inl (dA 3, (1024, tq_ct tq_zz 0 3))), (a_c65_q15, .inl (dA 3, (3, tq_ct tq_zz 0 3))), (a_q72, .inr (9, [.ref a_q5, .ref a_c80_q12, .ref a_c80_q20, .ref a_c80_q28, .int (-1), .long 0, .long 0, .long 0])), (a_c80_q12, .inl (dA 0, (64, tq_ct tq_zz 0 0))), (a_c80_q20, .inl (dA 0, (64, tq_ct tq_zz 0 0))), (a_c80_q28, .inl (dA 0, (64, tq_ct tq_zz 0 0))), (a_q87, .inr (8, [.ref a_c91_q7, .ref a_c91_q15, .ref a_c91_q23, .ref a_c91_q31, .long 0, .int 0, .int 0])), (a_c91_q7, .inl (dA 3, (48, tq_ct tq_zz 0 3))), (a_c91_q15, .inl (dA 0, (6, tq_ct tq_zz 0 0))), (a_c91_q23, .inl (dA 0, (6, tq_ct tq_zz 0 0))), (a_c91_q31, .inl (dA 0, (6, tq_ct tq_zz 0 0))), (a_q98, .inr (4, [.ref a_q5, .ref a_q87, .ref a_c110_q18, .ref a_c110_q26, .ref a_c110_q34, .ref a_c110_q42, .ref a_c110_q51, .ref a_c110_q60, .ref a_c110_q69, .ref a_c110_q78, .ref a_c110_q86, .int 0, .int 0, .int 0, .int 0, .int (-1), .int (-1), .long 0, .long 0])), (a_c110_q18, .inl (dA 3, (1152, tq_ct tq_zz 0 3))), (a_c110_q26, .inl (dA 0, (25, tq_ct tq_zz 0 0))), (a_c110_q34, .inl (dA 0, (24, tq_ct tq_zz 0 0))), (a_c110_q42, .inl (dA 0, (64, tq_ct tq_zz 0 0))), (a_c110_q51, .inl (dA 0, (192, tq_ct tq_zz 0 0))), (a_c110_q60, .inl (dA 3, (2048, tq_ct tq_zz 0 3))), (a_c110_q69, .inl (dA 3, (2048, tq_ct tq_zz 0 3))), (a_c110_q78, .inl (dA 3, (288, tq_ct tq_zz 0 3))), (a_c110_q86, .inl (dA 0, (8, tq_ct tq_zz 0 0))), (a_q117, .inr (6, [.ref a_c121_q8, .ref a_c121_q16, .ref a_c121_q24])), (a_c121_q8, .inl (dA 0, (234, tq_ct tq_zz 0 0))), (a_c121_q16, .inl (dA 3, (64, tq_ct tq_zz 0 3))), (a_c121_q24, .inl (dA 3, (64, tq_ct tq_zz 0 3))), (a_q128, .inr (10, [.ref a_q5, .ref a_c136_q13, .ref a_c136_q22, .ref a_c136_q31, .long 0])), (a_c136_q13, .inl (dA 3, (256, tq_ct tq_zz 0 3))), (a_c136_q22, .inl (dA 3, (1024, tq_ct tq_zz 0 3))), (a_c136_q31, .inl (dA 3, (1024, tq_ct tq_zz 0 3))), (a_q143, .inr (0, [.ref a_c147_q7, .int 0, .int 0])), (a_c147_q7, .inl (dA 0, (34, tq_ct tq_zz 0 0))), (a_q154, .inr (0, [.ref a_c158_q7, .int 0, .int 0])), (a_c158_q7, .inl (dA 0, (34, tq_ct tq_zz 0 0))), (a_q168, .inl (dA 2, (320, tq_ct tq_zz 0 2))), (p9, .inl (dA 0, (1, tq_ct tq_zz 0 0)))] H := hP
  have hD : va_D A [(p0, .inr (11, [.ref a_q5, .ref a_q16, .ref a_q31, .ref a_q46, .ref a_q61, .ref a_q72, .ref a_q87, .ref a_q98, .ref a_q117, .ref a_q128, .ref a_q143, .ref a_q154, .ref a_q168, .int 0])), (a_q5, .inr (1, [.int 1, .int 1, .int 0, .long 0, .int 0])), (a_q16, .inr (5, [.ref a_q5, .ref a_c24_q13, .ref a_c24_q22, .ref a_c24_q31, .ref a_c24_q40, .ref a_c24_q49, .int (-1), .int (-1), .long 0, .long 0])), (a_c24_q13, .inl (dA 3, (2304, tq_ct tq_zz 0 3))), (a_c24_q22, .inl (dA 3, (4608, tq_ct tq_zz 0 3))), (a_c24_q31, .inl (dA 3, (512, tq_ct tq_zz 0 3))), (a_c24_q40, .inl (dA 3, (512, tq_ct tq_zz 0 3))), (a_c24_q49, .inl (dA 3, (128, tq_ct tq_zz 0 3))), (a_q31, .inr (2, [.ref a_q5, .ref a_c39_q12, .ref a_c39_q20, .ref a_c39_q28, .int 0, .long 0, .long 0, .int 0, .long 0, .long 0, .int 0])), (a_c39_q12, .inl (dA 3, (10, tq_ct tq_zz 0 3))), (a_c39_q20, .inl (dA 3, (10, tq_ct tq_zz 0 3))), (a_c39_q28, .inl (dA 1, (10, tq_ct tq_zz 0 1))), (a_q46, .inr (7, [.ref a_q5, .ref a_c54_q12, .ref a_c54_q20, .ref a_c54_q28, .long 0, .long 0])), (a_c54_q12, .inl (dA 0, (81, tq_ct tq_zz 0 0))), (a_c54_q20, .inl (dA 0, (81, tq_ct tq_zz 0 0))), (a_c54_q28, .inl (dA 0, (81, tq_ct tq_zz 0 0))), (a_q61, .inr (3, [.ref a_c65_q8, .ref a_c65_q15])), (a_c65_q8, .inl (dA 3, (1024, tq_ct tq_zz 0 3))), (a_c65_q15, .inl (dA 3, (3, tq_ct tq_zz 0 3))), (a_q72, .inr (9, [.ref a_q5, .ref a_c80_q12, .ref a_c80_q20, .ref a_c80_q28, .int (-1), .long 0, .long 0, .long 0])), (a_c80_q12, .inl (dA 0, (64, tq_ct tq_zz 0 0))), (a_c80_q20, .inl (dA 0, (64, tq_ct tq_zz 0 0))), (a_c80_q28, .inl (dA 0, (64, tq_ct tq_zz 0 0))), (a_q87, .inr (8, [.ref a_c91_q7, .ref a_c91_q15, .ref a_c91_q23, .ref a_c91_q31, .long 0, .int 0, .int 0])), (a_c91_q7, .inl (dA 3, (48, tq_ct tq_zz 0 3))), (a_c91_q15, .inl (dA 0, (6, tq_ct tq_zz 0 0))), (a_c91_q23, .inl (dA 0, (6, tq_ct tq_zz 0 0))), (a_c91_q31, .inl (dA 0, (6, tq_ct tq_zz 0 0))), (a_q98, .inr (4, [.ref a_q5, .ref a_q87, .ref a_c110_q18, .ref a_c110_q26, .ref a_c110_q34, .ref a_c110_q42, .ref a_c110_q51, .ref a_c110_q60, .ref a_c110_q69, .ref a_c110_q78, .ref a_c110_q86, .int 0, .int 0, .int 0, .int 0, .int (-1), .int (-1), .long 0, .long 0])), (a_c110_q18, .inl (dA 3, (1152, tq_ct tq_zz 0 3))), (a_c110_q26, .inl (dA 0, (25, tq_ct tq_zz 0 0))), (a_c110_q34, .inl (dA 0, (24, tq_ct tq_zz 0 0))), (a_c110_q42, .inl (dA 0, (64, tq_ct tq_zz 0 0))), (a_c110_q51, .inl (dA 0, (192, tq_ct tq_zz 0 0))), (a_c110_q60, .inl (dA 3, (2048, tq_ct tq_zz 0 3))), (a_c110_q69, .inl (dA 3, (2048, tq_ct tq_zz 0 3))), (a_c110_q78, .inl (dA 3, (288, tq_ct tq_zz 0 3))), (a_c110_q86, .inl (dA 0, (8, tq_ct tq_zz 0 0))), (a_q117, .inr (6, [.ref a_c121_q8, .ref a_c121_q16, .ref a_c121_q24])), (a_c121_q8, .inl (dA 0, (234, tq_ct tq_zz 0 0))), (a_c121_q16, .inl (dA 3, (64, tq_ct tq_zz 0 3))), (a_c121_q24, .inl (dA 3, (64, tq_ct tq_zz 0 3))), (a_q128, .inr (10, [.ref a_q5, .ref a_c136_q13, .ref a_c136_q22, .ref a_c136_q31, .long 0])), (a_c136_q13, .inl (dA 3, (256, tq_ct tq_zz 0 3))), (a_c136_q22, .inl (dA 3, (1024, tq_ct tq_zz 0 3))), (a_c136_q31, .inl (dA 3, (1024, tq_ct tq_zz 0 3))), (a_q143, .inr (0, [.ref a_c147_q7, .int 0, .int 0])), (a_c147_q7, .inl (dA 0, (34, tq_ct tq_zz 0 0))), (a_q154, .inr (0, [.ref a_c158_q7, .int 0, .int 0])), (a_c158_q7, .inl (dA 0, (34, tq_ct tq_zz 0 0))), (a_q168, .inl (dA 2, (320, tq_ct tq_zz 0 2))), (p9, .inl (dA 0, (1, tq_ct tq_zz 0 0)))] := hD
  obtain ⟨ρ, hρ⟩ : ∃ ρ : Nat → Nat, ρ = fun i => if i = 900 then t1 else if i = 901 then t2 else if i = 902 then b else ([p0, a_q5, a_q16, a_c24_q13, a_c24_q22, a_c24_q31, a_c24_q40, a_c24_q49, a_q31, a_c39_q12, a_c39_q20, a_c39_q28, a_q46, a_c54_q12, a_c54_q20, a_c54_q28, a_q61, a_c65_q8, a_c65_q15, a_q72, a_c80_q12, a_c80_q20, a_c80_q28, a_q87, a_c91_q7, a_c91_q15, a_c91_q23, a_c91_q31, a_q98, a_c110_q18, a_c110_q26, a_c110_q34, a_c110_q42, a_c110_q51, a_c110_q60, a_c110_q69, a_c110_q78, a_c110_q86, a_q117, a_c121_q8, a_c121_q16, a_c121_q24, a_q128, a_c136_q13, a_c136_q22, a_c136_q31, a_q143, a_c147_q7, a_q154, a_c158_q7, a_q168, p9] : List Nat).getD i 0 := ⟨_, rfl⟩
  have v0 : ρ 0 = p0 := by rw [hρ]; rfl
  have v1 : ρ 1 = a_q5 := by rw [hρ]; rfl
  have v2 : ρ 2 = a_q16 := by rw [hρ]; rfl
  have v3 : ρ 3 = a_c24_q13 := by rw [hρ]; rfl
  have v4 : ρ 4 = a_c24_q22 := by rw [hρ]; rfl
  have v5 : ρ 5 = a_c24_q31 := by rw [hρ]; rfl
  have v6 : ρ 6 = a_c24_q40 := by rw [hρ]; rfl
  have v7 : ρ 7 = a_c24_q49 := by rw [hρ]; rfl
  have v8 : ρ 8 = a_q31 := by rw [hρ]; rfl
  have v9 : ρ 9 = a_c39_q12 := by rw [hρ]; rfl
  have v10 : ρ 10 = a_c39_q20 := by rw [hρ]; rfl
  have v11 : ρ 11 = a_c39_q28 := by rw [hρ]; rfl
  have v12 : ρ 12 = a_q46 := by rw [hρ]; rfl
  have v13 : ρ 13 = a_c54_q12 := by rw [hρ]; rfl
  have v14 : ρ 14 = a_c54_q20 := by rw [hρ]; rfl
  have v15 : ρ 15 = a_c54_q28 := by rw [hρ]; rfl
  have v16 : ρ 16 = a_q61 := by rw [hρ]; rfl
  have v17 : ρ 17 = a_c65_q8 := by rw [hρ]; rfl
  have v18 : ρ 18 = a_c65_q15 := by rw [hρ]; rfl
  have v19 : ρ 19 = a_q72 := by rw [hρ]; rfl
  have v20 : ρ 20 = a_c80_q12 := by rw [hρ]; rfl
  have v21 : ρ 21 = a_c80_q20 := by rw [hρ]; rfl
  have v22 : ρ 22 = a_c80_q28 := by rw [hρ]; rfl
  have v23 : ρ 23 = a_q87 := by rw [hρ]; rfl
  have v24 : ρ 24 = a_c91_q7 := by rw [hρ]; rfl
  have v25 : ρ 25 = a_c91_q15 := by rw [hρ]; rfl
  have v26 : ρ 26 = a_c91_q23 := by rw [hρ]; rfl
  have v27 : ρ 27 = a_c91_q31 := by rw [hρ]; rfl
  have v28 : ρ 28 = a_q98 := by rw [hρ]; rfl
  have v29 : ρ 29 = a_c110_q18 := by rw [hρ]; rfl
  have v30 : ρ 30 = a_c110_q26 := by rw [hρ]; rfl
  have v31 : ρ 31 = a_c110_q34 := by rw [hρ]; rfl
  have v32 : ρ 32 = a_c110_q42 := by rw [hρ]; rfl
  have v33 : ρ 33 = a_c110_q51 := by rw [hρ]; rfl
  have v34 : ρ 34 = a_c110_q60 := by rw [hρ]; rfl
  have v35 : ρ 35 = a_c110_q69 := by rw [hρ]; rfl
  have v36 : ρ 36 = a_c110_q78 := by rw [hρ]; rfl
  have v37 : ρ 37 = a_c110_q86 := by rw [hρ]; rfl
  have v38 : ρ 38 = a_q117 := by rw [hρ]; rfl
  have v39 : ρ 39 = a_c121_q8 := by rw [hρ]; rfl
  have v40 : ρ 40 = a_c121_q16 := by rw [hρ]; rfl
  have v41 : ρ 41 = a_c121_q24 := by rw [hρ]; rfl
  have v42 : ρ 42 = a_q128 := by rw [hρ]; rfl
  have v43 : ρ 43 = a_c136_q13 := by rw [hρ]; rfl
  have v44 : ρ 44 = a_c136_q22 := by rw [hρ]; rfl
  have v45 : ρ 45 = a_c136_q31 := by rw [hρ]; rfl
  have v46 : ρ 46 = a_q143 := by rw [hρ]; rfl
  have v47 : ρ 47 = a_c147_q7 := by rw [hρ]; rfl
  have v48 : ρ 48 = a_q154 := by rw [hρ]; rfl
  have v49 : ρ 49 = a_c158_q7 := by rw [hρ]; rfl
  have v50 : ρ 50 = a_q168 := by rw [hρ]; rfl
  have v51 : ρ 51 = p9 := by rw [hρ]; rfl
  have e9 := w9_eq ρ dA
  rw [v0, v1, v2, v3, v4, v5, v6, v7, v8, v9, v10, v11, v12, v13, v14, v15, v16, v17, v18, v19, v20, v21, v22, v23, v24, v25, v26, v27, v28, v29, v30, v31, v32, v33, v34, v35, v36, v37, v38, v39, v40, v41, v42, v43, v44, v45, v46, v47, v48, v49, v50, v51] at e9
  rw [← e9] at hP hD
  have r0 : ρ 900 = t1 := by rw [hρ]; rfl
  have r1 : ρ 901 = t2 := by rw [hρ]; rfl
  have r2 : ρ 902 = b := by rw [hρ]; rfl
  have s0 : ρ 0 = p0 := by rw [hρ]; rfl
  have s51 : ρ 51 = p9 := by rw [hρ]; rfl
  have F : tq_F (L, xs) mm_law p l room_1 s m #[Value.ref b] meth c ρ D dA A 93 600390 7288599 := ⟨hx, hb, hr, hml, hown, hw, hlocks, hex, hK, hXX ρ r0 r1 r2, hA, Nat.le_refl _, Nat.le_refl _, (Nat.le_of_ble_eq_true rfl), (Nat.le_of_ble_eq_true rfl), htr⟩
  have V : tq_V mm_law s ρ D dA A 600390 7288599 H locs 52 18622 ls 450000 [.ref 902, .ref 0, .null, .null, .null, .null, .null, .null] tq_z0 := by
    refine ⟨hP, hD, hS, ⟨hl.1, hl.2.1, rfl, fun i v hi hv => ?_⟩, (Nat.le_of_ble_eq_true rfl), (Nat.le_of_ble_eq_true rfl)⟩
    have g : ∀ k u, (k, u) ∈ [(1, .ref p0), (0, .ref b)] → ls[k]? = some (.val u) := fun k u hm => hl.2.2 (k, u) hm
    match i, hi with
    | 0, hi => cases hi; show _ = some (Slot.val (.ref (ρ 902))); rw [r2]; exact g 0 _ (by simp)
    | 1, hi => cases hi; show _ = some (Slot.val (.ref (ρ 0))); rw [s0]; exact g 1 _ (by simp)
    | 2, hi => cases hi; cases hv
    | 3, hi => cases hi; cases hv
    | 4, hi => cases hi; cases hv
    | 5, hi => cases hi; cases hv
    | 6, hi => cases hi; cases hv
    | 7, hi => cases hi; cases hv
    | k + 8, hi => cases hi
  have TT9 := am_law (law_ok (K := (L, xs)) hL J_0) p l e room_1 s m #[Value.ref b] below meth c ρ D dA A 600390 7288599 F H locs 52 18622 ls V
  have st9 : ([.ref 51] : List Value).map (tq_tr ρ) = [.ref p9] := by show [Value.ref (ρ 51)] = _; rw [s51]
  rw [st9] at TT9
  intro T hT X
  obtain ⟨t, a1, b1⟩ := TT9 T hT X
  exact ⟨t, a1, lw_fin hA2 b1⟩
set_option maxHeartbeats 4000000 in
theorem lw_walk (l : Launch) (hflags : l.flags = flags0) (b : Addr) (xs : List Int32) : MetFree l x (headSpec (Jvm.Cond.code x code maxLocals ret :: tables_1) room_1) (lw_P b xs) (fun _ _ _ _ _ => True) lw_Q := by
  refine MetFree.of_bodyS (code := code) (maxLocals := maxLocals) (ret := ret) (by decide) ?_ ?_
  · intro args s m h hn
    obtain ⟨meth, c, h1, h2, h3, h4, h5, h6, -, -⟩ := Cond.code_spec hn (atoms_spec (ws := Jvm.Cond.code x code maxLocals ret :: tables_1) h _ List.mem_cons_self)
    exact ⟨meth, c, h1, h2, h3, h4, h5, h6⟩
  · intro p e s m args below meth c s₁ B hml0 hP _
    obtain ⟨rfl, hx, hbd, hgv⟩ := hP
    obtain ⟨scr, harrAt, hlist, hof, hsmall⟩ := hx
    obtain ⟨hcb, hkn, -, -⟩ := State.arrayAt?_spec harrAt
    have hown : s.vm.findClass R_law = some m.cls := findClass_of_methodNamed B.named
    have hts0 : ∀ c ∈ (Jvm.Cond.code x code maxLocals ret :: tables_1), c.before #[Value.ref b] s = true := atoms_spec (ws := Jvm.Cond.code x code maxLocals ret :: tables_1) B.pre
    have hts : ∀ w ∈ lw_tbl, w.before #[Value.ref b] s = true := k2_hts_sels lw_privs (fun w hw => hts0 w (List.mem_cons_of_mem _ hw)) lw_privs_ok
    have hml : c.maxLocals = 8 := B.maxLocals_eq (hts0 _ List.mem_cons_self)
    have hex : c.exceptionTable.toList = [] := by
      obtain ⟨meth9, c9, h1, h2, -, -, -, -, h7, -⟩ := Cond.code_spec B.named (hts0 _ List.mem_cons_self)
      cases Option.some.inj (h1.symm.trans B.method)
      cases Option.some.inj (h2.symm.trans (Stand.of_body B).code)
      rw [Array.isEmpty_iff.mp h7]
    have X₀ : Stand p l e room_1 s m #[Value.ref b] below meth c s₁ [] 0 0 := Stand.of_body B
    have hh0 : s₁.heap = s.heap := by rw [B.state]; rfl
    have hsz : scr.slots.size = xs.length := by rw [← Array.length_toList, hlist, List.length_map]
    have hval : ∀ j : Nat, j < xs.length → scr.slots[j]? = some (.int (xs.getD j 0)) := fun j hj => by
      rw [← Array.getElem?_toList, hlist]
      simp [hj]
    have hbl : b < s.heap.size := (Array.getElem?_eq_some_iff.mp hcb).1
    have hX : va_X b xs.length (fun j => xs.getD j 0) s s.heap := ⟨scr, hcb, hof, hkn, hsz, hval⟩
    have K : W p l e room_1 s m #[Value.ref b] below meth c s₁.heap [] 0 0 (lw_Z below #[Value.ref b] s) (entryFrame m ([Value.ref b] : List Value).toArray 8) := by
      rw [hh0]
      exact whole_start l hflags hbd ⟨B.exec, B.bytes, B.returns, hml, hown, hts, hX, hbl, B.notSynchronized, hgv, hex⟩
    obtain ⟨t, a1, o, b1, b2, b3⟩ := K s₁ rfl X₀
    exact ⟨t, o, a1, b1, b2, b3⟩
theorem lw_pre_spec {args : Array Value} {s : State} (h : (Jvm.Cond.and given_1 narrow_1).before args s = true) (hr : rest_1_c.before args s = true) : ∃ (b : Addr) (xs : List Int32), lw_P b xs args s := by
  have hs := flat_of_before _ h
  have hq := flat_of_before _ hr
  have hc : (Cond.count 1).before args s = true := hs _ (by decide +kernel)
  have harr : (Cond.arrayOf (.arg 0) .int).before args s = true := hs _ (by decide +kernel)
  have hle : (Cond.le (.length (.arg 0)) (.int 260)).before args s = true := hs _ (by decide +kernel)
  have hlen : (Cond.isInt (.length (.arg 0))).before args s = true := hq _ (by decide +kernel)
  have hall : (Cond.all (.arg 0) (.isInt (.elem (.arg 0) (.index 0)))).before args s = true := hq _ (by decide +kernel)
  obtain ⟨b, xs, hb, hx⟩ := State.ints_of_pre rfl harr hlen hall
  have hsm : xs.length < 2 ^ 31 := hx.choose_spec.2.2.2
  have hev : (Term.length (.arg 0)).eval args s none [] s = some (.int xs.length.toInt32) := hx.length_eval hb
  have hv := Cond.le_ints hev (show (Term.int 260).eval args s none [] s = some (.int 260) from rfl)
  have hd : xs.length.toInt32 ≤ 260 := by
    simpa [Cond.before, Cond.holds, hv] using hle
  have hN : xs.length ≤ 260 := (Int32.ofNat_le_ofNat hsm (by decide)).mp (show Int32.ofNat xs.length ≤ Int32.ofNat 260 from hd)
  exact ⟨b, xs, Cond.one_arg hc (show args[0]? = some (.ref b) from hb), hx, hN, h⟩
theorem lw_comes (l : Launch) (hflags : l.flags = flags0) : Comes l x (Jvm.Cond.code x code maxLocals ret :: tables_1) room_1 (fun tb e args s => Calls_1 tb e args s ∧ rest_1 tb e args s ∧ Pre_1 tb e args s)
    (fun _ _ args s o t => lw_Q args s o t) := by
  intro p e ha hc hk s m args below hf hfit hheap happ hpre
  obtain ⟨b, xs, hP⟩ := lw_pre_spec hpre.2.2 hpre.2.1
  obtain ⟨k, o, h1, h2, h3, hQ⟩ := lw_walk l hflags b xs p e ha hc hk s m args below hf ((Spec.applies_iff_loose hf).mp happ).1 hP trivial
  exact ⟨k, o, h1, h2, h3, hQ⟩
theorem lw_frame {s t : State} {o : Outcome} {args : Array Value} (h : Framed s o t [] 600390 7288599) :
    Framed s o t (fieldLocs frame_1_writes args s ++ arrayLocs frame_1_arrays args s ++ staticLocs frame_1_statics s) 600390 7288599 := h
theorem lw_limb (L : Cond) (hL : ∀ (args : Array Value) (s t : State), L.after args s (.returned (some (.int 1))) t = true) :
    ArmFor flags0 classFile x code maxLocals ret World_1 tables_1 room_1 Calls_1 rest_1 Pre_1
      (fun tb e a s o t => postC L tb e a s o t ∧ Framed s o t (fieldLocs frame_1_writes a s ++ arrayLocs frame_1_arrays a s ++ staticLocs frame_1_statics s) 600390 7288599) := by
  intro l hflags _ _ p e ha hc hk s m args below hf hfit hheap happ hpre
  obtain ⟨k, o, h1, h2, h3, rfl, hF⟩ := lw_comes l hflags p e ha hc hk s m args below hf hfit hheap happ hpre
  exact ⟨k, _, h1, h2, h3, hL args s _, lw_frame hF⟩
theorem i_vc : Claimed_1_1 ∧ Claimed_1_2 := ⟨lw_limb limb_1_1 (fun args s t => by simp [limb_1_1, Cond.after, Cond.holds, Cond.value]), lw_limb limb_1_2 (fun args s t => Cond.after_iff.mpr (by
  first | (rw [show limb_1_2 = Cond.eq .result (.int 1) from rfl, Cond.eq_ints (x := 1) (y := 1) rfl rfl]; simp; done) | (simp [limb_1_2, Cond.value, Term.eval]; done)))⟩

