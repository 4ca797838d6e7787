/-! ===== a throw whose class calls its super constructor by another index than the usual ===== -/
section TQN
variable {p : Program} {l : Launch} {e : Env} {R : Room} {s : State} {m₀ : MethodId} {args : Array Value} {below : List Frame} {meth : Method} {c : Code} {W : State} {locs : List Loc} {cells slots : Nat}
def tq_n_ch (X : String) (ix : Nat) (rx : ByteArray) : List String → List Cond
  | [] => Bundle.passSAtoms X Bundle.tN ix rx
  | Y :: r => Bundle.passSAtoms X Y ix rx ++ Bundle.chainSAtoms Y r
def tq_n_own (own : String) (ic : Nat) (X : String) (ix : Nat) (rx : ByteArray) (names : List String) : List Cond :=
  Bundle.throwableAtoms ++ (Bundle.throwableSAtoms ++ (tq_n_ch X ix rx names ++ (Cond.methodLink own ic (Bundle.initS X) :: ((Bundle.ownAtoms own ic X names).filter (fun w => match w with
    | .instantiable .. => true
    | .castable .. => true
    | .selects .. => true
    | .lays .. => true
    | .isRef .. => true
    | .fieldLink .. => true
    | _ => false)))))
theorem tq_n_chain {args : Array Value} {s : State} {pl : Platform} (hpl : pl.magicAccessors = ({} : Platform).magicAccessors) {top : MethodId} (htop : s.methodNamed? (Bundle.initS Bundle.tN) = some top)
    {ix : Nat} {rx : ByteArray} (x0 : decode rx 0 = .ok (.aload_n 0, 1)) (x1 : decode rx 1 = .ok (.aload_n 1, 1)) (x2 : decode rx 2 = .ok (.invokespecial ix, 3)) (x5 : decode rx 5 = .ok (.return_, 1))
    {Y : String} {names : List String} {X : String} (hX : Bundle.fit X = true) (hn : ∀ n ∈ Y :: names, Bundle.fit n = true) (h : ∀ c ∈ tq_n_ch X ix rx (Y :: names), c.before args s = true) :
    ∃ (P1 : PassC) (Ps : List PassC), Ps.length = (Y :: names).length ∧ P1.LinksS pl s ∧ (∀ P, P ∈ Ps → P.LinksS pl s) ∧ s.methodNamed? (Bundle.initS X) = some P1.m ∧
      P1.sup = firstOf top (Ps.map (·.toPassT)) ∧ PassesOn top (Ps.map (·.toPassT)) := by
  obtain ⟨P, L, hm, hs⟩ := PassC.ofS_atoms (args := args) (s := s) hpl (X := X) (Y := Y) (Bundle.fit_spec hX).1 (Bundle.fit_spec (hn Y List.mem_cons_self)).2 x0 x1 x2 x5 (fun c hc => h c (List.mem_append_left _ hc))
  obtain ⟨P', Ps, hlen, L', hL, hm', hsup, hpass⟩ := Bundle.chainS (args := args) hpl htop names Y (hn Y List.mem_cons_self) (fun n hn' => hn n (List.mem_cons_of_mem _ hn')) (fun c hc => h c (List.mem_append_right _ hc))
  refine ⟨P, P' :: Ps, by simp [hlen], L, ?_, hm, Option.some.inj (hs.symm.trans hm'), hsup, hpass⟩
  intro Q hQ
  rcases List.mem_cons.mp hQ with rfl | hQ
  · exact L'
  · exact hL Q hQ
set_option maxHeartbeats 1000000 in
theorem tq_n_ct (X : Stand p l e R s m₀ args below meth c W locs cells slots) (hexec : p.tables.exec = Jvm.exec) (htr : e.platform.stackTraces = false) {own cls Y1 : String} {nr : List String} {ic ix : Nat} {rx : ByteArray}
    (x0 : decode rx 0 = .ok (.aload_n 0, 1)) (x1 : decode rx 1 = .ok (.aload_n 1, 1)) (x2 : decode rx 2 = .ok (.invokespecial ix, 3)) (x5 : decode rx 5 = .ok (.return_, 1))
    (hown : s.vm.findClass own = some m₀.cls) (hcls : Bundle.fit cls = true) (hnames : ∀ n ∈ Y1 :: nr, Bundle.fit n = true)
    (h : ∀ a ∈ tq_n_own own ic cls ix rx (Y1 :: nr), a.before args s = true)
    (hlocs : ∀ x ∈ locs, ∀ cell, s.heap[x.base]? = some cell → cell.vm.isStatics = false)
    {a : Addr} {cX : ClassId} {kX : Class} (hfoundX : s.vm.findClass cls = some cX) (hkX : s.vm.classes[cX]? = some kX) (hcell : W.heap[a]? = some (freshCell cX kX)) (hnew : s.heap.size ≤ a)
    {msg : Value} (hmsg : msg.isRef = true)
    {g : JFrame} (hg : g.method = m₀) (hsize : g.locals.size = c.maxLocals) (hlocked : g.locked = none) (hentered : g.entered = []) {rest : List Value} (hstack : g.stack = msg :: .ref a :: .ref a :: rest)
    (hd6 : decode c.code g.pc = .ok (.invokespecial ic, 3)) (hd9 : decode c.code (g.pc + 3) = .ok (.athrow, 1)) (hout : ∀ x ∈ c.exceptionTable.toList, covers x (g.pc + 3) = false)
    (hRframes : (Y1 :: nr).length + 3 < R.frames) (hRlocals : 2 * g.monitorRoom + ((Value.ref a :: rest).map fun v => v.category).sum + (13 * ((Y1 :: nr).length + 1) + 42) ≤ R.locals) (hlocks : meth.locks = false) :
    ∃ U : State, Steps p.tables e below (W.setTop g) U ∧ U.status = .running ∧ Ended U below (.threw a) ∧ s.WarmedH U.vm ∧ s.sameButNew ({ U with vm := s.vm } : State) locs cells slots ∧
      ∃ ce, U.heap[a]? = some ce ∧ ce.cls = cX ∧ ce.vm = .none := by
  have howns : e.platform.frameOwnsMonitors = true := by rw [X.admits.platform]
  have hfin : e.platform.finalization = false := by rw [X.admits.platform]
  have hpl : e.platform.magicAccessors = ({} : Platform).magicAccessors := by rw [X.admits.platform]
  have h1 : ∀ x ∈ Bundle.throwableAtoms, x.before args s = true := fun x hx => h x (List.mem_append_left _ hx)
  have h2 : ∀ x ∈ Bundle.throwableSAtoms, x.before args s = true := fun x hx => h x (List.mem_append_right _ (List.mem_append_left _ hx))
  have h3 : ∀ x ∈ tq_n_ch cls ix rx (Y1 :: nr), x.before args s = true := fun x hx => h x (List.mem_append_right _ (List.mem_append_right _ (List.mem_append_left _ hx)))
  have h4 : (Cond.methodLink own ic (Bundle.initS cls)).before args s = true := h _ (List.mem_append_right _ (List.mem_append_right _ (List.mem_append_right _ List.mem_cons_self)))
  have h5 : ∀ x ∈ Bundle.ownAtoms own ic cls (Y1 :: nr), (match x with
    | .instantiable .. => true
    | .castable .. => true
    | .selects .. => true
    | .lays .. => true
    | .isRef .. => true
    | .fieldLink .. => true
    | _ => false) = true → x.before args s = true := fun x hx hy => h x (List.mem_append_right _ (List.mem_append_right _ (List.mem_append_right _ (List.mem_cons_of_mem _ (List.mem_filter.mpr ⟨hx, hy⟩)))))
  have a' : ∀ x : Cond, x.before args s = true → x.holds args s none s [] = true := fun x hx => hx
  obtain ⟨T, Z0, L, -, Y⟩ := ThrowableC.of_atoms (args := args) howns hfin hpl h1
  obtain ⟨Z, M, LZ, LM, hnZ⟩ := Init0T.ofS_atoms (args := args) hpl L Y h2
  obtain ⟨P1, Ps, hlen, L1, hL, hP1m, hlink1, hlink⟩ := tq_n_chain (args := args) hpl hnZ x0 x1 x2 x5 hcls hnames h3
  have hfound : s.vm.findClass cls = some P1.m.cls := findClass_of_methodNamed hP1m
  cases Option.some.inj (hfoundX.symm.trans hfound)
  obtain ⟨c1, kX', hc1, hk, hord, -, -, hn6⟩ := Cond.instantiable_spec (a' (.instantiable cls 6) (h5 _ (by simp [Bundle.ownAtoms]) rfl))
  cases Option.some.inj (hc1.symm.trans hfound)
  cases Option.some.inj (hkX.symm.trans hk)
  have hsel0 : selectMethod e.platform s.vm P1.m.cls T.fill0 = .method T.fill0 := by
    obtain ⟨c2, r2, m2, q1, q2, q3, q4, -⟩ := Cond.selects_spec (a' (.selects cls Bundle.tFill0 Bundle.tFill0) (h5 _ (by simp [Bundle.ownAtoms]) rfl))
    cases Option.some.inj (q1.symm.trans hfound)
    cases Option.some.inj (q2.symm.trans (State.methodFound?_of_named Y.fill0 (by decide)))
    cases Option.some.inj (q3.symm.trans Y.fill0)
    rw [Launch.admits_selectMethod X.admits]; exact q4
  have hselF : selectMethod e.platform s.vm P1.m.cls T.fill = .method T.fill := by
    obtain ⟨c2, r2, m2, q1, q2, q3, q4, -⟩ := Cond.selects_spec (a' (.selects cls Bundle.tFill Bundle.tFill) (h5 _ (by simp [Bundle.ownAtoms]) rfl))
    cases Option.some.inj (q1.symm.trans hfound)
    cases Option.some.inj (q2.symm.trans (State.methodFound?_of_named Y.fill (by decide)))
    cases Option.some.inj (q3.symm.trans Y.fill)
    rw [Launch.admits_selectMethod X.admits]; exact q4
  obtain ⟨cellS0, hcS0, hiss⟩ := Y.statics
  obtain ⟨u0, hu0⟩ := Cond.staticRefV Y.unassigned L.unassignedStatic L.statics hcS0 hiss (a' (.isRef (.static Bundle.tN "UNASSIGNED_STACK" Bundle.steD)) (h5 _ (by simp [Bundle.ownAtoms]) rfl))
  obtain ⟨sen, hsen⟩ := Cond.staticRefV Y.sentinel L.sentinelStatic L.statics hcS0 hiss (a' (.isRef (.static Bundle.tN "SUPPRESSED_SENTINEL" Bundle.listD)) (h5 _ (by simp [Bundle.ownAtoms]) rfl))
  have hbL := h5 (.lays Bundle.tN Bundle.tN "backtrace" "Ljava/lang/Object;") (by simp [Bundle.ownAtoms]) rfl
  have hbF := h5 (.fieldLink Bundle.tN 198 Bundle.tN "backtrace" "Ljava/lang/Object;") (by simp [Bundle.ownAtoms]) rfl
  obtain ⟨ci198, i198, fB, hk198, hg198, ha198, hsB, -, hnB, htB, hffB⟩ := Cond.ownField (t := .object "java/lang/Object") Y.found L.cls (by decide +kernel) (a' _ hbF) (a' _ hbL) e.platform hpl
  obtain ⟨cellS, hcS', heS, -, hkeep⟩ := X.same.2.2.2.2.2 T.aS cellS0 hcS0
  have hcellS : W.heap[T.aS]? = some cellS := hcS'
  have hout' : ∀ i, (⟨T.aS, i⟩ : Loc) ∉ locs := fun i hmem => by
    have := hlocs _ hmem cellS0 hcS0
    rw [hiss] at this; cases this
  have hknownS : cellS.vm ≠ .unknown := by
    rw [heS]; intro hu
    rw [show cellS0.vm = .unknown from hu] at hiss
    cases hiss
  have hneS : T.aS ≠ a := Nat.ne_of_lt (Nat.lt_of_lt_of_le (Array.getElem?_eq_some_iff.mp hcS0).1 hnew)
  obtain ⟨iM, hffM⟩ := Y.msg
  obtain ⟨tyC, dC, hdC, hdnC⟩ := Cond.laysAt hfound hk Y.cause (a' (.lays cls Bundle.tN "cause" "Ljava/lang/Throwable;") (h5 _ (by simp [Bundle.ownAtoms]) rfl))
  obtain ⟨tyS, dS, hdS, hdnS⟩ := Cond.laysAt hfound hk Y.stack (a' (.lays cls Bundle.tN "stackTrace" Bundle.steD) (h5 _ (by simp [Bundle.ownAtoms]) rfl))
  obtain ⟨tyP, dP, hdP, hdnP⟩ := Cond.laysAt hfound hk Y.supp (a' (.lays cls Bundle.tN "suppressedExceptions" Bundle.listD) (h5 _ (by simp [Bundle.ownAtoms]) rfl))
  obtain ⟨tyM, dM, hdM, hdnM⟩ := Cond.laysAt hfound hk hffM (a' (.lays cls Bundle.tN "detailMessage" "Ljava/lang/String;") (h5 _ (by simp [Bundle.ownAtoms]) rfl))
  obtain ⟨tyB, dB, hdB, hdnB⟩ := Cond.laysAt hfound hk hffB (a' (.lays cls Bundle.tN "backtrace" "Ljava/lang/Object;") (h5 _ (by simp [Bundle.ownAtoms]) rfl))
  have bC := Cond.laysApart hdB hdC hdnB hdnC (by rw [hnB, Y.causeName]; decide)
  have bS := Cond.laysApart hdB hdS hdnB hdnS (by rw [hnB, Y.stackName]; decide)
  have bP := Cond.laysApart hdB hdP hdnB hdnP (by rw [hnB, Y.suppName]; decide)
  have hskip : SkipFacts T e.platform s (fun u => u) u0 ((preparedCellV T.toThrowableT (freshCell P1.m.cls kX) a u0 sen).withEntry W.cur) :=
    ⟨{ ci198 := ci198, i198 := i198, fBack := fB }, ⟨hk198, hg198, ha198, hsB⟩, by
      have := fresh_default (c := P1.m.cls) tyB
      rw [htB] at this
      simpa [preparedCellV, Cell.setSlot, Cell.withEntry, Array.getElem?_setIfInBounds, bC, bS, bP, bC.symm, bS.symm, bP.symm, defaultValue] using this, fun _ _ => rfl⟩
  obtain ⟨tm, methC, cdC, kC, vm₁, hnC, -, -, -, -, -, -, -, hW₁, st1⟩ := Steps.initColdS (tb := p.tables) (e := e) (below := below) (s := s) (U := W) X.here hexec X.warmed hpl hown (t := Bundle.initS cls) rfl rfl (Bundle.fit_spec hcls).2
    (a' _ h4) (h3 (.instanceMethod (Bundle.initS cls)) (by simp [tq_n_ch, Bundle.passSAtoms])) (bytes := rx) (maxL := 2) (h3 (.code (Bundle.initS cls) rx 2 none) (by simp [tq_n_ch, Bundle.passSAtoms]))
    (f := g) hg (a := a) (msg := msg) (rest := .ref a :: rest) hstack hd6
  cases Option.some.inj (hnC.symm.trans hP1m)
  have X₁ := X.noted hW₁
  obtain ⟨vm₂, X₂, st2⟩ := X₁.ctorMessageOffV hexec (g := { g with stack := .ref a :: rest }) hg hsize T L Z LZ M LM (P1 :: Ps)
    (fun P hP => by rcases List.mem_cons.mp hP with rfl | hP; exact L1; exact hL P hP) ⟨hlink1, hlink⟩ (u0 := u0) (sen := sen) (self := a) hmsg (cell := freshCell P1.m.cls kX) (cellS := cellS)
    hcell (fun _ => by simp) (by simp) rfl rfl hsel0 hselF hcellS hneS hknownS (by rw [hkeep _ (hout' _)]; exact hu0) (by rw [hkeep _ (hout' _)]; exact hsen)
    (Takes.of_laid hk hord tyC (by rw [Y.causeType]; rfl)) (Takes.of_laid hk hord tyS (by rw [Y.stackType]; exact fits_refV_array _ u0)) (Takes.of_laid hk hord tyP (by rw [Y.suppType]; exact fits_refV_object _ sen))
    (Takes.of_laid hk hord tyM (by rw [Y.msgType]; exact fits_refV_object _ ⟨msg, hmsg⟩)) Y.objLocals hskip htr [] hd6
    (by simp only [List.length_cons, hlen] at hRframes ⊢; omega) (by simp only [List.length_cons, hlen] at hRlocals ⊢; exact hRlocals)
  obtain ⟨hwalk, hrun, hended, hWU, hsame⟩ := X₂.athrowLeaves hexec (g := { g with stack := .ref a :: rest, pc := g.pc + 3 }) hg hlocked hentered hout (a := a) (rest := rest) rfl hd9
  have hlt : a < ((W.setVm vm₁).setVm vm₂).heap.size := (Array.getElem?_eq_some_iff.mp hcell).1
  have hU := heapAt_setCell_self (s := (W.setVm vm₁).setVm vm₂) (plainBareV T.toThrowableT (freshCell P1.m.cls kX) a u0 sen msg) hlt
  refine ⟨_, st1 _ (fun acts => ?_), hrun, hended, hWU, hsame.weaken (fun y hy hlt' => ?_) (Nat.le_refl _) (Nat.le_refl _), _, hU, rfl, rfl⟩
  · rw [doInvoke_state]
    exact st2 _ hwalk
  · rcases List.mem_append.mp hy with h1 | h1
    · exact h1
    · exfalso
      have hb : y.base = a := by
        simp only [List.mem_cons, List.not_mem_nil, or_false] at h1
        rcases h1 with rfl | rfl | rfl | rfl | rfl <;> rfl
      rw [hb] at hlt'
      exact Nat.not_lt.mpr hnew hlt'
end TQN
section TQN2
variable {p : Program} {l : Launch} {e : Env} {R : Room} {s : State} {args : Array Value} {below : List Frame} {meth : Method} {c : Code} {locs : List Loc} {cells slots : Nat}
variable {m : MethodId} {H : Heap} {Qc : Array Value → State → Outcome → State → Prop} {XC : String → State → State → Prop} {free : Addr → Prop} {ls : Array Slot} {rest : List Value}
def tq_n_at (own : String) (ic : Nat) (X : String) (ix : Nat) (rx : ByteArray) (names : List String) : List Cond := (tq_n_own own ic X ix rx names).filter vx_no
theorem tq_n_W {cc : ByteArray} {pc : Nat} (hexec : p.tables.exec = Jvm.exec) (hb : c.code = cc) (hl : l.stackTraces = false) {own cls text Y1 : String} {nr : List String} {ik is ic mc ms sa ix : Nat} {rx : ByteArray} {A : Nat → Prop}
    (x0 : decode rx 0 = .ok (.aload_n 0, 1)) (x1 : decode rx 1 = .ok (.aload_n 1, 1)) (x2 : decode rx 2 = .ok (.invokespecial ix, 3)) (x5 : decode rx 5 = .ok (.return_, 1))
    (hown : s.vm.findClass own = some m.cls) (hcls : Bundle.fit cls = true) (hnames : ∀ n ∈ Y1 :: nr, Bundle.fit n = true)
    (hk : (Cond.classLink own ik cls).before args s = true) (hini : (Cond.initialized cls).before args s = true) (hins : (Cond.instantiable cls 6).before args s = true) (hstr : vk_R own is text sa s) (hat : ∀ w ∈ tq_n_at own ic cls ix rx (Y1 :: nr), w.before args s = true)
    (hgood : ∀ w ∈ Cond.classLink own ik cls :: Cond.initialized cls :: Cond.instantiable cls 6 :: tq_n_at own ic cls ix rx (Y1 :: nr), vx_ot w = true)
    (hU : vx_Zq Bundle.tN "UNASSIGNED_STACK" Bundle.steD A s s.heap) (hN : vx_Zq Bundle.tN "SUPPRESSED_SENTINEL" Bundle.listD A s s.heap) (hS : va_S A s.heap H locs) (hsize : ls.size = c.maxLocals)
    (d0 : decode cc pc = .ok (.new ik, 3)) (d3 : decode cc (pc + 3) = .ok (.dup, 1)) (d4 : decode cc (pc + 4) = .ok (.ldc is, 2)) (d6 : decode cc (pc + 6) = .ok (.invokespecial ic, 3)) (d9 : decode cc (pc + 9) = .ok (.athrow, 1))
    (hout : ∀ x ∈ c.exceptionTable.toList, covers x (pc + 9) = false)
    (hRframes : (Y1 :: nr).length + 3 < R.frames) (hRlocals : (rest.map fun v => v.category).sum + (13 * ((Y1 :: nr).length + 1) + 43) ≤ R.locals) (hRcells : cells + 1 ≤ R.cells) (hRslots : slots + 6 ≤ R.slots) (hlocks : meth.locks = false)
    (hx : ∀ t : State, s.vm.Alike t.vm → H.size ≤ t.heap.size → (∀ q : Nat, q < H.size → t.heap[q]? = H[q]?) → XC cls s t)
    (hf : ∀ z ∈ locs, free z.base) (hc : cells + 1 ≤ mc) (hs : slots + 6 ≤ ms) :
    W p l e R s m args below meth c H locs cells slots (vx_MQ below Qc XC args s mc ms free) (F0 m pc ls rest) := by
  intro T hT X
  have htr : e.platform.stackTraces = false := (show e.platform.stackTraces = l.stackTraces by rw [X.admits.platform]).trans hl
  have Y := vx_rebase X (R' := { frames := R.frames, locals := R.locals, cells := 1, slots := 6 }) (Nat.le_refl _) (Nat.le_refl _) hRcells hRslots
  obtain ⟨s', hA⟩ : ∃ z, z = (T.setVm s.vm).setFrames (.invoking m args :: below) := ⟨_, rfl⟩
  rw [← hA] at Y
  have hvm : s'.vm = s.vm := by rw [hA]; rfl
  have hhp : s'.heap = H := by rw [hA]; exact hT
  have hW0 : s.WarmedH s'.vm := by rw [hvm]; exact State.WarmedH.refl s
  have mv : ∀ w : Cond, vx_ot w = true → w.before args s = true → w.before args s' = true := fun w h1 h2 => vx_ot_at hW0 hvm.symm h1 h2
  have hat' : ∀ w ∈ tq_n_at own ic cls ix rx (Y1 :: nr), w.before args s' = true := fun w hw => mv w (hgood w (by simp [hw])) (hat w hw)
  have hk' := mv _ (hgood _ (by simp)) hk
  have hini' := mv _ (hgood (Cond.initialized cls) (by simp)) hini
  have hins' := mv _ (hgood (Cond.instantiable cls 6) (by simp)) hins
  have hU' : vx_Zq Bundle.tN "UNASSIGNED_STACK" Bundle.steD A s' s'.heap := by rw [hhp]; exact vx_Zq.moved hW0.alike (hU.kept hS.2.1)
  have hN' : vx_Zq Bundle.tN "SUPPRESSED_SENTINEL" Bundle.listD A s' s'.heap := by rw [hhp]; exact vx_Zq.moved hW0.alike (hN.kept hS.2.1)
  have h : ∀ w ∈ tq_n_own own ic cls ix rx (Y1 :: nr), w.before args s' = true := vx_own hat' (vx_isRefq hU'.1) (vx_isRefq hN'.1) hU'.2.word hN'.2.word
  have hown' : s'.vm.findClass own = some m.cls := by rw [hvm]; exact hown
  obtain ⟨vm₁, cX, kX, hfX, hkX, -, -, X₁, st1⟩ := Y.newCold hexec (own := own) (C := cls) (index := ik) (n := 6) hown' hk' hins' hini'
    (g := F0 m pc ls rest) rfl (by rw [hb]; exact d0) (Nat.le_refl _) (Nat.le_refl _)
  generalize hT1 : (T.setVm vm₁).pushCell { cls := cX, slots := kX.instanceTypes.map defaultValue, vm := .none } = T1 at X₁ st1
  have hcat : (Value.ref T.heap.size).category = 1 := rfl
  have hcellA : T1.heap[T.heap.size]? = some (freshCell cX kX) := by rw [← hT1]; exact State.heap_pushCell_size _ _
  have d3' : decode c.code (pc + 3) = .ok (.dup, 1) := by rw [hb]; exact d3
  have d4' : decode c.code (pc + 4) = .ok (.ldc is, 2) := by rw [hb]; exact d4
  have hstr' : vk_R own is text sa s' := vk_R.warm hW0 hstr
  obtain ⟨U, hsteps, hrun, hend, hW, hsame, ce, hce, hO1, hO2⟩ := tq_n_ct X₁ hexec htr x0 x1 x2 x5 hown' hcls hnames h (fun x hx => nomatch hx) hfX hkX hcellA (by rw [hhp, hT]; exact Nat.le_refl _) (msg := .ref sa) rfl
    (g := { method := m, pc := pc + 6, locals := ls, stack := .ref sa :: .ref T.heap.size :: .ref T.heap.size :: rest, locked := none }) rfl hsize rfl rfl (rest := rest) rfl
    (by rw [hb]; exact d6) (by rw [hb]; exact d9) hout hRframes (by simp only [List.map_cons, List.sum_cons, hcat]; omega) hlocks
  obtain ⟨f1, f2⟩ := vx_frame hsame
  rw [hhp] at f1 f2
  have hWs : s.WarmedH U.vm := State.WarmedH.trans hW0 hW
  have hcl : s.vm.findClass cls = some ce.cls := by rw [hO1, ← hvm]; exact hfX
  have hall : s.sameButNew ({ U with vm := s.vm } : State) locs mc ms := by
    subst hA
    obtain ⟨e1, e2⟩ := hsame
    rw [State.setFrames_setFrames] at e1
    have h2 : (T.setVm s.vm).sameButNew ({ U with vm := s.vm } : State) [] (0 + 1) (0 + 6) := ⟨e1, e2⟩
    have h3 := X.same.trans h2
    rw [List.append_nil] at h3
    exact h3.mono hc hs
  refine ⟨U, ?_, .threw T.heap.size, hrun, hend, Or.inr ⟨T.heap.size, rfl, cls, ce, locs, hx U hWs.alike f1 (fun q hq => f2 q hq (fun z hz => nomatch hz)), hce, hO2, hcl, hWs, hall, hf⟩⟩
  refine st1 _ ?_
  show Steps p.tables e below (T1.setTop { method := m, pc := pc + 3, locals := ls, stack := .ref T.heap.size :: rest, locked := none }) _
  jvm_step X₁.here [X₁.here.top, hexec, d3', Value.category]
  exact X₁.ldcString hexec (own := own) (text := text) (index := is) (a := sa) hown' hstr'.1 hstr'.2
    (g := { method := m, pc := pc + 4, locals := ls, stack := .ref T.heap.size :: .ref T.heap.size :: rest, locked := none }) rfl d4' _ hsteps
theorem tq_n_WW {cc : ByteArray} {pc : Nat} (hexec : p.tables.exec = Jvm.exec) (hb : c.code = cc) (hl : l.stackTraces = false) {own cls text Y1 : String} {nr : List String} {ik is ic mc ms sa ix : Nat} {rx : ByteArray} {A : Nat → Prop}
    (x0 : decode rx 0 = .ok (.aload_n 0, 1)) (x1 : decode rx 1 = .ok (.aload_n 1, 1)) (x2 : decode rx 2 = .ok (.invokespecial ix, 3)) (x5 : decode rx 5 = .ok (.return_, 1))
    (hown : s.vm.findClass own = some m.cls) (hcls : Bundle.fit cls = true) (hnames : ∀ n ∈ Y1 :: nr, Bundle.fit n = true)
    (hk : (Cond.classLink own ik cls).before args s = true) (hini : (Cond.initialized cls).before args s = true) (hins : (Cond.instantiable cls 6).before args s = true) (hstr : vk_R own is text sa s) (hat : ∀ w ∈ tq_n_at own ic cls ix rx (Y1 :: nr), w.before args s = true)
    (hgood : ∀ w ∈ Cond.classLink own ik cls :: Cond.initialized cls :: Cond.instantiable cls 6 :: tq_n_at own ic cls ix rx (Y1 :: nr), vx_ot w = true)
    (hU : vx_Zq Bundle.tN "UNASSIGNED_STACK" Bundle.steD A s s.heap) (hN : vx_Zq Bundle.tN "SUPPRESSED_SENTINEL" Bundle.listD A s s.heap) (hS : va_S A s.heap H locs) (hsize : ls.size = c.maxLocals)
    (d0 : decode cc pc = .ok (.new ik, 3)) (d3 : decode cc (pc + 3) = .ok (.dup, 1)) (d4 : decode cc (pc + 4) = .ok (.ldc_w is, 3)) (d6 : decode cc (pc + 7) = .ok (.invokespecial ic, 3)) (d9 : decode cc (pc + 10) = .ok (.athrow, 1))
    (hout : ∀ x ∈ c.exceptionTable.toList, covers x (pc + 10) = false)
    (hRframes : (Y1 :: nr).length + 3 < R.frames) (hRlocals : (rest.map fun v => v.category).sum + (13 * ((Y1 :: nr).length + 1) + 43) ≤ R.locals) (hRcells : cells + 1 ≤ R.cells) (hRslots : slots + 6 ≤ R.slots) (hlocks : meth.locks = false)
    (hx : ∀ t : State, s.vm.Alike t.vm → H.size ≤ t.heap.size → (∀ q : Nat, q < H.size → t.heap[q]? = H[q]?) → XC cls s t)
    (hf : ∀ z ∈ locs, free z.base) (hc : cells + 1 ≤ mc) (hs : slots + 6 ≤ ms) :
    W p l e R s m args below meth c H locs cells slots (vx_MQ below Qc XC args s mc ms free) (F0 m pc ls rest) := by
  intro T hT X
  have htr : e.platform.stackTraces = false := (show e.platform.stackTraces = l.stackTraces by rw [X.admits.platform]).trans hl
  have Y := vx_rebase X (R' := { frames := R.frames, locals := R.locals, cells := 1, slots := 6 }) (Nat.le_refl _) (Nat.le_refl _) hRcells hRslots
  obtain ⟨s', hA⟩ : ∃ z, z = (T.setVm s.vm).setFrames (.invoking m args :: below) := ⟨_, rfl⟩
  rw [← hA] at Y
  have hvm : s'.vm = s.vm := by rw [hA]; rfl
  have hhp : s'.heap = H := by rw [hA]; exact hT
  have hW0 : s.WarmedH s'.vm := by rw [hvm]; exact State.WarmedH.refl s
  have mv : ∀ w : Cond, vx_ot w = true → w.before args s = true → w.before args s' = true := fun w h1 h2 => vx_ot_at hW0 hvm.symm h1 h2
  have hat' : ∀ w ∈ tq_n_at own ic cls ix rx (Y1 :: nr), w.before args s' = true := fun w hw => mv w (hgood w (by simp [hw])) (hat w hw)
  have hk' := mv _ (hgood _ (by simp)) hk
  have hini' := mv _ (hgood (Cond.initialized cls) (by simp)) hini
  have hins' := mv _ (hgood (Cond.instantiable cls 6) (by simp)) hins
  have hU' : vx_Zq Bundle.tN "UNASSIGNED_STACK" Bundle.steD A s' s'.heap := by rw [hhp]; exact vx_Zq.moved hW0.alike (hU.kept hS.2.1)
  have hN' : vx_Zq Bundle.tN "SUPPRESSED_SENTINEL" Bundle.listD A s' s'.heap := by rw [hhp]; exact vx_Zq.moved hW0.alike (hN.kept hS.2.1)
  have h : ∀ w ∈ tq_n_own own ic cls ix rx (Y1 :: nr), w.before args s' = true := vx_own hat' (vx_isRefq hU'.1) (vx_isRefq hN'.1) hU'.2.word hN'.2.word
  have hown' : s'.vm.findClass own = some m.cls := by rw [hvm]; exact hown
  obtain ⟨vm₁, cX, kX, hfX, hkX, -, -, X₁, st1⟩ := Y.newCold hexec (own := own) (C := cls) (index := ik) (n := 6) hown' hk' hins' hini'
    (g := F0 m pc ls rest) rfl (by rw [hb]; exact d0) (Nat.le_refl _) (Nat.le_refl _)
  generalize hT1 : (T.setVm vm₁).pushCell { cls := cX, slots := kX.instanceTypes.map defaultValue, vm := .none } = T1 at X₁ st1
  have hcat : (Value.ref T.heap.size).category = 1 := rfl
  have hcellA : T1.heap[T.heap.size]? = some (freshCell cX kX) := by rw [← hT1]; exact State.heap_pushCell_size _ _
  have d3' : decode c.code (pc + 3) = .ok (.dup, 1) := by rw [hb]; exact d3
  have d4' : decode c.code (pc + 4) = .ok (.ldc_w is, 3) := by rw [hb]; exact d4
  have hstr' : vk_R own is text sa s' := vk_R.warm hW0 hstr
  obtain ⟨U, hsteps, hrun, hend, hW, hsame, ce, hce, hO1, hO2⟩ := tq_n_ct X₁ hexec htr x0 x1 x2 x5 hown' hcls hnames h (fun x hx => nomatch hx) hfX hkX hcellA (by rw [hhp, hT]; exact Nat.le_refl _) (msg := .ref sa) rfl
    (g := { method := m, pc := pc + 7, locals := ls, stack := .ref sa :: .ref T.heap.size :: .ref T.heap.size :: rest, locked := none }) rfl hsize rfl rfl (rest := rest) rfl
    (by rw [hb]; exact d6) (by rw [hb]; exact d9) hout hRframes (by simp only [List.map_cons, List.sum_cons, hcat]; omega) hlocks
  obtain ⟨f1, f2⟩ := vx_frame hsame
  rw [hhp] at f1 f2
  have hWs : s.WarmedH U.vm := State.WarmedH.trans hW0 hW
  have hcl : s.vm.findClass cls = some ce.cls := by rw [hO1, ← hvm]; exact hfX
  have hall : s.sameButNew ({ U with vm := s.vm } : State) locs mc ms := by
    subst hA
    obtain ⟨e1, e2⟩ := hsame
    rw [State.setFrames_setFrames] at e1
    have h2 : (T.setVm s.vm).sameButNew ({ U with vm := s.vm } : State) [] (0 + 1) (0 + 6) := ⟨e1, e2⟩
    have h3 := X.same.trans h2
    rw [List.append_nil] at h3
    exact h3.mono hc hs
  refine ⟨U, ?_, .threw T.heap.size, hrun, hend, Or.inr ⟨T.heap.size, rfl, cls, ce, locs, hx U hWs.alike f1 (fun q hq => f2 q hq (fun z hz => nomatch hz)), hce, hO2, hcl, hWs, hall, hf⟩⟩
  refine st1 _ ?_
  show Steps p.tables e below (T1.setTop { method := m, pc := pc + 3, locals := ls, stack := .ref T.heap.size :: rest, locked := none }) _
  jvm_step X₁.here [X₁.here.top, hexec, d3', Value.category]
  exact X₁.ldcStringW hexec (own := own) (text := text) (index := is) (a := sa) hown' hstr'.1 hstr'.2
    (g := { method := m, pc := pc + 4, locals := ls, stack := .ref T.heap.size :: .ref T.heap.size :: rest, locked := none }) rfl d4' _ hsteps
end TQN2
def tq_tnP (c ik is ic : Nat) (cls text : String) (ix : Nat) (rx : ByteArray) (Y1 : String) (nr : List String) : Prop :=
  Cond.classLink (tq_cn c) ik cls ∈ lw_tbl ∧ Cond.initialized cls ∈ lw_tbl ∧ Cond.instantiable cls 6 ∈ lw_tbl ∧ (tq_cn c, is, text) ∈ tq_strs ∧ (∀ w ∈ tq_n_at (tq_cn c) ic cls ix rx (Y1 :: nr), w ∈ lw_tbl) ∧ (∀ w ∈ (Cond.instantiable cls 6 :: tq_n_at (tq_cn c) ic cls ix rx (Y1 :: nr)).filter (fun w => !goodWord w), tq_nst w = true) ∧
  (∀ w ∈ Cond.classLink (tq_cn c) ik cls :: Cond.initialized cls :: Cond.instantiable cls 6 :: tq_n_at (tq_cn c) ic cls ix rx (Y1 :: nr), vx_ot w = true) ∧ Bundle.fit cls = true ∧ (∀ n ∈ Y1 :: nr, Bundle.fit n = true) ∧ (Y1 :: nr).length ≤ 3 ∧
  decode rx 0 = .ok (.aload_n 0, 1) ∧ decode rx 1 = .ok (.aload_n 1, 1) ∧ decode rx 2 = .ok (.invokespecial ix, 3) ∧ decode rx 5 = .ok (.return_, 1)
theorem tq_throwN {K : Nat × (Nat → Int32)} {d x : Nat} {M : tq_MD} {pc : Nat} {L st : List Value} {z : tq_S} {Q : tq_O → tq_S → Prop} {ik is ic ix k : Nat} {rx : ByteArray} {cls text Y1 : String} {nr : List String} (hf : tq_tnP M.2.2.2.2.2 ik is ic cls text ix rx Y1 nr) (hh : M.2.2.2.2.1 = [])
    (d0 : decode M.2.1 pc = .ok (.new ik, 3)) (d3 : decode M.2.1 (pc + 3) = .ok (.dup, 1)) (d4 : decode M.2.1 (pc + 4) = .ok (.ldc is, 2)) (d6 : decode M.2.1 (pc + 6) = .ok (.invokespecial ic, 3)) (d9 : decode M.2.1 (pc + 9) = .ok (.athrow, 1))
    (hst : (st.map fun v => v.category).sum ≤ 8) (hk : tq_exn[k]? = some cls) (hx : 1 ≤ x) (hQ : Q (.inr k) z) : tq_T K d x M pc L st z Q := by
  intro p l e R s m args below meth c ρ D dA A mc ms F H locs cells slots ls V
  obtain ⟨v1, v2, v3, v4, v5, v6⟩ := V
  obtain ⟨f1, f2, f2b, f3, f4, f5, f7, f8, f9, f10, x0, y1, y2, y5⟩ := hf
  obtain ⟨g1, g2, g3, g4, g5, g6, g7, g8, g9, ⟨x1, x2, x3, x4, x5, x6, x7⟩, g11, g12, g13, g14, g15, g16⟩ := F
  obtain ⟨sa, hsa⟩ := x4 _ f3
  have use : ∀ w, w ∈ lw_tbl → w ∈ Cond.instantiable cls 6 :: tq_n_at (tq_cn M.2.2.2.2.2) ic cls ix rx (Y1 :: nr) → w.before args s = true := by
    intro w h1 h2
    by_cases hg : goodWord w = true
    · exact g6 w h1 hg
    · have h3 := f5 w (List.mem_filter.mpr ⟨h2, by simp [hg]⟩)
      exact va_Nw.use (tq_nst_on h3) (x1 _ h1 h3)
  have hat : ∀ w ∈ tq_n_at (tq_cn M.2.2.2.2.2) ic cls ix rx (Y1 :: nr), w.before args s = true := fun w hw => use w (f4 w hw) (List.mem_cons_of_mem _ hw)
  refine tq_n_W g1 g2 g16 x0 y1 y2 y5 g5 f8 f9 (g6 _ f1 rfl) (g6 _ f2 rfl) (use _ f2b List.mem_cons_self) hsa hat f7 x2 x3 v3 (v4.1.trans g4.symm) d0 d3 d4 d6 d9 (fun y hy => by rw [g8, hh] at hy; cases hy) (by omega) (by rw [tq_cat]; omega) (by omega) (by omega) g7 ?_ v3.2.2 (by omega) (by omega)
  intro t h1 h2 h3
  refine ⟨⟨k, z, hk, hQ, v1.kept (fun j q hq => h3 _ (v1 j q hq).lt), v2⟩, Nat.le_trans v3.1 h2, fun q hq hA => ?_⟩
  rw [h3 q (Nat.lt_of_lt_of_le hq v3.1)]
  exact v3.2.1 q hq hA
theorem tq_throwNW {K : Nat × (Nat → Int32)} {d x : Nat} {M : tq_MD} {pc : Nat} {L st : List Value} {z : tq_S} {Q : tq_O → tq_S → Prop} {ik is ic ix k : Nat} {rx : ByteArray} {cls text Y1 : String} {nr : List String} (hf : tq_tnP M.2.2.2.2.2 ik is ic cls text ix rx Y1 nr) (hh : M.2.2.2.2.1 = [])
    (d0 : decode M.2.1 pc = .ok (.new ik, 3)) (d3 : decode M.2.1 (pc + 3) = .ok (.dup, 1)) (d4 : decode M.2.1 (pc + 4) = .ok (.ldc_w is, 3)) (d6 : decode M.2.1 (pc + 7) = .ok (.invokespecial ic, 3)) (d9 : decode M.2.1 (pc + 10) = .ok (.athrow, 1))
    (hst : (st.map fun v => v.category).sum ≤ 8) (hk : tq_exn[k]? = some cls) (hx : 1 ≤ x) (hQ : Q (.inr k) z) : tq_T K d x M pc L st z Q := by
  intro p l e R s m args below meth c ρ D dA A mc ms F H locs cells slots ls V
  obtain ⟨v1, v2, v3, v4, v5, v6⟩ := V
  obtain ⟨f1, f2, f2b, f3, f4, f5, f7, f8, f9, f10, x0, y1, y2, y5⟩ := hf
  obtain ⟨g1, g2, g3, g4, g5, g6, g7, g8, g9, ⟨x1, x2, x3, x4, x5, x6, x7⟩, g11, g12, g13, g14, g15, g16⟩ := F
  obtain ⟨sa, hsa⟩ := x4 _ f3
  have use : ∀ w, w ∈ lw_tbl → w ∈ Cond.instantiable cls 6 :: tq_n_at (tq_cn M.2.2.2.2.2) ic cls ix rx (Y1 :: nr) → w.before args s = true := by
    intro w h1 h2
    by_cases hg : goodWord w = true
    · exact g6 w h1 hg
    · have h3 := f5 w (List.mem_filter.mpr ⟨h2, by simp [hg]⟩)
      exact va_Nw.use (tq_nst_on h3) (x1 _ h1 h3)
  have hat : ∀ w ∈ tq_n_at (tq_cn M.2.2.2.2.2) ic cls ix rx (Y1 :: nr), w.before args s = true := fun w hw => use w (f4 w hw) (List.mem_cons_of_mem _ hw)
  refine tq_n_WW g1 g2 g16 x0 y1 y2 y5 g5 f8 f9 (g6 _ f1 rfl) (g6 _ f2 rfl) (use _ f2b List.mem_cons_self) hsa hat f7 x2 x3 v3 (v4.1.trans g4.symm) d0 d3 d4 d6 d9 (fun y hy => by rw [g8, hh] at hy; cases hy) (by omega) (by rw [tq_cat]; omega) (by omega) (by omega) g7 ?_ v3.2.2 (by omega) (by omega)
  intro t h1 h2 h3
  refine ⟨⟨k, z, hk, hQ, v1.kept (fun j q hq => h3 _ (v1 j q hq).lt), v2⟩, Nat.le_trans v3.1 h2, fun q hq hA => ?_⟩
  rw [h3 q (Nat.lt_of_lt_of_le hq v3.1)]
  exact v3.2.1 q hq hA
def tq_tl_11_227 : List Cond := [(Cond.initialized "java/lang/Throwable"), (Cond.initialized "java/lang/Exception"), (Cond.initialized "java/lang/RuntimeException"), (Cond.initialized "java/util/NoSuchElementException"), (Cond.instanceMethod ({ cls := "java/lang/Object", name := "<init>", desc := "()V" } : Jvm.MethodName)), (Cond.code ({ cls := "java/lang/Object", name := "<init>", desc := "()V" } : Jvm.MethodName) object_method_1_code (1 : Nat) (Option.none : Option Jvm.ClassFile.FieldType)), (Cond.declares ({ cls := "java/lang/RuntimeException", name := "<init>", desc := "()V" } : Jvm.MethodName)), (Cond.declares ({ cls := "java/lang/RuntimeException", name := "<init>", desc := "(Ljava/lang/String;)V" } : Jvm.MethodName)), (Cond.declares ({ cls := "java/lang/Exception", name := "<init>", desc := "()V" } : Jvm.MethodName)), (Cond.declares ({ cls := "java/lang/Exception", name := "<init>", desc := "(Ljava/lang/String;)V" } : Jvm.MethodName)), (Cond.declares ({ cls := "java/lang/Throwable", name := "<init>", desc := "()V" } : Jvm.MethodName)), (Cond.declares ({ cls := "java/lang/Throwable", name := "<init>", desc := "(Ljava/lang/String;)V" } : Jvm.MethodName)), (Cond.lays "java/lang/Throwable" "java/lang/Throwable" "cause" "Ljava/lang/Throwable;"), (Cond.lays "java/lang/Throwable" "java/lang/Throwable" "stackTrace" "[Ljava/lang/StackTraceElement;"), (Cond.lays "java/lang/Throwable" "java/lang/Throwable" "suppressedExceptions" "Ljava/util/List;"), (Cond.lays "java/lang/Throwable" "java/lang/Throwable" "detailMessage" "Ljava/lang/String;"), (Cond.lays "java/lang/Throwable" "java/lang/Throwable" "backtrace" "Ljava/lang/Object;"), (Cond.fieldLink "java/lang/Throwable" (198 : Nat) "java/lang/Throwable" "backtrace" "Ljava/lang/Object;"), (Cond.superclass "java/lang/Throwable" "java/lang/Object"), (Cond.instanceMethod ({ cls := "java/lang/Throwable", name := "<init>", desc := "()V" } : Jvm.MethodName)), (Cond.code ({ cls := "java/lang/Throwable", name := "<init>", desc := "()V" } : Jvm.MethodName) prog_28_method_1_code (1 : Nat) (Option.none : Option Jvm.ClassFile.FieldType)), (Cond.methodLink "java/lang/Throwable" (1 : Nat) ({ cls := "java/lang/Object", name := "<init>", desc := "()V" } : Jvm.MethodName)), (Cond.fieldLink "java/lang/Throwable" (13 : Nat) "java/lang/Throwable" "UNASSIGNED_STACK" "[Ljava/lang/StackTraceElement;"), (Cond.fieldLink "java/lang/Throwable" (20 : Nat) "java/lang/Throwable" "SUPPRESSED_SENTINEL" "Ljava/util/List;"), (Cond.methodLink "java/lang/Throwable" (27 : Nat) ({ cls := "java/lang/Throwable", name := "fillInStackTrace", desc := "()Ljava/lang/Throwable;" } : Jvm.MethodName)), (Cond.instanceMethod ({ cls := "java/lang/Throwable", name := "fillInStackTrace", desc := "()Ljava/lang/Throwable;" } : Jvm.MethodName)), (Cond.selects "java/util/NoSuchElementException" ({ cls := "java/lang/Throwable", name := "fillInStackTrace", desc := "()Ljava/lang/Throwable;" } : Jvm.MethodName) ({ cls := "java/lang/Throwable", name := "fillInStackTrace", desc := "()Ljava/lang/Throwable;" } : Jvm.MethodName)), (Cond.codeSync ({ cls := "java/lang/Throwable", name := "fillInStackTrace", desc := "()Ljava/lang/Throwable;" } : Jvm.MethodName) prog_28_method_18_code (1 : Nat) (Option.some (Jvm.ClassFile.FieldType.object "java/lang/Throwable"))), (Cond.methodLink "java/lang/Throwable" (202 : Nat) ({ cls := "java/lang/Throwable", name := "fillInStackTrace", desc := "(I)Ljava/lang/Throwable;" } : Jvm.MethodName)), (Cond.instanceMethod ({ cls := "java/lang/Throwable", name := "fillInStackTrace", desc := "(I)Ljava/lang/Throwable;" } : Jvm.MethodName)), (Cond.instantiable "java/lang/Throwable" (6 : Nat)), (Cond.native ({ cls := "java/lang/Throwable", name := "fillInStackTrace", desc := "(I)Ljava/lang/Throwable;" } : Jvm.MethodName)), (Cond.instanceMethod ({ cls := "java/lang/RuntimeException", name := "<init>", desc := "(Ljava/lang/String;)V" } : Jvm.MethodName)), (Cond.code ({ cls := "java/lang/RuntimeException", name := "<init>", desc := "(Ljava/lang/String;)V" } : Jvm.MethodName) prog_25_method_2_code (2 : Nat) (Option.none : Option Jvm.ClassFile.FieldType)), (Cond.methodLink "java/lang/RuntimeException" (7 : Nat) ({ cls := "java/lang/Exception", name := "<init>", desc := "(Ljava/lang/String;)V" } : Jvm.MethodName)), (Cond.instanceMethod ({ cls := "java/lang/Exception", name := "<init>", desc := "(Ljava/lang/String;)V" } : Jvm.MethodName)), (Cond.code ({ cls := "java/lang/Exception", name := "<init>", desc := "(Ljava/lang/String;)V" } : Jvm.MethodName) prog_18_method_2_code (2 : Nat) (Option.none : Option Jvm.ClassFile.FieldType)), (Cond.methodLink "java/lang/Exception" (7 : Nat) ({ cls := "java/lang/Throwable", name := "<init>", desc := "(Ljava/lang/String;)V" } : Jvm.MethodName)), (Cond.instanceMethod ({ cls := "java/lang/Throwable", name := "<init>", desc := "(Ljava/lang/String;)V" } : Jvm.MethodName)), (Cond.code ({ cls := "java/lang/Throwable", name := "<init>", desc := "(Ljava/lang/String;)V" } : Jvm.MethodName) prog_28_method_2_code (2 : Nat) (Option.none : Option Jvm.ClassFile.FieldType)), (Cond.fieldLink "java/lang/Throwable" (31 : Nat) "java/lang/Throwable" "detailMessage" "Ljava/lang/String;"), (Cond.fieldLink "java/lang/Throwable" (7 : Nat) "java/lang/Throwable" "cause" "Ljava/lang/Throwable;"), (Cond.fieldLink "java/lang/Throwable" (17 : Nat) "java/lang/Throwable" "stackTrace" "[Ljava/lang/StackTraceElement;"), (Cond.fieldLink "java/lang/Throwable" (24 : Nat) "java/lang/Throwable" "suppressedExceptions" "Ljava/util/List;"), (Cond.instantiable "java/util/NoSuchElementException" (6 : Nat)), (Cond.castable "java/util/NoSuchElementException" "java/util/NoSuchElementException"), (Cond.selects "java/util/NoSuchElementException" ({ cls := "java/lang/Throwable", name := "fillInStackTrace", desc := "(I)Ljava/lang/Throwable;" } : Jvm.MethodName) ({ cls := "java/lang/Throwable", name := "fillInStackTrace", desc := "(I)Ljava/lang/Throwable;" } : Jvm.MethodName)), (Cond.lays "java/util/NoSuchElementException" "java/lang/Throwable" "cause" "Ljava/lang/Throwable;"), (Cond.lays "java/util/NoSuchElementException" "java/lang/Throwable" "stackTrace" "[Ljava/lang/StackTraceElement;"), (Cond.lays "java/util/NoSuchElementException" "java/lang/Throwable" "suppressedExceptions" "Ljava/util/List;"), (Cond.lays "java/util/NoSuchElementException" "java/lang/Throwable" "detailMessage" "Ljava/lang/String;"), (Cond.lays "java/util/NoSuchElementException" "java/lang/Throwable" "backtrace" "Ljava/lang/Object;"), (Cond.methodLink "Tilecount" (227 : Nat) ({ cls := "java/util/NoSuchElementException", name := "<init>", desc := "(Ljava/lang/String;)V" } : Jvm.MethodName)), (Cond.instanceMethod ({ cls := "java/util/NoSuchElementException", name := "<init>", desc := "(Ljava/lang/String;)V" } : Jvm.MethodName)), (Cond.code ({ cls := "java/util/NoSuchElementException", name := "<init>", desc := "(Ljava/lang/String;)V" } : Jvm.MethodName) prog_31_method_4_code (2 : Nat) (Option.none : Option Jvm.ClassFile.FieldType)), (Cond.methodLink "java/util/NoSuchElementException" (13 : Nat) ({ cls := "java/lang/RuntimeException", name := "<init>", desc := "(Ljava/lang/String;)V" } : Jvm.MethodName)), (Cond.lays "java/util/NoSuchElementException" "java/lang/Throwable" "depth" "I"), (Cond.superclass "java/util/NoSuchElementException" "java/lang/RuntimeException"), (Cond.castable "java/util/NoSuchElementException" "java/lang/Object"), (Cond.castable "java/lang/Throwable" "java/lang/Object")]
theorem tq_tm_11_227 : ∀ w ∈ tq_tl_11_227, w ∈ lw_tbl := List.forall_mem_cons.mpr ⟨tq_i1 14 rfl, List.forall_mem_cons.mpr ⟨tq_i1 15 rfl, List.forall_mem_cons.mpr ⟨tq_i1 16 rfl, List.forall_mem_cons.mpr ⟨tq_i1 26 rfl, List.forall_mem_cons.mpr ⟨tq_i1 36 rfl, List.forall_mem_cons.mpr ⟨tq_i1 37 rfl, List.forall_mem_cons.mpr ⟨tq_i5 84 rfl, List.forall_mem_cons.mpr ⟨tq_i5 85 rfl, List.forall_mem_cons.mpr ⟨tq_i5 86 rfl, List.forall_mem_cons.mpr ⟨tq_i5 87 rfl, List.forall_mem_cons.mpr ⟨tq_i5 88 rfl, List.forall_mem_cons.mpr ⟨tq_i5 89 rfl, List.forall_mem_cons.mpr ⟨tq_i5 93 rfl, List.forall_mem_cons.mpr ⟨tq_i5 95 rfl, List.forall_mem_cons.mpr ⟨tq_i5 97 rfl, List.forall_mem_cons.mpr ⟨tq_i5 99 rfl, List.forall_mem_cons.mpr ⟨tq_i5 101 rfl, List.forall_mem_cons.mpr ⟨tq_i5 102 rfl, List.forall_mem_cons.mpr ⟨tq_i5 103 rfl, List.forall_mem_cons.mpr ⟨tq_i5 104 rfl, List.forall_mem_cons.mpr ⟨tq_i5 105 rfl, List.forall_mem_cons.mpr ⟨tq_i5 106 rfl, List.forall_mem_cons.mpr ⟨tq_i5 107 rfl, List.forall_mem_cons.mpr ⟨tq_i5 109 rfl, List.forall_mem_cons.mpr ⟨tq_i5 111 rfl, List.forall_mem_cons.mpr ⟨tq_i5 112 rfl, List.forall_mem_cons.mpr ⟨tq_i5 119 rfl, List.forall_mem_cons.mpr ⟨tq_i5 120 rfl, List.forall_mem_cons.mpr ⟨tq_i5 121 rfl, List.forall_mem_cons.mpr ⟨tq_i5 123 rfl, List.forall_mem_cons.mpr ⟨tq_i5 124 rfl, List.forall_mem_cons.mpr ⟨tq_i5 125 rfl, List.forall_mem_cons.mpr ⟨tq_i5 131 rfl, List.forall_mem_cons.mpr ⟨tq_i5 132 rfl, List.forall_mem_cons.mpr ⟨tq_i5 133 rfl, List.forall_mem_cons.mpr ⟨tq_i5 134 rfl, List.forall_mem_cons.mpr ⟨tq_i5 135 rfl, List.forall_mem_cons.mpr ⟨tq_i5 136 rfl, List.forall_mem_cons.mpr ⟨tq_i5 137 rfl, List.forall_mem_cons.mpr ⟨tq_i5 138 rfl, List.forall_mem_cons.mpr ⟨tq_i5 140 rfl, List.forall_mem_cons.mpr ⟨tq_i5 141 rfl, List.forall_mem_cons.mpr ⟨tq_i5 142 rfl, List.forall_mem_cons.mpr ⟨tq_i5 143 rfl, List.forall_mem_cons.mpr ⟨tq_i6 84 rfl, List.forall_mem_cons.mpr ⟨tq_i6 85 rfl, List.forall_mem_cons.mpr ⟨tq_i6 86 rfl, List.forall_mem_cons.mpr ⟨tq_i6 87 rfl, List.forall_mem_cons.mpr ⟨tq_i6 88 rfl, List.forall_mem_cons.mpr ⟨tq_i6 89 rfl, List.forall_mem_cons.mpr ⟨tq_i6 90 rfl, List.forall_mem_cons.mpr ⟨tq_i6 91 rfl, List.forall_mem_cons.mpr ⟨tq_i6 93 rfl, List.forall_mem_cons.mpr ⟨tq_i6 94 rfl, List.forall_mem_cons.mpr ⟨tq_i6 95 rfl, List.forall_mem_cons.mpr ⟨tq_i6 96 rfl, List.forall_mem_cons.mpr ⟨tq_i6 97 rfl, List.forall_mem_cons.mpr ⟨tq_i6 98 rfl, List.forall_mem_cons.mpr ⟨tq_i10 192 rfl, List.forall_mem_cons.mpr ⟨tq_i10 195 rfl, fun _ h => nomatch h⟩⟩⟩⟩⟩⟩⟩⟩⟩⟩⟩⟩⟩⟩⟩⟩⟩⟩⟩⟩⟩⟩⟩⟩⟩⟩⟩⟩⟩⟩⟩⟩⟩⟩⟩⟩⟩⟩⟩⟩⟩⟩⟩⟩⟩⟩⟩⟩⟩⟩⟩⟩⟩⟩⟩⟩⟩⟩⟩⟩
theorem tq_tg_11_227 : (∀ w ∈ tq_n_at "Tilecount" 227 "java/util/NoSuchElementException" 13 (⟨#[0x2a, 0x2b, 0xb7, 0x00, 0x0d, 0xb1]⟩ : ByteArray) ["java/lang/RuntimeException", "java/lang/Exception"], w ∈ tq_tl_11_227) ∧ (∀ w ∈ (Cond.instantiable "java/util/NoSuchElementException" 6 :: tq_n_at "Tilecount" 227 "java/util/NoSuchElementException" 13 (⟨#[0x2a, 0x2b, 0xb7, 0x00, 0x0d, 0xb1]⟩ : ByteArray) ["java/lang/RuntimeException", "java/lang/Exception"]).filter (fun w => !goodWord w), tq_nst w = true) ∧ (∀ w ∈ Cond.classLink "Tilecount" 223 "java/util/NoSuchElementException" :: Cond.initialized "java/util/NoSuchElementException" :: Cond.instantiable "java/util/NoSuchElementException" 6 :: tq_n_at "Tilecount" 227 "java/util/NoSuchElementException" 13 (⟨#[0x2a, 0x2b, 0xb7, 0x00, 0x0d, 0xb1]⟩ : ByteArray) ["java/lang/RuntimeException", "java/lang/Exception"], vx_ot w = true) := ⟨by decide +kernel, by decide +kernel, by decide +kernel⟩
theorem th_11_223_225 : tq_tnP 11 223 225 227 "java/util/NoSuchElementException" "the board has no cover" 13 ⟨#[0x2a, 0x2b, 0xb7, 0x00, 0x0d, 0xb1]⟩ "java/lang/RuntimeException" ["java/lang/Exception"] := ⟨tq_i6 83 rfl, tq_i1 26 rfl, tq_i6 84 rfl, List.mem_of_getElem? (i := 9) rfl, fun w h => tq_tm_11_227 w (tq_tg_11_227.1 w h), tq_tg_11_227.2.1, tq_tg_11_227.2.2, by decide +kernel, by decide +kernel, by decide, by decide +kernel, by decide +kernel, by decide +kernel, by decide +kernel⟩
theorem th_11_223_241 : tq_tnP 11 223 241 227 "java/util/NoSuchElementException" "there is no cover" 13 ⟨#[0x2a, 0x2b, 0xb7, 0x00, 0x0d, 0xb1]⟩ "java/lang/RuntimeException" ["java/lang/Exception"] := ⟨tq_i6 83 rfl, tq_i1 26 rfl, tq_i6 84 rfl, List.mem_of_getElem? (i := 10) rfl, fun w h => tq_tm_11_227 w (tq_tg_11_227.1 w h), tq_tg_11_227.2.1, tq_tg_11_227.2.2, by decide +kernel, by decide +kernel, by decide, by decide +kernel, by decide +kernel, by decide +kernel, by decide +kernel⟩
theorem th_11_223_296 : tq_tnP 11 223 296 227 "java/util/NoSuchElementException" "there are no two covers" 13 ⟨#[0x2a, 0x2b, 0xb7, 0x00, 0x0d, 0xb1]⟩ "java/lang/RuntimeException" ["java/lang/Exception"] := ⟨tq_i6 83 rfl, tq_i1 26 rfl, tq_i6 84 rfl, List.mem_of_getElem? (i := 13) rfl, fun w h => tq_tm_11_227 w (tq_tg_11_227.1 w h), tq_tg_11_227.2.1, tq_tg_11_227.2.2, by decide +kernel, by decide +kernel, by decide, by decide +kernel, by decide +kernel, by decide +kernel, by decide +kernel⟩
theorem th_11_223_380 : tq_tnP 11 223 380 227 "java/util/NoSuchElementException" "there is no such exact cover" 13 ⟨#[0x2a, 0x2b, 0xb7, 0x00, 0x0d, 0xb1]⟩ "java/lang/RuntimeException" ["java/lang/Exception"] := ⟨tq_i6 83 rfl, tq_i1 26 rfl, tq_i6 84 rfl, List.mem_of_getElem? (i := 23) rfl, fun w h => tq_tm_11_227 w (tq_tg_11_227.1 w h), tq_tg_11_227.2.1, tq_tg_11_227.2.2, by decide +kernel, by decide +kernel, by decide, by decide +kernel, by decide +kernel, by decide +kernel, by decide +kernel⟩
