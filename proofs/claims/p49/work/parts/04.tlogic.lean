def tq_tys (dA : Nat → ClassId) : List (ClassId × FieldType) := [(dA 0, .int), (dA 1, .boolean), (dA 2, .char), (dA 3, .long)]
theorem tq_tys_get (dA : Nat → ClassId) {t : Nat} (h : t < 4) : (tq_tys dA)[t]? = some (dA t, tq_ty t) := by
  rcases (show t = 0 ∨ t = 1 ∨ t = 2 ∨ t = 3 by omega) with rfl | rfl | rfl | rfl <;> rfl
/-- the constant rows: 900 Growth.ENDS, 901 Growth.FACTORS, 902 the script -/
def tq_ca (K : Nat × (Nat → Int32)) (b : Nat) : Option (Nat × (Nat → Int32)) := match b with
  | 900 => some (tq_ends.length, fun j => tq_ends.getD j 0)
  | 901 => some (tq_facs.length, fun j => tq_facs.getD j 0)
  | 902 => some K
  | _ => none
def tq_nst : Cond → Bool
  | .fieldLinkNest .. => true
  | .methodLinkNest .. => true
  | .castable .. => true
  | .declares .. => true
  | _ => false
theorem tq_nst_warm {w : Cond} (hw : tq_nst w = true) {s U : State} (hW : s.WarmedH U.vm) (h : va_Nw w s) : va_Nw w U := by
  cases w with
  | fieldLinkNest a i b n d hst => exact va_Nw.warmF hW h
  | methodLinkNest a i y hst => exact va_Nw.warmM hW h
  | castable a b => exact va_Nw.warmC hW h
  | declares a => exact va_Nw.warmD hW h
  | _ => cases hw
theorem tq_nst_on {w : Cond} (hw : tq_nst w = true) : w.onTables = true := by
  cases w <;> first | rfl | cases hw
/-- what a method finds beside its world: words of the tables that are no good ones, the statics, the texts -/
def tq_X (K : Nat × (Nat → Int32)) (ρ : Nat → Nat) (A : Nat → Prop) (U : State) (H : Heap) : Prop :=
  (∀ w ∈ lw_tbl, tq_nst w = true → va_Nw w U) ∧ vx_Zq Bundle.tN "UNASSIGNED_STACK" Bundle.steD A U H ∧ vx_Zq Bundle.tN "SUPPRESSED_SENTINEL" Bundle.listD A U H ∧
  (∀ q ∈ tq_strs, ∃ a, vk_R q.1 q.2.1 q.2.2 a U) ∧ (∀ q ∈ tq_ncs, va_Nc q.1 q.2 U) ∧
  (∀ q ∈ tq_sts, va_Z q.1 q.2.1 "[I" (.ref (ρ q.2.2)) A U H) ∧
  (∀ (b n : Nat) (f : Nat → Int32), tq_ca K b = some (n, f) → va_T .int (ρ b) n (fun j => .int (f j)) A U H)
theorem tq_X_go {K : Nat × (Nat → Int32)} {ρ : Nat → Nat} {A B : Nat → Prop} {s U : State} {H H1 : Heap} (h : tq_X K ρ A s H) (hW : s.WarmedH U.vm) (hAB : ∀ q, q < H.size → B q → A q) (hq : ∀ a : Nat, a < H.size → ¬ A a → H1[a]? = H[a]?) : tq_X K ρ B U H1 := by
  have nar : ∀ {q : Nat} {P : Prop}, (∃ cell : Cell, H[q]? = some cell) → (¬ A q) → ¬ B q := fun ⟨_, h1⟩ h2 h3 => h2 (hAB _ (Array.getElem?_eq_some_iff.mp h1).1 h3)
  have zq : ∀ {C n d : String} {v : Value}, va_Z C n d v A s H → va_Z C n d v B U H1 := by
    intro C n d v h
    have h1 := (va_Z.moved (U := U) hW.alike h).kept hq
    obtain ⟨cf, kf, fi, f, a, cell, g1, g2, g3, g4, g5, g6, g7, g8⟩ := h1
    obtain ⟨cf', kf', fi', f', a', cell', e1, e2, e3, e4, e5, e6, e7, e8⟩ := va_Z.moved (U := U) hW.alike h
    cases g1.symm.trans e1
    cases g4.symm.trans e4
    exact ⟨cf, kf, fi, f, a, cell, g1, g2, g3, g4, g5, g6, g7, fun z => g8 (hAB _ (Array.getElem?_eq_some_iff.mp e5).1 z)⟩
  have xq : ∀ {C n d : String}, vx_Zq C n d A s H → vx_Zq C n d B U H1 := by
    intro C n d h
    refine ⟨?_, ?_⟩
    · rcases h.1 with h9 | ⟨t, h9⟩
      · exact Or.inl (zq h9)
      · exact Or.inr ⟨t, zq h9⟩
    · obtain ⟨c, k, i, f, a, cell, h1, h2, h3, h4, h5, h6, h7, h8, h9, h10⟩ := vx_L.moved (U := U) hW.alike h.2
      exact ⟨c, k, i, f, a, cell, h1, h2, h3, h4, by rw [hq a (Array.getElem?_eq_some_iff.mp h5).1 h10]; exact h5, h6, h7, h8, h9, fun z => h10 (hAB _ (Array.getElem?_eq_some_iff.mp h5).1 z)⟩
  obtain ⟨x1, x2, x3, x4, x5, x6, x7⟩ := h
  refine ⟨fun w h1 h2 => tq_nst_warm h2 hW (x1 w h1 h2), xq x2, xq x3, fun q hq => ?_, fun q hq => va_Nc.moved hW.alike (x5 q hq), fun q h1 => zq (x6 q h1), fun b n f h1 => ?_⟩
  · obtain ⟨a, ha⟩ := x4 q hq
    exact ⟨a, vk_R.warm hW ha⟩
  · obtain ⟨cell, h2, h3, h4, h5, h6, h7, h8⟩ := va_T.moved (U := U) hW.alike (x7 b n f h1)
    exact ⟨cell, by rw [hq _ (Array.getElem?_eq_some_iff.mp h2).1 h8]; exact h2, h3, h4, h5, h6, h7, fun z => h8 (hAB _ (Array.getElem?_eq_some_iff.mp h2).1 z)⟩
/-- the words that a contract takes over from its caller -/
def tq_TS : List Cond := lw_tbl.filter goodWord
def tq_ws (M : tq_MD) : List Cond := tq_cw M :: tq_TS
def tq_rm (d x : Nat) : Room := { frames := 8 + d, cells := x, slots := 6 * x, locals := 200 + 64 * d }
theorem tq_cw_good (M : tq_MD) : goodWord (tq_cw M) = true := by
  unfold tq_cw
  split <;> rfl
theorem tq_ws_good (M : tq_MD) (h : tq_cw M ∈ lw_tbl) : GoodIn lw_tbl (tq_ws M) := by
  intro w hw
  rcases List.mem_cons.mp hw with rfl | hw
  · exact ⟨h, good_of_word (tq_cw_good M)⟩
  · obtain ⟨h1, h2⟩ := List.mem_filter.mp hw
    exact ⟨h1, good_of_word h2⟩
abbrev tq_O : Type := Option Value ⊕ Nat
/-- what stays fixed along a walk -/
def tq_F (K : Nat × (Nat → Int32)) (M : tq_MD) (p : Program) (l : Launch) (R : Room) (s : State) (m : MethodId) (args : Array Value) (meth : Method) (c : Code) (ρ : Nat → Nat) (D : va_G) (dA : Nat → ClassId) (A : Nat → Prop) (d mc ms : Nat) : Prop :=
  p.tables.exec = Jvm.exec ∧ c.code = M.2.1 ∧ meth.sig.returnType = M.2.2.2.1 ∧ c.maxLocals = M.2.2.1 ∧ s.vm.findClass (tq_cn M.2.2.2.2.2) = some m.cls ∧ (∀ w ∈ lw_tbl, goodWord w = true → w.before args s = true) ∧
  meth.locks = false ∧ c.exceptionTable.toList = tableOf M.2.2.2.2.1 ∧ va_K D tq_cl (tq_tys dA) s ∧ tq_X K ρ A s s.heap ∧ (∀ q, s.heap.size ≤ q → A q) ∧
  mc ≤ R.cells ∧ ms ≤ R.slots ∧ 8 + d ≤ R.frames ∧ 200 + 64 * d ≤ R.locals ∧ l.stackTraces = false
/-- what moves -/
def tq_V (M : tq_MD) (s : State) (ρ : Nat → Nat) (D : va_G) (dA : Nat → ClassId) (A : Nat → Prop) (mc ms : Nat) (H : Heap) (locs : List Loc) (cells slots : Nat) (ls : Array Slot) (x : Nat) (L : List Value) (z : tq_S) : Prop :=
  va_P D tq_cl (tq_W tq_sh ρ dA z) H ∧ va_D A (tq_W tq_sh ρ dA z) ∧ va_S A s.heap H locs ∧ tq_lv ρ ls M.2.2.1 L ∧ cells + x ≤ mc ∧ slots + 6 * x ≤ ms
def tq_Qc (ρ : Nat → Nat) (D : va_G) (dA : Nat → ClassId) (A : Nat → Prop) (Q : tq_O → tq_S → Prop) : Array Value → State → Outcome → State → Prop := fun _ st o t =>
  (∃ (v : Option Value) (z : tq_S), o = .returned (v.map (tq_tr ρ)) ∧ Q (.inl v) z ∧ va_P D tq_cl (tq_W tq_sh ρ dA z) t.heap ∧ va_D A (tq_W tq_sh ρ dA z)) ∧ va_F A st t
def tq_Xc (ρ : Nat → Nat) (D : va_G) (dA : Nat → ClassId) (A : Nat → Prop) (Q : tq_O → tq_S → Prop) : String → State → State → Prop := fun E st t =>
  (∃ (k : Nat) (z : tq_S), tq_exn[k]? = some E ∧ Q (.inr k) z ∧ va_P D tq_cl (tq_W tq_sh ρ dA z) t.heap ∧ va_D A (tq_W tq_sh ρ dA z)) ∧ va_F A st t
/-- from this frame the method comes to an end with Q, whatever stands around it -/
def tq_T (K : Nat × (Nat → Int32)) (d x : Nat) (M : tq_MD) (pc : Nat) (L st : List Value) (z : tq_S) (Q : tq_O → tq_S → Prop) : Prop :=
  ∀ (p : Program) (l : Launch) (e : Env) (R : Room) (s : State) (m : MethodId) (args : Array Value) (below : List Frame) (meth : Method) (c : Code) (ρ : Nat → Nat) (D : va_G) (dA : Nat → ClassId) (A : Nat → Prop) (mc ms : Nat),
    tq_F K M p l R s m args meth c ρ D dA A d mc ms → ∀ (H : Heap) (locs : List Loc) (cells slots : Nat) (ls : Array Slot), tq_V M s ρ D dA A mc ms H locs cells slots ls x L z →
    W p l e R s m args below meth c H locs cells slots (vx_MQ below (tq_Qc ρ D dA A Q) (tq_Xc ρ D dA A Q) args s mc ms A) (F0 m pc ls (st.map (tq_tr ρ)))
theorem tq_T_mono {K : Nat × (Nat → Int32)} {d x : Nat} {M : tq_MD} {pc : Nat} {L st : List Value} {z : tq_S} {Q Q' : tq_O → tq_S → Prop} (h : tq_T K d x M pc L st z Q) (hQ : ∀ o z', Q o z' → Q' o z') : tq_T K d x M pc L st z Q' := by
  intro p l e R s m args below meth c ρ D dA A mc ms F H locs cells slots ls V T hT X
  obtain ⟨t, st1, o, b1, b2, b3⟩ := h p l e R s m args below meth c ρ D dA A mc ms F H locs cells slots ls V T hT X
  refine ⟨t, st1, o, b1, b2, ?_⟩
  rcases b3 with ⟨⟨⟨v, z', e1, e2, e3⟩, e4⟩, e5⟩ | ⟨q, e1, E, ce, L2, ⟨⟨k, z', f1, f2, f3⟩, f4⟩, f5⟩
  · exact Or.inl ⟨⟨⟨v, z', e1, hQ _ _ e2, e3⟩, e4⟩, e5⟩
  · exact Or.inr ⟨q, e1, E, ce, L2, ⟨⟨k, z', f1, hQ _ _ f2, f3⟩, f4⟩, f5⟩
theorem tq_T_less {K : Nat × (Nat → Int32)} {d x : Nat} {M : tq_MD} {pc : Nat} {L L' st : List Value} {z : tq_S} {Q : tq_O → tq_S → Prop} (h : tq_T K d x M pc L' st z Q) (hl : L'.length = L.length) (hi : ∀ (i : Nat) (v : Value), L'[i]? = some v → tq_nn v = true → L[i]? = some v) : tq_T K d x M pc L st z Q :=
  fun p l e R s m args below meth c ρ D dA A mc ms F H locs cells slots ls ⟨v1, v2, v3, v4, v5⟩ => h p l e R s m args below meth c ρ D dA A mc ms F H locs cells slots ls ⟨v1, v2, v3, tq_lv_less v4 hl hi, v5⟩
