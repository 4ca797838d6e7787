/-- the shape's numbers of a field's kind are those of its descriptor -/
def tq_shk (c : (Nat × Nat) ⊕ (Nat × List (Nat × Nat))) : Bool := match c with
  | .inl _ => true
  | .inr o => match tq_cl[o.1]? with
    | none => false
    | some (_, T, _) => (List.range o.2.length).all (fun k => match o.2[k]? with
      | some (1, w) => !(T k).2.2.2 && decide (parseFieldDescriptor (T k).2.2.1 = some (tq_ty w))
      | some (2, _) => !(T k).2.2.2 && decide (parseFieldDescriptor (T k).2.2.1 = some .long)
      | _ => true)
theorem tq_sh_k : ∀ c ∈ tq_sh, tq_shk c = true := by decide +kernel
theorem tq_sh_ty {b ci fn w : Nat} {fs : List (Nat × Nat)} {C : String} {T : u_T} {N : Nat} (hb : tq_sh[b]? = some (.inr (ci, fs))) (hc : tq_cl[ci]? = some (C, T, N)) (hq : fs[fn]? = some (1, w)) : (T fn).2.2.2 = false ∧ parseFieldDescriptor (T fn).2.2.1 = some (tq_ty w) := by
  have h := tq_sh_k _ (List.mem_of_getElem? hb)
  simp only [tq_shk, hc] at h
  have h1 := List.all_eq_true.mp h fn (List.mem_range.mpr (List.getElem?_eq_some_iff.mp hq).1)
  simp only [hq, Bool.and_eq_true, Bool.not_eq_true', decide_eq_true_eq] at h1
  exact h1
theorem tq_sh_tyl {b ci fn w : Nat} {fs : List (Nat × Nat)} {C : String} {T : u_T} {N : Nat} (hb : tq_sh[b]? = some (.inr (ci, fs))) (hc : tq_cl[ci]? = some (C, T, N)) (hq : fs[fn]? = some (2, w)) : (T fn).2.2.2 = false ∧ parseFieldDescriptor (T fn).2.2.1 = some .long := by
  have h := tq_sh_k _ (List.mem_of_getElem? hb)
  simp only [tq_shk, hc] at h
  have h1 := List.all_eq_true.mp h fn (List.mem_range.mpr (List.getElem?_eq_some_iff.mp hq).1)
  simp only [hq, Bool.and_eq_true, Bool.not_eq_true', decide_eq_true_eq] at h1
  exact h1
theorem tq_s_iconst {K : Nat × (Nat → Int32)} {d x : Nat} {M : tq_MD} {pc : Nat} {L st : List Value} {z : tq_S} {Q : tq_O → tq_S → Prop} {n : Int} (hd : decode M.2.1 pc = .ok (.iconst n, 1)) (k : tq_T K d x M (pc + 1) L (.int (Int32.ofInt n) :: st) z Q) : tq_T K d x M pc L (st) z Q := by
  intro p l e R s m args below meth c ρ D dA A mc ms F H locs cells slots ls V
  exact lv_iconst F.1 F.2.1 hd rfl (k p l e R s m args below meth c ρ D dA A mc ms F H locs cells slots ls V)
theorem tq_s_bipush {K : Nat × (Nat → Int32)} {d x : Nat} {M : tq_MD} {pc : Nat} {L st : List Value} {z : tq_S} {Q : tq_O → tq_S → Prop} {n : Int} (hd : decode M.2.1 pc = .ok (.bipush n, 2)) (k : tq_T K d x M (pc + 2) L (.int (Int8.ofInt n).toInt32 :: st) z Q) : tq_T K d x M pc L (st) z Q := by
  intro p l e R s m args below meth c ρ D dA A mc ms F H locs cells slots ls V
  exact lv_bipush F.1 F.2.1 hd rfl (k p l e R s m args below meth c ρ D dA A mc ms F H locs cells slots ls V)
theorem tq_s_sipush {K : Nat × (Nat → Int32)} {d x : Nat} {M : tq_MD} {pc : Nat} {L st : List Value} {z : tq_S} {Q : tq_O → tq_S → Prop} {n : Int} (hd : decode M.2.1 pc = .ok (.sipush n, 3)) (k : tq_T K d x M (pc + 3) L (.int (Int16.ofInt n).toInt32 :: st) z Q) : tq_T K d x M pc L (st) z Q := by
  intro p l e R s m args below meth c ρ D dA A mc ms F H locs cells slots ls V
  exact lv_sipush F.1 F.2.1 hd rfl (k p l e R s m args below meth c ρ D dA A mc ms F H locs cells slots ls V)
theorem tq_s_lconst {K : Nat × (Nat → Int32)} {d x : Nat} {M : tq_MD} {pc : Nat} {L st : List Value} {z : tq_S} {Q : tq_O → tq_S → Prop} {n : Fin 2} (hd : decode M.2.1 pc = .ok (.lconst n, 1)) (k : tq_T K d x M (pc + 1) L (.long (Int64.ofNat n) :: st) z Q) : tq_T K d x M pc L (st) z Q := by
  intro p l e R s m args below meth c ρ D dA A mc ms F H locs cells slots ls V
  exact lv_lconst F.1 F.2.1 hd rfl (k p l e R s m args below meth c ρ D dA A mc ms F H locs cells slots ls V)
theorem tq_s_fconst0 {K : Nat × (Nat → Int32)} {d x : Nat} {M : tq_MD} {pc : Nat} {L st : List Value} {z : tq_S} {Q : tq_O → tq_S → Prop}  (hd : decode M.2.1 pc = .ok (.fconst 0, 1)) (k : tq_T K d x M (pc + 1) L (.float FP.fconst0 :: st) z Q) : tq_T K d x M pc L (st) z Q := by
  intro p l e R s m args below meth c ρ D dA A mc ms F H locs cells slots ls V
  exact lv_fconst0 F.1 F.2.1 hd  (k p l e R s m args below meth c ρ D dA A mc ms F H locs cells slots ls V)
theorem tq_s_dconst0 {K : Nat × (Nat → Int32)} {d x : Nat} {M : tq_MD} {pc : Nat} {L st : List Value} {z : tq_S} {Q : tq_O → tq_S → Prop}  (hd : decode M.2.1 pc = .ok (.dconst 0, 1)) (k : tq_T K d x M (pc + 1) L (.double FP.dconst0 :: st) z Q) : tq_T K d x M pc L (st) z Q := by
  intro p l e R s m args below meth c ρ D dA A mc ms F H locs cells slots ls V
  exact lv_dconst0 F.1 F.2.1 hd  (k p l e R s m args below meth c ρ D dA A mc ms F H locs cells slots ls V)
theorem tq_s_iload_n {K : Nat × (Nat → Int32)} {d x : Nat} {M : tq_MD} {pc : Nat} {L st : List Value} {z : tq_S} {Q : tq_O → tq_S → Prop} {kk : Fin 4} {v : Int32} (hd : decode M.2.1 pc = .ok (.iload_n kk, 1)) (hi : L[(kk : Nat)]? = some (.int v)) (k : tq_T K d x M (pc + 1) L (.int v :: st) z Q) : tq_T K d x M pc L (st) z Q := by
  intro p l e R s m args below meth c ρ D dA A mc ms F H locs cells slots ls V
  exact lv_iload_n F.1 F.2.1 hd rfl (tq_lv_at V.2.2.2.1 hi rfl) (k p l e R s m args below meth c ρ D dA A mc ms F H locs cells slots ls V)
theorem tq_s_iload {K : Nat × (Nat → Int32)} {d x : Nat} {M : tq_MD} {pc : Nat} {L st : List Value} {z : tq_S} {Q : tq_O → tq_S → Prop} {i : Nat} {v : Int32} (hd : decode M.2.1 pc = .ok (.iload i, 2)) (hi : L[i]? = some (.int v)) (k : tq_T K d x M (pc + 2) L (.int v :: st) z Q) : tq_T K d x M pc L (st) z Q := by
  intro p l e R s m args below meth c ρ D dA A mc ms F H locs cells slots ls V
  exact lv_iload F.1 F.2.1 hd (tq_lv_at V.2.2.2.1 hi rfl) (k p l e R s m args below meth c ρ D dA A mc ms F H locs cells slots ls V)
theorem tq_s_lload_n {K : Nat × (Nat → Int32)} {d x : Nat} {M : tq_MD} {pc : Nat} {L st : List Value} {z : tq_S} {Q : tq_O → tq_S → Prop} {kk : Fin 4} {v : Int64} (hd : decode M.2.1 pc = .ok (.lload_n kk, 1)) (hi : L[(kk : Nat)]? = some (.long v)) (k : tq_T K d x M (pc + 1) L (.long v :: st) z Q) : tq_T K d x M pc L (st) z Q := by
  intro p l e R s m args below meth c ρ D dA A mc ms F H locs cells slots ls V
  exact lv_lload_n F.1 F.2.1 hd rfl (tq_lv_at V.2.2.2.1 hi rfl) (k p l e R s m args below meth c ρ D dA A mc ms F H locs cells slots ls V)
theorem tq_s_lload {K : Nat × (Nat → Int32)} {d x : Nat} {M : tq_MD} {pc : Nat} {L st : List Value} {z : tq_S} {Q : tq_O → tq_S → Prop} {i : Nat} {v : Int64} (hd : decode M.2.1 pc = .ok (.lload i, 2)) (hi : L[i]? = some (.long v)) (k : tq_T K d x M (pc + 2) L (.long v :: st) z Q) : tq_T K d x M pc L (st) z Q := by
  intro p l e R s m args below meth c ρ D dA A mc ms F H locs cells slots ls V
  exact lv_lload F.1 F.2.1 hd (tq_lv_at V.2.2.2.1 hi rfl) (k p l e R s m args below meth c ρ D dA A mc ms F H locs cells slots ls V)
theorem tq_s_aload_n {K : Nat × (Nat → Int32)} {d x : Nat} {M : tq_MD} {pc : Nat} {L st : List Value} {z : tq_S} {Q : tq_O → tq_S → Prop} {kk : Fin 4} {v : Nat} (hd : decode M.2.1 pc = .ok (.aload_n kk, 1)) (hi : L[(kk : Nat)]? = some (.ref v)) (k : tq_T K d x M (pc + 1) L (.ref v :: st) z Q) : tq_T K d x M pc L (st) z Q := by
  intro p l e R s m args below meth c ρ D dA A mc ms F H locs cells slots ls V
  exact lv_aload_n F.1 F.2.1 hd rfl (tq_lv_at V.2.2.2.1 hi rfl) (k p l e R s m args below meth c ρ D dA A mc ms F H locs cells slots ls V)
theorem tq_s_aload {K : Nat × (Nat → Int32)} {d x : Nat} {M : tq_MD} {pc : Nat} {L st : List Value} {z : tq_S} {Q : tq_O → tq_S → Prop} {i : Nat} {v : Nat} (hd : decode M.2.1 pc = .ok (.aload i, 2)) (hi : L[i]? = some (.ref v)) (k : tq_T K d x M (pc + 2) L (.ref v :: st) z Q) : tq_T K d x M pc L (st) z Q := by
  intro p l e R s m args below meth c ρ D dA A mc ms F H locs cells slots ls V
  exact lv_aload F.1 F.2.1 hd (tq_lv_at V.2.2.2.1 hi rfl) (k p l e R s m args below meth c ρ D dA A mc ms F H locs cells slots ls V)
theorem tq_s_fload_n {K : Nat × (Nat → Int32)} {d x : Nat} {M : tq_MD} {pc : Nat} {L st : List Value} {z : tq_S} {Q : tq_O → tq_S → Prop} {kk : Fin 4} {v : UInt32} (hd : decode M.2.1 pc = .ok (.fload_n kk, 1)) (hi : L[(kk : Nat)]? = some (.float v)) (k : tq_T K d x M (pc + 1) L (.float v :: st) z Q) : tq_T K d x M pc L (st) z Q := by
  intro p l e R s m args below meth c ρ D dA A mc ms F H locs cells slots ls V
  exact lv_fload_n F.1 F.2.1 hd rfl (tq_lv_at V.2.2.2.1 hi rfl) (k p l e R s m args below meth c ρ D dA A mc ms F H locs cells slots ls V)
theorem tq_s_fload {K : Nat × (Nat → Int32)} {d x : Nat} {M : tq_MD} {pc : Nat} {L st : List Value} {z : tq_S} {Q : tq_O → tq_S → Prop} {i : Nat} {v : UInt32} (hd : decode M.2.1 pc = .ok (.fload i, 2)) (hi : L[i]? = some (.float v)) (k : tq_T K d x M (pc + 2) L (.float v :: st) z Q) : tq_T K d x M pc L (st) z Q := by
  intro p l e R s m args below meth c ρ D dA A mc ms F H locs cells slots ls V
  exact lv_fload F.1 F.2.1 hd (tq_lv_at V.2.2.2.1 hi rfl) (k p l e R s m args below meth c ρ D dA A mc ms F H locs cells slots ls V)
theorem tq_s_dload_n {K : Nat × (Nat → Int32)} {d x : Nat} {M : tq_MD} {pc : Nat} {L st : List Value} {z : tq_S} {Q : tq_O → tq_S → Prop} {kk : Fin 4} {v : UInt64} (hd : decode M.2.1 pc = .ok (.dload_n kk, 1)) (hi : L[(kk : Nat)]? = some (.double v)) (k : tq_T K d x M (pc + 1) L (.double v :: st) z Q) : tq_T K d x M pc L (st) z Q := by
  intro p l e R s m args below meth c ρ D dA A mc ms F H locs cells slots ls V
  exact lv_dload_n F.1 F.2.1 hd rfl (tq_lv_at V.2.2.2.1 hi rfl) (k p l e R s m args below meth c ρ D dA A mc ms F H locs cells slots ls V)
theorem tq_s_dload {K : Nat × (Nat → Int32)} {d x : Nat} {M : tq_MD} {pc : Nat} {L st : List Value} {z : tq_S} {Q : tq_O → tq_S → Prop} {i : Nat} {v : UInt64} (hd : decode M.2.1 pc = .ok (.dload i, 2)) (hi : L[i]? = some (.double v)) (k : tq_T K d x M (pc + 2) L (.double v :: st) z Q) : tq_T K d x M pc L (st) z Q := by
  intro p l e R s m args below meth c ρ D dA A mc ms F H locs cells slots ls V
  exact lv_dload F.1 F.2.1 hd (tq_lv_at V.2.2.2.1 hi rfl) (k p l e R s m args below meth c ρ D dA A mc ms F H locs cells slots ls V)
theorem tq_s_istore_n {K : Nat × (Nat → Int32)} {d x : Nat} {M : tq_MD} {pc : Nat} {L st : List Value} {z : tq_S} {Q : tq_O → tq_S → Prop} {kk : Fin 4} {v : Int32} (hd : decode M.2.1 pc = .ok (.istore_n kk, 1)) (hi : (kk : Nat) < M.2.2.1) {L9 : List Value} (hL : tq_st1 L (kk : Nat) (.int v) = L9) (k : tq_T K d x M (pc + 1) L9 st z Q) : tq_T K d x M pc L (.int v :: st) z Q := by
  subst hL
  intro p l e R s m args below meth c ρ D dA A mc ms F H locs cells slots ls V
  obtain ⟨v1, v2, v3, v4, v5⟩ := V
  exact lv_istore_n F.1 F.2.1 hd rfl (tq_lv_has v4) hi rfl (fun ls hl => k p l e R s m args below meth c ρ D dA A mc ms F H locs cells slots ls ⟨v1, v2, v3, tq_lv_st1 v4 hi hl, v5⟩)
theorem tq_s_istore {K : Nat × (Nat → Int32)} {d x : Nat} {M : tq_MD} {pc : Nat} {L st : List Value} {z : tq_S} {Q : tq_O → tq_S → Prop} {i : Nat} {v : Int32} (hd : decode M.2.1 pc = .ok (.istore i, 2)) (hi : i < M.2.2.1) {L9 : List Value} (hL : tq_st1 L i (.int v) = L9) (k : tq_T K d x M (pc + 2) L9 st z Q) : tq_T K d x M pc L (.int v :: st) z Q := by
  subst hL
  intro p l e R s m args below meth c ρ D dA A mc ms F H locs cells slots ls V
  obtain ⟨v1, v2, v3, v4, v5⟩ := V
  exact lv_istore F.1 F.2.1 hd (tq_lv_has v4) hi rfl (fun ls hl => k p l e R s m args below meth c ρ D dA A mc ms F H locs cells slots ls ⟨v1, v2, v3, tq_lv_st1 v4 hi hl, v5⟩)
theorem tq_s_lstore_n {K : Nat × (Nat → Int32)} {d x : Nat} {M : tq_MD} {pc : Nat} {L st : List Value} {z : tq_S} {Q : tq_O → tq_S → Prop} {kk : Fin 4} {v : Int64} (hd : decode M.2.1 pc = .ok (.lstore_n kk, 1)) (hi : (kk : Nat) + 1 < M.2.2.1) {L9 : List Value} (hL : tq_st2 L (kk : Nat) (.long v) = L9) (k : tq_T K d x M (pc + 1) L9 st z Q) : tq_T K d x M pc L (.long v :: st) z Q := by
  subst hL
  intro p l e R s m args below meth c ρ D dA A mc ms F H locs cells slots ls V
  obtain ⟨v1, v2, v3, v4, v5⟩ := V
  exact lv_lstore_n F.1 F.2.1 hd rfl (tq_lv_has v4) hi rfl (fun ls hl => k p l e R s m args below meth c ρ D dA A mc ms F H locs cells slots ls ⟨v1, v2, v3, tq_lv_st2 v4 hi hl, v5⟩)
theorem tq_s_lstore {K : Nat × (Nat → Int32)} {d x : Nat} {M : tq_MD} {pc : Nat} {L st : List Value} {z : tq_S} {Q : tq_O → tq_S → Prop} {i : Nat} {v : Int64} (hd : decode M.2.1 pc = .ok (.lstore i, 2)) (hi : i + 1 < M.2.2.1) {L9 : List Value} (hL : tq_st2 L i (.long v) = L9) (k : tq_T K d x M (pc + 2) L9 st z Q) : tq_T K d x M pc L (.long v :: st) z Q := by
  subst hL
  intro p l e R s m args below meth c ρ D dA A mc ms F H locs cells slots ls V
  obtain ⟨v1, v2, v3, v4, v5⟩ := V
  exact lv_lstore F.1 F.2.1 hd (tq_lv_has v4) hi rfl (fun ls hl => k p l e R s m args below meth c ρ D dA A mc ms F H locs cells slots ls ⟨v1, v2, v3, tq_lv_st2 v4 hi hl, v5⟩)
theorem tq_s_astore_n {K : Nat × (Nat → Int32)} {d x : Nat} {M : tq_MD} {pc : Nat} {L st : List Value} {z : tq_S} {Q : tq_O → tq_S → Prop} {kk : Fin 4} {v : Nat} (hd : decode M.2.1 pc = .ok (.astore_n kk, 1)) (hi : (kk : Nat) < M.2.2.1) {L9 : List Value} (hL : tq_st1 L (kk : Nat) (.ref v) = L9) (k : tq_T K d x M (pc + 1) L9 st z Q) : tq_T K d x M pc L (.ref v :: st) z Q := by
  subst hL
  intro p l e R s m args below meth c ρ D dA A mc ms F H locs cells slots ls V
  obtain ⟨v1, v2, v3, v4, v5⟩ := V
  exact lv_astore_n F.1 F.2.1 hd rfl (tq_lv_has v4) hi rfl (fun ls hl => k p l e R s m args below meth c ρ D dA A mc ms F H locs cells slots ls ⟨v1, v2, v3, tq_lv_st1 v4 hi hl, v5⟩)
theorem tq_s_astore {K : Nat × (Nat → Int32)} {d x : Nat} {M : tq_MD} {pc : Nat} {L st : List Value} {z : tq_S} {Q : tq_O → tq_S → Prop} {i : Nat} {v : Nat} (hd : decode M.2.1 pc = .ok (.astore i, 2)) (hi : i < M.2.2.1) {L9 : List Value} (hL : tq_st1 L i (.ref v) = L9) (k : tq_T K d x M (pc + 2) L9 st z Q) : tq_T K d x M pc L (.ref v :: st) z Q := by
  subst hL
  intro p l e R s m args below meth c ρ D dA A mc ms F H locs cells slots ls V
  obtain ⟨v1, v2, v3, v4, v5⟩ := V
  exact lv_astore F.1 F.2.1 hd (tq_lv_has v4) hi rfl (fun ls hl => k p l e R s m args below meth c ρ D dA A mc ms F H locs cells slots ls ⟨v1, v2, v3, tq_lv_st1 v4 hi hl, v5⟩)
theorem tq_s_fstore_n {K : Nat × (Nat → Int32)} {d x : Nat} {M : tq_MD} {pc : Nat} {L st : List Value} {z : tq_S} {Q : tq_O → tq_S → Prop} {kk : Fin 4} {v : UInt32} (hd : decode M.2.1 pc = .ok (.fstore_n kk, 1)) (hi : (kk : Nat) < M.2.2.1) {L9 : List Value} (hL : tq_st1 L (kk : Nat) (.float v) = L9) (k : tq_T K d x M (pc + 1) L9 st z Q) : tq_T K d x M pc L (.float v :: st) z Q := by
  subst hL
  intro p l e R s m args below meth c ρ D dA A mc ms F H locs cells slots ls V
  obtain ⟨v1, v2, v3, v4, v5⟩ := V
  exact lv_fstore_n F.1 F.2.1 hd rfl (tq_lv_has v4) hi rfl (fun ls hl => k p l e R s m args below meth c ρ D dA A mc ms F H locs cells slots ls ⟨v1, v2, v3, tq_lv_st1 v4 hi hl, v5⟩)
theorem tq_s_fstore {K : Nat × (Nat → Int32)} {d x : Nat} {M : tq_MD} {pc : Nat} {L st : List Value} {z : tq_S} {Q : tq_O → tq_S → Prop} {i : Nat} {v : UInt32} (hd : decode M.2.1 pc = .ok (.fstore i, 2)) (hi : i < M.2.2.1) {L9 : List Value} (hL : tq_st1 L i (.float v) = L9) (k : tq_T K d x M (pc + 2) L9 st z Q) : tq_T K d x M pc L (.float v :: st) z Q := by
  subst hL
  intro p l e R s m args below meth c ρ D dA A mc ms F H locs cells slots ls V
  obtain ⟨v1, v2, v3, v4, v5⟩ := V
  exact lv_fstore F.1 F.2.1 hd (tq_lv_has v4) hi rfl (fun ls hl => k p l e R s m args below meth c ρ D dA A mc ms F H locs cells slots ls ⟨v1, v2, v3, tq_lv_st1 v4 hi hl, v5⟩)
theorem tq_s_dstore_n {K : Nat × (Nat → Int32)} {d x : Nat} {M : tq_MD} {pc : Nat} {L st : List Value} {z : tq_S} {Q : tq_O → tq_S → Prop} {kk : Fin 4} {v : UInt64} (hd : decode M.2.1 pc = .ok (.dstore_n kk, 1)) (hi : (kk : Nat) + 1 < M.2.2.1) {L9 : List Value} (hL : tq_st2 L (kk : Nat) (.double v) = L9) (k : tq_T K d x M (pc + 1) L9 st z Q) : tq_T K d x M pc L (.double v :: st) z Q := by
  subst hL
  intro p l e R s m args below meth c ρ D dA A mc ms F H locs cells slots ls V
  obtain ⟨v1, v2, v3, v4, v5⟩ := V
  exact lv_dstore_n F.1 F.2.1 hd rfl (tq_lv_has v4) hi rfl (fun ls hl => k p l e R s m args below meth c ρ D dA A mc ms F H locs cells slots ls ⟨v1, v2, v3, tq_lv_st2 v4 hi hl, v5⟩)
theorem tq_s_dstore {K : Nat × (Nat → Int32)} {d x : Nat} {M : tq_MD} {pc : Nat} {L st : List Value} {z : tq_S} {Q : tq_O → tq_S → Prop} {i : Nat} {v : UInt64} (hd : decode M.2.1 pc = .ok (.dstore i, 2)) (hi : i + 1 < M.2.2.1) {L9 : List Value} (hL : tq_st2 L i (.double v) = L9) (k : tq_T K d x M (pc + 2) L9 st z Q) : tq_T K d x M pc L (.double v :: st) z Q := by
  subst hL
  intro p l e R s m args below meth c ρ D dA A mc ms F H locs cells slots ls V
  obtain ⟨v1, v2, v3, v4, v5⟩ := V
  exact lv_dstore F.1 F.2.1 hd (tq_lv_has v4) hi rfl (fun ls hl => k p l e R s m args below meth c ρ D dA A mc ms F H locs cells slots ls ⟨v1, v2, v3, tq_lv_st2 v4 hi hl, v5⟩)
theorem tq_s_iinc {K : Nat × (Nat → Int32)} {d x : Nat} {M : tq_MD} {pc : Nat} {L st : List Value} {z : tq_S} {Q : tq_O → tq_S → Prop} {i : Nat} {n : Int} {v : Int32} (hd : decode M.2.1 pc = .ok (.iinc i n, 3)) (hi : L[i]? = some (.int v)) {L9 : List Value} (hL : tq_st1 L i (.int (v + Int32.ofInt n)) = L9) (k : tq_T K d x M (pc + 3) L9 st z Q) : tq_T K d x M pc L st z Q := by
  subst hL
  intro p l e R s m args below meth c ρ D dA A mc ms F H locs cells slots ls V
  obtain ⟨v1, v2, v3, v4, v5⟩ := V
  have hlt : i < M.2.2.1 := by rw [← v4.2.2.1]; exact (List.getElem?_eq_some_iff.mp hi).1
  obtain ⟨kk, hkk⟩ := List.getElem?_of_mem (tq_ll_mem (ρ := ρ) (L := L) (q := (i, .int v)).mpr ⟨_, hi, rfl, rfl⟩)
  exact lv_iinc F.1 F.2.1 hd (tq_lv_has v4) hkk rfl hlt rfl (fun ls hl => k p l e R s m args below meth c ρ D dA A mc ms F H locs cells slots ls ⟨v1, v2, v3, tq_lv_st1 (x := .int (v + Int32.ofInt n)) v4 hlt hl, v5⟩)
theorem tq_s_iadd {K : Nat × (Nat → Int32)} {d x : Nat} {M : tq_MD} {pc : Nat} {L st : List Value} {z : tq_S} {Q : tq_O → tq_S → Prop} {a b : Int32} (hd : decode M.2.1 pc = .ok (.iadd, 1)) (k : tq_T K d x M (pc + 1) L (.int (a + b) :: st) z Q) : tq_T K d x M pc L (.int b :: .int a :: st) z Q := by
  intro p l e R s m args below meth c ρ D dA A mc ms F H locs cells slots ls V
  exact lv_iadd F.1 F.2.1 hd  (k p l e R s m args below meth c ρ D dA A mc ms F H locs cells slots ls V)
theorem tq_s_isub {K : Nat × (Nat → Int32)} {d x : Nat} {M : tq_MD} {pc : Nat} {L st : List Value} {z : tq_S} {Q : tq_O → tq_S → Prop} {a b : Int32} (hd : decode M.2.1 pc = .ok (.isub, 1)) (k : tq_T K d x M (pc + 1) L (.int (a - b) :: st) z Q) : tq_T K d x M pc L (.int b :: .int a :: st) z Q := by
  intro p l e R s m args below meth c ρ D dA A mc ms F H locs cells slots ls V
  exact lv_isub F.1 F.2.1 hd  (k p l e R s m args below meth c ρ D dA A mc ms F H locs cells slots ls V)
theorem tq_s_imul {K : Nat × (Nat → Int32)} {d x : Nat} {M : tq_MD} {pc : Nat} {L st : List Value} {z : tq_S} {Q : tq_O → tq_S → Prop} {a b : Int32} (hd : decode M.2.1 pc = .ok (.imul, 1)) (k : tq_T K d x M (pc + 1) L (.int (a * b) :: st) z Q) : tq_T K d x M pc L (.int b :: .int a :: st) z Q := by
  intro p l e R s m args below meth c ρ D dA A mc ms F H locs cells slots ls V
  exact lv_imul F.1 F.2.1 hd  (k p l e R s m args below meth c ρ D dA A mc ms F H locs cells slots ls V)
theorem tq_s_iand {K : Nat × (Nat → Int32)} {d x : Nat} {M : tq_MD} {pc : Nat} {L st : List Value} {z : tq_S} {Q : tq_O → tq_S → Prop} {a b : Int32} (hd : decode M.2.1 pc = .ok (.iand, 1)) (k : tq_T K d x M (pc + 1) L (.int (a &&& b) :: st) z Q) : tq_T K d x M pc L (.int b :: .int a :: st) z Q := by
  intro p l e R s m args below meth c ρ D dA A mc ms F H locs cells slots ls V
  exact lv_iand F.1 F.2.1 hd  (k p l e R s m args below meth c ρ D dA A mc ms F H locs cells slots ls V)
theorem tq_s_ior {K : Nat × (Nat → Int32)} {d x : Nat} {M : tq_MD} {pc : Nat} {L st : List Value} {z : tq_S} {Q : tq_O → tq_S → Prop} {a b : Int32} (hd : decode M.2.1 pc = .ok (.ior, 1)) (k : tq_T K d x M (pc + 1) L (.int (a ||| b) :: st) z Q) : tq_T K d x M pc L (.int b :: .int a :: st) z Q := by
  intro p l e R s m args below meth c ρ D dA A mc ms F H locs cells slots ls V
  exact lv_ior F.1 F.2.1 hd  (k p l e R s m args below meth c ρ D dA A mc ms F H locs cells slots ls V)
theorem tq_s_ixor {K : Nat × (Nat → Int32)} {d x : Nat} {M : tq_MD} {pc : Nat} {L st : List Value} {z : tq_S} {Q : tq_O → tq_S → Prop} {a b : Int32} (hd : decode M.2.1 pc = .ok (.ixor, 1)) (k : tq_T K d x M (pc + 1) L (.int (a ^^^ b) :: st) z Q) : tq_T K d x M pc L (.int b :: .int a :: st) z Q := by
  intro p l e R s m args below meth c ρ D dA A mc ms F H locs cells slots ls V
  exact lv_ixor F.1 F.2.1 hd  (k p l e R s m args below meth c ρ D dA A mc ms F H locs cells slots ls V)
theorem tq_s_ishl {K : Nat × (Nat → Int32)} {d x : Nat} {M : tq_MD} {pc : Nat} {L st : List Value} {z : tq_S} {Q : tq_O → tq_S → Prop} {a b : Int32} (hd : decode M.2.1 pc = .ok (.ishl, 1)) (k : tq_T K d x M (pc + 1) L (.int (a <<< (b &&& 31)) :: st) z Q) : tq_T K d x M pc L (.int b :: .int a :: st) z Q := by
  intro p l e R s m args below meth c ρ D dA A mc ms F H locs cells slots ls V
  exact lv_ishl F.1 F.2.1 hd  (k p l e R s m args below meth c ρ D dA A mc ms F H locs cells slots ls V)
theorem tq_s_ishr {K : Nat × (Nat → Int32)} {d x : Nat} {M : tq_MD} {pc : Nat} {L st : List Value} {z : tq_S} {Q : tq_O → tq_S → Prop} {a b : Int32} (hd : decode M.2.1 pc = .ok (.ishr, 1)) (k : tq_T K d x M (pc + 1) L (.int (a >>> (b &&& 31)) :: st) z Q) : tq_T K d x M pc L (.int b :: .int a :: st) z Q := by
  intro p l e R s m args below meth c ρ D dA A mc ms F H locs cells slots ls V
  exact lv_ishr F.1 F.2.1 hd  (k p l e R s m args below meth c ρ D dA A mc ms F H locs cells slots ls V)
theorem tq_s_idiv {K : Nat × (Nat → Int32)} {d x : Nat} {M : tq_MD} {pc : Nat} {L st : List Value} {z : tq_S} {Q : tq_O → tq_S → Prop} {a b : Int32} (hd : decode M.2.1 pc = .ok (.idiv, 1)) (hne : ¬ b = 0) (k : tq_T K d x M (pc + 1) L (.int (a / b) :: st) z Q) : tq_T K d x M pc L (.int b :: .int a :: st) z Q := by
  intro p l e R s m args below meth c ρ D dA A mc ms F H locs cells slots ls V
  exact lv_idiv F.1 F.2.1 hd hne (k p l e R s m args below meth c ρ D dA A mc ms F H locs cells slots ls V)
theorem tq_s_irem {K : Nat × (Nat → Int32)} {d x : Nat} {M : tq_MD} {pc : Nat} {L st : List Value} {z : tq_S} {Q : tq_O → tq_S → Prop} {a b : Int32} (hd : decode M.2.1 pc = .ok (.irem, 1)) (hne : ¬ b = 0) (k : tq_T K d x M (pc + 1) L (.int (a - a / b * b) :: st) z Q) : tq_T K d x M pc L (.int b :: .int a :: st) z Q := by
  intro p l e R s m args below meth c ρ D dA A mc ms F H locs cells slots ls V
  exact lv_irem F.1 F.2.1 hd hne (k p l e R s m args below meth c ρ D dA A mc ms F H locs cells slots ls V)
theorem tq_s_ineg {K : Nat × (Nat → Int32)} {d x : Nat} {M : tq_MD} {pc : Nat} {L st : List Value} {z : tq_S} {Q : tq_O → tq_S → Prop} {a : Int32} (hd : decode M.2.1 pc = .ok (.ineg, 1)) (k : tq_T K d x M (pc + 1) L (.int (-a) :: st) z Q) : tq_T K d x M pc L (.int a :: st) z Q := by
  intro p l e R s m args below meth c ρ D dA A mc ms F H locs cells slots ls V
  exact lv_ineg F.1 F.2.1 hd  (k p l e R s m args below meth c ρ D dA A mc ms F H locs cells slots ls V)
theorem tq_s_iushr {K : Nat × (Nat → Int32)} {d x : Nat} {M : tq_MD} {pc : Nat} {L st : List Value} {z : tq_S} {Q : tq_O → tq_S → Prop} {a b : Int32} (hd : decode M.2.1 pc = .ok (.iushr, 1)) (k : tq_T K d x M (pc + 1) L (.int (a.toUInt32 >>> (b.toUInt32 &&& Int32.toUInt32 31)).toInt32 :: st) z Q) : tq_T K d x M pc L (.int b :: .int a :: st) z Q := by
  intro p l e R s m args below meth c ρ D dA A mc ms F H locs cells slots ls V
  exact lv_iushr F.1 F.2.1 hd rfl (k p l e R s m args below meth c ρ D dA A mc ms F H locs cells slots ls V)
theorem tq_s_ladd {K : Nat × (Nat → Int32)} {d x : Nat} {M : tq_MD} {pc : Nat} {L st : List Value} {z : tq_S} {Q : tq_O → tq_S → Prop} {a b : Int64} (hd : decode M.2.1 pc = .ok (.ladd, 1)) (k : tq_T K d x M (pc + 1) L (.long (a + b) :: st) z Q) : tq_T K d x M pc L (.long b :: .long a :: st) z Q := by
  intro p l e R s m args below meth c ρ D dA A mc ms F H locs cells slots ls V
  exact lv_ladd F.1 F.2.1 hd  (k p l e R s m args below meth c ρ D dA A mc ms F H locs cells slots ls V)
theorem tq_s_lsub {K : Nat × (Nat → Int32)} {d x : Nat} {M : tq_MD} {pc : Nat} {L st : List Value} {z : tq_S} {Q : tq_O → tq_S → Prop} {a b : Int64} (hd : decode M.2.1 pc = .ok (.lsub, 1)) (k : tq_T K d x M (pc + 1) L (.long (a - b) :: st) z Q) : tq_T K d x M pc L (.long b :: .long a :: st) z Q := by
  intro p l e R s m args below meth c ρ D dA A mc ms F H locs cells slots ls V
  exact lv_lsub F.1 F.2.1 hd  (k p l e R s m args below meth c ρ D dA A mc ms F H locs cells slots ls V)
theorem tq_s_lmul {K : Nat × (Nat → Int32)} {d x : Nat} {M : tq_MD} {pc : Nat} {L st : List Value} {z : tq_S} {Q : tq_O → tq_S → Prop} {a b : Int64} (hd : decode M.2.1 pc = .ok (.lmul, 1)) (k : tq_T K d x M (pc + 1) L (.long (a * b) :: st) z Q) : tq_T K d x M pc L (.long b :: .long a :: st) z Q := by
  intro p l e R s m args below meth c ρ D dA A mc ms F H locs cells slots ls V
  exact lv_lmul F.1 F.2.1 hd  (k p l e R s m args below meth c ρ D dA A mc ms F H locs cells slots ls V)
theorem tq_s_land {K : Nat × (Nat → Int32)} {d x : Nat} {M : tq_MD} {pc : Nat} {L st : List Value} {z : tq_S} {Q : tq_O → tq_S → Prop} {a b : Int64} (hd : decode M.2.1 pc = .ok (.land, 1)) (k : tq_T K d x M (pc + 1) L (.long (a &&& b) :: st) z Q) : tq_T K d x M pc L (.long b :: .long a :: st) z Q := by
  intro p l e R s m args below meth c ρ D dA A mc ms F H locs cells slots ls V
  exact lv_land F.1 F.2.1 hd  (k p l e R s m args below meth c ρ D dA A mc ms F H locs cells slots ls V)
theorem tq_s_lor {K : Nat × (Nat → Int32)} {d x : Nat} {M : tq_MD} {pc : Nat} {L st : List Value} {z : tq_S} {Q : tq_O → tq_S → Prop} {a b : Int64} (hd : decode M.2.1 pc = .ok (.lor, 1)) (k : tq_T K d x M (pc + 1) L (.long (a ||| b) :: st) z Q) : tq_T K d x M pc L (.long b :: .long a :: st) z Q := by
  intro p l e R s m args below meth c ρ D dA A mc ms F H locs cells slots ls V
  exact lv_lor F.1 F.2.1 hd  (k p l e R s m args below meth c ρ D dA A mc ms F H locs cells slots ls V)
theorem tq_s_lxor {K : Nat × (Nat → Int32)} {d x : Nat} {M : tq_MD} {pc : Nat} {L st : List Value} {z : tq_S} {Q : tq_O → tq_S → Prop} {a b : Int64} (hd : decode M.2.1 pc = .ok (.lxor, 1)) (k : tq_T K d x M (pc + 1) L (.long (a ^^^ b) :: st) z Q) : tq_T K d x M pc L (.long b :: .long a :: st) z Q := by
  intro p l e R s m args below meth c ρ D dA A mc ms F H locs cells slots ls V
  exact lv_lxor F.1 F.2.1 hd  (k p l e R s m args below meth c ρ D dA A mc ms F H locs cells slots ls V)
theorem tq_s_ldiv {K : Nat × (Nat → Int32)} {d x : Nat} {M : tq_MD} {pc : Nat} {L st : List Value} {z : tq_S} {Q : tq_O → tq_S → Prop} {a b : Int64} (hd : decode M.2.1 pc = .ok (.ldiv, 1)) (hne : ¬ b = 0) (k : tq_T K d x M (pc + 1) L (.long (a / b) :: st) z Q) : tq_T K d x M pc L (.long b :: .long a :: st) z Q := by
  intro p l e R s m args below meth c ρ D dA A mc ms F H locs cells slots ls V
  exact lv_ldiv F.1 F.2.1 hd hne (k p l e R s m args below meth c ρ D dA A mc ms F H locs cells slots ls V)
theorem tq_s_lrem {K : Nat × (Nat → Int32)} {d x : Nat} {M : tq_MD} {pc : Nat} {L st : List Value} {z : tq_S} {Q : tq_O → tq_S → Prop} {a b : Int64} (hd : decode M.2.1 pc = .ok (.lrem, 1)) (hne : ¬ b = 0) (k : tq_T K d x M (pc + 1) L (.long (a - a / b * b) :: st) z Q) : tq_T K d x M pc L (.long b :: .long a :: st) z Q := by
  intro p l e R s m args below meth c ρ D dA A mc ms F H locs cells slots ls V
  exact lv_lrem F.1 F.2.1 hd hne (k p l e R s m args below meth c ρ D dA A mc ms F H locs cells slots ls V)
theorem tq_s_lneg {K : Nat × (Nat → Int32)} {d x : Nat} {M : tq_MD} {pc : Nat} {L st : List Value} {z : tq_S} {Q : tq_O → tq_S → Prop} {a : Int64} (hd : decode M.2.1 pc = .ok (.lneg, 1)) (k : tq_T K d x M (pc + 1) L (.long (-a) :: st) z Q) : tq_T K d x M pc L (.long a :: st) z Q := by
  intro p l e R s m args below meth c ρ D dA A mc ms F H locs cells slots ls V
  exact lv_lneg F.1 F.2.1 hd  (k p l e R s m args below meth c ρ D dA A mc ms F H locs cells slots ls V)
theorem tq_s_lshl {K : Nat × (Nat → Int32)} {d x : Nat} {M : tq_MD} {pc : Nat} {L st : List Value} {z : tq_S} {Q : tq_O → tq_S → Prop} {a : Int64} {b : Int32} (hd : decode M.2.1 pc = .ok (.lshl, 1)) (k : tq_T K d x M (pc + 1) L (.long (a <<< (b.toInt64 &&& 63)) :: st) z Q) : tq_T K d x M pc L (.int b :: .long a :: st) z Q := by
  intro p l e R s m args below meth c ρ D dA A mc ms F H locs cells slots ls V
  exact lv_lshl F.1 F.2.1 hd rfl (k p l e R s m args below meth c ρ D dA A mc ms F H locs cells slots ls V)
theorem tq_s_lshr {K : Nat × (Nat → Int32)} {d x : Nat} {M : tq_MD} {pc : Nat} {L st : List Value} {z : tq_S} {Q : tq_O → tq_S → Prop} {a : Int64} {b : Int32} (hd : decode M.2.1 pc = .ok (.lshr, 1)) (k : tq_T K d x M (pc + 1) L (.long (a >>> (b.toInt64 &&& 63)) :: st) z Q) : tq_T K d x M pc L (.int b :: .long a :: st) z Q := by
  intro p l e R s m args below meth c ρ D dA A mc ms F H locs cells slots ls V
  exact lv_lshr F.1 F.2.1 hd rfl (k p l e R s m args below meth c ρ D dA A mc ms F H locs cells slots ls V)
theorem tq_s_lushr {K : Nat × (Nat → Int32)} {d x : Nat} {M : tq_MD} {pc : Nat} {L st : List Value} {z : tq_S} {Q : tq_O → tq_S → Prop} {a : Int64} {b : Int32} (hd : decode M.2.1 pc = .ok (.lushr, 1)) (k : tq_T K d x M (pc + 1) L (.long (a.toUInt64 >>> (b.toInt64.toUInt64 &&& Int64.toUInt64 63)).toInt64 :: st) z Q) : tq_T K d x M pc L (.int b :: .long a :: st) z Q := by
  intro p l e R s m args below meth c ρ D dA A mc ms F H locs cells slots ls V
  exact lv_lushr F.1 F.2.1 hd rfl (k p l e R s m args below meth c ρ D dA A mc ms F H locs cells slots ls V)
theorem tq_s_lcmp {K : Nat × (Nat → Int32)} {d x : Nat} {M : tq_MD} {pc : Nat} {L st : List Value} {z : tq_S} {Q : tq_O → tq_S → Prop} {a b : Int64} (hd : decode M.2.1 pc = .ok (.lcmp, 1)) (k : tq_T K d x M (pc + 1) L (.int (lg_cmp a b) :: st) z Q) : tq_T K d x M pc L (.long b :: .long a :: st) z Q := by
  intro p l e R s m args below meth c ρ D dA A mc ms F H locs cells slots ls V
  exact W.lcmp F.1 F.2.1 hd  (k p l e R s m args below meth c ρ D dA A mc ms F H locs cells slots ls V)
theorem tq_s_i2l {K : Nat × (Nat → Int32)} {d x : Nat} {M : tq_MD} {pc : Nat} {L st : List Value} {z : tq_S} {Q : tq_O → tq_S → Prop} {a : Int32} (hd : decode M.2.1 pc = .ok (.i2l, 1)) (k : tq_T K d x M (pc + 1) L (.long a.toInt64 :: st) z Q) : tq_T K d x M pc L (.int a :: st) z Q := by
  intro p l e R s m args below meth c ρ D dA A mc ms F H locs cells slots ls V
  exact lv_i2l F.1 F.2.1 hd rfl (k p l e R s m args below meth c ρ D dA A mc ms F H locs cells slots ls V)
theorem tq_s_l2i {K : Nat × (Nat → Int32)} {d x : Nat} {M : tq_MD} {pc : Nat} {L st : List Value} {z : tq_S} {Q : tq_O → tq_S → Prop} {a : Int64} (hd : decode M.2.1 pc = .ok (.l2i, 1)) (k : tq_T K d x M (pc + 1) L (.int a.toInt32 :: st) z Q) : tq_T K d x M pc L (.long a :: st) z Q := by
  intro p l e R s m args below meth c ρ D dA A mc ms F H locs cells slots ls V
  exact lv_l2i F.1 F.2.1 hd rfl (k p l e R s m args below meth c ρ D dA A mc ms F H locs cells slots ls V)
theorem tq_s_i2c {K : Nat × (Nat → Int32)} {d x : Nat} {M : tq_MD} {pc : Nat} {L st : List Value} {z : tq_S} {Q : tq_O → tq_S → Prop} {a : Int32} (hd : decode M.2.1 pc = .ok (.i2c, 1)) (k : tq_T K d x M (pc + 1) L (.int (a.toUInt32 % 65536).toInt32 :: st) z Q) : tq_T K d x M pc L (.int a :: st) z Q := by
  intro p l e R s m args below meth c ρ D dA A mc ms F H locs cells slots ls V
  exact lv_i2c F.1 F.2.1 hd rfl (k p l e R s m args below meth c ρ D dA A mc ms F H locs cells slots ls V)
theorem tq_s_l2f {K : Nat × (Nat → Int32)} {d x : Nat} {M : tq_MD} {pc : Nat} {L st : List Value} {z : tq_S} {Q : tq_O → tq_S → Prop} {a : Int64} (hd : decode M.2.1 pc = .ok (.l2f, 1)) (k : tq_T K d x M (pc + 1) L (.float (FP.l2f a) :: st) z Q) : tq_T K d x M pc L (.long a :: st) z Q := by
  intro p l e R s m args below meth c ρ D dA A mc ms F H locs cells slots ls V
  exact lv_l2f F.1 F.2.1 hd  (k p l e R s m args below meth c ρ D dA A mc ms F H locs cells slots ls V)
theorem tq_s_i2d {K : Nat × (Nat → Int32)} {d x : Nat} {M : tq_MD} {pc : Nat} {L st : List Value} {z : tq_S} {Q : tq_O → tq_S → Prop} {a : Int32} (hd : decode M.2.1 pc = .ok (.i2d, 1)) (k : tq_T K d x M (pc + 1) L (.double (FP.i2d a) :: st) z Q) : tq_T K d x M pc L (.int a :: st) z Q := by
  intro p l e R s m args below meth c ρ D dA A mc ms F H locs cells slots ls V
  exact lv_i2d F.1 F.2.1 hd  (k p l e R s m args below meth c ρ D dA A mc ms F H locs cells slots ls V)
theorem tq_s_f2d {K : Nat × (Nat → Int32)} {d x : Nat} {M : tq_MD} {pc : Nat} {L st : List Value} {z : tq_S} {Q : tq_O → tq_S → Prop} {a : UInt32} (hd : decode M.2.1 pc = .ok (.f2d, 1)) (hne : vf_n64 (FP.f2d a)) (k : tq_T K d x M (pc + 1) L (.double (FP.f2d a) :: st) z Q) : tq_T K d x M pc L (.float a :: st) z Q := by
  intro p l e R s m args below meth c ρ D dA A mc ms F H locs cells slots ls V
  exact lv_f2d F.1 F.2.1 hd hne (k p l e R s m args below meth c ρ D dA A mc ms F H locs cells slots ls V)
theorem tq_s_fdiv {K : Nat × (Nat → Int32)} {d x : Nat} {M : tq_MD} {pc : Nat} {L st : List Value} {z : tq_S} {Q : tq_O → tq_S → Prop} {a b : UInt32} (hd : decode M.2.1 pc = .ok (.fdiv, 1)) (hne : vf_n32 (FP.fdiv a b)) (k : tq_T K d x M (pc + 1) L (.float (FP.fdiv a b) :: st) z Q) : tq_T K d x M pc L (.float b :: .float a :: st) z Q := by
  intro p l e R s m args below meth c ρ D dA A mc ms F H locs cells slots ls V
  exact lv_fdiv F.1 F.2.1 hd hne (k p l e R s m args below meth c ρ D dA A mc ms F H locs cells slots ls V)
theorem tq_s_ddiv {K : Nat × (Nat → Int32)} {d x : Nat} {M : tq_MD} {pc : Nat} {L st : List Value} {z : tq_S} {Q : tq_O → tq_S → Prop} {a b : UInt64} (hd : decode M.2.1 pc = .ok (.ddiv, 1)) (hne : vf_n64 (FP.ddiv a b)) (k : tq_T K d x M (pc + 1) L (.double (FP.ddiv a b) :: st) z Q) : tq_T K d x M pc L (.double b :: .double a :: st) z Q := by
  intro p l e R s m args below meth c ρ D dA A mc ms F H locs cells slots ls V
  exact lv_ddiv F.1 F.2.1 hd hne (k p l e R s m args below meth c ρ D dA A mc ms F H locs cells slots ls V)
theorem tq_s_fcmp {K : Nat × (Nat → Int32)} {d x : Nat} {M : tq_MD} {pc : Nat} {L st : List Value} {z : tq_S} {Q : tq_O → tq_S → Prop} {a b : UInt32} {o : CmpOp} (hd : decode M.2.1 pc = .ok (.fcmp o, 1)) (k : tq_T K d x M (pc + 1) L (.int (Op.cmpValue (FP.fcmp a b) o) :: st) z Q) : tq_T K d x M pc L (.float b :: .float a :: st) z Q := by
  intro p l e R s m args below meth c ρ D dA A mc ms F H locs cells slots ls V
  exact lv_fcmp F.1 F.2.1 hd  (k p l e R s m args below meth c ρ D dA A mc ms F H locs cells slots ls V)
theorem tq_s_dcmp {K : Nat × (Nat → Int32)} {d x : Nat} {M : tq_MD} {pc : Nat} {L st : List Value} {z : tq_S} {Q : tq_O → tq_S → Prop} {a b : UInt64} {o : CmpOp} (hd : decode M.2.1 pc = .ok (.dcmp o, 1)) (k : tq_T K d x M (pc + 1) L (.int (Op.cmpValue (FP.dcmp a b) o) :: st) z Q) : tq_T K d x M pc L (.double b :: .double a :: st) z Q := by
  intro p l e R s m args below meth c ρ D dA A mc ms F H locs cells slots ls V
  exact lv_dcmp F.1 F.2.1 hd  (k p l e R s m args below meth c ρ D dA A mc ms F H locs cells slots ls V)
theorem tq_s_dup {K : Nat × (Nat → Int32)} {d x : Nat} {M : tq_MD} {pc : Nat} {L st : List Value} {z : tq_S} {Q : tq_O → tq_S → Prop} {v : Value} (hd : decode M.2.1 pc = .ok (.dup, 1)) (hv : v.category = 1) (k : tq_T K d x M (pc + 1) L (v :: v :: st) z Q) : tq_T K d x M pc L (v :: st) z Q := by
  intro p l e R s m args below meth c ρ D dA A mc ms F H locs cells slots ls V
  exact lv_dup F.1 F.2.1 hd ((tq_tr_cat ρ v).trans hv) (k p l e R s m args below meth c ρ D dA A mc ms F H locs cells slots ls V)
theorem tq_s_dup2_2 {K : Nat × (Nat → Int32)} {d x : Nat} {M : tq_MD} {pc : Nat} {L st : List Value} {z : tq_S} {Q : tq_O → tq_S → Prop} {v : Value} (hd : decode M.2.1 pc = .ok (.dup2, 1)) (hv : v.category = 2) (k : tq_T K d x M (pc + 1) L (v :: v :: st) z Q) : tq_T K d x M pc L (v :: st) z Q := by
  intro p l e R s m args below meth c ρ D dA A mc ms F H locs cells slots ls V
  exact lv_dup2_2 F.1 F.2.1 hd ((tq_tr_cat ρ v).trans hv) (k p l e R s m args below meth c ρ D dA A mc ms F H locs cells slots ls V)
theorem tq_s_dup2_11 {K : Nat × (Nat → Int32)} {d x : Nat} {M : tq_MD} {pc : Nat} {L st : List Value} {z : tq_S} {Q : tq_O → tq_S → Prop} {v w : Value} (hd : decode M.2.1 pc = .ok (.dup2, 1)) (hv : v.category = 1) (hw : w.category = 1) (k : tq_T K d x M (pc + 1) L (v :: w :: v :: w :: st) z Q) : tq_T K d x M pc L (v :: w :: st) z Q := by
  intro p l e R s m args below meth c ρ D dA A mc ms F H locs cells slots ls V
  exact lv_dup2_11 F.1 F.2.1 hd ((tq_tr_cat ρ v).trans hv) ((tq_tr_cat ρ w).trans hw) (k p l e R s m args below meth c ρ D dA A mc ms F H locs cells slots ls V)
theorem tq_s_pop {K : Nat × (Nat → Int32)} {d x : Nat} {M : tq_MD} {pc : Nat} {L st : List Value} {z : tq_S} {Q : tq_O → tq_S → Prop} {v : Value} (hd : decode M.2.1 pc = .ok (.pop, 1)) (hv : v.category = 1) (k : tq_T K d x M (pc + 1) L (st) z Q) : tq_T K d x M pc L (v :: st) z Q := by
  intro p l e R s m args below meth c ρ D dA A mc ms F H locs cells slots ls V
  exact lv_pop F.1 F.2.1 hd ((tq_tr_cat ρ v).trans hv) (k p l e R s m args below meth c ρ D dA A mc ms F H locs cells slots ls V)
theorem tq_s_pop2_2 {K : Nat × (Nat → Int32)} {d x : Nat} {M : tq_MD} {pc : Nat} {L st : List Value} {z : tq_S} {Q : tq_O → tq_S → Prop} {v : Value} (hd : decode M.2.1 pc = .ok (.pop2, 1)) (hv : v.category = 2) (k : tq_T K d x M (pc + 1) L (st) z Q) : tq_T K d x M pc L (v :: st) z Q := by
  intro p l e R s m args below meth c ρ D dA A mc ms F H locs cells slots ls V
  exact lv_pop2_2 F.1 F.2.1 hd ((tq_tr_cat ρ v).trans hv) (k p l e R s m args below meth c ρ D dA A mc ms F H locs cells slots ls V)
theorem tq_s_ifnull {K : Nat × (Nat → Int32)} {d x : Nat} {M : tq_MD} {pc : Nat} {L st : List Value} {z : tq_S} {Q : tq_O → tq_S → Prop} {o : Int} {b : Nat} (hd : decode M.2.1 pc = .ok (.ifnull o, 3)) (k : tq_T K d x M (pc + 3) L (st) z Q) : tq_T K d x M pc L (.ref b :: st) z Q := by
  intro p l e R s m args below meth c ρ D dA A mc ms F H locs cells slots ls V
  exact lv_ifnull F.1 F.2.1 hd  (k p l e R s m args below meth c ρ D dA A mc ms F H locs cells slots ls V)
theorem tq_s_goto {K : Nat × (Nat → Int32)} {d x : Nat} {M : tq_MD} {pc : Nat} {L st : List Value} {z : tq_S} {Q : tq_O → tq_S → Prop} {off : Int} {tgt : Nat} (hd : decode M.2.1 pc = .ok (.goto off, 3)) (ht : (pc : Int) + off = (tgt : Int)) (k : tq_T K d x M tgt L st z Q) : tq_T K d x M pc L st z Q := by
  intro p l e R s m args below meth c ρ D dA A mc ms F H locs cells slots ls V
  exact lv_goto F.1 F.2.1 hd ht (k p l e R s m args below meth c ρ D dA A mc ms F H locs cells slots ls V)
theorem tq_s_ldc2 {K : Nat × (Nat → Int32)} {d x : Nat} {M : tq_MD} {pc : Nat} {L st : List Value} {z : tq_S} {Q : tq_O → tq_S → Prop} {i : Nat} {v : Int64} (hd : decode M.2.1 pc = .ok (.ldc2_w i, 3)) (hi : (i, v) ∈ tq_lk M.2.2.2.2.2) (k : tq_T K d x M (pc + 3) L (.long v :: st) z Q) : tq_T K d x M pc L st z Q := by
  intro p l e R s m args below meth c ρ D dA A mc ms F H locs cells slots ls V
  have hw := tq_lk_ok _ _ hi
  exact lv_ldc2 F.1 F.2.1 F.2.2.2.2.1 (F.2.2.2.2.2.1 _ hw rfl) hd (k p l e R s m args below meth c ρ D dA A mc ms F H locs cells slots ls V)
theorem tq_s_ldc {K : Nat × (Nat → Int32)} {d x : Nat} {M : tq_MD} {pc : Nat} {L st : List Value} {z : tq_S} {Q : tq_O → tq_S → Prop} {i : Nat} {v : Int32} (hd : decode M.2.1 pc = .ok (.ldc i, 2)) (hi : (i, v) ∈ tq_li M.2.2.2.2.2) (k : tq_T K d x M (pc + 2) L (.int v :: st) z Q) : tq_T K d x M pc L st z Q := by
  intro p l e R s m args below meth c ρ D dA A mc ms F H locs cells slots ls V
  have hw := tq_li_ok _ _ hi
  exact lv_ldc F.1 F.2.1 F.2.2.2.2.1 (F.2.2.2.2.2.1 _ hw rfl) hd (k p l e R s m args below meth c ρ D dA A mc ms F H locs cells slots ls V)
theorem tq_s_ldcw {K : Nat × (Nat → Int32)} {d x : Nat} {M : tq_MD} {pc : Nat} {L st : List Value} {z : tq_S} {Q : tq_O → tq_S → Prop} {i : Nat} {v : Int32} (hd : decode M.2.1 pc = .ok (.ldc_w i, 3)) (hi : (i, v) ∈ tq_li M.2.2.2.2.2) (k : tq_T K d x M (pc + 3) L (.int v :: st) z Q) : tq_T K d x M pc L st z Q := by
  intro p l e R s m args below meth c ρ D dA A mc ms F H locs cells slots ls V
  have hw := tq_li_ok _ _ hi
  exact lv_ldcw F.1 F.2.1 F.2.2.2.2.1 (F.2.2.2.2.2.1 _ hw rfl) hd (k p l e R s m args below meth c ρ D dA A mc ms F H locs cells slots ls V)
theorem tq_s_iald {K : Nat × (Nat → Int32)} {d x : Nat} {M : tq_MD} {pc : Nat} {L st : List Value} {z : tq_S} {Q : tq_O → tq_S → Prop} {b n : Nat} {i : Int32} (hd : decode M.2.1 pc = .ok (.iaload, 1)) (hb : tq_sh[b]? = some (.inl (0, n))) (hin : vp_in i n) (k : tq_T K d x M (pc + 1) L (.int (tq_ai z b i.toNatClampNeg) :: st) z Q) : tq_T K d x M pc L (.int i :: .ref b :: st) z Q := by
  intro p l e R s m args below meth c ρ D dA A mc ms F H locs cells slots ls V
  exact va_iald F.1 F.2.1 F.2.2.2.2.2.2.2.2.1 V.1 b 0 (tq_W_get hb) (tq_tys_get dA (by decide)) hin hd (k p l e R s m args below meth c ρ D dA A mc ms F H locs cells slots ls V)
theorem tq_s_zald {K : Nat × (Nat → Int32)} {d x : Nat} {M : tq_MD} {pc : Nat} {L st : List Value} {z : tq_S} {Q : tq_O → tq_S → Prop} {b n : Nat} {i : Int32} (hd : decode M.2.1 pc = .ok (.baload, 1)) (hb : tq_sh[b]? = some (.inl (1, n))) (hin : vp_in i n) (k : tq_T K d x M (pc + 1) L (.int (tq_ai z b i.toNatClampNeg) :: st) z Q) : tq_T K d x M pc L (.int i :: .ref b :: st) z Q := by
  intro p l e R s m args below meth c ρ D dA A mc ms F H locs cells slots ls V
  exact va_zald F.1 F.2.1 F.2.2.2.2.2.2.2.2.1 V.1 b 1 (tq_W_get hb) (tq_tys_get dA (by decide)) hin hd (k p l e R s m args below meth c ρ D dA A mc ms F H locs cells slots ls V)
theorem tq_s_cald {K : Nat × (Nat → Int32)} {d x : Nat} {M : tq_MD} {pc : Nat} {L st : List Value} {z : tq_S} {Q : tq_O → tq_S → Prop} {b n : Nat} {i : Int32} (hd : decode M.2.1 pc = .ok (.caload, 1)) (hb : tq_sh[b]? = some (.inl (2, n))) (hin : vp_in i n) (k : tq_T K d x M (pc + 1) L (.int (tq_ai z b i.toNatClampNeg) :: st) z Q) : tq_T K d x M pc L (.int i :: .ref b :: st) z Q := by
  intro p l e R s m args below meth c ρ D dA A mc ms F H locs cells slots ls V
  exact va_cald F.1 F.2.1 F.2.2.2.2.2.2.2.2.1 V.1 b 2 (tq_W_get hb) (tq_tys_get dA (by decide)) hin hd (k p l e R s m args below meth c ρ D dA A mc ms F H locs cells slots ls V)
theorem tq_s_lald {K : Nat × (Nat → Int32)} {d x : Nat} {M : tq_MD} {pc : Nat} {L st : List Value} {z : tq_S} {Q : tq_O → tq_S → Prop} {b n : Nat} {i : Int32} (hd : decode M.2.1 pc = .ok (.laload, 1)) (hb : tq_sh[b]? = some (.inl (3, n))) (hin : vp_in i n) (k : tq_T K d x M (pc + 1) L (.long (tq_al z b i.toNatClampNeg) :: st) z Q) : tq_T K d x M pc L (.int i :: .ref b :: st) z Q := by
  intro p l e R s m args below meth c ρ D dA A mc ms F H locs cells slots ls V
  exact va_lald F.1 F.2.1 F.2.2.2.2.2.2.2.2.1 V.1 b 3 (tq_W_get hb) (tq_tys_get dA (by decide)) hin hd (k p l e R s m args below meth c ρ D dA A mc ms F H locs cells slots ls V)
theorem tq_s_iast {K : Nat × (Nat → Int32)} {d x : Nat} {M : tq_MD} {pc : Nat} {L st : List Value} {z : tq_S} {Q : tq_O → tq_S → Prop} {b n : Nat} {i : Int32} {v : Int32} (hd : decode M.2.1 pc = .ok (.iastore, 1)) (hb : tq_sh[b]? = some (.inl (0, n))) (hin : vp_in i n) (k : tq_T K d x M (pc + 1) L st (tq_sai z b (upd (tq_ai z b) i.toNatClampNeg v)) Q) : tq_T K d x M pc L (.int v :: .int i :: .ref b :: st) z Q := by
  intro p l e R s m args below meth c ρ D dA A mc ms F H locs cells slots ls V
  obtain ⟨v1, v2, v3, v4⟩ := V
  refine va_iast F.1 F.2.1 F.2.2.2.2.2.2.2.2.1 v1 v2 v3 b 0 (tq_W_get hb) (tq_tys_get dA (by decide)) hin hd (fun H1 locs1 hP hD hS => ?_)
  have hE := tq_W_set (ρ := ρ) (dA := dA) (z := z) (z' := tq_sai z b (upd (tq_ai z b) i.toNatClampNeg v)) (e := .inl (dA 0, n, .inl (upd (tq_ai z b) i.toNatClampNeg v))) hb (by simp only [tq_E, tq_ct, tq_ai, tq_sai, tq_up_eq]) (fun j c' _ hj => tq_E_ai hj)
  exact k p l e R s m args below meth c ρ D dA A mc ms F H1 locs1 cells slots ls ⟨by rw [← hE]; exact hP, by rw [← hE]; exact hD, hS, v4⟩
theorem tq_s_zast {K : Nat × (Nat → Int32)} {d x : Nat} {M : tq_MD} {pc : Nat} {L st : List Value} {z : tq_S} {Q : tq_O → tq_S → Prop} {b n : Nat} {i : Int32} {v : Int32} (hd : decode M.2.1 pc = .ok (.bastore, 1)) (hb : tq_sh[b]? = some (.inl (1, n))) (hin : vp_in i n) (k : tq_T K d x M (pc + 1) L st (tq_sai z b (upd (tq_ai z b) i.toNatClampNeg (vp_nar .boolean v))) Q) : tq_T K d x M pc L (.int v :: .int i :: .ref b :: st) z Q := by
  intro p l e R s m args below meth c ρ D dA A mc ms F H locs cells slots ls V
  obtain ⟨v1, v2, v3, v4⟩ := V
  refine va_zast F.1 F.2.1 F.2.2.2.2.2.2.2.2.1 v1 v2 v3 b 1 (tq_W_get hb) (tq_tys_get dA (by decide)) hin hd (fun H1 locs1 hP hD hS => ?_)
  have hE := tq_W_set (ρ := ρ) (dA := dA) (z := z) (z' := tq_sai z b (upd (tq_ai z b) i.toNatClampNeg (vp_nar .boolean v))) (e := .inl (dA 1, n, .inl (upd (tq_ai z b) i.toNatClampNeg (vp_nar .boolean v)))) hb (by simp only [tq_E, tq_ct, tq_ai, tq_sai, tq_up_eq]) (fun j c' _ hj => tq_E_ai hj)
  exact k p l e R s m args below meth c ρ D dA A mc ms F H1 locs1 cells slots ls ⟨by rw [← hE]; exact hP, by rw [← hE]; exact hD, hS, v4⟩
theorem tq_s_cast {K : Nat × (Nat → Int32)} {d x : Nat} {M : tq_MD} {pc : Nat} {L st : List Value} {z : tq_S} {Q : tq_O → tq_S → Prop} {b n : Nat} {i : Int32} {v : Int32} (hd : decode M.2.1 pc = .ok (.castore, 1)) (hb : tq_sh[b]? = some (.inl (2, n))) (hin : vp_in i n) (k : tq_T K d x M (pc + 1) L st (tq_sai z b (upd (tq_ai z b) i.toNatClampNeg (vp_nar .char v))) Q) : tq_T K d x M pc L (.int v :: .int i :: .ref b :: st) z Q := by
  intro p l e R s m args below meth c ρ D dA A mc ms F H locs cells slots ls V
  obtain ⟨v1, v2, v3, v4⟩ := V
  refine va_cast F.1 F.2.1 F.2.2.2.2.2.2.2.2.1 v1 v2 v3 b 2 (tq_W_get hb) (tq_tys_get dA (by decide)) hin hd (fun H1 locs1 hP hD hS => ?_)
  have hE := tq_W_set (ρ := ρ) (dA := dA) (z := z) (z' := tq_sai z b (upd (tq_ai z b) i.toNatClampNeg (vp_nar .char v))) (e := .inl (dA 2, n, .inl (upd (tq_ai z b) i.toNatClampNeg (vp_nar .char v)))) hb (by simp only [tq_E, tq_ct, tq_ai, tq_sai, tq_up_eq]) (fun j c' _ hj => tq_E_ai hj)
  exact k p l e R s m args below meth c ρ D dA A mc ms F H1 locs1 cells slots ls ⟨by rw [← hE]; exact hP, by rw [← hE]; exact hD, hS, v4⟩
theorem tq_s_last {K : Nat × (Nat → Int32)} {d x : Nat} {M : tq_MD} {pc : Nat} {L st : List Value} {z : tq_S} {Q : tq_O → tq_S → Prop} {b n : Nat} {i : Int32} {v : Int64} (hd : decode M.2.1 pc = .ok (.lastore, 1)) (hb : tq_sh[b]? = some (.inl (3, n))) (hin : vp_in i n) (k : tq_T K d x M (pc + 1) L st (tq_sal z b (vp_updL (tq_al z b) i.toNatClampNeg v)) Q) : tq_T K d x M pc L (.long v :: .int i :: .ref b :: st) z Q := by
  intro p l e R s m args below meth c ρ D dA A mc ms F H locs cells slots ls V
  obtain ⟨v1, v2, v3, v4⟩ := V
  refine va_last F.1 F.2.1 F.2.2.2.2.2.2.2.2.1 v1 v2 v3 b 3 (tq_W_get hb) (tq_tys_get dA (by decide)) hin hd (fun H1 locs1 hP hD hS => ?_)
  have hE := tq_W_set (ρ := ρ) (dA := dA) (z := z) (z' := tq_sal z b (vp_updL (tq_al z b) i.toNatClampNeg v)) (e := .inl (dA 3, n, .inr (.inl (vp_updL (tq_al z b) i.toNatClampNeg v)))) hb (by simp only [tq_E, tq_ct, tq_al, tq_sal, tq_up_eq]) (fun j c' _ hj => tq_E_al hj)
  exact k p l e R s m args below meth c ρ D dA A mc ms F H1 locs1 cells slots ls ⟨by rw [← hE]; exact hP, by rw [← hE]; exact hD, hS, v4⟩
theorem tq_s_alen {K : Nat × (Nat → Int32)} {d x : Nat} {M : tq_MD} {pc : Nat} {L st : List Value} {z : tq_S} {Q : tq_O → tq_S → Prop} {b t n : Nat} (hd : decode M.2.1 pc = .ok (.arraylength, 1)) (hb : tq_sh[b]? = some (.inl (t, n))) (ht : t < 4) (k : tq_T K d x M (pc + 1) L (.int (Int32.ofNat n) :: st) z Q) : tq_T K d x M pc L (.ref b :: st) z Q := by
  intro p l e R s m args below meth c ρ D dA A mc ms F H locs cells slots ls V
  exact va_alen F.1 F.2.1 F.2.2.2.2.2.2.2.2.1 V.1 b t (tq_W_get hb) (tq_tys_get dA ht) rfl hd (k p l e R s m args below meth c ρ D dA A mc ms F H locs cells slots ls V)
theorem tq_s_caload {K : Nat × (Nat → Int32)} {d x : Nat} {M : tq_MD} {pc : Nat} {L st : List Value} {z : tq_S} {Q : tq_O → tq_S → Prop} {b n : Nat} {f : Nat → Int32} {i : Int32} (hd : decode M.2.1 pc = .ok (.iaload, 1)) (hb : tq_ca K b = some (n, f)) (hin : vp_in i n) (k : tq_T K d x M (pc + 1) L (.int (f i.toNatClampNeg) :: st) z Q) : tq_T K d x M pc L (.int i :: .ref b :: st) z Q := by
  intro p l e R s m args below meth c ρ D dA A mc ms F H locs cells slots ls V
  exact va_ti F.1 F.2.1 (F.2.2.2.2.2.2.2.2.2.1.2.2.2.2.2.2 b n f hb) V.2.2.1 hin rfl hd (k p l e R s m args below meth c ρ D dA A mc ms F H locs cells slots ls V)
theorem tq_s_calen {K : Nat × (Nat → Int32)} {d x : Nat} {M : tq_MD} {pc : Nat} {L st : List Value} {z : tq_S} {Q : tq_O → tq_S → Prop} {b n : Nat} {f : Nat → Int32} (hd : decode M.2.1 pc = .ok (.arraylength, 1)) (hb : tq_ca K b = some (n, f)) (k : tq_T K d x M (pc + 1) L (.int (Int32.ofNat n) :: st) z Q) : tq_T K d x M pc L (.ref b :: st) z Q := by
  intro p l e R s m args below meth c ρ D dA A mc ms F H locs cells slots ls V
  exact va_tlen F.1 F.2.1 (F.2.2.2.2.2.2.2.2.2.1.2.2.2.2.2.2 b n f hb) V.2.2.1 rfl hd (k p l e R s m args below meth c ρ D dA A mc ms F H locs cells slots ls V)
theorem tq_s_gets {K : Nat × (Nat → Int32)} {d x : Nat} {M : tq_MD} {pc : Nat} {L st : List Value} {z : tq_S} {Q : tq_O → tq_S → Prop} {i : Nat} {C n : String} {b : Nat} (hd : decode M.2.1 pc = .ok (.getstatic i, 3)) (hi : (M.2.2.2.2.2, i, C, n, b) ∈ tq_ls) (k : tq_T K d x M (pc + 3) L (.ref b :: st) z Q) : tq_T K d x M pc L st z Q := by
  intro p l e R s m args below meth c ρ D dA A mc ms F H locs cells slots ls V
  obtain ⟨hw, hs⟩ := tq_ls_ok _ hi
  exact va_gets F.1 F.2.1 (F.2.2.2.2.2.2.2.2.2.1.2.2.2.2.2.1 _ hs) V.2.2.1 F.2.2.2.2.1 (F.2.2.2.2.2.1 _ hw rfl) (fun _ h => h) hd (k p l e R s m args below meth c ρ D dA A mc ms F H locs cells slots ls V)
/-- a field, as the mini world has it -/
def tq_fm (z : tq_S) (r : Nat) (q : Nat × Nat) : Value := match q.1 with
  | 0 => .ref q.2
  | 1 => .int (tq_fi z r)
  | 2 => .long (tq_fl z r)
  | _ => .null
theorem tq_fm_tr (ρ : Nat → Nat) (z : tq_S) (r : Nat) (q : Nat × Nat) : tq_tr ρ (tq_fm z r q) = tq_fv ρ z r q := by
  rcases q with ⟨_ | _ | _ | _, b⟩ <;> rfl
theorem tq_in_of {ci : Nat} {q : vw_C} (h : tq_cl[ci]? = some q) : tq_clP q := tq_cl_ok q (List.mem_of_getElem? h)
def tq_lfg : List Cond := lw_tbl.filter goodWord
theorem tq_lays_good {C : String} {T : u_T} {N : Nat} (h : ∀ w ∈ u_ws C T N, w ∈ lw_tbl) : ∀ w ∈ u_ws C T N, w ∈ tq_lfg := by
  intro w hw
  refine List.mem_filter.mpr ⟨h w hw, ?_⟩
  obtain ⟨k, -, rfl⟩ := List.mem_map.mp hw
  unfold u_lay
  split <;> rfl
theorem tq_s_getf {K : Nat × (Nat → Int32)} {d x : Nat} {M : tq_MD} {pc : Nat} {L st : List Value} {z : tq_S} {Q : tq_O → tq_S → Prop} {i b ci fn : Nat} {nest : Bool} {fs : List (Nat × Nat)} {q : Nat × Nat} (hd : decode M.2.1 pc = .ok (.getfield i, 3)) (hi : (i, ci, fn, nest) ∈ tq_lf M.2.2.2.2.2) (hb : tq_sh[b]? = some (.inr (ci, fs))) (hq : fs[fn]? = some q) (k : tq_T K d x M (pc + 3) L (tq_fm z (64 * b + fn) q :: st) z Q) : tq_T K d x M pc L (.ref b :: st) z Q := by
  intro p l e R s m args below meth c ρ D dA A mc ms F H locs cells slots ls V
  obtain ⟨C, T, N, hc, hk, hdec, hl⟩ := tq_lf_ok _ _ hi
  have hcl := tq_in_of hc
  have hP := V.1
  have hv : (fs.mapIdx (fun k q => tq_fv ρ z (64 * b + k) q))[fn]? = some (tq_fv ρ z (64 * b + fn) q) := by simp [hq]
  have kk := k p l e R s m args below meth c ρ D dA A mc ms F H locs cells slots ls V
  simp only [List.map_cons, tq_fm_tr] at kk
  have hts : ∀ w ∈ tq_lfg, w.before args s = true := fun w hw => F.2.2.2.2.2.1 w (List.mem_filter.mp hw).1 (List.mem_filter.mp hw).2
  cases nest with
  | true =>
    obtain ⟨host, hl⟩ := hl
    exact va_getN F.1 F.2.1 hts (tq_lays_good hcl.1) F.2.2.2.2.1 F.2.2.2.2.2.2.2.2.1 hP b (tq_W_get hb) hc fn hk (va_Nw.use rfl (F.2.2.2.2.2.2.2.2.2.1.1 _ hl rfl)) (by rw [hdec]; exact fun _ h => h) hv hd kk
  | false => exact va_get F.1 F.2.1 hts (tq_lays_good hcl.1) F.2.2.2.2.1 F.2.2.2.2.2.2.2.2.1 hP b (tq_W_get hb) hc fn hk (F.2.2.2.2.2.1 _ hl rfl) (by rw [hdec]; exact fun _ h => h) hv hd kk
/-- an int fits a field of that type as it is -/
def tq_nf (w : Nat) (v : Int32) : Prop := narrow (tq_ty w) (.int v) = .int v ∧ fits (tq_ty w) (.int v) = true
theorem tq_nf0 (v : Int32) : tq_nf 0 v := ⟨rfl, rfl⟩
theorem tq_s_puti {K : Nat × (Nat → Int32)} {d x : Nat} {M : tq_MD} {pc : Nat} {L st : List Value} {z : tq_S} {Q : tq_O → tq_S → Prop} {i b ci fn w : Nat} {nest : Bool} {fs : List (Nat × Nat)} {v : Int32} (hd : decode M.2.1 pc = .ok (.putfield i, 3)) (hi : (i, ci, fn, nest) ∈ tq_lf M.2.2.2.2.2) (hb : tq_sh[b]? = some (.inr (ci, fs))) (hq : fs[fn]? = some (1, w)) (hv : tq_nf w v) (k : tq_T K d x M (pc + 3) L st (tq_sfi z (64 * b + fn) v) Q) : tq_T K d x M pc L (.int v :: .ref b :: st) z Q := by
  intro p l e R s m args below meth c ρ D dA A mc ms F H locs cells slots ls V
  obtain ⟨C, T, N, hc, hk, hdec, hl⟩ := tq_lf_ok _ _ hi
  obtain ⟨hci, ⟨ty, hty⟩, hnm⟩ := tq_in_of hc
  obtain ⟨v1, v2, v3, v4⟩ := V
  have hts : ∀ w ∈ tq_lfg, w.before args s = true := fun w hw => F.2.2.2.2.2.1 w (List.mem_filter.mp hw).1 (List.mem_filter.mp hw).2
  obtain ⟨hfin, hdesc⟩ := tq_sh_ty hb hc hq
  have hkl : fn < (fs.mapIdx (fun k q => tq_fv ρ z (64 * b + k) q)).length := by simpa using (List.getElem?_eq_some_iff.mp hq).1
  have kk : ∀ (H1 : Heap) (locs1 : List Loc), va_P D tq_cl ((tq_W tq_sh ρ dA z).set b (ρ b, .inr (ci, (fs.mapIdx (fun k q => tq_fv ρ z (64 * b + k) q)).set fn (.int v)))) H1 → va_D A ((tq_W tq_sh ρ dA z).set b (ρ b, .inr (ci, (fs.mapIdx (fun k q => tq_fv ρ z (64 * b + k) q)).set fn (.int v)))) → va_S A s.heap H1 locs1 → W p l e R s m args below meth c H1 locs1 cells slots (vx_MQ below (tq_Qc ρ D dA A Q) (tq_Xc ρ D dA A Q) args s mc ms A) (F0 m (pc + 3) ls (st.map (tq_tr ρ))) := by
    intro H1 locs1 hP hD hS
    have hfl : fn < 64 := Nat.lt_of_lt_of_le (List.getElem?_eq_some_iff.mp hq).1 (tq_sh_ok b ci fs hb)
    have hE := tq_W_set (ρ := ρ) (dA := dA) (z := z) (z' := tq_sfi z (64 * b + fn) v) hb (tq_E_fi_self tq_sh_ok hb hq) (fun j c' hj hne => tq_E_fi tq_sh_ok hj hne hfl rfl)
    exact k p l e R s m args below meth c ρ D dA A mc ms F H1 locs1 cells slots ls ⟨by rw [← hE]; exact hP, by rw [← hE]; exact hD, hS, v4⟩
  cases nest with
  | true =>
    obtain ⟨host, hl⟩ := hl
    exact va_putN F.1 F.2.1 hts (tq_lays_good hci) ty hty hnm F.2.2.2.2.1 F.2.2.2.2.2.2.2.2.1 v1 v2 v3 b (tq_W_get hb) hc fn hk (va_Nw.use rfl (F.2.2.2.2.2.2.2.2.2.1.1 _ hl rfl)) (by rw [hdec]; exact fun _ h => h) hfin hdesc hv.1 hv.2 hkl hd kk
  | false => exact va_put F.1 F.2.1 hts (tq_lays_good hci) ty hty hnm F.2.2.2.2.1 F.2.2.2.2.2.2.2.2.1 v1 v2 v3 b (tq_W_get hb) hc fn hk (F.2.2.2.2.2.1 _ hl rfl) (by rw [hdec]; exact fun _ h => h) hfin hdesc hv.1 hv.2 hkl hd kk
theorem tq_s_putl {K : Nat × (Nat → Int32)} {d x : Nat} {M : tq_MD} {pc : Nat} {L st : List Value} {z : tq_S} {Q : tq_O → tq_S → Prop} {i b ci fn w : Nat} {nest : Bool} {fs : List (Nat × Nat)} {v : Int64} (hd : decode M.2.1 pc = .ok (.putfield i, 3)) (hi : (i, ci, fn, nest) ∈ tq_lf M.2.2.2.2.2) (hb : tq_sh[b]? = some (.inr (ci, fs))) (hq : fs[fn]? = some (2, w)) (k : tq_T K d x M (pc + 3) L st (tq_sfl z (64 * b + fn) v) Q) : tq_T K d x M pc L (.long v :: .ref b :: st) z Q := by
  intro p l e R s m args below meth c ρ D dA A mc ms F H locs cells slots ls V
  obtain ⟨C, T, N, hc, hk, hdec, hl⟩ := tq_lf_ok _ _ hi
  obtain ⟨hci, ⟨ty, hty⟩, hnm⟩ := tq_in_of hc
  obtain ⟨v1, v2, v3, v4⟩ := V
  have hts : ∀ w ∈ tq_lfg, w.before args s = true := fun w hw => F.2.2.2.2.2.1 w (List.mem_filter.mp hw).1 (List.mem_filter.mp hw).2
  obtain ⟨hfin, hdesc⟩ := tq_sh_tyl hb hc hq
  have hkl : fn < (fs.mapIdx (fun k q => tq_fv ρ z (64 * b + k) q)).length := by simpa using (List.getElem?_eq_some_iff.mp hq).1
  have kk : ∀ (H1 : Heap) (locs1 : List Loc), va_P D tq_cl ((tq_W tq_sh ρ dA z).set b (ρ b, .inr (ci, (fs.mapIdx (fun k q => tq_fv ρ z (64 * b + k) q)).set fn (.long v)))) H1 → va_D A ((tq_W tq_sh ρ dA z).set b (ρ b, .inr (ci, (fs.mapIdx (fun k q => tq_fv ρ z (64 * b + k) q)).set fn (.long v)))) → va_S A s.heap H1 locs1 → W p l e R s m args below meth c H1 locs1 cells slots (vx_MQ below (tq_Qc ρ D dA A Q) (tq_Xc ρ D dA A Q) args s mc ms A) (F0 m (pc + 3) ls (st.map (tq_tr ρ))) := by
    intro H1 locs1 hP hD hS
    have hfl : fn < 64 := Nat.lt_of_lt_of_le (List.getElem?_eq_some_iff.mp hq).1 (tq_sh_ok b ci fs hb)
    have hE := tq_W_set (ρ := ρ) (dA := dA) (z := z) (z' := tq_sfl z (64 * b + fn) v) hb (tq_E_fl_self tq_sh_ok hb hq) (fun j c' hj hne => tq_E_fl tq_sh_ok hj hne hfl rfl)
    exact k p l e R s m args below meth c ρ D dA A mc ms F H1 locs1 cells slots ls ⟨by rw [← hE]; exact hP, by rw [← hE]; exact hD, hS, v4⟩
  cases nest with
  | true =>
    obtain ⟨host, hl⟩ := hl
    exact va_putN F.1 F.2.1 hts (tq_lays_good hci) ty hty hnm F.2.2.2.2.1 F.2.2.2.2.2.2.2.2.1 v1 v2 v3 b (tq_W_get hb) hc fn hk (va_Nw.use rfl (F.2.2.2.2.2.2.2.2.2.1.1 _ hl rfl)) (by rw [hdec]; exact fun _ h => h) hfin hdesc rfl rfl hkl hd kk
  | false => exact va_put F.1 F.2.1 hts (tq_lays_good hci) ty hty hnm F.2.2.2.2.1 F.2.2.2.2.2.2.2.2.1 v1 v2 v3 b (tq_W_get hb) hc fn hk (F.2.2.2.2.2.1 _ hl rfl) (by rw [hdec]; exact fun _ h => h) hfin hdesc rfl rfl hkl hd kk
theorem tq_s_gfr {K : Nat × (Nat → Int32)} {d x : Nat} {M : tq_MD} {pc : Nat} {L st : List Value} {z : tq_S} {Q : tq_O → tq_S → Prop} {i b ci fn w g : Nat} {nest : Bool} {fs : List (Nat × Nat)} (hd : decode M.2.1 pc = .ok (.getfield i, 3)) (hi : (i, ci, fn, nest) ∈ tq_lf M.2.2.2.2.2) (hb : tq_sh[b]? = some (.inr (ci, fs))) (hq : fs[fn]? = some (0, w)) (hg : 64 * b + fn = g) (k : tq_T K d x M (pc + 3) L (.ref w :: st) z Q) : tq_T K d x M pc L (.ref b :: st) z Q := by
  subst hg
  exact tq_s_getf hd hi hb hq k
theorem tq_s_gfi {K : Nat × (Nat → Int32)} {d x : Nat} {M : tq_MD} {pc : Nat} {L st : List Value} {z : tq_S} {Q : tq_O → tq_S → Prop} {i b ci fn w g : Nat} {nest : Bool} {fs : List (Nat × Nat)} (hd : decode M.2.1 pc = .ok (.getfield i, 3)) (hi : (i, ci, fn, nest) ∈ tq_lf M.2.2.2.2.2) (hb : tq_sh[b]? = some (.inr (ci, fs))) (hq : fs[fn]? = some (1, w)) (hg : 64 * b + fn = g) (k : tq_T K d x M (pc + 3) L (.int (tq_fi z g) :: st) z Q) : tq_T K d x M pc L (.ref b :: st) z Q := by
  subst hg
  exact tq_s_getf hd hi hb hq k
theorem tq_s_gfl {K : Nat × (Nat → Int32)} {d x : Nat} {M : tq_MD} {pc : Nat} {L st : List Value} {z : tq_S} {Q : tq_O → tq_S → Prop} {i b ci fn w g : Nat} {nest : Bool} {fs : List (Nat × Nat)} (hd : decode M.2.1 pc = .ok (.getfield i, 3)) (hi : (i, ci, fn, nest) ∈ tq_lf M.2.2.2.2.2) (hb : tq_sh[b]? = some (.inr (ci, fs))) (hq : fs[fn]? = some (2, w)) (hg : 64 * b + fn = g) (k : tq_T K d x M (pc + 3) L (.long (tq_fl z g) :: st) z Q) : tq_T K d x M pc L (.ref b :: st) z Q := by
  subst hg
  exact tq_s_getf hd hi hb hq k
