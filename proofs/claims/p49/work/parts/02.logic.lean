/-! ===== a logic over the machine for a world of fixed shape: registers of ints and longs, rows of ints, longs, doubles ===== -/
abbrev tq_S : Type := (Nat → Int32) × (Nat → Int64) × (Nat → Nat → Int32) × (Nat → Nat → Int64) × (Nat → Nat → UInt64)
def tq_fi (z : tq_S) (r : Nat) : Int32 := z.1 r
def tq_fl (z : tq_S) (r : Nat) : Int64 := z.2.1 r
def tq_ai (z : tq_S) (k : Nat) : Nat → Int32 := z.2.2.1 k
def tq_al (z : tq_S) (k : Nat) : Nat → Int64 := z.2.2.2.1 k
def tq_ad (z : tq_S) (k : Nat) : Nat → UInt64 := z.2.2.2.2 k
def tq_sfi (z : tq_S) (r : Nat) (v : Int32) : tq_S := (va_up z.1 r v, z.2)
def tq_sfl (z : tq_S) (r : Nat) (v : Int64) : tq_S := (z.1, va_up z.2.1 r v, z.2.2)
def tq_sai (z : tq_S) (k : Nat) (g : Nat → Int32) : tq_S := (z.1, z.2.1, va_up z.2.2.1 k g, z.2.2.2)
def tq_sal (z : tq_S) (k : Nat) (g : Nat → Int64) : tq_S := (z.1, z.2.1, z.2.2.1, va_up z.2.2.2.1 k g, z.2.2.2.2)
def tq_sad (z : tq_S) (k : Nat) (g : Nat → UInt64) : tq_S := (z.1, z.2.1, z.2.2.1, z.2.2.2.1, va_up z.2.2.2.2 k g)
abbrev tq_Sh : Type := List ((Nat × Nat) ⊕ (Nat × List (Nat × Nat)))
def tq_ty : Nat → FieldType
  | 0 => .int
  | 1 => .boolean
  | 2 => .char
  | 3 => .long
  | _ => .double
def tq_ct (z : tq_S) (i : Nat) : Nat → ((Nat → Int32) ⊕ (Nat → Int64) ⊕ (Nat → UInt32) ⊕ (Nat → UInt64) ⊕ (Nat → Option Nat))
  | 0 => .inl (tq_ai z i)
  | 1 => .inl (tq_ai z i)
  | 2 => .inl (tq_ai z i)
  | 3 => .inr (.inl (tq_al z i))
  | _ => .inr (.inr (.inr (.inl (tq_ad z i))))
def tq_fv (ρ : Nat → Nat) (z : tq_S) (r : Nat) (q : Nat × Nat) : Value := match q.1 with
  | 0 => .ref (ρ q.2)
  | 1 => .int (tq_fi z r)
  | 2 => .long (tq_fl z r)
  | _ => .null
def tq_E (ρ : Nat → Nat) (dA : Nat → ClassId) (z : tq_S) (i : Nat) (c : (Nat × Nat) ⊕ (Nat × List (Nat × Nat))) : va_E := match c with
  | .inl a => .inl (dA a.1, a.2, tq_ct z i a.1)
  | .inr o => .inr (o.1, o.2.mapIdx (fun k q => tq_fv ρ z (64 * i + k) q))
def tq_W (sh : tq_Sh) (ρ : Nat → Nat) (dA : Nat → ClassId) (z : tq_S) : va_W := sh.mapIdx (fun i c => (ρ i, tq_E ρ dA z i c))
def tq_tr (ρ : Nat → Nat) : Value → Value
  | .ref a => .ref (ρ a)
  | v => v
theorem tq_W_get {sh : tq_Sh} {ρ : Nat → Nat} {dA : Nat → ClassId} {z : tq_S} {i : Nat} {c : (Nat × Nat) ⊕ (Nat × List (Nat × Nat))} (h : sh[i]? = some c) : (tq_W sh ρ dA z)[i]? = some (ρ i, tq_E ρ dA z i c) := by
  simp [tq_W, h]
theorem tq_W_len {sh : tq_Sh} {ρ : Nat → Nat} {dA : Nat → ClassId} {z : tq_S} : (tq_W sh ρ dA z).length = sh.length := by simp [tq_W]
theorem tq_W_inv {sh : tq_Sh} {ρ : Nat → Nat} {dA : Nat → ClassId} {z : tq_S} {i : Nat} {q : Nat × va_E} (h : (tq_W sh ρ dA z)[i]? = some q) : ∃ c, sh[i]? = some c ∧ q = (ρ i, tq_E ρ dA z i c) := by
  simp only [tq_W, List.getElem?_mapIdx, Option.map_eq_some_iff] at h
  obtain ⟨c, h1, h2⟩ := h
  exact ⟨c, h1, h2.symm⟩
def tq_shok (sh : tq_Sh) : Prop := ∀ (i c : Nat) (fs : List (Nat × Nat)), sh[i]? = some (.inr (c, fs)) → fs.length ≤ 64
theorem tq_W_set {sh : tq_Sh} {ρ : Nat → Nat} {dA : Nat → ClassId} {z z' : tq_S} {b : Nat} {c : (Nat × Nat) ⊕ (Nat × List (Nat × Nat))} {e : va_E} (hb : sh[b]? = some c) (he : e = tq_E ρ dA z' b c)
    (ho : ∀ j c', sh[j]? = some c' → j ≠ b → tq_E ρ dA z' j c' = tq_E ρ dA z j c') : (tq_W sh ρ dA z).set b (ρ b, e) = tq_W sh ρ dA z' := by
  subst he
  apply List.ext_getElem?
  intro j
  by_cases hj : j = b
  · subst hj
    rw [List.getElem?_set_self (by rw [tq_W_len]; exact (List.getElem?_eq_some_iff.mp hb).1), tq_W_get hb]
  · rw [List.getElem?_set_ne (Ne.symm hj)]
    cases h : sh[j]? with
    | none =>
      have h1 : sh.length ≤ j := by simpa using h
      rw [List.getElem?_eq_none (by rw [tq_W_len]; exact h1), List.getElem?_eq_none (by rw [tq_W_len]; exact h1)]
    | some c' => rw [tq_W_get h, tq_W_get h, ho j c' h hj]
theorem tq_up_ne {α : Type} {f : Nat → α} {k j : Nat} {v : α} (h : j ≠ k) : va_up f k v j = f j := if_neg h
theorem tq_up_eq {α : Type} {f : Nat → α} {k : Nat} {v : α} : va_up f k v k = v := if_pos rfl
theorem tq_E_fi {sh : tq_Sh} (hsh : tq_shok sh) {ρ : Nat → Nat} {dA : Nat → ClassId} {z : tq_S} {r : Nat} {v : Int32} {j b k : Nat} {c' : (Nat × Nat) ⊕ (Nat × List (Nat × Nat))} (hj : sh[j]? = some c') (hne : j ≠ b) (hk : k < 64) (hr : r = 64 * b + k) : tq_E ρ dA (tq_sfi z r v) j c' = tq_E ρ dA z j c' := by
  cases c' with
  | inl a => rfl
  | inr o =>
    obtain ⟨cc, fs⟩ := o
    have hl := hsh j cc fs hj
    simp only [tq_E]
    congr 2
    apply List.ext_getElem?
    intro i
    simp only [List.getElem?_mapIdx]
    cases h : fs[i]? with
    | none => rfl
    | some q =>
      have hi : i < fs.length := (List.getElem?_eq_some_iff.mp h).1
      simp only [Option.map_some]
      congr 1
      have hne2 : 64 * j + i ≠ r := by omega
      simp only [tq_fv, tq_sfi, tq_fi, tq_fl]
      rw [tq_up_ne hne2]
theorem tq_E_fl {sh : tq_Sh} (hsh : tq_shok sh) {ρ : Nat → Nat} {dA : Nat → ClassId} {z : tq_S} {r : Nat} {v : Int64} {j b k : Nat} {c' : (Nat × Nat) ⊕ (Nat × List (Nat × Nat))} (hj : sh[j]? = some c') (hne : j ≠ b) (hk : k < 64) (hr : r = 64 * b + k) : tq_E ρ dA (tq_sfl z r v) j c' = tq_E ρ dA z j c' := by
  cases c' with
  | inl a => rfl
  | inr o =>
    obtain ⟨cc, fs⟩ := o
    have hl := hsh j cc fs hj
    simp only [tq_E]
    congr 2
    apply List.ext_getElem?
    intro i
    simp only [List.getElem?_mapIdx]
    cases h : fs[i]? with
    | none => rfl
    | some q =>
      have hi : i < fs.length := (List.getElem?_eq_some_iff.mp h).1
      simp only [Option.map_some]
      congr 1
      have hne2 : 64 * j + i ≠ r := by omega
      simp only [tq_fv, tq_sfl, tq_fi, tq_fl]
      rw [tq_up_ne hne2]
theorem tq_mapIdx_set {α β : Type} (fs : List α) (k : Nat) (v : β) (f g : Nat → α → β) (hk : ∀ q, fs[k]? = some q → g k q = v) (ho : ∀ i q, fs[i]? = some q → i ≠ k → g i q = f i q) : (fs.mapIdx f).set k v = fs.mapIdx g := by
  apply List.ext_getElem?
  intro i
  by_cases hi : i = k
  · subst hi
    cases h : fs[i]? with
    | none =>
      have h1 : fs.length ≤ i := by simpa using h
      simp [h, h1]
    | some q =>
      have h1 : i < fs.length := (List.getElem?_eq_some_iff.mp h).1
      rw [List.getElem?_set_self (by simpa using h1)]
      simp only [List.getElem?_mapIdx, h, Option.map_some]
      rw [hk q h]
  · rw [List.getElem?_set_ne (Ne.symm hi)]
    simp only [List.getElem?_mapIdx]
    cases h : fs[i]? with
    | none => rfl
    | some q => simp only [Option.map_some]; rw [ho i q h hi]
theorem tq_E_fi_self {sh : tq_Sh} (hsh : tq_shok sh) {ρ : Nat → Nat} {dA : Nat → ClassId} {z : tq_S} {v : Int32} {b k ci : Nat} {w : Nat} {fs : List (Nat × Nat)} (hb : sh[b]? = some (.inr (ci, fs))) (hk : fs[k]? = some (1, w)) :
    (Sum.inr (ci, (fs.mapIdx (fun k q => tq_fv ρ z (64 * b + k) q)).set k (.int v)) : va_E) = tq_E ρ dA (tq_sfi z (64 * b + k) v) b (.inr (ci, fs)) := by
  simp only [tq_E]
  congr 2
  have hl := hsh b ci fs hb
  have hkl : k < fs.length := (List.getElem?_eq_some_iff.mp hk).1
  refine tq_mapIdx_set fs k _ _ _ (fun q hq => ?_) (fun i q hi hne => ?_)
  · rw [hk] at hq; cases hq
    show Value.int (va_up z.1 (64 * b + k) v (64 * b + k)) = _
    rw [tq_up_eq]
  · have hil : i < fs.length := (List.getElem?_eq_some_iff.mp hi).1
    have hne2 : 64 * b + i ≠ 64 * b + k := by omega
    simp only [tq_fv, tq_sfi, tq_fi, tq_fl]
    rw [tq_up_ne hne2]
theorem tq_E_fl_self {sh : tq_Sh} (hsh : tq_shok sh) {ρ : Nat → Nat} {dA : Nat → ClassId} {z : tq_S} {v : Int64} {b k ci : Nat} {w : Nat} {fs : List (Nat × Nat)} (hb : sh[b]? = some (.inr (ci, fs))) (hk : fs[k]? = some (2, w)) :
    (Sum.inr (ci, (fs.mapIdx (fun k q => tq_fv ρ z (64 * b + k) q)).set k (.long v)) : va_E) = tq_E ρ dA (tq_sfl z (64 * b + k) v) b (.inr (ci, fs)) := by
  simp only [tq_E]
  congr 2
  have hl := hsh b ci fs hb
  have hkl : k < fs.length := (List.getElem?_eq_some_iff.mp hk).1
  refine tq_mapIdx_set fs k _ _ _ (fun q hq => ?_) (fun i q hi hne => ?_)
  · rw [hk] at hq; cases hq
    show Value.long (va_up z.2.1 (64 * b + k) v (64 * b + k)) = _
    rw [tq_up_eq]
  · have hil : i < fs.length := (List.getElem?_eq_some_iff.mp hi).1
    have hne2 : 64 * b + i ≠ 64 * b + k := by omega
    simp only [tq_fv, tq_sfl, tq_fi, tq_fl]
    rw [tq_up_ne hne2]
theorem tq_ct_ai {z : tq_S} {j b t : Nat} {g : Nat → Int32} (h : j ≠ b) : tq_ct (tq_sai z b g) j t = tq_ct z j t := by
  unfold tq_ct
  split <;> simp [tq_ai, tq_al, tq_ad, tq_sai, tq_up_ne h]
theorem tq_ct_al {z : tq_S} {j b t : Nat} {g : Nat → Int64} (h : j ≠ b) : tq_ct (tq_sal z b g) j t = tq_ct z j t := by
  unfold tq_ct
  split <;> simp [tq_ai, tq_al, tq_ad, tq_sal, tq_up_ne h]
theorem tq_ct_ad {z : tq_S} {j b t : Nat} {g : Nat → UInt64} (h : j ≠ b) : tq_ct (tq_sad z b g) j t = tq_ct z j t := by
  unfold tq_ct
  split <;> simp [tq_ai, tq_al, tq_ad, tq_sad, tq_up_ne h]
theorem tq_E_ai {ρ : Nat → Nat} {dA : Nat → ClassId} {z : tq_S} {j b : Nat} {g : Nat → Int32} {c' : (Nat × Nat) ⊕ (Nat × List (Nat × Nat))} (h : j ≠ b) : tq_E ρ dA (tq_sai z b g) j c' = tq_E ρ dA z j c' := by
  cases c' with
  | inl a => simp only [tq_E]; rw [tq_ct_ai h]
  | inr o => rfl
theorem tq_E_al {ρ : Nat → Nat} {dA : Nat → ClassId} {z : tq_S} {j b : Nat} {g : Nat → Int64} {c' : (Nat × Nat) ⊕ (Nat × List (Nat × Nat))} (h : j ≠ b) : tq_E ρ dA (tq_sal z b g) j c' = tq_E ρ dA z j c' := by
  cases c' with
  | inl a => simp only [tq_E]; rw [tq_ct_al h]
  | inr o => rfl
theorem tq_E_ad {ρ : Nat → Nat} {dA : Nat → ClassId} {z : tq_S} {j b : Nat} {g : Nat → UInt64} {c' : (Nat × Nat) ⊕ (Nat × List (Nat × Nat))} (h : j ≠ b) : tq_E ρ dA (tq_sad z b g) j c' = tq_E ρ dA z j c' := by
  cases c' with
  | inl a => simp only [tq_E]; rw [tq_ct_ad h]
  | inr o => rfl

/-! the locals: a row of the length that the method has, null where nothing is known -/
def tq_nn : Value → Bool
  | .null => false
  | _ => true
def tq_lv (ρ : Nat → Nat) (ls : Array Slot) (nL : Nat) (L : List Value) : Prop := ls.size = nL ∧ lv_wf ls ∧ L.length = nL ∧ ∀ (i : Nat) (v : Value), L[i]? = some v → tq_nn v = true → ls[i]? = some (.val (tq_tr ρ v))
def tq_ll (ρ : Nat → Nat) (L : List Value) : List (Nat × Value) := ((L.mapIdx (fun i v => (i, v))).filter (fun q => tq_nn q.2)).map (fun q => (q.1, tq_tr ρ q.2))
theorem tq_ll_mem {ρ : Nat → Nat} {L : List Value} {q : Nat × Value} : q ∈ tq_ll ρ L ↔ ∃ v, L[q.1]? = some v ∧ tq_nn v = true ∧ q.2 = tq_tr ρ v := by
  simp only [tq_ll, List.mem_map, List.mem_filter]
  constructor
  · rintro ⟨⟨i, v⟩, ⟨h1, h2⟩, rfl⟩
    obtain ⟨k, hk⟩ := List.getElem?_of_mem h1
    simp only [List.getElem?_mapIdx, Option.map_eq_some_iff] at hk
    obtain ⟨w, hw, he⟩ := hk
    cases he
    exact ⟨v, hw, h2, rfl⟩
  · rintro ⟨v, h1, h2, h3⟩
    refine ⟨(q.1, v), ⟨?_, h2⟩, by rw [← h3]⟩
    refine List.mem_of_getElem? (i := q.1) ?_
    simp [h1]
theorem tq_lv_has {ρ : Nat → Nat} {ls : Array Slot} {nL : Nat} {L : List Value} (h : tq_lv ρ ls nL L) : lv_has ls nL (tq_ll ρ L) := by
  refine ⟨h.1, h.2.1, fun q hq => ?_⟩
  obtain ⟨v, h1, h2, h3⟩ := tq_ll_mem.mp hq
  rw [h3]
  exact h.2.2.2 q.1 v h1 h2
theorem tq_tr_cat (ρ : Nat → Nat) (v : Value) : (tq_tr ρ v).category = v.category := by cases v <;> rfl
def tq_fix (L : List Value) : Nat → List Value
  | 0 => L
  | k + 1 => match L[k]? with
    | some (.long _) => L.set k .null
    | some (.double _) => L.set k .null
    | _ => L
def tq_st1 (L : List Value) (i : Nat) (x : Value) : List Value := (tq_fix L i).set i x
def tq_st2 (L : List Value) (i : Nat) (x : Value) : List Value := ((tq_fix L i).set i x).set (i + 1) .null
theorem tq_fix_len (L : List Value) (i : Nat) : (tq_fix L i).length = L.length := by
  cases i with
  | zero => rfl
  | succ k =>
    simp only [tq_fix]
    split <;> simp
theorem tq_fix_get {L : List Value} {i j : Nat} {v : Value} (h : (tq_fix L i)[j]? = some v) (hv : tq_nn v = true) : L[j]? = some v ∧ (j + 1 = i → v.category = 2 → False) := by
  cases i with
  | zero => exact ⟨h, fun e => by omega⟩
  | succ k =>
    have key : ∀ w : Value, L[k]? = some w → (L.set k .null)[j]? = some v → L[j]? = some v ∧ (j + 1 = k + 1 → v.category = 2 → False) := by
      intro w hw h9
      by_cases e : j = k
      · subst e
        rw [List.getElem?_set_self (List.getElem?_eq_some_iff.mp hw).1] at h9
        cases h9
        cases hv
      · rw [List.getElem?_set_ne (Ne.symm e)] at h9
        exact ⟨h9, fun e2 => absurd (by omega) e⟩
    simp only [tq_fix] at h
    split at h
    · exact key _ (by assumption) h
    · exact key _ (by assumption) h
    · next h1 h2 =>
      refine ⟨h, fun e hc => ?_⟩
      have e2 : j = k := by omega
      subst e2
      cases v with
      | long x => exact h1 x h
      | double x => exact h2 x h
      | _ => cases hc
theorem tq_lv_st1 {ρ : Nat → Nat} {ls ls' : Array Slot} {nL : Nat} {L : List Value} {i : Nat} {x : Value} (h : tq_lv ρ ls nL L) (hi : i < nL)
    (h' : lv_has ls' nL ((i, tq_tr ρ x) :: (tq_ll ρ L).filter (fun q => !(q.1 == i) && !(q.1 + 1 == i && q.2.category == 2)))) : tq_lv ρ ls' nL (tq_st1 L i x) := by
  refine ⟨h'.1, h'.2.1, by simp [tq_st1, tq_fix_len, h.2.2.1], fun j v hj hv => ?_⟩
  have hl := h.2.2.1
  by_cases e : j = i
  · subst e
    rw [tq_st1, List.getElem?_set_self (by rw [tq_fix_len]; omega)] at hj
    cases hj
    exact h'.2.2 _ List.mem_cons_self
  · rw [tq_st1, List.getElem?_set_ne (Ne.symm e)] at hj
    obtain ⟨h1, h2⟩ := tq_fix_get hj hv
    refine h'.2.2 (j, tq_tr ρ v) (List.mem_cons_of_mem _ (List.mem_filter.mpr ⟨tq_ll_mem.mpr ⟨v, h1, hv, rfl⟩, ?_⟩))
    have e1 : (j == i) = false := by simpa using e
    simp only [e1, Bool.not_false, Bool.true_and, Bool.not_eq_true', Bool.and_eq_false_iff, beq_eq_false_iff_ne, ne_eq, tq_tr_cat]
    by_cases e3 : j + 1 = i
    · exact Or.inr fun hc => h2 e3 hc
    · exact Or.inl e3
theorem tq_lv_st2 {ρ : Nat → Nat} {ls ls' : Array Slot} {nL : Nat} {L : List Value} {i : Nat} {x : Value} (h : tq_lv ρ ls nL L) (hi : i + 1 < nL)
    (h' : lv_has ls' nL ((i, tq_tr ρ x) :: (tq_ll ρ L).filter (fun q => !(q.1 == i) && (!(q.1 == i + 1) && !(q.1 + 1 == i && q.2.category == 2))))) : tq_lv ρ ls' nL (tq_st2 L i x) := by
  refine ⟨h'.1, h'.2.1, by simp [tq_st2, tq_fix_len, h.2.2.1], fun j v hj hv => ?_⟩
  have hl := h.2.2.1
  by_cases e0 : j = i + 1
  · subst e0
    rw [tq_st2, List.getElem?_set_self (by rw [List.length_set, tq_fix_len]; omega)] at hj
    cases hj
    cases hv
  rw [tq_st2, List.getElem?_set_ne (Ne.symm e0)] at hj
  by_cases e : j = i
  · subst e
    rw [List.getElem?_set_self (by rw [tq_fix_len]; omega)] at hj
    cases hj
    exact h'.2.2 _ List.mem_cons_self
  · rw [List.getElem?_set_ne (Ne.symm e)] at hj
    obtain ⟨h1, h2⟩ := tq_fix_get hj hv
    refine h'.2.2 (j, tq_tr ρ v) (List.mem_cons_of_mem _ (List.mem_filter.mpr ⟨tq_ll_mem.mpr ⟨v, h1, hv, rfl⟩, ?_⟩))
    have e1 : (j == i) = false := by simpa using e
    have e2 : (j == i + 1) = false := by simpa using e0
    simp only [e1, e2, Bool.not_false, Bool.true_and, Bool.not_eq_true', Bool.and_eq_false_iff, beq_eq_false_iff_ne, ne_eq, tq_tr_cat]
    by_cases e3 : j + 1 = i
    · exact Or.inr fun hc => h2 e3 hc
    · exact Or.inl e3
theorem tq_lv_at {ρ : Nat → Nat} {ls : Array Slot} {nL : Nat} {L : List Value} (h : tq_lv ρ ls nL L) {i : Nat} {v : Value} (hi : L[i]? = some v) (hv : tq_nn v = true) : ls[i]? = some (.val (tq_tr ρ v)) := h.2.2.2 i v hi hv
theorem tq_lv_less {ρ : Nat → Nat} {ls : Array Slot} {nL : Nat} {L L' : List Value} (h : tq_lv ρ ls nL L) (hl : L'.length = L.length) (hi : ∀ (i : Nat) (v : Value), L'[i]? = some v → tq_nn v = true → L[i]? = some v) : tq_lv ρ ls nL L' :=
  ⟨h.1, h.2.1, hl.trans h.2.2.1, fun i v h1 h2 => h.2.2.2 i v (hi i v h1 h2) h2⟩
