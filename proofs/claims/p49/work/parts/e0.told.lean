/-! ===== the law's told: the number that the text is ===== -/
section TLD
variable {z : tq_S} {f : Int64 → tq_S → Prop} {g : Int32 → tq_S → Prop}
def tvl : Nat → List Nat → Nat
  | a, [] => a
  | a, c :: l => tvl (10 * a + (c - 48)) l
theorem tvl_app : ∀ (l : List Nat) (a c : Nat), tvl a (l ++ [c]) = 10 * tvl a l + (c - 48)
  | [], _, _ => rfl
  | c0 :: l, a, c => tvl_app l (10 * a + (c0 - 48)) c
theorem tvl_dg (n : Nat) : tvl 0 (dg n) = n := by
  induction n using Nat.strongRecOn with
  | _ n ih =>
    by_cases h : n < 10
    · rw [dg_1 h]
      show 10 * 0 + (48 + n - 48) = n
      omega
    · rw [dg_2 h, tvl_app, ih (n / 10) (by omega)]
      omega
theorem tvl_take : ∀ (l : List Nat) (a k c : Nat), l[k]? = some c → tvl a (l.take (k + 1)) = 10 * tvl a (l.take k) + (c - 48)
  | [], _, _, _, h => by simp at h
  | c0 :: l, a, 0, c, h => by
    have : c0 = c := by simpa using h
    subst this
    rfl
  | c0 :: l, a, k + 1, c, h => tvl_take l (10 * a + (c0 - 48)) k c (by simpa using h)
theorem dg_d (n : Nat) : ∀ c, c ∈ dg n → 48 ≤ c ∧ c < 58 := by
  induction n using Nat.strongRecOn with
  | _ n ih =>
    intro c hc
    by_cases h : n < 10
    · rw [dg_1 h] at hc
      have : c = 48 + n := by simpa using hc
      omega
    · rw [dg_2 h] at hc
      rcases List.mem_append.mp hc with hc | hc
      · exact ih (n / 10) (by omega) c hc
      · have : c = 48 + n % 10 := by simpa using hc
        omega
theorem dg_pos (n : Nat) : 0 < (dg n).length := by
  by_cases h : n < 10
  · rw [dg_1 h]; exact Nat.zero_lt_one
  · rw [dg_2 h, List.length_append]; exact Nat.lt_of_lt_of_le Nat.zero_lt_one (Nat.le_add_left _ _)
theorem sL_signAt {l : List Nat} {n c : Nat} (hl : ctx z l) (hc : ∀ c, c ∈ l → c < 65536) (e : l[n]? = some c) (k : g (nI c) z) : wm_L_signAt (nI n) z (tq_wi g) := by
  have hn : n < l.length := (List.getElem?_eq_some_iff.mp e).1
  have h2 := hl.2.2
  unfold wm_L_signAt
  refine sc_signAt hl hc (fun h => absurd rfl (h n hn)) (fun n' c' e1 e2 => Or.inl ⟨_, rfl, ?_⟩)
  have hn' := (List.getElem?_eq_some_iff.mp e2).1
  have e3 : n = n' := nI_u (by omega) (by omega) e1
  subst e3
  rw [e] at e2
  cases e2
  exact ⟨_, rfl, k⟩
def sg (neg : Bool) : Nat := if neg = true then 1 else 0
theorem tn_len (neg : Bool) (m : Nat) : (tn neg m).length = sg neg + (dg m).length := by
  cases neg
  · show (dg m).length = 0 + (dg m).length
    omega
  · show (45 :: dg m).length = 1 + (dg m).length
    rw [List.length_cons]; omega
theorem tn_get (neg : Bool) (m j : Nat) : (tn neg m)[sg neg + j]? = (dg m)[j]? := by
  cases neg
  · show (dg m)[0 + j]? = _
    rw [Nat.zero_add]
  · show (45 :: dg m)[1 + j]? = _
    rw [Nat.add_comm]; rfl
def tdv (neg : Bool) (m : Nat) : Int64 := if neg = true then -(lN m) else lN m
theorem sq_toldLoop {neg : Bool} {m y : Nat} (hl : ctx z (tn neg m)) (hy : (dg m).length ≤ y) (k : f (tdv neg m) z) : wc_L_told_40 (tq_wl f) (nI (tn neg m).length) (nI (sg neg)) (0 : Int64) (nI (sg neg)) y z := by
  have l2 := hl.2.2
  have len := tn_len neg m
  have hs : sg neg ≤ 1 := by cases neg <;> decide
  unfold wc_L_told_40
  refine lp_inv (fun i s => s = (lN (tvl 0 ((dg m).take i)), nI (sg neg + i), y - i, z)) (dg m).length ?_ rfl
  rintro i s hi rfl B hB
  simp only
  unfold wb_L_told_40
  rw [i_le (by omega) (by omega)]
  refine ⟨fun h1 => ?_, fun h1 => ?_⟩
  · have e : i = (dg m).length := by omega
    rw [e, List.take_length, tvl_dg]
    unfold wc_L_told_70
    cases neg
    · exact ⟨fun _ => ⟨_, rfl, k⟩, fun u => absurd rfl u⟩
    · exact ⟨fun u => absurd u (by decide +kernel), fun _ => ⟨_, rfl, k⟩⟩
  · have hlt : i < (dg m).length := by omega
    obtain ⟨c, hc⟩ : ∃ c, (dg m)[i]? = some c := ⟨_, List.getElem?_eq_getElem hlt⟩
    have hd := dg_d m c (List.mem_of_getElem? hc)
    refine ⟨y - (i + 1), by omega, sL_signAt hl (fun c hc => tn_c c hc) (by rw [tn_get]; exact hc) (fun v1 q1 v2 q2 => ?_)⟩
    refine hB hlt _ ?_
    rw [q1, q2, i_1, i_add, l_10, i_to (by omega), l_mul, l_add, show (48 : Int64) = lN 48 from rfl, l_sub (by omega), tvl_take _ _ _ _ hc]
    have e1 : 10 * tvl 0 ((dg m).take i) + c - 48 = 10 * tvl 0 ((dg m).take i) + (c - 48) := by omega
    rw [e1, Nat.add_assoc]
theorem sq_told {neg : Bool} {m : Nat} (hl : ctx z (tn neg m)) (k : f (tdv neg m) z) : wm_L_told (nI (tn neg m).length) z (tq_wl f) := by
  have l2 := hl.2.2
  have len := tn_len neg m
  have pos := dg_pos m
  unfold wm_L_told
  rw [i_0, i_le (by omega) (by omega), i_le (by omega) (by omega)]
  refine ⟨fun _ => ⟨fun h => absurd h (by omega), fun _ => ⟨399, rfl, ?_⟩⟩, fun h => absurd (Nat.zero_le _) h⟩
  have lp := sq_toldLoop (f := f) (y := 399) hl (by omega) k
  obtain ⟨c, hc⟩ : ∃ c, (tn neg m)[0]? = some c := ⟨_, List.getElem?_eq_getElem (by omega)⟩
  refine sL_signAt hl (fun c hc => tn_c c hc) hc ?_
  cases neg
  · have hc' : (dg m)[0]? = some c := hc
    have hd := dg_d m c (List.mem_of_getElem? hc')
    refine ⟨fun _ => ?_, fun u => ?_⟩
    · unfold wc_L_told_25 wc_L_told_26
      exact ⟨fun _ => by unfold wc_L_told_38; exact lp, fun u => absurd rfl u⟩
    · have : nI c = nI 45 := u
      rw [i_eq (by omega) (by omega)] at this
      omega
  · have hc' : (45 :: dg m)[0]? = some c := hc
    have : 45 = c := by simpa using hc'
    subst this
    refine ⟨fun u => absurd rfl u, fun _ => ?_⟩
    unfold wc_L_told_26
    exact ⟨fun u => absurd u (by decide +kernel), fun _ => by unfold wc_L_told_38; exact lp⟩
/-- what was thrown is told as it is -/
theorem sq_toldNo {a : Int32} (ha : a < 0) (k : f (Int32.toInt64 a) z) : wm_L_told a z (tq_wl f) := by
  unfold wm_L_told
  refine ⟨fun u => ?_, fun _ => ⟨_, rfl, k⟩⟩
  have h1 := nu_lt.mp ha
  have h2 := nu_le.mp u
  omega
end TLD
