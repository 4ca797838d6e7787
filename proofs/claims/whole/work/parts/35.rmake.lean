/-! ===== the reference makes the cover of a number, and tells its number ===== -/
def tc (w : Nat) (r : Bool) (p : Nat → Nat) (j : Nat) : Nat := if Rp w r p j = true then 101 else if Dp p j = true then 115 else if p j + 8 = j then 110 else 119
def rto (w : Nat) (r : Bool) (S T : Nat → Bool) (p : Nat → Nat) (A : Nat → Int32) : Prop := ∀ j, j < 64 → S j = true → T j = false → A j = nI (tc w r p j)
section TC
variable {w : Nat} {r : Bool} {p : Nat → Nat} {i : Nat}
theorem tc_R (hr : r = true → 4 ≤ w) (hw : i % 8 + 1 < w) (h1 : p i = i + 1) (h2 : p (i + 1) = i) : tc w r p i = 101 ∧ tc w r p (i + 1) = 119 := by
  have r1 : Rp w r p i = true := by unfold Rp; rw [h1, decide_eq_true hw, decide_eq_true rfl]; rfl
  have r2 : Rp w r p (i + 1) = false := by
    unfold Rp
    rw [h2, decide_eq_false (by omega : ¬ i = i + 1 + 1)]
    cases hr2 : r
    · simp
    · have := hr hr2
      rw [decide_eq_false (by omega : ¬ i + (w - 1) = i + 1)]; simp
  have d2 : Dp p (i + 1) = false := by unfold Dp; rw [h2, decide_eq_false (by omega)]
  refine ⟨by unfold tc; rw [r1, if_pos rfl], ?_⟩
  unfold tc; rw [r2, d2, if_neg Bool.false_ne_true, if_neg Bool.false_ne_true, h2, if_neg (by omega)]
theorem tc_D (hw : w ≤ 8) (hw1 : 1 ≤ w) (h1 : p i = i + 8) (h2 : p (i + 8) = i) : tc w r p i = 115 ∧ tc w r p (i + 8) = 110 := by
  have r1 : Rp w r p i = false := by
    unfold Rp
    rw [h1, decide_eq_false (by omega : ¬ i + 8 = i + 1), decide_eq_false (by omega : ¬ i + 8 + (w - 1) = i)]; simp
  have r2 : Rp w r p (i + 8) = false := by
    unfold Rp
    rw [h2, decide_eq_false (by omega : ¬ i = i + 8 + 1), decide_eq_false (by omega : ¬ i + (w - 1) = i + 8)]; simp
  have d1 : Dp p i = true := by unfold Dp; rw [h1, decide_eq_true rfl]
  have d2 : Dp p (i + 8) = false := by unfold Dp; rw [h2, decide_eq_false (by omega)]
  refine ⟨by unfold tc; rw [r1, d1, if_neg Bool.false_ne_true, if_pos rfl], ?_⟩
  unfold tc; rw [r2, d2, if_neg Bool.false_ne_true, if_neg Bool.false_ne_true, h2, if_pos rfl]
theorem tc_O (hw : w ≤ 8) (hr : r = true → 4 ≤ w) (hrt : r = true) (hi : i % 8 = 0) (h1 : p i = i + (w - 1)) (h2 : p (i + (w - 1)) = i) : tc w r p i = 119 ∧ tc w r p (i + (w - 1)) = 101 := by
  have w4 := hr hrt
  have r1 : Rp w r p i = false := by
    unfold Rp
    rw [h1, decide_eq_false (by omega : ¬ i + (w - 1) = i + 1), decide_eq_false (by omega : ¬ i % 8 = w - 1)]; simp
  have r2 : Rp w r p (i + (w - 1)) = true := by
    unfold Rp
    rw [h2, hrt, decide_eq_true (by omega : (i + (w - 1)) % 8 = w - 1), decide_eq_true (rfl : i + (w - 1) = i + (w - 1))]; simp
  have d1 : Dp p i = false := by unfold Dp; rw [h1, decide_eq_false (by omega)]
  refine ⟨?_, by unfold tc; rw [r2, if_pos rfl]⟩
  unfold tc; rw [r1, d1, if_neg Bool.false_ne_true, if_neg Bool.false_ne_true, h1, if_neg (by omega)]
end TC
def ch (w : Nat) (r : Bool) (i : Nat) (T : Nat → Bool) (k : Nat) : Option Nat := if k = 0 then (if cv_R w i T = true then some (i + 1) else none) else if k = 1 then (if T (i + 8) = true then some (i + 8) else none) else (if cv_O w r i T = true then some (i + (w - 1)) else none)
def cval (w : Nat) (r : Bool) (i : Nat) (T : Nat → Bool) (k : Nat) : Nat := if k = 0 then ca w r i T else if k = 1 then cb w r i T else cc w r i T
section RMAKE
variable {w h : Nat} {r : Bool} {S T : Nat → Bool} {z : tq_S} {Q : tq_O → tq_S → Prop} {p : Nat → Nat} {i : Nat}
theorem ch_T {o k : Nat} (h1 : 1 ≤ w) (hr : r = true → 4 ≤ w) (e : ch w r i T k = some o) : T o = true ∧ i < o ∧ cval w r i T k = cv_T w r (i + 1) (cv_rm T i o) := by
  unfold ch at e
  unfold cval
  split at e
  · split at e
    · rename_i q1 q2
      cases e
      rw [if_pos q1]
      have q3 := q2
      unfold cv_R at q3
      simp only [Bool.and_eq_true] at q3
      exact ⟨q3.2, by omega, if_pos q2⟩
    · cases e
  · split at e
    · split at e
      · rename_i q1 q2 q3
        cases e
        rw [if_neg q1, if_pos q2]
        exact ⟨q3, by omega, if_pos q3⟩
      · cases e
    · split at e
      · rename_i q1 q2 q3
        cases e
        rw [if_neg q1, if_neg q2]
        have q4 := q3
        unfold cv_O at q4
        simp only [Bool.and_eq_true] at q4
        have := hr q4.1.1
        exact ⟨q4.2, by omega, if_pos q3⟩
      · cases e
theorem ch_0 {k : Nat} (e : ch w r i T k = none) : cval w r i T k = 0 := by
  unfold ch at e
  unfold cval
  split at e
  · split at e
    · cases e
    · rename_i q1 q2
      rw [if_pos q1]; exact if_neg q2
  · split at e
    · split at e
      · cases e
      · rename_i q1 q2 q3
        rw [if_neg q1, if_pos q2]; exact if_neg q3
    · split at e
      · cases e
      · rename_i q1 q2 q3
        rw [if_neg q1, if_neg q2]; exact if_neg q3
/-- the reference's choice -/
theorem sq_choice {k : Nat} (hd : jd w h r S) (hb : cr_b w h r z) (hT : cv_re w h (cs_ix (tq_ai z 53))) (hi : i % 8 < w) (hi2 : i / 8 < h) (hk : k < 3) (kk : Q (.inl (some (.int (bo (ch w r i (cs_ix (tq_ai z 53)) k))))) z) : wm_X12_choice (nI i) (nI k) z Q := by
  have hw8 := hd.2.1
  have hw1 := hd.1
  have hh8 := hd.2.2.2.1
  have no : ∀ k, ch w r i (cs_ix (tq_ai z 53)) k = none → Q (.inl (some (.int (bo (ch w r i (cs_ix (tq_ai z 53)) k))))) z → wc_X12_choice_85 Q (-1 : Int32) z := by
    intro k e kk
    unfold wc_X12_choice_85
    rw [e] at kk
    exact ⟨fun _ => kk, fun q => absurd rfl q⟩
  have yes : ∀ k o, o < 64 → ch w r i (cs_ix (tq_ai z 53)) k = (if cs_ix (tq_ai z 53) o = true then some o else none) → Q (.inl (some (.int (bo (ch w r i (cs_ix (tq_ai z 53)) k))))) z → wc_X12_choice_85 Q (nI o) z := by
    intro k o ho e kk
    unfold wc_X12_choice_85
    rw [e] at kk
    refine ⟨fun q => ?_, fun _ => ⟨i_in (by omega) (by omega), fun q => ?_, fun q => ?_⟩⟩
    · rw [nu_eq, i_ti (by omega)] at q
      have : (-1 : Int32).toInt = -1 := by decide +kernel
      omega
    · rw [i_cl (by omega), ← cs_f ho] at q
      rw [if_neg (by rw [q]; exact Bool.false_ne_true)] at kk; exact kk
    · rw [i_cl (by omega), ← cs_t ho] at q
      rw [if_pos q] at kk; exact kk
  unfold wm_X12_choice
  rw [i_8, pk_rem (by omega) (by omega) (by omega), pk_div (by omega) (by omega) (by omega)]
  intro v1 e1 v2 e2
  subst e1; subst e2
  rw [hb.1, hb.2.1, hb.2.2, i_1, i_add i w, i_add (i % 8) 1, i_add (i / 8) 1, i_add i 1, i_add i 8, i_le (by omega) (by omega), i_le (by omega) (by omega), show -nI 1 = (-1 : Int32) from rfl]
  have k0 : nI k = (0 : Int32) ↔ k = 0 := by rw [i_0]; exact i_eq (by omega) (by omega)
  have k1 : nI k = nI 1 ↔ k = 1 := i_eq (by omega) (by omega)
  rw [k0, k1]
  refine ⟨fun h0 => ⟨fun h1 => ?_, fun h1 => ?_⟩, fun h0 => ?_⟩
  · have k2 : k = 2 := by omega
    subst k2
    rw [cr_r0]
    refine ⟨fun q => ?_, fun q => ⟨fun q2 => ?_, fun q2 => ?_⟩⟩
    · unfold wc_X12_choice_84
      refine no 2 ?_ kk
      show (if cv_O w r i _ = true then _ else none) = none
      rw [if_neg]
      unfold cv_O; rw [q]; simp
    · unfold wc_X12_choice_84
      refine no 2 ?_ kk
      show (if cv_O w r i _ = true then _ else none) = none
      rw [if_neg]
      rw [i_0, i_eq (by omega) (by omega)] at q2
      unfold cv_O; rw [decide_eq_false q2]; simp
    · rw [Bool.not_eq_false] at q
      rw [i_0, i_eq (by omega) (by omega)] at q2
      have w4 := (hd.2.2.2.2.1 q).2
      rw [pk_sub (by omega)]
      have e : i + w - 1 = i + (w - 1) := by omega
      rw [e]
      refine yes 2 _ (by omega) ?_ kk
      show (if cv_O w r i _ = true then some (i + (w - 1)) else none) = _
      have : cv_O w r i (cs_ix (tq_ai z 53)) = cs_ix (tq_ai z 53) (i + (w - 1)) := by unfold cv_O; rw [q, decide_eq_true q2]; rfl
      rw [this]
  · subst h1
    refine ⟨fun q => ?_, fun q => ?_⟩
    · refine no 1 ?_ kk
      show (if cs_ix (tq_ai z 53) (i + 8) = true then _ else none) = none
      rw [if_neg]
      intro u
      have := hT _ u
      omega
    · exact yes 1 _ (by omega) rfl kk
  · subst h0
    refine ⟨fun q => ?_, fun q => ?_⟩
    · refine no 0 ?_ kk
      show (if cv_R w i _ = true then _ else none) = none
      rw [if_neg]
      unfold cv_R; rw [decide_eq_false (by omega : ¬ i % 8 + 1 < w)]; simp
    · refine yes 0 _ (by omega) ?_ kk
      show (if cv_R w i _ = true then some (i + 1) else none) = _
      have : cv_R w i (cs_ix (tq_ai z 53)) = cs_ix (tq_ai z 53) (i + 1) := by unfold cv_R; rw [decide_eq_true (by omega : i % 8 + 1 < w)]; rfl
      rw [this]
theorem sq_take {c o : Nat} {b : Bool} (hc : c < 64) (ho : o < 64) (k : ∀ z', fr [(2, 53)] z z' → (∀ j, j < 64 → cs_ix (tq_ai z' 53) j = if j = c ∨ j = o then b else cs_ix (tq_ai z 53) j) → Q (.inl none) z') : wm_X12_take (nI c) (nI o) (bi b) z Q := by
  unfold wm_X12_take
  refine ⟨i_in (by omega) (by omega), fun z1 e1 => ⟨i_in (by omega) (by omega), fun z2 e2 => ?_⟩⟩
  rw [i_cl (by omega), bi_v] at e1 e2
  refine k z2 (by rw [e2]; refine fr_sai (by decide) ?_; rw [e1]; exact fr_sai (by decide) fr_r) (fun j hj => ?_)
  have e3 : tq_ai z2 53 j = if j = o then bi b else if j = c then bi b else tq_ai z 53 j := by rw [e2, rw_aie, rw_upd, e1, rw_aie, rw_upd]
  unfold cs_ix
  rw [e3, decide_eq_true hj]
  by_cases q1 : j = o
  · rw [if_pos q1, if_pos (Or.inr q1)]
    cases b <;> decide +kernel
  · rw [if_neg q1]
    by_cases q2 : j = c
    · rw [if_pos q2, if_pos (Or.inl q2)]
      cases b <;> decide +kernel
    · rw [if_neg q2, if_neg (by omega)]
theorem sq_all (hj : jr w h r S z) (k : ∀ z', fr [(2, 53)] z z' → (∀ j, j < 64 → tq_ai z' 53 j = bi (S j)) → Q (.inl none) z') : wm_X12_all z Q := by
  unfold wm_X12_all wc_X12_all_2
  refine lp_inv (fun m s => ∃ z', s = (nI m, z') ∧ fr [(2, 53)] z z' ∧ ∀ j, j < m → tq_ai z' 53 j = bi (S j)) 64 ?_ ⟨z, rfl, fr_r, fun j hj => by omega⟩
  rintro m s hm ⟨z1, rfl, f1, e1⟩ B hB
  simp only
  unfold wb_X12_all_2
  rw [i_64]
  refine ⟨fun h1 => ?_, fun h1 => ?_⟩
  · rw [i_le (by omega) (by omega)] at h1
    have : m = 64 := by omega
    subst this; exact k z1 f1 e1
  · rw [i_le (by omega) (by omega)] at h1
    refine ⟨i_in (by omega) (by omega), i_in (by omega) (by omega), fun z2 q2 v e => ?_⟩
    rw [i_1, i_add] at e
    subst e
    rw [i_cl (by omega), fr_ai (k := 52) f1 (by decide), hj.2 m (by omega), bi_v] at q2
    refine hB (by omega) _ ⟨z2, rfl, by rw [q2]; exact fr_sai (by decide) f1, fun j hjm => ?_⟩
    rw [q2, rw_aie, rw_upd]
    by_cases q : j = m
    · rw [if_pos q, q]
    · rw [if_neg q]; exact e1 j (by omega)
theorem ix_b {A : Nat → Int32} (hS : cv_in S) (h : ∀ j, j < 64 → A j = bi (S j)) : cs_ix A = S := by
  funext j
  by_cases hl : j < 64
  · cases hs : S j
    · rw [cs_f hl, h j hl, hs]; rfl
    · rw [cs_t hl, h j hl, hs]; decide +kernel
  · cases hs : S j
    · cases hc : cs_ix A j
      · rfl
      · exact absurd (cs_in hc) hl
    · exact absurd (hS j hs) hl
theorem cv_bh (h : bh i T) (hi : i ≤ 64) : cv_T w r 0 T = cv_T w r i T := by
  have := cv_skip (w := w) (r := r) (S := T) (i := 0) (n := i) (by omega) (fun j _ hj => by
    cases hc : T j
    · rfl
    · have := h j hc; omega)
  rw [this, Nat.zero_add]
theorem sq_lay0 {c : Nat} (hc : c + 1 < 64) (k : ∀ z', fr [(2, 56)] z z' → (∀ j, tq_ai z' 56 j = if j = c + 1 then nI 119 else if j = c then nI 101 else tq_ai z 56 j) → Q (.inl none) z') : wm_X12_lay (nI c) (nI (c + 1)) (nI 0) z Q := by
  unfold wm_X12_lay
  refine ⟨fun q => absurd rfl q, fun _ => ?_⟩
  unfold wc_X12_lay_26
  refine ⟨i_in (by omega) (by omega), fun z1 e1 => ⟨fun q => absurd rfl q, fun _ => ⟨i_in (by omega) (by omega), fun z2 e2 => ?_⟩⟩⟩
  rw [i_cl (by omega), show vp_nar .char (101 : Int32) = nI 101 by decide +kernel] at e1
  rw [i_cl (by omega), show vp_nar .char (119 : Int32) = nI 119 by decide +kernel] at e2
  refine k z2 (by rw [e2]; refine fr_sai (by decide) ?_; rw [e1]; exact fr_sai (by decide) fr_r) (fun j => ?_)
  rw [e2, rw_aie, rw_upd, e1, rw_aie, rw_upd]
theorem sq_lay1 {c : Nat} (hc : c + 8 < 64) (k : ∀ z', fr [(2, 56)] z z' → (∀ j, tq_ai z' 56 j = if j = c + 8 then nI 110 else if j = c then nI 115 else tq_ai z 56 j) → Q (.inl none) z') : wm_X12_lay (nI c) (nI (c + 8)) (nI 1) z Q := by
  unfold wm_X12_lay
  refine ⟨fun _ => ⟨fun q => absurd rfl q, fun _ => ?_⟩, fun q => (by cases q)⟩
  unfold wc_X12_lay_26
  refine ⟨i_in (by omega) (by omega), fun z1 e1 => ⟨fun _ => ⟨fun q => absurd rfl q, fun _ => ⟨i_in (by omega) (by omega), fun z2 e2 => ?_⟩⟩, fun q => (by cases q)⟩⟩
  rw [i_cl (by omega), show vp_nar .char (115 : Int32) = nI 115 by decide +kernel] at e1
  rw [i_cl (by omega), show vp_nar .char (110 : Int32) = nI 110 by decide +kernel] at e2
  refine k z2 (by rw [e2]; refine fr_sai (by decide) ?_; rw [e1]; exact fr_sai (by decide) fr_r) (fun j => ?_)
  rw [e2, rw_aie, rw_upd, e1, rw_aie, rw_upd]
theorem sq_lay2 {c o : Nat} (hc : c < 64) (ho : o < 64) (k : ∀ z', fr [(2, 56)] z z' → (∀ j, tq_ai z' 56 j = if j = o then nI 101 else if j = c then nI 119 else tq_ai z 56 j) → Q (.inl none) z') : wm_X12_lay (nI c) (nI o) (nI 2) z Q := by
  unfold wm_X12_lay
  refine ⟨fun _ => ⟨fun _ => ?_, fun q => (by cases q)⟩, fun q => (by cases q)⟩
  unfold wc_X12_lay_26
  refine ⟨i_in (by omega) (by omega), fun z1 e1 => ⟨fun _ => ⟨fun _ => ⟨i_in (by omega) (by omega), fun z2 e2 => ?_⟩, fun q => (by cases q)⟩, fun q => (by cases q)⟩⟩
  rw [i_cl (by omega), show vp_nar .char (119 : Int32) = nI 119 by decide +kernel] at e1
  rw [i_cl (by omega), show vp_nar .char (101 : Int32) = nI 101 by decide +kernel] at e2
  refine k z2 (by rw [e2]; refine fr_sai (by decide) ?_; rw [e1]; exact fr_sai (by decide) fr_r) (fun j => ?_)
  rw [e2, rw_aie, rw_upd, e1, rw_aie, rw_upd]
theorem cs_big {A : Nat → Int32} {j : Nat} (h : ¬ j < 64) : cs_ix A j = false := by unfold cs_ix; rw [decide_eq_false h]; rfl
/-- taken away, and put back -/
theorem take_rm {A B : Nat → Int32} {c o : Nat} (hA : cs_ix A = T) (e : ∀ j, j < 64 → cs_ix B j = if j = c ∨ j = o then false else cs_ix A j) : cs_ix B = cv_rm T c o := by
  funext j
  by_cases hj : j < 64
  · rw [e j hj, hA]
    unfold cv_rm
    by_cases q1 : j = c
    · rw [if_pos (Or.inl q1), decide_eq_true q1]; simp
    · by_cases q2 : j = o
      · rw [if_pos (Or.inr q2), decide_eq_true q2]; simp
      · rw [if_neg (by omega), decide_eq_false q1, decide_eq_false q2]; simp
  · rw [cs_big hj]
    have : T j = false := by rw [← hA, cs_big hj]
    unfold cv_rm; rw [this]; rfl
theorem take_back {A B : Nat → Int32} {c o : Nat} (hT : cv_in T) (hc : T c = true) (ho : T o = true) (hA : cs_ix A = cv_rm T c o) (e : ∀ j, j < 64 → cs_ix B j = if j = c ∨ j = o then true else cs_ix A j) : cs_ix B = T := by
  funext j
  by_cases hj : j < 64
  · rw [e j hj, hA]
    by_cases q1 : j = c
    · rw [if_pos (Or.inl q1), q1, hc]
    · by_cases q2 : j = o
      · rw [if_pos (Or.inr q2), q2, ho]
      · rw [if_neg (by omega), cv_rm_f q1 q2]
  · rw [cs_big hj]
    cases hs : T j
    · rfl
    · exact absurd (hT j hs) hj
theorem bh_in (h : bh i T) : cv_in T := fun j hj => (h j hj).2
theorem re_rm {a b : Nat} (hT : cv_re w h T) : cv_re w h (cv_rm T a b) := fun j hj => hT j (cv_rm_t.mp hj).1
end RMAKE
