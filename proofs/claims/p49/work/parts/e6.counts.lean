/-! ===== the law's counts: the pieces of a cell are all ===== -/
section GC
variable {c w h : Nat} {r : Bool} {S : Nat → Bool} {z : tq_S} {b bk : Bool} {p pk : Nat → Nat} {u x y X : Nat} {a : Int64} {g : Int32 → tq_S → Prop} {f9 : Int64 → tq_S → Prop} {Q : tq_O → tq_S → Prop}
noncomputable def nbv (w : Nat) (r : Bool) (S : Nat → Bool) (c o : Nat) : Nat := if S o = true ∧ nb w r c o = true then cv_T w r 0 (cv_rm S c o) else 0
def oRt (w : Nat) (r : Bool) (x y : Nat) : Nat := if x + 1 < w then 8 * y + x + 1 else if r = true then 8 * y else 1000
def oLt (w : Nat) (r : Bool) (x y : Nat) : Nat := if 0 < x then 8 * y + x - 1 else if r = true then 8 * y + (w - 1) else 1000
def oUp (x y : Nat) : Nat := if 0 < y then 8 * y + x - 8 else 1000
theorem four (hd : jd w h r S) (hx : x < w) (hy : y < h) (sc : S (8 * y + x) = true) : cv_T w r 0 S = nbv w r S (8 * y + x) (oRt w r x y) + nbv w r S (8 * y + x) (8 * y + x + 8) + nbv w r S (8 * y + x) (oLt w r x y) + nbv w r S (8 * y + x) (oUp x y) := by
  have hw8 := hd.2.1
  have hw1 := hd.1
  have hh8 := hd.2.2.2.1
  have hr4 := jd_r hd
  obtain ⟨c, hc⟩ : ∃ c, c = 8 * y + x := ⟨_, rfl⟩
  have hi : ∀ a, nb w r a a = false := fun a => nb_i (by
    cases q : r
    · exact Or.inr rfl
    · exact Or.inl (by have := hr4 q; omega))
  have e := any_c hw8 hr4 hi (jd_bh hd) sc
  rw [← hc] at e sc ⊢
  obtain ⟨f, hf⟩ : ∃ f : Nat → Nat, f = fun o => if S o = true ∧ nb w r c o = true then cv_T w r 0 (cv_rm S c o) else 0 := ⟨_, rfl⟩
  rw [← hf] at e
  have f0 : ∀ i, 64 ≤ i → f i = 0 := fun i h64 => by
    rw [hf]
    exact if_neg (fun u => by have := jd_in hd i u.1; omega)
  obtain ⟨oR, hoR⟩ : ∃ o, o = oRt w r x y := ⟨_, rfl⟩
  obtain ⟨oL, hoL⟩ : ∃ o, o = oLt w r x y := ⟨_, rfl⟩
  obtain ⟨oU, hoU⟩ : ∃ o, o = oUp x y := ⟨_, rfl⟩
  have R1 : x + 1 < w → oR = c + 1 := fun q => by rw [hoR]; unfold oRt; rw [if_pos q]; omega
  have R2 : r = true → ¬ x + 1 < w → oR = 8 * y := fun q q2 => by rw [hoR]; unfold oRt; rw [if_neg q2, if_pos q]
  have R3 : ¬ r = true → ¬ x + 1 < w → oR = 1000 := fun q q2 => by rw [hoR]; unfold oRt; rw [if_neg q2, if_neg q]
  have L1 : 0 < x → oL = c - 1 := fun q => by rw [hoL]; unfold oLt; rw [if_pos q]; omega
  have L2 : r = true → ¬ 0 < x → oL = 8 * y + (w - 1) := fun q q2 => by rw [hoL]; unfold oLt; rw [if_neg q2, if_pos q]
  have L3 : ¬ r = true → ¬ 0 < x → oL = 1000 := fun q q2 => by rw [hoL]; unfold oLt; rw [if_neg q2, if_neg q]
  have U1 : 0 < y → oU = c - 8 := fun q => by rw [hoU]; unfold oUp; rw [if_pos q]; omega
  have U2 : ¬ 0 < y → oU = 1000 := fun q => by rw [hoU]; unfold oUp; rw [if_neg q]
  have hR : (x + 1 < w ∧ oR = c + 1) ∨ (¬ x + 1 < w ∧ 4 ≤ w ∧ oR = 8 * y) ∨ (¬ x + 1 < w ∧ oR = 1000) := by
    by_cases q : x + 1 < w
    · exact Or.inl ⟨q, R1 q⟩
    · by_cases q2 : r = true
      · exact Or.inr (Or.inl ⟨q, hr4 q2, R2 q2 q⟩)
      · exact Or.inr (Or.inr ⟨q, R3 q2 q⟩)
  have hL : (0 < x ∧ oL = c - 1) ∨ (¬ 0 < x ∧ 4 ≤ w ∧ oL = 8 * y + (w - 1)) ∨ (¬ 0 < x ∧ oL = 1000) := by
    by_cases q : 0 < x
    · exact Or.inl ⟨q, L1 q⟩
    · by_cases q2 : r = true
      · exact Or.inr (Or.inl ⟨q, hr4 q2, L2 q2 q⟩)
      · exact Or.inr (Or.inr ⟨q, L3 q2 q⟩)
  have hU : (0 < y ∧ oU = c - 8) ∨ oU = 1000 := by
    by_cases q : 0 < y
    · exact Or.inl ⟨q, U1 q⟩
    · exact Or.inr (U2 q)
  have s4 := sm_4 (f := f) (a := oR) (b := c + 8) (c := oU) (d := oL) (N := 64) f0 (fun i hi n1 n2 n3 n4 => by
    rw [hf]
    refine if_neg ?_
    rintro ⟨si, n⟩
    have hi2 := hd.2.2.2.2.2 i si
    unfold nb at n
    simp only [Bool.or_eq_true, Bool.and_eq_true, decide_eq_true_eq] at n
    rcases n with ((((n | n) | n) | n) | ⟨⟨n, m1⟩, m2⟩) | ⟨⟨n, m1⟩, m2⟩
    · omega
    · have := U1 (by omega); omega
    · have := R1 (by omega); omega
    · have := L1 (by omega); omega
    · have := L2 n (by omega); omega
    · have := R2 n (by omega); omega) (fun e => f0 _ (by omega)) (fun e => f0 _ (by omega)) (fun e => f0 _ (by omega)) (fun e => f0 _ (by omega)) (fun e => f0 _ (by omega)) (fun e => f0 _ (by omega))
  have fn : ∀ o, f o = nbv w r S c o := fun o => by rw [hf]; rfl
  rw [s4, fn, fn, fn, fn] at e
  rw [← hoR, ← hoL, ← hoU]
  omega
def hres (w h : Nat) (r : Bool) (S : Nat → Bool) (X Y D : Int32) (a : Int64) : Prop := (∃ x y o, pcn w h r S X Y D x y o ∧ a = lN (cv_T w r 0 (cv_rm S (8 * y + x) o))) ∨ ((∀ x y o, ¬ pcn w h r S X Y D x y o) ∧ a = -900001)
theorem sL_havT {K : Int64 → Nat → tq_S → Prop} {A B D : Int32} (hh : gA c w h r S b p bk pk u z) (hx : 401 ≤ X) (k : ∀ z' a, gA c w h r S b p bk pk u z' → hres w h r S A B D a → K a (X - 401) z') : ∃ y : Nat, X = y + 1 ∧ wm_L_having A B D z (tq_wi fun v z' => ∃ y' : Nat, y = y' + 400 ∧ wm_L_told v z' (tq_wl fun v z'' => K v y' z'')) :=
  ⟨X - 1, by omega, sL_having hh (fun e => ⟨X - 401, by omega, sq_toldNo (by decide +kernel) (k z _ hh (Or.inr ⟨e, by decide +kernel⟩))⟩) (fun x y o e z' h' t => ⟨X - 401, by omega, sq_told (neg := false) t (k z' _ h' (Or.inl ⟨x, y, o, e, rfl⟩))⟩)⟩
theorem rm_b {i j : Nat} (hd : jd w h r S) : cv_T w r 0 (cv_rm S i j) ≤ 1853020188851841 := T_b (w := w) (h := h) (S := cv_rm S i j) ⟨hd.1, hd.2.1, hd.2.2.1, hd.2.2.2.1, hd.2.2.2.2.1, re_rm hd.2.2.2.2.2⟩
/-- what counts of an answer -/
def posv (a : Int64) (v : Nat) : Prop := (a ≤ 0 ∧ v = 0) ∨ (¬ a ≤ 0 ∧ a = lN v)
theorem posv_l {v : Nat} (hv : v ≤ 1853020188851841) : posv (lN v) v := by
  by_cases q : v = 0
  · exact Or.inl ⟨by rw [l_0, l_leN (by omega) (by omega)]; omega, q⟩
  · exact Or.inr ⟨by rw [l_0, l_leN (by omega) (by omega)]; omega, rfl⟩
theorem posv_n : posv (-900001) 0 := Or.inl ⟨by decide +kernel, rfl⟩
theorem hres_v {D : Int32} {o : Nat} (hw8 : w ≤ 8) (hh8 : h ≤ 8) (hr : hres w h r S (nI x) (nI y) D a) (hxw : x < w) (hyh : y < h) (hs : S (8 * y + x) = true) (hb : bs w h r (8 * y + x) (if D = 0 then 2 else 0) = some o) (ho : S o = true) : a = lN (cv_T w r 0 (cv_rm S (8 * y + x) o)) := by
  rcases hr with ⟨x', y', o', ⟨e1, e2, l1, l2, _, e3, _⟩, e⟩ | ⟨e, _⟩
  · have f1 : x = x' := nI_u (by omega) (by omega) e1
    have f2 : y = y' := nI_u (by omega) (by omega) e2
    subst f1; subst f2
    rw [hb] at e3
    cases e3
    exact e
  · exact absurd ⟨rfl, rfl, hxw, hyh, hs, hb, ho⟩ (e x y o)
theorem hres_n {D : Int32} (hw8 : w ≤ 8) (hh8 : h ≤ 8) (hx : x < 9) (hy : y < 9) (hr : hres w h r S (nI x) (nI y) D a) (no : ∀ o, S (8 * y + x) = true → bs w h r (8 * y + x) (if D = 0 then 2 else 0) = some o → S o = true → False) : a = -900001 := by
  rcases hr with ⟨x', y', o', ⟨e1, e2, l1, l2, e4, e3, e5⟩, e⟩ | ⟨_, e⟩
  · have f1 : x = x' := nI_u (by omega) (by omega) e1
    have f2 : y = y' := nI_u (by omega) (by omega) e2
    subst f1; subst f2
    exact (no o' e4 e3 e5).elim
  · exact e
/-- the asked cell is the cell itself -/
theorem val_f {D : Int32} {o : Nat} (hd : jd w h r S) (hx : x < w) (hy : y < h) (sc : S (8 * y + x) = true) (hr : hres w h r S (nI x) (nI y) D a) (ho : (bs w h r (8 * y + x) (if D = 0 then 2 else 0) = some o ∧ nb w r (8 * y + x) o = true) ∨ (bs w h r (8 * y + x) (if D = 0 then 2 else 0) = none ∧ S o = false)) : posv a (nbv w r S (8 * y + x) o) := by
  have hw8 := hd.2.1
  have hh8 := hd.2.2.2.1
  unfold nbv
  rcases ho with ⟨hb, hn⟩ | ⟨hb, hn⟩
  · by_cases q : S o = true
    · rw [if_pos ⟨q, hn⟩, hres_v hw8 hh8 hr hx hy sc hb q]
      exact posv_l (rm_b hd)
    · rw [if_neg (fun u => q u.1), hres_n hw8 hh8 (by omega) (by omega) hr (fun o' _ e e2 => q (by rw [hb] at e; cases e; exact e2))]
      exact posv_n
  · rw [if_neg (fun u => by rw [hn] at u; exact Bool.false_ne_true u.1), hres_n hw8 hh8 (by omega) (by omega) hr (fun o' _ e e2 => by rw [hb] at e; cases e)]
    exact posv_n
/-- the asked cell is the neighbour -/
theorem val_b {D : Int32} {d : Nat} (hd : jd w h r S) (hx : x < w) (hy : y < h) (sc : S d = true) (hr : hres w h r S (nI x) (nI y) D a) (hb : bs w h r (8 * y + x) (if D = 0 then 2 else 0) = some d) (hn : nb w r d (8 * y + x) = true) : posv a (nbv w r S d (8 * y + x)) := by
  have hw8 := hd.2.1
  have hh8 := hd.2.2.2.1
  unfold nbv
  by_cases q : S (8 * y + x) = true
  · rw [if_pos ⟨q, hn⟩, cv_rm_cm, hres_v hw8 hh8 hr hx hy q hb sc]
    exact posv_l (rm_b hd)
  · rw [if_neg (fun u => q u.1), hres_n hw8 hh8 (by omega) (by omega) hr (fun o' e _ _ => q e)]
    exact posv_n
theorem val_R (hd : jd w h r S) (hx : x < w) (hy : y < h) (sc : S (8 * y + x) = true) (hr : hres w h r S (nI x) (nI y) 1 a) : posv a (nbv w r S (8 * y + x) (oRt w r x y)) := by
  have hw8 := hd.2.1
  refine val_f hd hx hy sc hr ?_
  rw [if_neg (by decide +kernel)]
  unfold bs oRt
  rw [if_pos rfl, show (8 * y + x) % 8 = x by omega]
  by_cases q : x + 1 < w
  · rw [if_pos q, if_pos q]
    exact Or.inl ⟨rfl, nb_right (by omega)⟩
  · rw [if_neg q, if_neg q]
    by_cases q2 : r = true
    · rw [if_pos q2, if_pos q2]
      refine Or.inl ⟨by congr 1; omega, nb_s ?_⟩
      have := nb_round (w := w) (i := 8 * y) q2 (by omega)
      rw [show 8 * y + x = 8 * y + (w - 1) by omega]; exact this
    · rw [if_neg q2, if_neg q2]
      refine Or.inr ⟨rfl, ?_⟩
      cases hs : S 1000
      · rfl
      · have := jd_in hd 1000 hs; omega
theorem val_D (hd : jd w h r S) (hx : x < w) (hy : y < h) (sc : S (8 * y + x) = true) (hr : hres w h r S (nI x) (nI y) 0 a) : posv a (nbv w r S (8 * y + x) (8 * y + x + 8)) := by
  have hw8 := hd.2.1
  refine val_f hd hx hy sc hr ?_
  rw [if_pos rfl]
  unfold bs
  rw [if_neg (by decide), if_neg (by decide), if_pos rfl, show (8 * y + x) / 8 = y by omega]
  by_cases q : y + 1 < h
  · rw [if_pos q]
    exact Or.inl ⟨rfl, nb_down⟩
  · rw [if_neg q]
    refine Or.inr ⟨rfl, ?_⟩
    cases hs : S (8 * y + x + 8)
    · rfl
    · have := hd.2.2.2.2.2 _ hs; omega
theorem val_U (hd : jd w h r S) (hx : x < w) (hy : y < h) (hy0 : 0 < y) (sc : S (8 * y + x) = true) (hr : hres w h r S (nI x) (nI (y - 1)) 0 a) : posv a (nbv w r S (8 * y + x) (oUp x y)) := by
  have hw8 := hd.2.1
  have e : oUp x y = 8 * (y - 1) + x := by unfold oUp; rw [if_pos hy0]; omega
  rw [e]
  refine val_b hd hx (by omega) sc hr ?_ ?_
  · rw [if_pos rfl]
    unfold bs
    rw [if_neg (by decide), if_neg (by decide), if_pos rfl, if_pos (by omega)]
    congr 1; omega
  · have := nb_down (w := w) (r := r) (i := 8 * (y - 1) + x)
    rw [show 8 * (y - 1) + x + 8 = 8 * y + x by omega] at this
    exact nb_s this
theorem val_L (hd : jd w h r S) (hx : x < w) (hy : y < h) (hx0 : 0 < x) (sc : S (8 * y + x) = true) (hr : hres w h r S (nI (x - 1)) (nI y) 1 a) : posv a (nbv w r S (8 * y + x) (oLt w r x y)) := by
  have hw8 := hd.2.1
  have e : oLt w r x y = 8 * y + (x - 1) := by unfold oLt; rw [if_pos hx0]; omega
  rw [e]
  refine val_b hd (by omega) hy sc hr ?_ ?_
  · rw [if_neg (by decide +kernel)]
    unfold bs
    rw [if_pos rfl, if_pos (by omega)]
    congr 1; omega
  · have := nb_right (w := w) (r := r) (i := 8 * y + (x - 1)) (by omega)
    rw [show 8 * y + (x - 1) + 1 = 8 * y + x by omega] at this
    exact nb_s this
/-- round: the last column's piece -/
theorem val_O (hd : jd w h r S) (q2 : r = true) (hy : y < h) (sc : S (8 * y) = true) (hr : hres w h r S (nI (w - 1)) (nI y) 1 a) : posv a (nbv w r S (8 * y) (8 * y + (w - 1))) := by
  have hw8 := hd.2.1
  have w4 := jd_r hd q2
  refine val_b hd (by omega) hy sc hr ?_ ?_
  · rw [if_neg (by decide +kernel)]
    unfold bs
    rw [if_pos rfl, if_neg (by omega), if_pos q2]
    congr 1; omega
  · exact nb_round q2 (by omega)
end GC
