/-! ===== heights: corners, and what a search among them finds ===== -/
def sdc (S : Nat → Bool) (v k : Nat) : Bool := if k = 0 then bx S (v % 9 + 1) (v / 9) || bx S (v % 9 + 1) (v / 9 + 1) else if k = 1 then bx S (v % 9) (v / 9) || bx S (v % 9) (v / 9 + 1) else if k = 2 then bx S (v % 9) (v / 9 + 1) || bx S (v % 9 + 1) (v / 9 + 1) else bx S (v % 9) (v / 9) || bx S (v % 9 + 1) (v / 9)
def toc (v k : Nat) : Nat := if k = 0 then v + 1 else if k = 1 then v - 1 else if k = 2 then v + 9 else v - 9
def icr (w : Nat) (S : Nat → Bool) (p : Nat → Nat) (v k : Nat) : Int := if k = 0 then ho0 S p (v % 9 + 1) (v / 9) else if k = 1 then -ho0 S p (v % 9) (v / 9) else if k = 2 then ve0 w S p (v % 9) (v / 9 + 1) else -ve0 w S p (v % 9) (v / 9)
def cnr (S : Nat → Bool) (v : Nat) : Bool := decide (v < 81) && (bx S (v % 9) (v / 9) || bx S (v % 9 + 1) (v / 9) || bx S (v % 9) (v / 9 + 1) || bx S (v % 9 + 1) (v / 9 + 1))
noncomputable def NC (S : Nat → Bool) (u v : Nat) : Bool := @decide (u < 81 ∧ ∃ k, k < 4 ∧ sdc S u k = true ∧ toc u k = v) (Classical.propDecidable _)
def cn (S : Nat → Bool) (u v : Nat) : Prop := rc (NC S) (fun _ => true) u v
section CORNER
variable {w h : Nat} {S : Nat → Bool} {p : Nat → Nat} {H : Nat → Int}
theorem sdc_0 {v : Nat} : sdc S v 0 = (bx S (v % 9 + 1) (v / 9) || bx S (v % 9 + 1) (v / 9 + 1)) := rfl
theorem sdc_1 {v : Nat} : sdc S v 1 = (bx S (v % 9) (v / 9) || bx S (v % 9) (v / 9 + 1)) := rfl
theorem sdc_2 {v : Nat} : sdc S v 2 = (bx S (v % 9) (v / 9 + 1) || bx S (v % 9 + 1) (v / 9 + 1)) := rfl
theorem sdc_3 {v : Nat} : sdc S v 3 = (bx S (v % 9) (v / 9) || bx S (v % 9 + 1) (v / 9)) := rfl
theorem bx_rng {x y : Nat} (hb : bx S x y = true) : 1 ≤ x ∧ x ≤ 8 ∧ 1 ≤ y ∧ y ≤ 8 := by
  unfold bx at hb
  simp only [Bool.and_eq_true, decide_eq_true_eq] at hb
  omega
/-- where a side leads -/
theorem sd_to {v k : Nat} (hv : v < 81) (hk : k < 4) (hs : sdc S v k = true) : toc v k < 81 ∧ ((k = 0 ∧ toc v k = v + 1 ∧ (v + 1) % 9 = v % 9 + 1 ∧ (v + 1) / 9 = v / 9) ∨ (k = 1 ∧ toc v k = v - 1 ∧ v % 9 = (v - 1) % 9 + 1 ∧ (v - 1) / 9 = v / 9 ∧ 1 ≤ v) ∨ (k = 2 ∧ toc v k = v + 9 ∧ (v + 9) % 9 = v % 9 ∧ (v + 9) / 9 = v / 9 + 1) ∨ (k = 3 ∧ toc v k = v - 9 ∧ (v - 9) % 9 = v % 9 ∧ v / 9 = (v - 9) / 9 + 1 ∧ 9 ≤ v)) := by
  have e : k = 0 ∨ k = 1 ∨ k = 2 ∨ k = 3 := by omega
  rcases e with rfl | rfl | rfl | rfl
  · rw [sdc_0, Bool.or_eq_true] at hs
    have r : v % 9 + 1 ≤ 8 := by
      rcases hs with hs | hs
      · have := bx_rng hs; omega
      · have := bx_rng hs; omega
    have t : toc v 0 = v + 1 := rfl
    refine ⟨by omega, Or.inl ⟨rfl, t, by omega, by omega⟩⟩
  · rw [sdc_1, Bool.or_eq_true] at hs
    have r : 1 ≤ v % 9 := by
      rcases hs with hs | hs
      · have := bx_rng hs; omega
      · have := bx_rng hs; omega
    have t : toc v 1 = v - 1 := rfl
    refine ⟨by omega, Or.inr (Or.inl ⟨rfl, t, by omega, by omega, by omega⟩)⟩
  · rw [sdc_2, Bool.or_eq_true] at hs
    have r : v / 9 + 1 ≤ 8 := by
      rcases hs with hs | hs
      · have := bx_rng hs; omega
      · have := bx_rng hs; omega
    have t : toc v 2 = v + 9 := rfl
    refine ⟨by omega, Or.inr (Or.inr (Or.inl ⟨rfl, t, by omega, by omega⟩))⟩
  · rw [sdc_3, Bool.or_eq_true] at hs
    have r : 1 ≤ v / 9 := by
      rcases hs with hs | hs
      · have := bx_rng hs; omega
      · have := bx_rng hs; omega
    have t : toc v 3 = v - 9 := rfl
    refine ⟨by omega, Or.inr (Or.inr (Or.inr ⟨rfl, t, by omega, by omega, by omega⟩))⟩
theorem sd_cn {v k : Nat} (hv : v < 81) (hk : k < 4) (hs : sdc S v k = true) : cnr S (toc v k) = true := by
  obtain ⟨h1, h2⟩ := sd_to hv hk hs
  unfold cnr
  rw [decide_eq_true h1, Bool.true_and]
  rcases h2 with ⟨rfl, e, a, b⟩ | ⟨rfl, e, a, b, c⟩ | ⟨rfl, e, a, b⟩ | ⟨rfl, e, a, b, c⟩ <;> rw [e]
  · rw [a, b]
    rw [sdc_0, Bool.or_eq_true] at hs
    rcases hs with hs | hs <;> rw [hs] <;> simp
  · rw [sdc_1, Bool.or_eq_true] at hs
    rw [a] at hs
    rw [b]
    rcases hs with hs | hs <;> rw [hs] <;> simp
  · rw [a, b]
    rw [sdc_2, Bool.or_eq_true] at hs
    rcases hs with hs | hs <;> rw [hs] <;> simp
  · rw [sdc_3, Bool.or_eq_true] at hs
    rw [a, ← b]
    rcases hs with hs | hs <;> rw [hs] <;> simp
theorem sd_sy {v k : Nat} (hv : v < 81) (hk : k < 4) (hs : sdc S v k = true) : ∃ k', k' < 4 ∧ sdc S (toc v k) k' = true ∧ toc (toc v k) k' = v := by
  obtain ⟨h1, h2⟩ := sd_to hv hk hs
  rcases h2 with ⟨rfl, e, a, b⟩ | ⟨rfl, e, a, b, c⟩ | ⟨rfl, e, a, b⟩ | ⟨rfl, e, a, b, c⟩ <;> rw [e]
  · refine ⟨1, by omega, ?_, by show v + 1 - 1 = v; omega⟩
    rw [sdc_1, a, b]
    rw [sdc_0] at hs; exact hs
  · refine ⟨0, by omega, ?_, by show v - 1 + 1 = v; omega⟩
    rw [sdc_0, ← a, b]
    rw [sdc_1] at hs; exact hs
  · refine ⟨3, by omega, ?_, by show v + 9 - 9 = v; omega⟩
    rw [sdc_3, a, b]
    rw [sdc_2] at hs; exact hs
  · refine ⟨2, by omega, ?_, by show v - 9 + 9 = v; omega⟩
    rw [sdc_2, a, ← b]
    rw [sdc_3] at hs; exact hs
theorem NC_t {u v : Nat} : NC S u v = true ↔ u < 81 ∧ ∃ k, k < 4 ∧ sdc S u k = true ∧ toc u k = v := by
  unfold NC
  exact @decide_eq_true_iff _ (Classical.propDecidable _)
theorem NC_s : ∀ u v, NC S u v = true → NC S v u = true := by
  intro u v hn
  obtain ⟨hu, k, hk, hs, e⟩ := NC_t.mp hn
  obtain ⟨k', a, b, c⟩ := sd_sy hu hk hs
  rw [e] at b c
  have := (sd_to hu hk hs).1
  rw [e] at this
  exact NC_t.mpr ⟨this, k', a, b, c⟩
theorem cn_s {u v : Nat} (hc : cn S u v) : cn S v u := rc_s NC_s rfl hc
theorem cn_t {u v x : Nat} (h1 : cn S u v) (h2 : cn S v x) : cn S u x := rc_t h1 h2
theorem cn_1 {u v k : Nat} (h1 : cn S u v) (hv : v < 81) (hk : k < 4) (hs : sdc S v k = true) : cn S u (toc v k) := rc_n h1 (NC_t.mpr ⟨hv, k, hk, hs, rfl⟩) rfl
theorem cn_cl {T : Nat → Bool} (hT : ∀ v k, T v = true → v < 81 → k < 4 → sdc S v k = true → T (toc v k) = true) {u v : Nat} (hu : T u = true) (hc : cn S u v) : T v = true := hc T hu (fun a b ha hn _ => by
  obtain ⟨h1, k, h2, h3, h4⟩ := NC_t.mp hn
  rw [← h4]
  exact hT a k ha h1 h2 h3)
theorem cn_cnr {u v : Nat} (hu : cnr S u = true) (hc : cn S u v) : cnr S v = true := cn_cl (T := cnr S) (fun _ _ _ h1 h2 h3 => sd_cn h1 h2 h3) hu hc
noncomputable def lst (S : Nat → Bool) (v : Nat) : Nat := Classical.choose (pk_least (fun j => cn S v j) ⟨v, rc_r⟩)
theorem lst_s (S : Nat → Bool) (v : Nat) : cn S v (lst S v) ∧ ∀ j, cn S v j → lst S v ≤ j := by
  have := Classical.choose_spec (pk_least (fun j => cn S v j) ⟨v, rc_r⟩)
  refine ⟨this.1, fun j hj => ?_⟩
  refine Classical.byContradiction fun hn => this.2 j (by unfold lst at hn; omega) hj
theorem lst_u {v s : Nat} (h1 : cn S v s) (h2 : ∀ j, cn S v j → s ≤ j) : lst S v = s := by
  obtain ⟨a, b⟩ := lst_s S v
  have := b s h1
  have := h2 _ a
  omega
theorem cnr_81 {v : Nat} (hc : cnr S v = true) : v < 81 := by
  unfold cnr at hc
  simp only [Bool.and_eq_true, decide_eq_true_eq] at hc
  exact hc.1
theorem cnr_in (hre : cv_re w h S) {v : Nat} (hc : cnr S v = true) : v % 9 ≤ w ∧ v / 9 ≤ h := by
  unfold cnr at hc
  simp only [Bool.and_eq_true, decide_eq_true_eq, Bool.or_eq_true] at hc
  rcases hc.2 with ((q | q) | q) | q
  · have := bx_rect hre q; omega
  · have := bx_rect hre q; omega
  · have := bx_rect hre q; omega
  · have := bx_rect hre q; omega
theorem vl_b {a b : Bool} : -3 ≤ vl a b ∧ vl a b ≤ 3 := by cases a <;> cases b <;> decide
theorem icr_b {v k : Nat} : -3 ≤ icr w S p v k ∧ icr w S p v k ≤ 3 := by
  unfold icr ho0 ve0
  have q := fun a b => vl_b (a := a) (b := b)
  split
  · exact q _ _
  · split
    · have := q (decide ((v % 9 + v / 9) % 2 = 0)) (bx S (v % 9) (v / 9) && Dp p (8 * (v / 9 - 1) + (v % 9 - 1))); omega
    · split
      · exact q _ _
      · have := q (decide ((v % 9 + v / 9) % 2 = 1)) (bx S (v % 9) (v / 9) && Rp w false p (8 * (v / 9 - 1) + (v % 9 - 1))); omega
theorem pot_i (hp : pot w S p H) {v k : Nat} (hv : v < 81) (hk : k < 4) (hs : sdc S v k = true) : H (toc v k) = H v + icr w S p v k := by
  obtain ⟨p1, p2⟩ := hp
  obtain ⟨h1, h2⟩ := sd_to hv hk hs
  have dv : 9 * (v / 9) + v % 9 = v := by omega
  rcases h2 with ⟨rfl, e, a, b⟩ | ⟨rfl, e, a, b, c⟩ | ⟨rfl, e, a, b⟩ | ⟨rfl, e, a, b, c⟩ <;> rw [e]
  · rw [sdc_0, Bool.or_eq_true] at hs
    have g := p1 (v % 9 + 1) (v / 9) (by omega) (by omega) (by omega) hs
    have e1 : 9 * (v / 9) + (v % 9 + 1) = v + 1 := by omega
    have e2 : 9 * (v / 9) + (v % 9 + 1 - 1) = v := by omega
    rw [e1, e2] at g
    show _ = _ + ho0 S p (v % 9 + 1) (v / 9)
    omega
  · rw [sdc_1, Bool.or_eq_true] at hs
    have g := p1 (v % 9) (v / 9) (by omega) (by omega) (by omega) hs
    have e2 : 9 * (v / 9) + (v % 9 - 1) = v - 1 := by omega
    rw [dv, e2] at g
    show _ = _ + -ho0 S p (v % 9) (v / 9)
    omega
  · rw [sdc_2, Bool.or_eq_true] at hs
    have g := p2 (v % 9) (v / 9 + 1) (by omega) (by omega) (by omega) hs
    have e1 : 9 * (v / 9 + 1) + v % 9 = v + 9 := by omega
    have e2 : 9 * (v / 9 + 1 - 1) + v % 9 = v := by omega
    rw [e1, e2] at g
    show _ = _ + ve0 w S p (v % 9) (v / 9 + 1)
    omega
  · rw [sdc_3, Bool.or_eq_true] at hs
    have g := p2 (v % 9) (v / 9) (by omega) (by omega) (by omega) hs
    have e2 : 9 * (v / 9 - 1) + v % 9 = v - 9 := by omega
    rw [dv, e2] at g
    show _ = _ + -ve0 w S p (v % 9) (v / 9)
    omega
/-! the search from one corner -/
def un (U : Nat → Bool) (c : Nat) : Nat → Bool := fun j => if j = c then true else U j
theorem un_e {U : Nat → Bool} {c : Nat} : un U c c = true := if_pos rfl
theorem un_n {U : Nat → Bool} {c j : Nat} (hj : j ≠ c) : un U c j = U j := if_neg hj
theorem un_o {U : Nat → Bool} {c j : Nat} (hj : U j = true) : un U c j = true := by
  by_cases q : j = c
  · rw [q, un_e]
  · rw [un_n q]; exact hj
def hb (S : Nat → Bool) (H : Nat → Int) (s0 : Nat → Bool) (A0 : Nat → Int32) (unk : Int32) (s n : Nat) (g : Nat → Nat) (U : Nat → Bool) (A q : Nat → Int32) : Prop :=
  (∀ v, v < 81 → U v = false → A v = unk) ∧ (∀ v, s0 v = true → U v = true ∧ A v = A0 v) ∧ (∀ i, i < n → q i = nI (g i) ∧ cnr S (g i) = true ∧ U (g i) = true ∧ s0 (g i) = false ∧ cn S s (g i) ∧ (A (g i)).toInt = H (g i) - H s ∧ -(3 * (i : Int)) ≤ (A (g i)).toInt ∧ (A (g i)).toInt ≤ 3 * (i : Int)) ∧ (∀ v, U v = true → s0 v = true ∨ ∃ i, i < n ∧ g i = v) ∧ (∀ i j, i < j → j < n → g i ≠ g j)
variable {s0 U : Nat → Bool} {A0 A q : Nat → Int32} {unk : Int32} {s n : Nat} {g : Nat → Nat}
theorem hb_81 (hh : hb S H s0 A0 unk s n g U A q) : n ≤ 81 := fb_holes 81 n g (fun i hi => cnr_81 (hh.2.2.1 i hi).2.1) hh.2.2.2.2
theorem hb_0 (hs : cnr S s = true) (h0 : s0 s = false) (hu : ∀ v, v < 81 → s0 v = false → A0 v = unk) : hb S H s0 A0 unk s 1 (fun _ => s) (un s0 s) (upd A0 s 0) (upd q 0 (nI s)) := by
  refine ⟨fun v hv hU => ?_, fun v hv => ?_, fun i hi => ?_, fun v hv => ?_, fun i j hij hj => by omega⟩
  · by_cases e : v = s
    · rw [e, un_e] at hU; cases hU
    · rw [un_n e] at hU
      rw [rw_upd, if_neg e]; exact hu v hv hU
  · have e : v ≠ s := fun e => by rw [e, h0] at hv; cases hv
    rw [un_n e, rw_upd, if_neg e]
    exact ⟨hv, rfl⟩
  · have : i = 0 := by omega
    subst this
    have e : (upd A0 s 0 s).toInt = 0 := by rw [rw_upd, if_pos rfl]; rfl
    refine ⟨by rw [rw_upd, if_pos rfl], hs, un_e, h0, rc_r, by rw [e]; exact (Int.sub_self _).symm, by rw [e]; decide, by rw [e]; decide⟩
  · by_cases e : v = s
    · exact Or.inr ⟨0, by omega, e.symm⟩
    · rw [un_n e] at hv; exact Or.inl hv
theorem hb_1 (hp : pot w S p H) (hh : hb S H s0 A0 unk s n g U A q) {i k : Nat} {X : Int32} (hi : i < n) (hk : k < 4) (hsd : sdc S (g i) k = true) (hU : U (toc (g i) k) = false) (hX : X.toInt = icr w S p (g i) k) : n < 81 ∧ hb S H s0 A0 unk s (n + 1) (fun j => if j = n then toc (g i) k else g j) (un U (toc (g i) k)) (upd A (toc (g i) k) (A (g i) + X)) (upd q n (nI (toc (g i) k))) := by
  obtain ⟨a1, a2, a3, a4, a5⟩ := hh
  obtain ⟨b1, b2, b3, b4, b5, b6, b7, b8⟩ := a3 i hi
  have v81 := cnr_81 b2
  obtain ⟨t, ht⟩ : ∃ t, t = toc (g i) k := ⟨_, rfl⟩
  have t81 : t < 81 := by rw [ht]; exact (sd_to v81 hk hsd).1
  have tH : H t = H (g i) + icr w S p (g i) k := by rw [ht]; exact pot_i hp v81 hk hsd
  have tc : cnr S t = true := by rw [ht]; exact sd_cn v81 hk hsd
  have tn : cn S s t := by rw [ht]; exact cn_1 b5 v81 hk hsd
  rw [← ht] at hU ⊢
  have ib := icr_b (w := w) (S := S) (p := p) (v := g i) (k := k)
  have gt : ∀ j, j < n → g j ≠ t := fun j hj e => by rw [← e, (a3 j hj).2.2.1] at hU; cases hU
  have inj : ∀ x y, x < y → y < n + 1 → (fun j => if j = n then t else g j) x ≠ (fun j => if j = n then t else g j) y := by
    intro x y hxy hy
    show (if x = n then t else g x) ≠ (if y = n then t else g y)
    rw [if_neg (by omega)]
    by_cases e : y = n
    · rw [if_pos e]; exact gt x (by omega)
    · rw [if_neg e]; exact a5 x y hxy (by omega)
  have n81 : n + 1 ≤ 81 := fb_holes 81 (n + 1) (fun j => if j = n then t else g j) (fun j hj => by
    show (if j = n then t else g j) < 81
    by_cases e : j = n
    · rw [if_pos e]; exact t81
    · rw [if_neg e]; exact cnr_81 (a3 j (by omega)).2.1) inj
  refine ⟨by omega, fun v hv hu => ?_, fun v hv => ?_, fun j hj => ?_, fun v hv => ?_, inj⟩
  · by_cases e : v = t
    · rw [e, un_e] at hu; cases hu
    · rw [un_n e] at hu
      rw [rw_upd, if_neg e]; exact a1 v hv hu
  · have := a2 v hv
    have e : v ≠ t := fun e => by rw [← e, this.1] at hU; cases hU
    rw [un_n e, rw_upd, if_neg e]; exact this
  · show _ = nI (if j = n then t else g j) ∧ cnr S (if j = n then t else g j) = true ∧ un U t (if j = n then t else g j) = true ∧ s0 (if j = n then t else g j) = false ∧ cn S s (if j = n then t else g j) ∧ (upd A t (A (g i) + X) (if j = n then t else g j)).toInt = H (if j = n then t else g j) - H s ∧ -(3 * (j : Int)) ≤ (upd A t (A (g i) + X) (if j = n then t else g j)).toInt ∧ (upd A t (A (g i) + X) (if j = n then t else g j)).toInt ≤ 3 * (j : Int)
    by_cases e : j = n
    · rw [if_pos e, rw_upd, if_pos e, rw_upd, if_pos rfl]
      have s0t : s0 t = false := by
        cases e0 : s0 t
        · rfl
        · rw [(a2 t e0).1] at hU; cases hU
      have ta : (A (g i) + X).toInt = H t - H s := by
        rw [nu_add (by rw [hX]; omega) (by rw [hX]; omega), hX, b6, tH]; omega
      refine ⟨rfl, tc, un_e, s0t, tn, ta, ?_, ?_⟩
      · rw [nu_add (by rw [hX]; omega) (by rw [hX]; omega), hX]; omega
      · rw [nu_add (by rw [hX]; omega) (by rw [hX]; omega), hX]; omega
    · have jn : j < n := by omega
      obtain ⟨c1, c2, c3, c4, c5, c6, c7, c8⟩ := a3 j jn
      rw [if_neg e, rw_upd, if_neg e, rw_upd, if_neg (gt j jn)]
      exact ⟨c1, c2, un_o c3, c4, c5, c6, c7, c8⟩
  · by_cases e : v = t
    · exact Or.inr ⟨n, by omega, by show (if n = n then t else g n) = v; rw [if_pos rfl, e]⟩
    · rw [un_n e] at hv
      rcases a4 v hv with q | ⟨j, hj, hg⟩
      · exact Or.inl q
      · refine Or.inr ⟨j, by omega, ?_⟩
        show (if j = n then t else g j) = v
        rw [if_neg (by omega)]; exact hg
theorem hb_e (hh : hb S H s0 A0 unk s n g U A q) (hg : 0 < n) (hg0 : g 0 = s) (hcl : ∀ v k, s0 v = true → v < 81 → k < 4 → sdc S v k = true → s0 (toc v k) = true) (hdone : ∀ i, i < n → ∀ k, k < 4 → sdc S (g i) k = true → U (toc (g i) k) = true) : ∀ v, U v = true ↔ s0 v = true ∨ cn S s v := by
  obtain ⟨a1, a2, a3, a4, a5⟩ := hh
  intro v
  constructor
  · intro hv
    rcases a4 v hv with e | ⟨i, hi, rfl⟩
    · exact Or.inl e
    · exact Or.inr (a3 i hi).2.2.2.2.1
  · rintro (hv | hv)
    · exact (a2 v hv).1
    · have b0 := a3 0 hg
      rw [hg0] at b0
      have := cn_cl (S := S) (T := fun v => U v && !s0 v) (fun x k hx hx81 hk hs => by
        simp only [Bool.and_eq_true, Bool.not_eq_true'] at hx
        rcases a4 x hx.1 with e | ⟨i, hi, rfl⟩
        · rw [e] at hx; cases hx.2
        · have h1 := hdone i hi k hk hs
          have h2 : s0 (toc (g i) k) = false := by
            cases e0 : s0 (toc (g i) k)
            · rfl
            · obtain ⟨k', c1, c2, c3⟩ := sd_sy hx81 hk hs
              have := hcl _ k' e0 (sd_to hx81 hk hs).1 c1 c2
              rw [c3, hx.2] at this; cases this
          show (U (toc (g i) k) && !s0 (toc (g i) k)) = true
          rw [h1, h2]; rfl) (u := s) (v := v) (by show (U s && !s0 s) = true; rw [b0.2.2.1, b0.2.2.2.1]; rfl) hv
      simp only [Bool.and_eq_true] at this
      exact this.1
/-! all corners, one after the other -/
def hO (S : Nat → Bool) (H : Nat → Int) (unk : Int32) (i : Nat) (U : Nat → Bool) (A : Nat → Int32) : Prop :=
  (∀ v, v < 81 → U v = false → A v = unk) ∧ (∀ v, U v = true → cnr S v = true) ∧ (∀ v, cnr S v = true → v < i → U v = true) ∧ (∀ v k, U v = true → v < 81 → k < 4 → sdc S v k = true → U (toc v k) = true) ∧ ∀ v, U v = true → (A v).toInt = H v - H (lst S v) ∧ -300 ≤ (A v).toInt ∧ (A v).toInt ≤ 300
theorem hO_n {i j : Nat} (hh : hO S H unk i U A) (hj : ∀ v, i ≤ v → v < j → cnr S v = true → U v = true) : hO S H unk j U A := ⟨hh.1, hh.2.1, fun v hc hv => by
  by_cases e : v < i
  · exact hh.2.2.1 v hc e
  · exact hj v (by omega) hv hc, hh.2.2.2.1, hh.2.2.2.2⟩
theorem hO_b {U0 : Nat → Bool} (hh0 : hO S H unk s U0 A0) (hs : cnr S s = true) (h0 : U0 s = false) (hh : hb S H U0 A0 unk s n g U A q) (hg : 0 < n) (hg0 : g 0 = s) (hdone : ∀ i, i < n → ∀ k, k < 4 → sdc S (g i) k = true → U (toc (g i) k) = true) : hO S H unk (s + 1) U A := by
  obtain ⟨o1, o2, o3, o4, o5⟩ := hh0
  have key := hb_e hh hg hg0 o4 hdone
  have n81 := hb_81 hh
  obtain ⟨a1, a2, a3, a4, a5⟩ := hh
  refine ⟨a1, fun v hv => ?_, fun v hc hv => ?_, fun v k hv hv81 hk hsd => ?_, fun v hv => ?_⟩
  · rcases (key v).mp hv with e | e
    · exact o2 v e
    · exact cn_cnr hs e
  · rw [key]
    by_cases e : v = s
    · exact Or.inr (by rw [e]; exact rc_r)
    · exact Or.inl (o3 v hc (by omega))
  · rw [key] at hv ⊢
    rcases hv with e | e
    · exact Or.inl (o4 v k e hv81 hk hsd)
    · exact Or.inr (cn_1 e hv81 hk hsd)
  · rcases a4 v hv with e | ⟨i, hi, rfl⟩
    · rw [(a2 v e).2]; exact o5 v e
    · obtain ⟨c1, c2, c3, c4, c5, c6, c7, c8⟩ := a3 i hi
      have ls : lst S (g i) = s := lst_u (cn_s c5) (fun j hj => by
        refine Classical.byContradiction fun hn => ?_
        have hsj := cn_t c5 hj
        have cj := cn_cnr hs hsj
        have uj := o3 j cj (by omega)
        have := cn_cl o4 uj (cn_s hsj)
        rw [h0] at this; cases this)
      rw [ls]
      exact ⟨c6, by omega, by omega⟩
/-- the heights, told -/
def hts (S : Nat → Bool) (H : Nat → Int) (unk : Int32) (A : Nat → Int32) : Prop := ∀ v, v < 81 → (cnr S v = true → (A v).toInt = H v - H (lst S v) ∧ -300 ≤ (A v).toInt ∧ (A v).toInt ≤ 300) ∧ (cnr S v = false → A v = unk)
theorem hO_e {i : Nat} (hh : hO S H unk i U A) (hi : ∀ v, cnr S v = true → v < i) : hts S H unk A := by
  intro v hv
  refine ⟨fun hc => hh.2.2.2.2 v (hh.2.2.1 v hc (hi v hc)), fun hc => hh.1 v hv ?_⟩
  cases e : U v
  · rfl
  · rw [hh.2.1 v e] at hc; cases hc
end CORNER
