/-! ===== unlike: the reference turns cells ===== -/
section RTU
variable {w h : Nat} {r : Bool} {S : Nat → Bool} {z : tq_S} {Q : tq_O → tq_S → Prop}
/-- the motion that a turn of the reference is -/
def tmo (t : Nat) : Nat := if t = 0 then 0 else if t = 1 then 4 else if t = 2 then 6 else if t = 3 then 2 else if t = 4 then 7 else if t = 5 then 1 else if t = 6 then 3 else 5
theorem tmo_b : ∀ t : Fin 8, tmo t.val < 8 ∧ (tmo t.val % 2 = 1 ↔ 4 ≤ t.val) := by decide
theorem tmo_0 : ∀ t : Fin 8, tmo t.val = 0 ↔ t.val = 0 := by decide
def rtm (m : Nat) : Nat := if m = 0 then 0 else if m = 4 then 1 else if m = 6 then 2 else if m = 2 then 3 else if m = 7 then 4 else if m = 1 then 5 else if m = 3 then 6 else 7
theorem rtm_m : ∀ m : Fin 8, rtm m.val < 8 ∧ tmo (rtm m.val) = m.val := by decide
theorem tb_3 : ∀ t : Fin 8, (((nI t.val) &&& 1) = 1 ↔ t.val % 2 = 1) ∧ (((nI t.val) &&& 2) = 2 ↔ t.val / 2 % 2 = 1) ∧ (((nI t.val) &&& 4) = 4 ↔ 4 ≤ t.val) := by decide +kernel
/-- where a motion takes a cell -/
def gto (w h m c : Nat) : Nat := 8 * (act w h m (c % 8, c / 8)).2 + (act w h m (c % 8, c / 8)).1
theorem sq_goes {c t : Nat} (hc : c < 64) (hx : c % 8 < w) (hy : c / 8 < h) (hw : w ≤ 8) (hh : h ≤ 8) (ht : t < 8) (hsq : 4 ≤ t → w = h) (h1 : tq_fi z 3265 = nI w) (h2 : tq_fi z 3266 = nI h) (kk : Q (.inl (some (.int (nI (gto w h (tmo t) c))))) z) : wm_X12_goes (nI c) (nI t) z Q := by
  obtain ⟨b1, b2, b3⟩ := tb_3 ⟨t, ht⟩
  have q8 : nI c - nI c / (8 : Int32) * (8 : Int32) = nI (c % 8) := by rw [i_8]; exact pk_rem (by omega) (by omega) (by omega)
  have d8 : nI c / (8 : Int32) = nI (c / 8) := by rw [i_8]; exact pk_div (by omega) (by omega) (by omega)
  obtain ⟨x, ex⟩ : ∃ x, x = c % 8 := ⟨_, rfl⟩
  obtain ⟨y, ey⟩ : ∃ y, y = c / 8 := ⟨_, rfl⟩
  unfold gto at kk
  rw [← ex, ← ey] at kk
  unfold wm_X12_goes
  intro v1 e1 v2 e2
  rw [q8, ← ex] at e1
  rw [d8, ← ey] at e2
  subst e1
  subst e2
  have fin : ∀ u v : Nat, u = (act w h (tmo t) (x, y)).1 → v = (act w h (tmo t) (x, y)).2 → Q (.inl (some (.int (((8 : Int32) * nI v) + nI u)))) z := by
    intro u v eu ev
    rw [i_8, pk_mul, i_add, eu, ev]
    exact kk
  have f47 : ∀ u v : Nat, v < h → (act w h (tmo t) (x, y)).1 = u → (act w h (tmo t) (x, y)).2 = (if t / 2 % 2 = 1 then h - 1 - v else v) → wc_X12_goes_47 Q (nI t) (nI v) (nI u) z := by
    intro u v hv eu ev
    unfold wc_X12_goes_47 wc_X12_goes_69
    rw [b2, h2, i_1, pk_sub (by omega), pk_sub (by omega)]
    refine ⟨fun n => ?_, fun n => ?_⟩
    · exact fin u v eu.symm (by rw [ev, if_neg n])
    · exact fin u _ eu.symm (by rw [ev, if_pos n])
  have f28 : ∀ u v : Nat, u < w → v < h → (act w h (tmo t) (x, y)).1 = (if t % 2 = 1 then w - 1 - u else u) → (act w h (tmo t) (x, y)).2 = (if t / 2 % 2 = 1 then h - 1 - v else v) → wc_X12_goes_28 Q (nI t) (nI u) (nI v) z := by
    intro u v hu hv eu ev
    unfold wc_X12_goes_28
    rw [b1, h1, i_1, pk_sub (by omega), pk_sub (by omega)]
    refine ⟨fun n => ?_, fun n => ?_⟩
    · exact f47 u v hv (by rw [eu, if_neg n]) ev
    · exact f47 _ v hv (by rw [eu, if_pos n]) ev
  rw [b3]
  show (¬ 4 ≤ t → _) ∧ (4 ≤ t → _)
  rcases m8_ ht with rfl | rfl | rfl | rfl | rfl | rfl | rfl | rfl
  · exact ⟨fun _ => f28 x y (by omega) (by omega) rfl rfl, fun n => absurd n (by omega)⟩
  · exact ⟨fun _ => f28 x y (by omega) (by omega) rfl rfl, fun n => absurd n (by omega)⟩
  · exact ⟨fun _ => f28 x y (by omega) (by omega) rfl rfl, fun n => absurd n (by omega)⟩
  · exact ⟨fun _ => f28 x y (by omega) (by omega) rfl rfl, fun n => absurd n (by omega)⟩
  · have := hsq (by omega)
    subst this
    exact ⟨fun n => absurd (show 4 ≤ _ by omega) n, fun _ => f28 y x (by omega) (by omega) rfl rfl⟩
  · have := hsq (by omega)
    subst this
    exact ⟨fun n => absurd (show 4 ≤ _ by omega) n, fun _ => f28 y x (by omega) (by omega) rfl rfl⟩
  · have := hsq (by omega)
    subst this
    exact ⟨fun n => absurd (show 4 ≤ _ by omega) n, fun _ => f28 y x (by omega) (by omega) rfl rfl⟩
  · have := hsq (by omega)
    subst this
    exact ⟨fun n => absurd (show 4 ≤ _ by omega) n, fun _ => f28 y x (by omega) (by omega) rfl rfl⟩
theorem gto_b {m c : Nat} (hx : c % 8 < w) (hy : c / 8 < h) (hw : w ≤ 8) (hh : h ≤ 8) (hm : m < 8) (hsq : m % 2 = 1 → w = h) : gto w h m c < 64 ∧ gto w h m c % 8 = (act w h m (c % 8, c / 8)).1 ∧ gto w h m c / 8 = (act w h m (c % 8, c / 8)).2 ∧ gto w h m c % 8 < w ∧ gto w h m c / 8 < h := by
  have key : (act w h m (c % 8, c / 8)).1 < w ∧ (act w h m (c % 8, c / 8)).2 < h := by
    obtain ⟨x, ex⟩ : ∃ x, x = c % 8 := ⟨_, rfl⟩
    obtain ⟨y, ey⟩ : ∃ y, y = c / 8 := ⟨_, rfl⟩
    rw [← ex] at hx
    rw [← ey] at hy
    rw [← ex, ← ey]
    rcases m8_ hm with rfl | rfl | rfl | rfl | rfl | rfl | rfl | rfl
    · exact ⟨hx, hy⟩
    · have := hsq (by decide)
      exact ⟨by show h - 1 - y < w; omega, by show x < h; omega⟩
    · exact ⟨by show w - 1 - x < w; omega, by show h - 1 - y < h; omega⟩
    · have := hsq (by decide)
      exact ⟨by show y < w; omega, by show w - 1 - x < h; omega⟩
    · exact ⟨by show w - 1 - x < w; omega, hy⟩
    · have := hsq (by decide)
      exact ⟨by show h - 1 - y < w; omega, by show w - 1 - x < h; omega⟩
    · exact ⟨hx, by show h - 1 - y < h; omega⟩
    · have := hsq (by decide)
      exact ⟨by show y < w; omega, by show x < h; omega⟩
  unfold gto
  omega
theorem sq_goesAll {X : Int64} {t : Nat} (hX : ∀ c, ct X c = true → c % 8 < w ∧ c / 8 < h) (hw : w ≤ 8) (hh : h ≤ 8) (ht : t < 8) (hsq : 4 ≤ t → w = h) (h1 : tq_fi z 3265 = nI w) (h2 : tq_fi z 3266 = nI h) (kk : ∀ Y, (∀ b, b < 64 → (ct Y b = true ↔ ∃ c, c < 64 ∧ ct X c = true ∧ gto w h (tmo t) c = b)) → Q (.inl (some (.long Y))) z) : wm_X12_goesAll X (nI t) z Q := by
  unfold wm_X12_goesAll wc_X12_goesAll_6
  refine lp_inv (fun c s => ∃ Y, s = (Y, nI c, z) ∧ ∀ b, b < 64 → (ct Y b = true ↔ ∃ c', c' < c ∧ ct X c' = true ∧ gto w h (tmo t) c' = b)) 64 ?_ ⟨0, rfl, fun b _ => by
    rw [ct_0]
    exact ⟨fun e => (by cases e), fun ⟨c', a, _⟩ => absurd a (Nat.not_lt_zero _)⟩⟩
  rintro c s hc ⟨Y, rfl, hY⟩ B hB
  simp only
  unfold wb_X12_goesAll_6
  rw [i_64, i_le (by omega) (by omega)]
  refine ⟨fun q => ?_, fun q => ?_⟩
  · have : c = 64 := by omega
    subst this
    exact kk Y hY
  have c64 : c < 64 := by omega
  rw [ct_is1 c64]
  have nx : ∀ s0 : Int64, (∀ b, b < 64 → (ct s0 b = true ↔ ct X c = true ∧ gto w h (tmo t) c = b)) → wc_X12_goesAll_39 (fun b4 b6 z => B (b4, b6, z)) Q X (nI t) (nI c) s0 Y z := by
    intro s0 hs0
    unfold wc_X12_goesAll_39
    intro v1 e1 v2 e2
    rw [i_1, i_add] at e2
    subst e1
    subst e2
    refine hB c64 _ ⟨_, rfl, fun b hb => ?_⟩
    rw [ct_or, Bool.or_eq_true, hY b hb, hs0 b hb]
    constructor
    · rintro (⟨c', a, b', d⟩ | ⟨a, b'⟩)
      · exact ⟨c', by omega, b', d⟩
      · exact ⟨c, by omega, a, b'⟩
    · rintro ⟨c', a, b', d⟩
      by_cases u : c' = c
      · subst u; exact Or.inr ⟨b', d⟩
      · exact Or.inl ⟨c', by omega, b', d⟩
  refine ⟨fun n => nx 0 fun b _ => ?_, fun n => ?_⟩
  · rw [ct_0]
    exact ⟨fun e => (by cases e), fun e => absurd e.1 n⟩
  · obtain ⟨hx, hy⟩ := hX c n
    refine sq_goes c64 hx hy hw hh ht hsq h1 h2 ⟨_, rfl, nx _ fun b hb => ?_⟩
    have gb := (gto_b hx hy hw hh (tmo_b ⟨t, ht⟩).1 (fun e => hsq ((tmo_b ⟨t, ht⟩).2.mp e))).1
    rw [ct_bit b gb, decide_eq_true_iff]
    exact ⟨fun e => ⟨n, e.symm⟩, fun e => e.2.symm⟩
end RTU
