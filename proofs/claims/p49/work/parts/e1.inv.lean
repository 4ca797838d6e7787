/-! ===== what holds of the object between two calls of the law ===== -/
section GI
variable {c w h : Nat} {r : Bool} {S : Nat → Bool} {z z' z1 : tq_S} {F : List (Nat × Nat)} {b bk : Bool} {p q pk : Nat → Nat} {u : Nat} {g : Int32 → tq_S → Prop}
def gS (c : Nat) (z : tq_S) : Prop := c ≤ 100 ∧ tq_fi z 1477 = nI 0 ∧ tq_fi z 1807 = -1 ∧ tq_fi z 68 = nI c ∧ sp (tq_fi z 134) c ∧ sp (tq_fi z 135) c ∧ sp (tq_fi z 1220) c
def gB (c w h : Nat) (r : Bool) (S : Nat → Bool) (z : tq_S) : Prop := gS c z ∧ jd w h r S ∧ jc w h r S z ∧ jfro w h r S z ∧ jhav w h r S z ∧ jpr w r S z
def gV (w : Nat) (r : Bool) (S : Nat → Bool) (b : Bool) (p : Nat → Nat) (z : tq_S) : Prop := tq_fi z 516 = bi b ∧ (b = true → cvo w r S p (tq_fl z 517) (tq_fl z 518))
def gK (w : Nat) (r : Bool) (S : Nat → Bool) (b : Bool) (p : Nat → Nat) (z : tq_S) : Prop := tq_fi z 519 = bi b ∧ (b = true → cvo w r S p (tq_fl z 520) (tq_fl z 521))
def gU (u : Nat) (z : tq_S) : Prop := tq_fi z 522 = nI u ∧ u ≤ 10 ∧ ∀ k, k < u → ∃ b, tq_ai z 11 k = bi b
/-- the undo's last entry -/
def gT (w : Nat) (r : Bool) (S : Nat → Bool) (u : Nat) (p : Nat → Nat) (z : tq_S) : Prop := ∃ m, u = m + 1 ∧ tq_ai z 11 m = bi true ∧ cvo w r S p (tq_al z 9 m) (tq_al z 10 m)
def gA (c w h : Nat) (r : Bool) (S : Nat → Bool) (b : Bool) (p : Nat → Nat) (bk : Bool) (pk : Nat → Nat) (u : Nat) (z : tq_S) : Prop := gB c w h r S z ∧ gV w r S b p z ∧ gK w r S bk pk z ∧ gU u z
def PS : List (Nat × Nat) := [(0, 1477), (0, 1807), (0, 68), (0, 134), (0, 135), (0, 1220)]
def PV : List (Nat × Nat) := [(0, 516), (1, 517), (1, 518)]
def PK : List (Nat × Nat) := [(0, 519), (1, 520), (1, 521)]
def PU : List (Nat × Nat) := [(0, 522), (2, 11)]
def PBx : List (Nat × Nat) := PS ++ [(0, 64), (0, 65), (0, 66), (1, 67), (3, 3), (3, 7), (1, 1221), (1, 1222), (1, 1223)]
def PA : List (Nat × Nat) := PBx ++ PV ++ PK ++ PU
theorem gS_f (f : fr F z z') (nn : ∀ x, x ∈ PS → x ∉ F) (hh : gS c z) : gS c z' := by
  unfold gS
  rw [fr_fi f (nn (0, 1477) (by decide)), fr_fi f (nn (0, 1807) (by decide)), fr_fi f (nn (0, 68) (by decide)), fr_fi f (nn (0, 134) (by decide)), fr_fi f (nn (0, 135) (by decide)), fr_fi f (nn (0, 1220) (by decide))]
  exact hh
theorem PBx_s {L : List (Nat × Nat)} (hL : ∀ x, x ∈ L → x ∈ PBx) (nn : ∀ x, x ∈ PBx → x ∉ F) : ∀ x, x ∈ L → x ∉ F := fun x hx => nn x (hL x hx)
theorem gB_f (f : fr F z z') (nn : ∀ x, x ∈ PBx → x ∉ F) (hh : gB c w h r S z) : gB c w h r S z' := by
  obtain ⟨a, hd, hj, e, i, j⟩ := hh
  exact ⟨gS_f f (PBx_s (by decide) nn) a, hd, jc_f f (nn _ (by decide)) (nn _ (by decide)) (nn _ (by decide)) (nn _ (by decide)) hj, jfro_f f (PBx_s (by decide) nn) e, jhav_f f (PBx_s (by decide) nn) i, jpr_f f (PBx_s (by decide) nn) j⟩
theorem gV_f (f : fr F z z') (nn : ∀ x, x ∈ PV → x ∉ F) (hh : gV w r S b p z) : gV w r S b p z' := by
  unfold gV
  rw [fr_fi f (nn (0, 516) (by decide)), fr_fl f (nn (1, 517) (by decide)), fr_fl f (nn (1, 518) (by decide))]
  exact hh
theorem gK_f (f : fr F z z') (nn : ∀ x, x ∈ PK → x ∉ F) (hh : gK w r S b p z) : gK w r S b p z' := by
  unfold gK
  rw [fr_fi f (nn (0, 519) (by decide)), fr_fl f (nn (1, 520) (by decide)), fr_fl f (nn (1, 521) (by decide))]
  exact hh
theorem gU_f (f : fr F z z') (nn : ∀ x, x ∈ PU → x ∉ F) (hh : gU u z) : gU u z' := by
  unfold gU
  rw [fr_fi f (nn (0, 522) (by decide)), fr_ai f (nn (2, 11) (by decide))]
  exact hh
theorem gT_f (f : fr F z z') (nn : ∀ x, x ∈ [(2, 11), (3, 9), (3, 10)] → x ∉ F) (hh : gT w r S u p z) : gT w r S u p z' := by
  unfold gT
  rw [fr_ai f (nn (2, 11) (by decide)), fr_al f (nn (3, 9) (by decide)), fr_al f (nn (3, 10) (by decide))]
  exact hh
theorem gA_f (f : fr F z z') (nn : ∀ x, x ∈ PA → x ∉ F) (hh : gA c w h r S b p bk pk u z) : gA c w h r S b p bk pk u z' :=
  ⟨gB_f f (fun x hx => nn x (List.mem_append_left _ (List.mem_append_left _ (List.mem_append_left _ hx)))) hh.1, gV_f f (fun x hx => nn x (List.mem_append_left _ (List.mem_append_left _ (List.mem_append_right _ hx)))) hh.2.1, gK_f f (fun x hx => nn x (List.mem_append_left _ (List.mem_append_right _ hx))) hh.2.2.1, gU_f f (fun x hx => nn x (List.mem_append_right _ hx)) hh.2.2.2⟩
/-- the board's caches may be filled -/
theorem gS_c (f : fr F z z') (nn : ∀ x, x ∈ [(0, 1477), (0, 1807), (0, 68)] → x ∉ F) (h1 : tq_fi z' 134 = tq_fi z 134 ∨ tq_fi z' 134 = tq_fi z 68) (h2 : tq_fi z' 135 = tq_fi z 135 ∨ tq_fi z' 135 = tq_fi z 68) (h3 : tq_fi z' 1220 = tq_fi z 1220 ∨ tq_fi z' 1220 = tq_fi z 68) (hh : gS c z) : gS c z' := by
  obtain ⟨a1, a2, a3, a4, a5, a6, a7⟩ := hh
  have key : ∀ (v v' : Int32), sp v c → (v' = v ∨ v' = tq_fi z 68) → sp v' c := by
    intro v v' s t
    rcases t with t | t
    · rw [t]; exact s
    · rw [t, a4]; exact sp_e rfl
  exact ⟨a1, by rw [fr_fi f (nn (0, 1477) (by decide))]; exact a2, by rw [fr_fi f (nn (0, 1807) (by decide))]; exact a3, by rw [fr_fi f (nn (0, 68) (by decide))]; exact a4, key _ _ a5 h1, key _ _ a6 h2, key _ _ a7 h3⟩
def PCx : List (Nat × Nat) := [(0, 1477), (0, 1807), (0, 68), (0, 64), (0, 65), (0, 66), (1, 67)]
theorem gB_c (f : fr F z z') (nn : ∀ x, x ∈ PCx → x ∉ F) (h1 : tq_fi z' 134 = tq_fi z 134 ∨ tq_fi z' 134 = tq_fi z 68) (h2 : tq_fi z' 135 = tq_fi z 135 ∨ tq_fi z' 135 = tq_fi z 68) (h3 : tq_fi z' 1220 = tq_fi z 1220 ∨ tq_fi z' 1220 = tq_fi z 68) (e : jfro w h r S z') (i : jhav w h r S z') (j : jpr w r S z') (hh : gB c w h r S z) : gB c w h r S z' := by
  have s : ∀ {L : List (Nat × Nat)}, (∀ x, x ∈ L → x ∈ PCx) → ∀ x, x ∈ L → x ∉ F := fun hL x hx => nn x (hL x hx)
  exact ⟨gS_c f (s (by decide)) h1 h2 h3 hh.1, hh.2.1, jc_f f (nn _ (by decide)) (nn _ (by decide)) (nn _ (by decide)) (nn _ (by decide)) hh.2.2.1, e, i, j⟩
/-- a new board -/
theorem gA_n {w' h' : Nat} {r' : Bool} {S' : Nat → Bool} (hc : c < 100) (hd' : jd w' h' r' S') (n1 : nc w' h' r' S' z z') (hh : gS c z) : gA (c + 1) w' h' r' S' false p false pk 0 z' := by
  obtain ⟨a1, a2, a3, a4, a5, a6, a7⟩ := hh
  obtain ⟨f, x1, x2, x3, x4, x5⟩ := n1
  have e68 : tq_fi z' 68 = nI (c + 1) := by rw [x2, a4, i_1, i_add]
  have no : ∀ k, (0, k) ∉ FC → sp (tq_fi z k) c → ¬ tq_fi z' k = tq_fi z' 68 := by
    intro k hk hs e
    rw [fr_fi f hk, e68] at e
    exact sp_no (by omega) hs e
  refine ⟨⟨⟨by omega, by rw [fr_fi f (by decide)]; exact a2, by rw [fr_fi f (by decide)]; exact a3, e68, by rw [fr_fi f (by decide)]; exact sp_m (by omega) a5, by rw [fr_fi f (by decide)]; exact sp_m (by omega) a6, by rw [fr_fi f (by decide)]; exact sp_m (by omega) a7⟩, hd', x1, fun e => absurd e (no 134 (by decide) a5), fun e => absurd e (no 135 (by decide) a6), fun e => absurd e (no 1220 (by decide) a7)⟩, ⟨x3, fun u => by cases u⟩, ⟨x4, fun u => by cases u⟩, ⟨x5, by omega, fun k hk => absurd hk (by omega)⟩⟩
end GI
