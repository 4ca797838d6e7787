section JNT
variable {w h : Nat} {r : Bool} {S : Nat → Bool} {z z' : tq_S} {F : List (Nat × Nat)} {kN n : Nat} {C M Z : Nat → Nat} {A : Nat → Int64} {T : Int64} {P : Nat} {f : Nat → plc} {st : Nat → Nat} {g0 : Nat}
def sp (v : Int32) (c : Nat) : Prop := v = -1 ∨ ∃ s, s ≤ c ∧ v = nI s
def jS (n : Nat) (z : tq_S) : Prop := ∃ c d, c ≤ n ∧ d ≤ n ∧ tq_fi z 68 = nI c ∧ tq_fi z 1478 = nI d ∧ sp (tq_fi z 134) c ∧ sp (tq_fi z 135) c ∧ sp (tq_fi z 1220) c ∧ sp (tq_fi z 1807) c ∧ sp (tq_fi z 1808) d
def jfro (w h : Nat) (r : Bool) (S : Nat → Bool) (z : tq_S) : Prop := tq_fi z 134 = tq_fi z 68 → fro w h r S z
def jhav (w h : Nat) (r : Bool) (S : Nat → Bool) (z : tq_S) : Prop := tq_fi z 135 = tq_fi z 68 → hvt w h r S z ∧ hvz w h r S z
def jpr (w : Nat) (r : Bool) (S : Nat → Bool) (z : tq_S) : Prop := tq_fi z 1220 = tq_fi z 68 → ∃ m, PR w r S m z
def jexc (w h : Nat) (r : Bool) (S : Nat → Bool) (kN : Nat) (C M Z : Nat → Nat) (A : Nat → Int64) (z : tq_S) : Prop := tq_fi z 1807 = tq_fi z 68 → tq_fi z 1808 = tq_fi z 1478 → ∃ P f st g, exc w h r S kN C M Z A P f st g z ∧ (tq_fl z 1810 = -1 ∨ tq_fl z 1810 = lN (unl w h S P f kN M))
theorem sp_m {v : Int32} {c d : Nat} (hcd : c ≤ d) (h : sp v c) : sp v d := by
  rcases h with h | ⟨s, h1, h2⟩
  · exact Or.inl h
  · exact Or.inr ⟨s, by omega, h2⟩
theorem sp_no {v : Int32} {c : Nat} (hc : c < 100000) (h : sp v c) : ¬ v = nI (c + 1) := by
  intro e
  rcases h with h | ⟨s, h1, h2⟩
  · rw [h] at e
    have := i_n0 (a := c + 1) (by omega)
    rw [← e] at this
    exact this (by decide)
  · rw [h2, i_eq (by omega) (by omega)] at e
    omega
theorem sp_e {v : Int32} {c : Nat} (h : v = nI c) : sp v c := Or.inr ⟨c, Nat.le_refl _, h⟩
theorem ctx_f {l : List Nat} (g : fr F z z') (h1 : (0, 13) ∉ F) (h2 : (2, 50) ∉ F) (hh : ctx z l) : ctx z' l := by
  unfold ctx
  rw [fr_fi g h1, fr_ai g h2]
  exact hh
theorem jS_f (g : fr F z z') (nn : ∀ x, x ∈ [(0, 68), (0, 1478), (0, 134), (0, 135), (0, 1220), (0, 1807), (0, 1808)] → x ∉ F) (hh : jS n z) : jS (n + 1) z' := by
  obtain ⟨c, d, h1, h2, h3⟩ := hh
  refine ⟨c, d, by omega, by omega, ?_⟩
  rw [fr_fi g (nn (0, 68) (by decide)), fr_fi g (nn (0, 1478) (by decide)), fr_fi g (nn (0, 134) (by decide)), fr_fi g (nn (0, 135) (by decide)), fr_fi g (nn (0, 1220) (by decide)), fr_fi g (nn (0, 1807) (by decide)), fr_fi g (nn (0, 1808) (by decide))]
  exact h3
/-- stamps that are as they were, or new -/
theorem jS_g (g : fr F z z') (n1 : (0, 68) ∉ F) (n2 : (0, 1478) ∉ F) (h1 : tq_fi z' 134 = tq_fi z 134 ∨ tq_fi z' 134 = tq_fi z 68) (h2 : tq_fi z' 135 = tq_fi z 135 ∨ tq_fi z' 135 = tq_fi z 68) (h3 : tq_fi z' 1220 = tq_fi z 1220 ∨ tq_fi z' 1220 = tq_fi z 68) (h4 : tq_fi z' 1807 = tq_fi z 1807 ∨ tq_fi z' 1807 = tq_fi z 68) (h5 : tq_fi z' 1808 = tq_fi z 1808 ∨ tq_fi z' 1808 = tq_fi z 1478) (hh : jS n z) : jS (n + 1) z' := by
  obtain ⟨c, d, a1, a2, a3, a4, a5, a6, a7, a8, a9⟩ := hh
  have key : ∀ (v v' u : Int32) (c : Nat), u = nI c → sp v c → (v' = v ∨ v' = u) → sp v' c := by
    intro v v' u c e s h
    rcases h with h | h
    · rw [h]; exact s
    · rw [h]; exact sp_e e
  exact ⟨c, d, by omega, by omega, by rw [fr_fi g n1]; exact a3, by rw [fr_fi g n2]; exact a4, key _ _ _ c a3 a5 h1, key _ _ _ c a3 a6 h2, key _ _ _ c a3 a7 h3, key _ _ _ c a3 a8 h4, key _ _ _ d a4 a9 h5⟩
theorem jfro_f (g : fr F z z') (nn : ∀ x, x ∈ [(0, 134), (0, 68), (3, 3)] → x ∉ F) (hh : jfro w h r S z) : jfro w h r S z' := by
  unfold jfro
  rw [fr_fi g (nn (0, 134) (by decide)), fr_fi g (nn (0, 68) (by decide))]
  exact fun e => fro_f g (nn _ (by decide)) (hh e)
theorem jhav_f (g : fr F z z') (nn : ∀ x, x ∈ [(0, 135), (0, 68), (3, 7)] → x ∉ F) (hh : jhav w h r S z) : jhav w h r S z' := by
  unfold jhav hvt hvz
  rw [fr_fi g (nn (0, 135) (by decide)), fr_fi g (nn (0, 68) (by decide)), fr_al g (nn (3, 7) (by decide))]
  exact hh
theorem jpr_f (g : fr F z z') (nn : ∀ x, x ∈ [(0, 1220), (0, 68), (1, 1221), (1, 1222), (1, 1223)] → x ∉ F) (hh : jpr w r S z) : jpr w r S z' := by
  unfold jpr PR
  rw [fr_fi g (nn (0, 1220) (by decide)), fr_fi g (nn (0, 68) (by decide)), fr_fl g (nn (1, 1221) (by decide)), fr_fl g (nn (1, 1222) (by decide)), fr_fl g (nn (1, 1223) (by decide))]
  exact hh
def PEx : List (Nat × Nat) := [(0, 1804), (2, 31), (2, 32), (0, 1806), (2, 33), (3, 29), (2, 30), (0, 1805), (3, 34), (3, 35), (1, 1809), (3, 36), (1, 1810)]
theorem exc_f (g : fr F z z') (nn : ∀ x, x ∈ PEx → x ∉ F) (hx : exc w h r S kN C M Z A P f st g0 z) : exc w h r S kN C M Z A P f st g0 z' := by
  obtain ⟨a, ⟨b1, b2, b3, b4⟩, c, ⟨⟨d1, d2, d3⟩, d4⟩, e, m, t, o⟩ := hx
  refine ⟨cnm_f g (nn _ (by decide)) (nn _ (by decide)) (nn _ (by decide)) a, ⟨by rw [fr_fi g (nn (0, 1806) (by decide))]; exact b1, b2, b3, fun m hm hg i hi => by rw [fr_ai g (nn (2, 33) (by decide))]; exact b4 m hm hg i hi⟩, exr_f g (nn _ (by decide)) (nn _ (by decide)) (nn _ (by decide)) c, ⟨⟨by rw [fr_fi g (nn (0, 1805) (by decide))]; exact d1, fun p hp => by rw [fr_al g (nn (3, 29) (by decide))]; exact d2 p hp, d3⟩, d4⟩, e, ?_, by rw [fr_fl g (nn (1, 1809) (by decide))]; exact t, fun n0 i hi => by rw [fr_al g (nn (3, 36) (by decide))]; exact o n0 i hi⟩
  unfold memo
  rw [fr_al g (nn (3, 34) (by decide)), fr_al g (nn (3, 35) (by decide))]
  exact m
theorem jexc_f (g : fr F z z') (nn : ∀ x, x ∈ PEx ++ [(0, 1807), (0, 1808), (0, 68), (0, 1478)] → x ∉ F) (hh : jexc w h r S kN C M Z A z) : jexc w h r S kN C M Z A z' := by
  unfold jexc
  rw [fr_fi g (nn (0, 1807) (by decide)), fr_fi g (nn (0, 68) (by decide)), fr_fi g (nn (0, 1808) (by decide)), fr_fi g (nn (0, 1478) (by decide)), fr_fl g (nn (1, 1810) (by decide))]
  intro e1 e2
  obtain ⟨P, f, st, g1, a, b⟩ := hh e1 e2
  exact ⟨P, f, st, g1, exc_f g (fun x hx => nn x (List.mem_append_left _ hx)) a, b⟩
end JNT
section GLU
variable {z z1 z2 z3 : tq_S} {G BAD : tq_S → Prop} {k v : Int32} {F F1 F3 : List (Nat × Nat)}
theorem gl_2 (f1 : fr F1 z z1) (f3 : fr F3 z1 z3) : fr (F1 ++ F3) z z3 := fr_t (fr_m (fun x hx => List.mem_append_left _ hx) f1) (fr_m (fun x hx => List.mem_append_right _ hx) f3)
end GLU
