/-! ===== having, with the table's zeros ===== -/
section HV2
variable {w h : Nat} {r : Bool} {S : Nat → Bool} {z : tq_S} {Q : tq_O → tq_S → Prop}
theorem sc_having2 {X Y D : Int32} (hd : jd w h r S) (hj : jc w h r S z) (hc : tq_fi z 134 = tq_fi z 68 → fro w h r S z) (hh : tq_fi z 135 = tq_fi z 68 → hvt w h r S z ∧ hvz w h r S z) (k0 : (∀ x y o, ¬ pcn w h r S X Y D x y o) → Q (.inr 3) z) (k1 : ∀ x y o, pcn w h r S X Y D x y o → ∀ z1 z', fr FH z z1 → fr FT z1 z' → hvt w h r S z1 ∧ hvz w h r S z1 → tq_fi z1 135 = tq_fi z1 68 → (tq_fi z1 134 = tq_fi z1 68 → fro w h r S z1) → ctx z' (tn false (cv_T w r 0 (cv_rm S (8 * y + x) o))) → Q (.inl (some (.int (nI (tn false (cv_T w r 0 (cv_rm S (8 * y + x) o))).length)))) z') : wm_X11_having X Y D z Q := by
  unfold wm_X11_having
  refine sq_isPiece hd hj (fun u => ⟨_, rfl, fun h1 => absurd rfl h1, fun _ => k0 u⟩) (fun x y o hp => ⟨_, rfl, fun _ => ?_, fun h1 => absurd h1 (by decide +kernel)⟩)
  refine sq_fillHaving2 hd hj hc hh (fun z1 f1 v1 c1 g1 => ⟨rfl, ?_⟩)
  refine sq_withPiece hd v1.1 hp ⟨_, rfl, ?_⟩
  exact sq_say (neg := false) (pc_big hd (fun j hj => (cv_rm_t.mp hj).1)) (fun q => (by cases q)) (fun z2 f2 t2 => ⟨_, rfl, k1 x y o hp z1 z2 f1 f2 v1 c1 g1 t2⟩)
end HV2
