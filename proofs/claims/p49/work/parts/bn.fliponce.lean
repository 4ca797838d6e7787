section FPO
variable {w h : Nat} {S : Nat → Bool} {G : (Nat → Nat) → Nat → Int} {p : Nat → Nat} {c : Nat}
theorem lst_no (hd : jd w h false S) {x y : Nat} (hx1 : 1 ≤ x) (hx : x < w) (hy1 : 1 ≤ y) (hy : y < h) (b1 : bx S x y = true) (v : Nat) : lst S v ≠ 9 * y + x := by
  have hw8 := hd.2.1
  have hh8 := hd.2.2.2.1
  intro e
  obtain ⟨l1, l2⟩ := lst_s S v
  rw [e] at l1 l2
  have s3 : sdc S (9 * y + x) 3 = true := by
    unfold sdc
    rw [if_neg (by decide), if_neg (by decide), if_neg (by decide), show (9 * y + x) % 9 = x by omega, show (9 * y + x) / 9 = y by omega, b1]
    rfl
  have := l2 _ (cn_1 l1 (by omega) (by omega) s3)
  have t3 : toc (9 * y + x) 3 = 9 * y + x - 9 := by
    unfold toc
    rw [if_neg (by decide), if_neg (by decide), if_neg (by decide)]
  omega
theorem ap_4 (hd : jd w h false S) {H H' : Nat → Int} {x y : Nat} {κ : Int} (hκ : κ.natAbs = 4) (hx1 : 1 ≤ x) (hx : x < w) (hy1 : 1 ≤ y) (hy : y < h) (b1 : bx S x y = true) (hD : ∀ v, v < 81 → cnr S v = true → H' v - H v = if v = 9 * y + x then κ else 0) (hl : ∀ v, v < 81 → cnr S v = true → lst S v < 81 ∧ cnr S (lst S v) = true) : fb_sm (apS S H' H) 81 = 4 := by
  have hw8 := hd.2.1
  have hh8 := hd.2.2.2.1
  have cv : cnr S (9 * y + x) = true := by
    unfold cnr
    rw [show (9 * y + x) % 9 = x by omega, show (9 * y + x) / 9 = y by omega, b1, decide_eq_true (by omega)]
    rfl
  have e : fb_sm (apS S H' H) 81 = fb_sm (fun v => if 9 * y + x = v then (fun _ => 4) v else 0) 81 := fb_sm_cong fun v hv => by
    unfold apS
    by_cases q : cnr S v = true
    · obtain ⟨l1, l2⟩ := hl v hv q
      have a1 := hD v hv q
      have a2 := hD _ l1 l2
      rw [if_neg (lst_no hd hx1 hx hy1 hy b1 v)] at a2
      rw [if_pos q]
      by_cases u : v = 9 * y + x
      · rw [if_pos u] at a1
        rw [if_pos u.symm]
        show _ = 4
        omega
      · rw [if_neg u] at a1
        rw [if_neg (fun e => u e.symm)]
        omega
    · rw [if_neg q, if_neg (fun e => q (by rw [← e]; exact cv))]
  rw [e, sm_one (by omega)]
end FPO
