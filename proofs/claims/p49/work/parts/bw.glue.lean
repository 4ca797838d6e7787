section GLW
variable {w h : Nat} {r : Bool} {S : Nat → Bool} {z z' z1 z2 z3 : tq_S} {F F1 : List (Nat × Nat)} {kN n : Nat} {C M Z : Nat → Nat} {A : Nat → Int64} {T : Int64} {p : Nat → Nat} {u : Nat} {b0 : Bool} {x y : Int32} {Q : tq_O → tq_S → Prop}
theorem jd_fl {a b : Nat} (hd : jd w h r S) (ha : a < w) (hb : b < h) : jd w h r (fl_S S (8 * b + a)) := by
  obtain ⟨h1, h2, h3, h4, h5, h6⟩ := hd
  refine ⟨h1, h2, h3, h4, h5, fun j hj => ?_⟩
  unfold fl_S at hj
  by_cases e : j = 8 * b + a
  · omega
  · rw [if_neg e] at hj
    exact h6 j hj
theorem bi_u {a b : Bool} (e : bi a = bi b) : a = b := by
  cases a <;> cases b
  · rfl
  · exact absurd e (by decide +kernel)
  · exact absurd e (by decide +kernel)
  · rfl
theorem fidx_of {g : Nat → Bool} {idx : Int32} {c : Nat} (hc : c < 64) (hg : g c = true) (e : idx = nI (fb_ct g c)) : fidx g idx := by
  have := fb_ct_le g c
  exact ⟨fb_ct g c, by omega, e, ct_in hc hg⟩
theorem fidx_u {g : Nat → Bool} {c c2 : Nat} (hc : c < 64) (hg : g c = true) (hc2 : c2 < 64) (hg2 : g c2 = true) (e : nI (fb_ct g c) = nI (fb_ct g c2)) : c2 = c := by
  have l1 := fb_ct_le g c
  have l2 := fb_ct_le g c2
  have e := nI_u (by omega) (by omega) e
  rcases Nat.lt_trichotomy c c2 with q | q | q
  · have := ct_in q hg; omega
  · exact q.symm
  · have := ct_in q hg2; omega
theorem fam_all (hd : jd w h r S) : ∃ G, pln w h r S = true → fam w h S G := by
  cases e : pln w h r S
  · exact ⟨fun _ _ => 0, fun u => (by cases u)⟩
  · obtain ⟨e1, e2⟩ := pln_t e
    subst e1
    obtain ⟨G, hG⟩ := fam_ex hd e2
    exact ⟨G, fun _ => hG⟩
theorem fam_use {G : (Nat → Nat) → Nat → Int} {q : Nat → Nat} (hG : fam w h S G) (e : pln w h r S = true) (hp : pc w r S q) : pot w S q (G q) := by
  have e1 := (pln_t e).1
  subst e1
  exact (hG.1 q hp).1
end GLW
section GLX
variable {z z1 z2 z3 : tq_S} {G G0 G1 BAD BAD2 : tq_S → Prop} {k v : Int32} {F : List (Nat × Nat)}
end GLX
