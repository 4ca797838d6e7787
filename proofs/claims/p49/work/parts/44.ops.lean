section OPS2
variable {w h : Nat} {r : Bool} {S : Nat → Bool} {z : tq_S} {Q : tq_O → tq_S → Prop} {p : Nat → Nat} {u : Nat} {b0 : Bool}
theorem sc_number (hd : jd w h r S) (hj : jc w h r S z) (hc : fst1 w h r S z) (hb : tq_fi z 516 = bi b0) (hp : b0 = true → cvo w r S p (tq_fl z 517) (tq_fl z 518)) (k0 : b0 = false → Q (.inr 5) z) (k1 : b0 = true → ∀ z', fr ([(3, 3), (3, 4), (0, 134)] ++ FT) z z' → fro w h r S z' → tq_fi z' 134 = tq_fi z' 68 → ctx z' (tn false (rk w r 0 S p)) → Q (.inl (some (.int (nI (tn false (rk w r 0 S p)).length)))) z') : wm_X11_number z Q := by
  have hT := T_b hd
  unfold wm_X11_number
  rw [hb]
  refine ⟨fun q => ?_, fun q => k0 (bi_0.mp q)⟩
  rw [bi_n] at q
  have hp := hp q
  have rb := rk_ok hd.2.1 (jd_r hd) rfl (jd_bh hd) hp.1
  refine sq_total hd hj hc (fun z1 f1 g1 c1 => ⟨_, rfl, ?_⟩)
  have j1 := jc_f f1 (by decide) (by decide) (by decide) (by decide) hj
  refine sq_crank hd j1 g1 hp.1 (by rw [fr_fl f1 (by decide)]; exact hp.2.1) (by rw [fr_fl f1 (by decide)]; exact hp.2.2) (fun z2 f2 => ⟨_, rfl, ?_⟩)
  refine sq_say (neg := false) (by omega) (fun q => (by cases q)) (fun z3 f3 t3 => ⟨_, rfl, ?_⟩)
  refine k1 q z3 (fr_t (fr_m (by decide) f1) (fr_t (fr_m (by decide) f2) (fr_m (by decide) f3))) (fro_f f3 (by decide) (fro_f f2 (by decide) g1)) ?_ t3
  rw [fr_fi f3 (by decide), fr_fi (k := 68) f3 (by decide), fr_fi f2 (by decide), fr_fi (k := 68) f2 (by decide)]; exact c1
theorem i_cf {c : Nat} (h : c < 65536) : tq_nf 2 (nI c) := pk_charN h
theorem sc_flips (hd : jd w h r S) (hj : jc w h r S z) (hb : tq_fi z 516 = bi b0) (hp : b0 = true → cvo w r S p (tq_fl z 517) (tq_fl z 518)) (k0 : b0 = false → Q (.inr 5) z) (k1 : b0 = true → Q (.inl (some (.int (nI (fb_ct (fq w h r S p) 64))))) z) : wm_X11_flips z Q := by
  unfold wm_X11_flips
  rw [hb]
  refine ⟨fun q => ?_, fun q => k0 (bi_0.mp q)⟩
  rw [bi_n] at q
  exact sq_cflips hd hj (hp q) ⟨_, rfl, k1 q⟩
/-- which flip an index tells -/
def fidx (g : Nat → Bool) (idx : Int32) : Prop := ∃ n : Nat, n < 2147483648 ∧ idx = nI n ∧ n < fb_ct g 64
theorem sc_flip {idx : Int32} (hd : jd w h r S) (hj : jc w h r S z) (hu : cuo u b0 z) (hp : b0 = true → cvo w r S p (tq_fl z 517) (tq_fl z 518)) (k0 : b0 = false → Q (.inr 5) z) (k1 : b0 = true → ¬ fidx (fq w h r S p) idx → Q (.inr 3) z) (k2 : b0 = true → ∀ c, c < 64 → fq w h r S p c = true → idx = nI (fb_ct (fq w h r S p) c) → ∀ z', fr FU z z' → cvo w r S (pf w p c) (tq_fl z' 517) (tq_fl z' 518) → tq_fi z' 516 = 1 → utk u b0 z z' → Q (.inl (some (.int (nI (fb_ct (fq w h r S (pf w p c)) 64))))) z') : wm_X11_flip idx z Q := by
  obtain ⟨u1, u2, u3, u4⟩ := hu
  unfold wm_X11_flip
  rw [u4]
  refine ⟨fun q => ?_, fun q => k0 (bi_0.mp q)⟩
  rw [bi_n] at q
  have hp := hp q
  refine sq_squareOf hd hj hp (fun e => ⟨_, rfl, ?_⟩) (fun c c64 ec ei => ⟨_, rfl, ?_⟩)
  · refine ⟨fun h1 => absurd h1 (by decide +kernel), fun _ => k1 q (fun ⟨n, hn, e1, e2⟩ => ?_)⟩
    have := e n hn e1
    omega
  · refine ⟨fun _ => ?_, fun h1 => absurd (by rw [i_0, i_le (by omega) (by omega)]; omega) h1⟩
    refine sq_rflip hd hp ec (fun vR hR => ⟨_, rfl, ?_⟩)
    refine sq_dflip hd hj hp ec (fun vD hD => ⟨_, rfl, ?_⟩)
    refine sq_ctake u1 u2 u3 u4 (fun z1 f1 v1 v2 v3 v4 v5 v6 v7 v8 => ⟨rfl, ?_⟩)
    have cv : cvo w r S (pf w p c) (tq_fl z1 517) (tq_fl z1 518) := pf_cvo hd hp ec (by rw [v6]; exact hR) (by rw [v7]; exact hD)
    have j1 := jc_f f1 (by decide) (by decide) (by decide) (by decide) hj
    exact sq_cflips hd j1 cv ⟨_, rfl, k2 q c c64 ec ei z1 f1 cv v8 ⟨v1, v2, v3, v4, v5⟩⟩
theorem sc_undo (hu : tq_fi z 522 = nI u) (hu10 : u ≤ 10) (hb : ∀ k, k < u → ∃ b, tq_ai z 11 k = bi b) (k0 : u = 0 → Q (.inr 2) z) (k1 : ∀ m b, u = m + 1 → tq_ai z 11 m = bi b → ∀ z', fr [(0, 522), (1, 517), (1, 518), (0, 516)] z z' → tq_fi z' 522 = nI m → tq_fl z' 517 = tq_al z 9 m → tq_fl z' 518 = tq_al z 10 m → tq_fi z' 516 = bi b → Q (.inl (some (.int (nI m)))) z') : wm_X11_undo z Q := by
  unfold wm_X11_undo
  rw [hu, i_0, i_eq (by omega) (by omega)]
  refine ⟨fun q => ?_, fun q => k0 q⟩
  obtain ⟨m, rfl⟩ : ∃ m, u = m + 1 := ⟨u - 1, by omega⟩
  obtain ⟨b, hbb⟩ := hb m (by omega)
  refine sq_cback hu (by omega) hbb (fun z1 f1 e1 e2 e3 e4 => ⟨rfl, ?_⟩)
  show Q (.inl (some (.int (tq_fi z1 522)))) z1
  rw [e1]
  exact k1 m b rfl hbb z1 f1 e1 e2 e3 e4
theorem sc_cuts (hd : jd w h r S) (hj : jc w h r S z) (hb : tq_fi z 516 = bi b0) (hp : b0 = true → cvo w r S p (tq_fl z 517) (tq_fl z 518)) (k0 : b0 = false → Q (.inr 5) z) (k1 : b0 = true → Q (.inl (some (.int (nI (cutn w h r S p))))) z) : wm_X11_cuts z Q := by
  unfold wm_X11_cuts
  rw [hb]
  refine ⟨fun q => ?_, fun q => k0 (bi_0.mp q)⟩
  rw [bi_n] at q
  exact sq_ccuts hd hj (hp q) ⟨_, rfl, k1 q⟩
theorem sc_keep (hd : jd w h r S) (hj : jc w h r S z) (hb : tq_fi z 516 = bi b0) (hp : b0 = true → cvo w r S p (tq_fl z 517) (tq_fl z 518)) (k0 : b0 = false → Q (.inr 5) z) (k1 : b0 = true → ∀ z', fr [(1, 520), (1, 521), (0, 519)] z z' → tq_fl z' 520 = tq_fl z 517 → tq_fl z' 521 = tq_fl z 518 → tq_fi z' 519 = 1 → Q (.inl (some (.int (nI (cutn w h r S p))))) z') : wm_X11_keep z Q := by
  unfold wm_X11_keep
  rw [hb]
  refine ⟨fun q => ?_, fun q => k0 (bi_0.mp q)⟩
  rw [bi_n] at q
  unfold wm_X2_store
  intro z1 e1 z2 e2 z3 e3
  subst e1; subst e2; subst e3
  refine ⟨rfl, ?_⟩
  have f3 : fr [(1, 520), (1, 521), (0, 519)] z (tq_sfi (tq_sfl (tq_sfl z 520 (tq_fl z 517)) 521 (tq_fl (tq_sfl z 520 (tq_fl z 517)) 518)) 519 (1 : Int32)) := fr_sfi (by decide) (fr_sfl (by decide) (fr_sfl (by decide) fr_r))
  have j3 := jc_f f3 (by decide) (by decide) (by decide) (by decide) hj
  have hp3 := hp q
  exact sq_ccuts (p := p) hd j3 hp3 ⟨_, rfl, k1 q _ f3 rfl rfl rfl⟩
/-! a sign of the text -/
theorem sc_signAt {x : Int32} {l : List Nat} (hl : ctx z l) (hc : ∀ c, c ∈ l → c < 65536) (k0 : (∀ n : Nat, n < l.length → x ≠ nI n) → Q (.inr 3) z) (k1 : ∀ n c, x = nI n → l[n]? = some c → Q (.inl (some (.int (nI c)))) z) : wm_X11_signAt x z Q := by
  obtain ⟨l1, l2, l3⟩ := hl
  unfold wm_X11_signAt wc_X11_signAt_12
  rw [l1]
  refine ⟨fun q => k0 (fun n hn e => ?_), fun q => ⟨fun q2 => ?_, fun q2 => k0 (fun n hn e => ?_)⟩⟩
  · rw [e] at q; exact absurd q (i_n0 (by omega))
  · obtain ⟨n, hn, rfl⟩ := i_ex q
    rw [i_lt hn (by omega)] at q2
    have hs : l[n]? = some l[n] := List.getElem?_eq_getElem q2
    rw [i_cl hn, l2 n _ hs]
    exact ⟨i_in (by omega) (by omega), i_cf (hc _ (List.getElem_mem q2)), k1 n _ rfl hs⟩
  · rw [e, i_lt (by omega) (by omega)] at q2
    exact q2 hn
end OPS2
