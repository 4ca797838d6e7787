/-! ===== more of what the law's steps stand on ===== -/
section GLW
variable {w h : Nat} {r : Bool} {S : Nat → Bool} {z z' z1 z2 z3 : tq_S} {F F1 : List (Nat × Nat)} {kN n : Nat} {C M Z : Nat → Nat} {A : Nat → Int64} {T : Int64} {p : Nat → Nat} {u : Nat} {b0 : Bool} {x y : Int32} {Q : tq_O → tq_S → Prop}
theorem jd_fl {a b : Nat} (hd : jd w h r S) (ha : a < w) (hb : b < h) : jd w h r (fl_S S (8 * b + a)) := by
  obtain ⟨h1, h2, h3, h4, h5, h6⟩ := hd
  refine ⟨h1, h2, h3, h4, h5, fun j hj => ?_⟩
  unfold fl_S at hj
  by_cases e : j = 8 * b + a
  · omega
  · rw [if_neg e] at hj
    exact h6 j hj
theorem ruo_g (g : fr F z z') (nn : ∀ x, x ∈ [(0, 3276), (2, 58), (0, 3272)] → x ∉ F) (hh : ruo u b0 z) : ruo u b0 z' := by
  unfold ruo
  rw [fr_fi g (nn (0, 3276) (by decide)), fr_ai g (nn (2, 58) (by decide)), fr_fi g (nn (0, 3272) (by decide))]
  exact hh
theorem bi_u {a b : Bool} (e : bi a = bi b) : a = b := by
  cases a <;> cases b
  · rfl
  · exact absurd e (by decide +kernel)
  · exact absurd e (by decide +kernel)
  · rfl
theorem fidx_of {g : Nat → Bool} {idx : Int32} {c : Nat} (hc : c < 64) (hg : g c = true) (e : idx = nI (fb_ct g c)) : fidx g idx := by
  have := fb_ct_le g c
  exact ⟨fb_ct g c, by omega, e, ct_in hc hg⟩
theorem fidx_u {g : Nat → Bool} {c c2 : Nat} (hc : c < 64) (hg : g c = true) (hc2 : c2 < 64) (hg2 : g c2 = true) (e : nI (fb_ct g c) = nI (fb_ct g c2)) : c2 = c := by
  have l1 := fb_ct_le g c
  have l2 := fb_ct_le g c2
  have e := nI_u (by omega) (by omega) e
  rcases Nat.lt_trichotomy c c2 with q | q | q
  · have := ct_in q hg; omega
  · exact q.symm
  · have := ct_in q hg2; omega
theorem fam_all (hd : jd w h r S) : ∃ G, pln w h r S = true → fam w h S G := by
  cases e : pln w h r S
  · exact ⟨fun _ _ => 0, fun u => (by cases u)⟩
  · obtain ⟨e1, e2⟩ := pln_t e
    subst e1
    obtain ⟨G, hG⟩ := fam_ex hd e2
    exact ⟨G, fun _ => hG⟩
theorem fam_use {G : (Nat → Nat) → Nat → Int} {q : Nat → Nat} (hG : fam w h S G) (e : pln w h r S = true) (hp : pc w r S q) : pot w S q (G q) := by
  have e1 := (pln_t e).1
  subst e1
  exact (hG.1 q hp).1
theorem sr_role0 {X Y : Int32} (hd : jd w h r S) (hj : jr w h r S z) (q0 : ho w h S X Y = false) (k0 : ∀ z', fr [(0, 3264)] z z' → tq_fi z' 3264 = 1 → Q (.inl (some (.int 45))) z') : wm_X12_role X Y z Q := by
  obtain ⟨hw1, hw8, hh1, hh8, -, hre⟩ := hd
  unfold wm_X12_role
  refine sq_isCell hw1 hw8 hh1 hh8 hj ⟨_, rfl, fun q => ?_, fun q => ?_⟩
  · rw [bi_n, q0] at q
    cases q
  · unfold wc_X12_role_15
    exact sq_isThrown (b := true) (a := 1) (fun z1 f1 e1 => ⟨_, rfl, fun q6 => absurd q6 (by decide +kernel), fun _ => k0 z1 f1 e1⟩)
theorem sr_roles0 {a : Int32} (q : ¬ a = 102) (q2 : ¬ a = 110) (q3 : ¬ a = 45) (k0 : ∀ z', fr [(0, 3264)] z z' → tq_fi z' 3264 = 1 → Q (.inl (some (.int 0))) z') : wm_X12_roles a z Q := by
  unfold wm_X12_roles
  refine ⟨fun u => absurd u q, fun _ => ⟨fun u => absurd u q2, fun _ => ⟨fun u => absurd u q3, fun _ => ?_⟩⟩⟩
  unfold wc_X12_roles_24
  exact sq_isThrown (b := true) (a := 1) (fun z1 f1 e1 => ⟨_, rfl, fun q6 => absurd q6 (by decide +kernel), fun _ => k0 z1 f1 e1⟩)
theorem roles_no {a : Int32} {m : Nat} (hm : m = 102 ∨ m = 110 ∨ m = 45) (e : a = nI m) (q : ¬ a = 102) (q2 : ¬ a = 110) (q3 : ¬ a = 45) : False := by
  rcases hm with rfl | rfl | rfl
  · exact q e
  · exact q2 e
  · exact q3 e
theorem pc_no {X Y : Int32} {a b a' b' : Nat} {c : Int64} (s : pcc X Y a b) (s' : pcc X Y a' b') (q : c &&& pbt a b = 0) (q1 : 6 ≤ fb_ct (ct c) 64) (q2 : c &&& pbt a' b' ≠ 0 ∨ fb_ct (ct c) 64 < 6) : False := by
  obtain ⟨w1, w2⟩ := pcc_u s s'
  subst w1
  subst w2
  rcases q2 with q2 | q2
  · exact q2 q
  · omega
theorem pbt_b {a b : Nat} (ha : a < 6) (hb : b < 6) (j : Nat) : ct (pbt a b) j = decide (j = 6 * b + a) := by
  unfold pbt
  exact ct_bit j (by omega)
theorem pc_new {X Y : Int32} {a b : Nat} (s : pcc X Y a b) (hw : wS T) (h6 : fb_ct (ct T) 64 ≤ 6) (q : T &&& pbt a b ≠ 0 ∨ fb_ct (ct T) 64 < 6) : wS (T ||| pbt a b) ∧ fb_ct (ct (T ||| pbt a b)) 64 ≤ 6 := by
  obtain ⟨sa, sb, -, -⟩ := s
  have key : ∀ j, ct (T ||| pbt a b) j = if j = 6 * b + a then true else ct T j := by
    intro j
    rw [ct_or, pbt_b sa sb]
    by_cases e : j = 6 * b + a
    · rw [if_pos e, decide_eq_true e, Bool.or_true]
    · rw [if_neg e, decide_eq_false e, Bool.or_false]
  refine ⟨fun j hj => ?_, ?_⟩
  · rw [key] at hj
    by_cases e : j = 6 * b + a
    · omega
    · rw [if_neg e] at hj
      exact hw j hj
  · have e1 : fb_ct (ct (T ||| pbt a b)) 64 = fb_ct (fun j => if j = 6 * b + a then true else ct T j) 64 := fb_ct_cong (fun j _ => key j)
    have e2 := fb_ct_upd (ct T) true (i := 6 * b + a) (n := 64) (by omega)
    have e3 : (if true = true then 1 else 0 : Nat) = 1 := rfl
    rw [e3] at e2
    rw [e1]
    cases q0 : ct T (6 * b + a)
    · have e4 : (if false = true then 1 else 0 : Nat) = 0 := rfl
      rw [q0, e4] at e2
      rcases q with q | q
      · exact absurd (ct_ext (fun j _ => by
          rw [ct_and, pbt_b sa sb, ct_0]
          by_cases e : j = 6 * b + a
          · rw [e, q0]; rfl
          · rw [decide_eq_false e, Bool.and_false])) q
      · omega
    · rw [q0, e3] at e2
      omega
theorem ct0_z : fb_ct (ct (0 : Int64)) 64 = 0 := fb_ct_zero.mpr (fun j _ => ct_0 j)
theorem wS_0 : wS 0 := fun k e => by rw [ct_0] at e; cases e
theorem kind_no {k : Nat} (q : fb_ct (ct T) 64 < 3 ∨ k = 6) (q1 : 3 ≤ fb_ct (ct T) 64) (q2 : k < 6) : False := by omega
theorem sr_unlike0 (hj : jr w h r S z) (q : 24 < fb_ct S 64 ∨ r = true) (k0 : ∀ z', fr [(0, 3264)] z z' → tq_fi z' 3264 = 1 → Q (.inl (some (.int 0))) z') : wm_X12_unlike z Q := by
  have b64 := fb_ct_le S 64
  have bad : wc_X12_unlike_17 Q z := by
    unfold wc_X12_unlike_17 wc_X12_unlike_22
    exact sq_isThrown (b := true) (a := 1) (fun z1 f1 e1 => ⟨_, rfl, fun q => absurd q (by decide +kernel), fun _ => k0 z1 f1 e1⟩)
  unfold wm_X12_unlike
  refine sq_many hj ⟨_, rfl, ?_⟩
  dsimp only
  rw [show (24 : Int32) = nI 24 from rfl, i_lt (by omega) (by omega), hj.1.2.2]
  refine ⟨fun _ => bad, fun u => ⟨fun e => ?_, fun _ => bad⟩⟩
  rcases q with q | q
  · exact absurd q u
  · subst q
    exact absurd e (by decide +kernel)
theorem exc_24 {P : Nat} {f : Nat → plc} {st : Nat → Nat} {g0 : Nat} (hx : exc w h r S kN C M Z A P f st g0 z) : fb_ct S 64 ≤ 24 := hx.2.2.1.2.1
theorem kat_u {P : Nat} {f : Nat → plc} {j c k k' : Nat} (h1 : kat S P f kN M j c k) (h2 : kat S P f kN M j c k') : k' = k := kat_1 h2 h1
theorem prs_same {P P' : Nat} {f f' : Nat → plc} (h1 : prs w h r S kN C A P f z) (c1 : ∀ fst k i part, fst < fb_ct S 64 → k < kN → cdn w r S C A P f fst k i part) (h2 : prs w h r S kN C A P' f' z') (c2 : ∀ fst k i part, fst < fb_ct S 64 → k < kN → cdn w r S C A P' f' fst k i part) : P = P' ∧ ∀ p, p < P → (f p).1 = (f' p).1 ∧ (f p).2.1 = (f' p).2.1 ∧ (f p).2.2.1 = (f' p).2.2.1 := by
  have key := srt_same plt_t plt_i (f := fun p => ((f p).1, (f p).2.1, (f p).2.2.1, 0)) (g := fun p => ((f' p).1, (f' p).2.1, (f' p).2.2.1, 0)) (P := P) (P' := P') (fun p p' a b => h1.1.2.2.2 p p' a b) (fun p p' a b => h2.1.2.2.2 p p' a b) (fun y => by
    constructor
    · rintro ⟨p, hp, rfl⟩
      obtain ⟨k1, k2, i, part, a1, a2, a3, a4, _⟩ := h1.2 p hp
      obtain ⟨q, q1, q2, q3, q4⟩ := c2 _ _ i part k2 k1 a1 a2 a3 _ a4
      exact ⟨q, q1, Prod.ext q2 (Prod.ext q3 (Prod.ext q4 rfl))⟩
    · rintro ⟨p, hp, rfl⟩
      obtain ⟨k1, k2, i, part, a1, a2, a3, a4, _⟩ := h2.2 p hp
      obtain ⟨q, q1, q2, q3, q4⟩ := c1 _ _ i part k2 k1 a1 a2 a3 _ a4
      exact ⟨q, q1, Prod.ext q2 (Prod.ext q3 (Prod.ext q4 rfl))⟩)
  refine ⟨key.1, fun p hp => ?_⟩
  have e := key.2 p hp
  exact ⟨(by have u := congrArg (fun x : plc => x.1) e; exact u), (by have u := congrArg (fun x : plc => x.2.1) e; exact u), (by have u := congrArg (fun x : plc => x.2.2.1) e; exact u)⟩
theorem unl_same {P P' : Nat} {f f' : Nat → plc} {st st' : Nat → Nat} {g0 g1 : Nat} (hd : jd w h r S) (kd : kdc kN C M Z A z) (ks : shps kN C Z A) (h24 : fb_ct S 64 ≤ 24) (h1 : exc w h r S kN C M Z A P' f' st' g1 z1) (h2 : exc w h r S kN C M Z A P f st g0 z2) : unl w h S P' f' kN M = unl w h S P f kN M := by
  have hZ : ∀ k, k < kN → 3 ≤ Z k := fun k hk => (kd.2.2 k hk).2.2.1.2.1
  obtain ⟨e, rf⟩ := prs_same h1.2.2.2.1 h1.2.2.2.2.1 h2.2.2.2.1 h2.2.2.2.2.1
  subst e
  have hd' : jd w h false S := ⟨hd.1, hd.2.1, hd.2.2.1, hd.2.2.2.1, fun q => (by cases q), hd.2.2.2.2.2⟩
  have p1 := prs_plg hd ks h24 hZ h1.2.2.2.1
  have p2 := prs_plg hd ks h24 hZ h2.2.2.2.1
  have a := (unl_c (K := kN) (M := M) hd' h24 p1 p2 rf).2
  have b := (unl_c (K := kN) (M := M) hd' h24 p2 p2 (fun p _ => ⟨rfl, rfl, rfl⟩)).2
  exact a.symm.trans b
theorem ex10 {P : Nat} {f : Nat → plc} {st : Nat → Nat} {g0 : Nat} (hd : jd w h r S) (kd : kdc kN C M Z A z) (ks : shps kN C Z A) (h24 : fb_ct S 64 ≤ 24) (jx : jexc w h r S kN C M Z A z) (he : exc w h r S kN C M Z A P f st g0 z1) (s1 : tq_fi z1 1807 = tq_fi z1 68) (s2 : tq_fi z1 1808 = tq_fi z1 1478) (hz : z1 = z ∨ tq_fl z1 1810 = -1) : tq_fl z1 1810 = -1 ∨ tq_fl z1 1810 = lN (unl w h S P f kN M) := by
  rcases hz with hz | hz
  · subst hz
    obtain ⟨P', f', st', g', b1, b2⟩ := jx s1 s2
    rcases b2 with b2 | b2
    · exact Or.inl b2
    · exact Or.inr (b2.trans (by rw [unl_same hd kd ks h24 b1 he]))
  · exact Or.inl hz
theorem gr_b64 (hd : jd w h r S) : gr_n w r S (fun _ => false) ≤ 64 := fb_ct_le _ _
theorem gr_n0 (hd : jd w h r S) (q : 0 < fb_ct S 64) : gr_n w r S (fun _ => false) ≠ 0 := by
  have := (gr_pos hd).mpr q
  omega
def PJk : List (Nat × Nat) := [(0, 64), (0, 65), (0, 66), (1, 67), (0, 3265), (0, 3266), (0, 3267), (2, 52), (0, 516), (0, 3272), (1, 517), (1, 518), (2, 56), (0, 519), (0, 3274), (1, 520), (1, 521), (2, 57), (0, 522), (0, 3276), (2, 11), (2, 58), (3, 9), (3, 10), (2, 59), (0, 13), (2, 50), (0, 3279), (2, 60), (0, 68), (0, 134), (0, 135), (0, 1220), (0, 1807), (0, 1808), (3, 3), (3, 7), (1, 1221), (1, 1222), (1, 1223)]
/-- the kinds are new -/
theorem Jj_k {kN' : Nat} {C' M' Z' : Nat → Nat} {A' : Nat → Int64} {T' : Int64} (hn : n < 512) (g : fr F z z') (nn : ∀ x, x ∈ PJk → x ∉ F) (hk : jkin kN' C' M' Z' A' T' z') (hx : (tq_fi z' 1478 = tq_fi z 1478 ∧ jexc w h r S kN' C' M' Z' A' z') ∨ tq_fi z' 1478 = tq_fi z 1478 + 1) (hh : Jj n w h r S kN C M Z A T z) : Jj (n + 1) w h r S kN' C' M' Z' A' T' z' := by
  obtain ⟨a, b, c, d, t, ⟨c1, d1, s1, s2, s3, s4, s5, s6, s7, s8, s9⟩, j, k, l, m, o⟩ := hh
  have s : ∀ {L : List (Nat × Nat)}, (∀ x, x ∈ L → x ∈ PJk) → ∀ x, x ∈ L → x ∉ F := fun hL x hx => nn x (hL x hx)
  have st : ∀ d2, d2 ≤ n + 1 → tq_fi z' 1478 = nI d2 → sp (tq_fi z' 1808) d2 → jS (n + 1) z' := fun d2 e1 e2 e3 => ⟨c1, d2, by omega, e1, by rw [fr_fi g (nn (0, 68) (by decide))]; exact s3, e2, by rw [fr_fi g (nn (0, 134) (by decide))]; exact s5, by rw [fr_fi g (nn (0, 135) (by decide))]; exact s6, by rw [fr_fi g (nn (0, 1220) (by decide))]; exact s7, by rw [fr_fi g (nn (0, 1807) (by decide))]; exact s8, e3⟩
  have e8 : tq_fi z' 1808 = tq_fi z 1808 := fr_fi g (nn (0, 1808) (by decide))
  have fin : jS (n + 1) z' → jexc w h r S kN' C' M' Z' A' z' → Jj (n + 1) w h r S kN' C' M' Z' A' T' z' := fun q1 q2 => ⟨jbrd_f g (s (by decide)) a, jcov_f g (s (by decide)) b, jkep_f g (s (by decide)) c, jund_f g (s (by decide)) d, jtxt_f g (s (by decide)) t, q1, jfro_f g (s (by decide)) j, jhav_f g (s (by decide)) k, jpr_f g (s (by decide)) l, q2, hk⟩
  rcases hx with ⟨x1, x2⟩ | x1
  · exact fin (st d1 (by omega) (x1.trans s4) (by rw [e8]; exact s9)) x2
  · have e7 : tq_fi z' 1478 = nI (d1 + 1) := by rw [x1, s4, i_1, i_add]
    refine fin (st (d1 + 1) (by omega) e7 (by rw [e8]; exact sp_m (by omega) s9)) (fun _ e => ?_)
    rw [e8, e7] at e
    exact absurd e (sp_no (by omega) s9)
end GLW
section GLX
variable {z z1 z2 z3 : tq_S} {G G0 G1 BAD BAD2 : tq_S → Prop} {k v : Int32} {F : List (Nat × Nat)}
theorem gl_tb (hk : ¬ k = 0) (e : tq_fi z 3264 = k) (g : G z) : wm_X12_thrown z (tq_wi fun r106 z105 => ((r106 = k → ((¬ k = 0 → G z105) ∧ (k = 0 → ((v = 0 → G0 z105) ∧ (¬ v = 0 → G1 z105))))) ∧ (¬ r106 = k → BAD z105))) := by
  unfold wm_X12_thrown
  exact ⟨_, rfl, fun _ => ⟨fun _ => g, fun h => absurd h hk⟩, fun h => absurd e h⟩
theorem gl_ab (e : tq_fi z 3264 = 0) (g0 : v = 0 → G0 z) (g1 : ¬ v = 0 → G1 z) : wm_X12_thrown z (tq_wi fun r106 z105 => ((r106 = (0 : Int32) → ((¬ (0 : Int32) = 0 → G z105) ∧ ((0 : Int32) = 0 → ((v = 0 → G0 z105) ∧ (¬ v = 0 → G1 z105))))) ∧ (¬ r106 = (0 : Int32) → BAD z105))) := by
  unfold wm_X12_thrown
  exact ⟨_, rfl, fun _ => ⟨fun h => absurd rfl h, fun _ => ⟨g0, g1⟩⟩, fun h => absurd e h⟩
theorem gl_d {x : UInt64} (e2 : z2 = tq_sad z1 88 (vf_upd (tq_ad z1 88) (Int32.toNatClampNeg (0 : Int32)) x)) : fr [(4, 88)] z1 z2 := by
  rw [e2]; exact fr_sad (by decide) fr_r
theorem gl_od {x : UInt64} (e2 : z2 = tq_sad z1 88 (vf_upd (tq_ad z1 88) (Int32.toNatClampNeg (0 : Int32)) x)) (f : fr F z2 z3) (h : (4, 88) ∉ F) : tq_ad z3 88 (Int32.toNatClampNeg (0 : Int32)) = x := by
  rw [fr_ad f h, e2, rw_ade]
  exact if_pos rfl
end GLX
