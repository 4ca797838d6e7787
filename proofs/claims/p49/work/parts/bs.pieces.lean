section SNP
variable {w h : Nat} {r : Bool} {S : Nat → Bool} {z : tq_S} {Q : tq_O → tq_S → Prop}
theorem sm_pt {f : Nat → Nat} {a N : Nat} (f0 : ∀ i, N ≤ i → f i = 0) : fb_sm (fun j => if a = j then f j else 0) N = f a := by
  by_cases q : a < N
  · exact sm_one q
  · rw [show fb_sm (fun j => if a = j then f j else 0) N = fb_sm (fun _ => 0) N from fb_sm_cong (fun k hk => if_neg (by omega)), fb_sm_0, f0 a (by omega)]
theorem sm_4 {f : Nat → Nat} {a b c d N : Nat} (f0 : ∀ i, N ≤ i → f i = 0) (no : ∀ i, i < N → i ≠ a → i ≠ b → i ≠ c → i ≠ d → f i = 0) (ab : a = b → f a = 0) (ac : a = c → f a = 0) (ad : a = d → f a = 0) (bc : b = c → f b = 0) (bd : b = d → f b = 0) (cd : c = d → f c = 0) : fb_sm f N = f a + f b + (f c + f d) := by
  have e : fb_sm f N = fb_sm (fun i => ((if a = i then f i else 0) + (if b = i then f i else 0)) + ((if c = i then f i else 0) + (if d = i then f i else 0))) N := fb_sm_cong (fun i hi => by
    by_cases qa : a = i
    · subst qa
      rw [if_pos rfl]
      have hb : (if b = a then f a else 0) = 0 := by
        by_cases q : b = a
        · rw [if_pos q]; exact ab q.symm
        · rw [if_neg q]
      have hc : (if c = a then f a else 0) = 0 := by
        by_cases q : c = a
        · rw [if_pos q]; exact ac q.symm
        · rw [if_neg q]
      have hd : (if d = a then f a else 0) = 0 := by
        by_cases q : d = a
        · rw [if_pos q]; exact ad q.symm
        · rw [if_neg q]
      rw [hb, hc, hd]; omega
    · rw [if_neg qa]
      by_cases qb : b = i
      · subst qb
        rw [if_pos rfl]
        have hc : (if c = b then f b else 0) = 0 := by
          by_cases q : c = b
          · rw [if_pos q]; exact bc q.symm
          · rw [if_neg q]
        have hd : (if d = b then f b else 0) = 0 := by
          by_cases q : d = b
          · rw [if_pos q]; exact bd q.symm
          · rw [if_neg q]
        rw [hc, hd]; omega
      · rw [if_neg qb]
        by_cases qc : c = i
        · subst qc
          rw [if_pos rfl]
          have hd : (if d = c then f c else 0) = 0 := by
            by_cases q : d = c
            · rw [if_pos q]; exact cd q.symm
            · rw [if_neg q]
          rw [hd]; omega
        · rw [if_neg qc]
          by_cases qd : d = i
          · subst qd
            rw [if_pos rfl]; omega
          · rw [if_neg qd]
            exact no i hi (fun u => qa u.symm) (fun u => qb u.symm) (fun u => qc u.symm) (fun u => qd u.symm))
  rw [e, fb_sm_add, fb_sm_add, fb_sm_add, sm_pt f0, sm_pt f0, sm_pt f0, sm_pt f0]
theorem hdx_inj {x y W x' y' W' : Nat} (bw : w ≤ 8) (hx : x < w) (hx' : x' < w) (hp : wpc w r x W) (hp' : wpc w r x' W') (e : hdx w x' y' W' = hdx w x y W) : x' = x ∧ y' = y ∧ W' = W := by
  have e1 : ∀ a b, hdx w a b 1 = 2 * (8 * b + a) := fun _ _ => rfl
  have e2 : ∀ a b, hdx w a b 2 = 2 * (8 * b + a) + 1 := fun _ _ => rfl
  have e3 : ∀ a b, hdx w a b 3 = 2 * (8 * b + (w - 1)) := fun _ _ => rfl
  rcases hp with ⟨rfl, a1⟩ | rfl | ⟨rfl, a1, -⟩ <;> rcases hp' with ⟨rfl, b1⟩ | rfl | ⟨rfl, b1, -⟩ <;> simp only [e1, e2, e3] at e <;> omega
theorem tabT {x y W : Nat} (hd : jd w h r S) (hv : hvt w h r S z) (hz : hvz w h r S z) (hx : x < w) (hy : y < h) (hp : wpc w r x W) : tq_al z 7 (hdx w x y W) = lN (if S (8 * y + x) = true ∧ S (ot w x y W) = true then cv_T w r 0 (cv_rm S (8 * y + x) (ot w x y W)) else 0) := by
  by_cases q : S (8 * y + x) = true ∧ S (ot w x y W) = true
  · rw [if_pos q]
    exact hv x y W hx hy hp q.1 q.2
  · rw [if_neg q, hz _ (hdx_lt hd.2.1 hd.1 hd.2.2.2.1 hx hy hp) (fun x' y' W' hx' hy' hp' sa sb e => q ?_)]
    · rfl
    · obtain ⟨rfl, rfl, rfl⟩ := hdx_inj hd.2.1 hx hx' hp hp' e
      exact ⟨sa, sb⟩
theorem sq_withCell {x y : Nat} (hd : jd w h r S) (hj : jc w h r S z) (hv : hvt w h r S z) (hz : hvz w h r S z) (hx : x < w) (hy : y < h) (sc : S (8 * y + x) = true) (k : Q (.inl (some (.long (lN (cv_T w r 0 S))))) z) : wm_X5_withCell (nI x) (nI y) z Q := by
  have hw8 := hd.2.1
  have hw1 := hd.1
  have hh8 := hd.2.2.2.1
  have hr4 := jd_r hd
  obtain ⟨c, hc⟩ : ∃ c, c = 8 * y + x := ⟨_, rfl⟩
  have cm : c % 8 = x := by omega
  have cd : c / 8 = y := by omega
  have hi : ∀ a, nb w r a a = false := fun a => nb_i (by
    cases q : r
    · exact Or.inr rfl
    · exact Or.inl (by have := hr4 q; omega))
  have e := any_c hw8 hr4 hi (jd_bh hd) sc
  rw [← hc] at e sc
  obtain ⟨f, hf⟩ : ∃ f : Nat → Nat, f = fun o => if S o = true ∧ nb w r c o = true then cv_T w r 0 (cv_rm S c o) else 0 := ⟨_, rfl⟩
  rw [← hf] at e
  have f0 : ∀ i, 64 ≤ i → f i = 0 := fun i h64 => by
    rw [hf]
    exact if_neg (fun u => by have := jd_in hd i u.1; omega)
  have fv : ∀ o, nb w r c o = true → f o = if S c = true ∧ S o = true then cv_T w r 0 (cv_rm S c o) else 0 := fun o hn => by
    rw [hf]
    by_cases q : S o = true
    · rw [if_pos ⟨sc, q⟩]; exact if_pos ⟨q, hn⟩
    · rw [if_neg (fun u => q u.2)]; exact if_neg (fun u => q u.1)
  have fv' : ∀ o, nb w r c o = true → f o = if S o = true ∧ S c = true then cv_T w r 0 (cv_rm S o c) else 0 := fun o hn => by
    rw [hf]
    by_cases q : S o = true
    · rw [if_pos ⟨q, sc⟩, cv_rm_cm]; exact if_pos ⟨q, hn⟩
    · rw [if_neg (fun u => q u.1)]; exact if_neg (fun u => q u.1)
  obtain ⟨oR, hoR⟩ : ∃ o, o = if x + 1 < w then c + 1 else if r = true then 8 * y else 1000 := ⟨_, rfl⟩
  obtain ⟨oL, hoL⟩ : ∃ o, o = if 0 < x then c - 1 else if r = true then 8 * y + (w - 1) else 1000 := ⟨_, rfl⟩
  obtain ⟨oU, hoU⟩ : ∃ o, o = if 0 < y then c - 8 else 1000 := ⟨_, rfl⟩
  have R1 : x + 1 < w → oR = c + 1 := fun q => by rw [hoR, if_pos q]
  have R2 : r = true → ¬ x + 1 < w → oR = 8 * y := fun q q2 => by rw [hoR, if_neg q2, if_pos q]
  have R3 : ¬ r = true → ¬ x + 1 < w → oR = 1000 := fun q q2 => by rw [hoR, if_neg q2, if_neg q]
  have L1 : 0 < x → oL = c - 1 := fun q => by rw [hoL, if_pos q]
  have L2 : r = true → ¬ 0 < x → oL = 8 * y + (w - 1) := fun q q2 => by rw [hoL, if_neg q2, if_pos q]
  have L3 : ¬ r = true → ¬ 0 < x → oL = 1000 := fun q q2 => by rw [hoL, if_neg q2, if_neg q]
  have U1 : 0 < y → oU = c - 8 := fun q => by rw [hoU, if_pos q]
  have U2 : ¬ 0 < y → oU = 1000 := fun q => by rw [hoU, if_neg q]
  have hR : (x + 1 < w ∧ oR = c + 1) ∨ (¬ x + 1 < w ∧ 4 ≤ w ∧ oR = 8 * y) ∨ (¬ x + 1 < w ∧ oR = 1000) := by
    by_cases q : x + 1 < w
    · exact Or.inl ⟨q, R1 q⟩
    · by_cases q2 : r = true
      · exact Or.inr (Or.inl ⟨q, hr4 q2, R2 q2 q⟩)
      · exact Or.inr (Or.inr ⟨q, R3 q2 q⟩)
  have hL : (0 < x ∧ oL = c - 1) ∨ (¬ 0 < x ∧ 4 ≤ w ∧ oL = 8 * y + (w - 1)) ∨ (¬ 0 < x ∧ oL = 1000) := by
    by_cases q : 0 < x
    · exact Or.inl ⟨q, L1 q⟩
    · by_cases q2 : r = true
      · exact Or.inr (Or.inl ⟨q, hr4 q2, L2 q2 q⟩)
      · exact Or.inr (Or.inr ⟨q, L3 q2 q⟩)
  have s4 := sm_4 (f := f) (a := oR) (b := c + 8) (c := oU) (d := oL) (N := 64) f0 (fun i hi n1 n2 n3 n4 => by
    rw [hf]
    refine if_neg ?_
    rintro ⟨si, n⟩
    have hi2 := hd.2.2.2.2.2 i si
    unfold nb at n
    simp only [Bool.or_eq_true, Bool.and_eq_true, decide_eq_true_eq] at n
    rcases n with ((((n | n) | n) | n) | ⟨⟨n, m1⟩, m2⟩) | ⟨⟨n, m1⟩, m2⟩
    · omega
    · have := U1 (by omega); omega
    · have := R1 (by omega); omega
    · have := L1 (by omega); omega
    · have := L2 n (by omega); omega
    · have := R2 n (by omega); omega) (fun e => f0 _ (by omega)) (fun e => f0 _ (by omega)) (fun e => f0 _ (by omega)) (fun e => f0 _ (by omega)) (fun e => f0 _ (by omega)) (fun e => f0 _ (by omega))
  rw [s4] at e
  have vR : tq_al z 7 (2 * c) = lN (f oR) := by
    by_cases q : x + 1 < w
    · have t := tabT hd hv hz hx hy (Or.inl ⟨rfl, q⟩ : wpc w r x 1)
      have e1 : ot w x y 1 = c + 1 := by show 8 * y + (x + 1) = _; omega
      have e2 : hdx w x y 1 = 2 * c := by show 2 * (8 * y + x) = _; omega
      rw [e1, e2, ← hc] at t
      rw [R1 q, fv _ (nb_right (by omega))]; exact t
    · by_cases q2 : r = true
      · have w4 := hr4 q2
        have t := tabT (y := y) hd hv hz (by omega : 0 < w) hy (Or.inr (Or.inr ⟨rfl, rfl, q2⟩) : wpc w r 0 3)
        have e1 : ot w 0 y 3 = c := by show 8 * y + (w - 1) = _; omega
        have e2 : hdx w 0 y 3 = 2 * c := by show 2 * (8 * y + (w - 1)) = _; omega
        rw [e1, e2, Nat.add_zero] at t
        have n1 : nb w r c (8 * y) = true := nb_s (by
          have := nb_round (w := w) (i := 8 * y) q2 (by omega)
          rw [show c = 8 * y + (w - 1) by omega]; exact this)
        rw [R2 q2 q, fv' _ n1]; exact t
      · rw [R3 q2 q, f0 _ (by omega), hz _ (by omega) (fun x' y' W' hx' hy' hp' _ _ e => ?_)]
        · rfl
        · rcases hp' with ⟨rfl, b1⟩ | rfl | ⟨rfl, b1, b2⟩
          · have e : 2 * (8 * y' + x') = 2 * c := e
            omega
          · have e : 2 * (8 * y' + x') + 1 = 2 * c := e
            omega
          · exact q2 b2
  have vD : tq_al z 7 (2 * c + 1) = lN (f (c + 8)) := by
    have t := tabT hd hv hz hx hy (Or.inr (Or.inl rfl) : wpc w r x 2)
    have e1 : ot w x y 2 = c + 8 := by show 8 * (y + 1) + x = _; omega
    have e2 : hdx w x y 2 = 2 * c + 1 := by show 2 * (8 * y + x) + 1 = _; omega
    rw [e1, e2, ← hc] at t
    rw [fv _ nb_down]; exact t
  have vU : 0 < y → tq_al z 7 (2 * (c - 8) + 1) = lN (f oU) := fun q => by
    have t := tabT (y := y - 1) hd hv hz hx (by omega) (Or.inr (Or.inl rfl) : wpc w r x 2)
    have e1 : ot w x (y - 1) 2 = c := by show 8 * (y - 1 + 1) + x = _; omega
    have e2 : hdx w x (y - 1) 2 = 2 * (c - 8) + 1 := by show 2 * (8 * (y - 1) + x) + 1 = _; omega
    have e3 : 8 * (y - 1) + x = c - 8 := by omega
    rw [e1, e2, e3] at t
    have n1 : nb w r c (c - 8) = true := nb_s (by
      have := nb_down (w := w) (r := r) (i := c - 8)
      rw [show c - 8 + 8 = c by omega] at this; exact this)
    rw [U1 q, fv' _ n1]; exact t
  obtain ⟨b, hb⟩ : ∃ b, b = if x = 0 then w - 1 else x - 1 := ⟨_, rfl⟩
  have b1 : x = 0 → b = w - 1 := fun q => by rw [hb, if_pos q]
  have b2 : ¬ x = 0 → b = x - 1 := fun q => by rw [hb, if_neg q]
  have vL : b ≠ x → tq_al z 7 (2 * (8 * y + b)) = lN (f oL) := fun nx => by
    by_cases q : x = 0
    · have eb := b1 q
      by_cases q2 : r = true
      · have w4 := hr4 q2
        have t := tabT (y := y) hd hv hz (by omega : 0 < w) hy (Or.inr (Or.inr ⟨rfl, rfl, q2⟩) : wpc w r 0 3)
        have e1 : ot w 0 y 3 = 8 * y + (w - 1) := rfl
        have e2 : hdx w 0 y 3 = 2 * (8 * y + b) := by show 2 * (8 * y + (w - 1)) = _; omega
        have e3 : 8 * y + 0 = c := by omega
        rw [e1, e2, e3] at t
        have n1 : nb w r c (8 * y + (w - 1)) = true := by
          have := nb_round (w := w) (i := c) q2 (by omega)
          rw [show 8 * y + (w - 1) = c + (w - 1) by omega]; exact this
        rw [L2 q2 (by omega), fv _ n1]; exact t
      · rw [L3 q2 (by omega), f0 _ (by omega), hz _ (by omega) (fun x' y' W' hx' hy' hp' _ _ e => ?_)]
        · rfl
        · rcases hp' with ⟨rfl, b1⟩ | rfl | ⟨rfl, b1, b2⟩
          · have e : 2 * (8 * y' + x') = 2 * (8 * y + b) := e
            omega
          · have e : 2 * (8 * y' + x') + 1 = 2 * (8 * y + b) := e
            omega
          · exact q2 b2
    · have eb := b2 q
      have t := tabT (x := b) hd hv hz (by omega) hy (Or.inl ⟨rfl, by omega⟩ : wpc w r b 1)
      have e1 : ot w b y 1 = c := by show 8 * y + (b + 1) = _; omega
      have e2 : hdx w b y 1 = 2 * (8 * y + b) := rfl
      have e3 : 8 * y + b = c - 1 := by omega
      rw [e1, e2, e3] at t
      have n1 : nb w r c (c - 1) = true := nb_s (by
        have := nb_right (w := w) (r := r) (i := c - 1) (by omega)
        rw [show c - 1 + 1 = c by omega] at this; exact this)
      rw [L1 (by omega), fv' _ n1, e3]; exact t
  have bx : b = x → f oL = 0 := fun q => by
    have : w = 1 := by
      by_cases q2 : x = 0
      · have := b1 q2; omega
      · have := b2 q2; omega
    have q2 : ¬ r = true := fun u => by have := hr4 u; omega
    rw [L3 q2 (by omega)]
    exact f0 _ (by omega)
  have fin : wc_X5_withCell_19 Q (nI x) (nI y) (nI b) z := by
    unfold wc_X5_withCell_19 wc_X5_withCell_26
    refine lp_inv (fun i s => s = (lN (if i = 0 then 0 else if i = 1 then f oR else f oR + f (c + 8)), nI i, z)) 2 ?_ rfl
    rintro i s hi2 rfl B hB
    simp only
    unfold wb_X5_withCell_26
    rw [i_2, i_le (by omega) (by omega)]
    refine ⟨fun h2 => ?_, fun h2 => ?_⟩
    · have : i = 2 := by omega
      subst this
      rw [if_neg (by omega), if_neg (by omega)]
      have last : ∀ n, (n + f oL = cv_T w r 0 S) → wc_X5_withCell_85 Q (nI x) (nI y) (nI b) (lN n) z := by
        intro n hn
        unfold wc_X5_withCell_85
        refine ⟨fun q => ?_, fun q => ?_⟩
        · rw [i_eq (by omega) (by omega)] at q
          rw [bx q, Nat.add_zero] at hn
          rw [hn, Int64.add_zero]; exact k
        · rw [i_eq (by omega) (by omega)] at q
          rw [i_8, pk_mul, i_add, i_2, pk_mul, i_cl (by omega), vL q, l_add, hn]
          exact ⟨i_in (by omega) (by omega), k⟩
      unfold wc_X5_withCell_59
      refine ⟨fun q => ?_, fun q => ?_⟩
      · rw [i_0, i_le (by omega) (by omega)] at q
        have u0 : f oU = 0 := by rw [U2 (by omega)]; exact f0 _ (by omega)
        exact last _ (by omega)
      · rw [i_0, i_le (by omega) (by omega)] at q
        have e8 : 8 * (y - 1) + x = c - 8 := by omega
        rw [i_1, pk_sub (by omega), i_8, pk_mul, i_add, i_2, pk_mul, i_add, i_cl (by omega), e8, vU (by omega), l_add]
        exact ⟨i_in (by omega) (by omega), fun v ev => by rw [ev]; exact last _ (by omega)⟩
    · rw [i_8, pk_mul, i_add, ← hc, pk_mul, i_add, i_cl (by omega)]
      refine ⟨i_in (by omega) (by omega), fun v ev v2 ev2 => ?_⟩
      rw [i_1, i_add] at ev2
      rw [ev, ev2]
      refine hB (by omega) _ ?_
      have : i = 0 ∨ i = 1 := by omega
      rcases this with rfl | rfl
      · rw [if_pos rfl, if_neg (by omega), if_pos (by omega), show 2 * c + 0 = 2 * c by omega, vR, l_add, Nat.zero_add]
      · rw [if_neg (by omega), if_pos rfl, if_neg (by omega), if_neg (by omega), vD, l_add]
  unfold wm_X5_withCell
  rw [i_0, i_le (by omega) (by omega), hj.1, i_1, pk_sub (by omega)]
  refine ⟨fun q => ?_, fun q => ?_⟩
  · rw [← b1 (by omega)]; exact fin
  · rw [pk_sub (by omega), ← b2 (by omega)]; exact fin
theorem sn_pieces (hd : jd w h r S) (hj : jc w h r S z) (hc : tq_fi z 134 = tq_fi z 68 → fro w h r S z) (hh : tq_fi z 135 = tq_fi z 68 → hvt w h r S z ∧ hvz w h r S z) (k : ∀ z', fr FH z z' → hvt w h r S z' ∧ hvz w h r S z' → tq_fi z' 135 = tq_fi z' 68 → (tq_fi z' 134 = tq_fi z' 68 → fro w h r S z') → tq_fi z' 134 = tq_fi z' 68 → Q (.inl (some (.int 1))) z') : wm_X11_piecesAreSound z Q := by
  have hw8 := hd.2.1
  have hh8 := hd.2.2.2.1
  unfold wm_X11_piecesAreSound
  refine sq_total hd hj hc (fun z0 f00 g0 c0 => ⟨_, rfl, ?_⟩)
  have j0 := jc_f f00 (by decide) (by decide) (by decide) (by decide) hj
  refine sq_fillHaving3 hd j0 (fun _ => g0) (fun u => ?_) (fun z1 f1 v1 c1 g1 s1 => ⟨rfl, ?_⟩)
  · rw [fr_fi f00 (by decide), fr_fi (k := 68) f00 (by decide)] at u
    obtain ⟨a, b⟩ := hh u
    refine ⟨fun x y W hx hy hp sa sb => by rw [fr_al f00 (by decide)]; exact a x y W hx hy hp sa sb, fun i hi no => by rw [fr_al f00 (by decide)]; exact b i hi no⟩
  have s01 : tq_fi z1 134 = tq_fi z1 68 := by
    rcases s1 with e | e
    · rw [e, fr_fi (k := 68) f1 (by decide)]; exact c0
    · exact e
  have f01 : fr FH z z1 := fr_t (fr_m (by decide) f00) f1
  have j1 := jc_f f01 (by decide) (by decide) (by decide) (by decide) hj
  unfold wc_X11_piecesAreSound_17
  refine lp_inv (fun y s => s = (nI y, z1)) h ?_ rfl
  rintro y s hyh rfl B hB
  simp only
  unfold wb_X11_piecesAreSound_17
  rw [j1.2.1, i_le (by omega) (by omega)]
  refine ⟨fun _ => k z1 f01 v1 c1 g1 s01, fun q => ?_⟩
  unfold wc_X11_piecesAreSound_31
  refine lp_inv (fun x s => s = (nI x, z1)) w ?_ rfl
  rintro x s hxw rfl B2 hB2
  simp only
  unfold wb_X11_piecesAreSound_31
  rw [j1.1, i_le (by omega) (by omega)]
  refine ⟨fun _ => ?_, fun q2 => ?_⟩
  · unfold wc_X11_piecesAreSound_79
    intro v e
    rw [i_1, i_add] at e
    subst e
    exact hB (by omega) _ rfl
  have go : wc_X11_piecesAreSound_73 (fun b3 z => B (b3, z)) (fun b4 z => B2 (b4, z)) Q (lN (cv_T w r 0 S)) (nI y) (nI x) z1 := by
    unfold wc_X11_piecesAreSound_73
    intro v e
    rw [i_1, i_add] at e
    subst e
    exact hB2 (by omega) _ rfl
  refine sq_holds hw8 hh8 j1 ⟨_, rfl, fun _ => go, fun u => ?_⟩
  rw [bi_n, ho_n (by omega) (by omega), decide_eq_true (by omega : x < w), decide_eq_true (by omega : y < h)] at u
  have u : S (8 * y + x) = true := by simpa using u
  exact sq_withCell hd j1 v1.1 v1.2 (by omega) (by omega) u ⟨_, rfl, fun _ => go, fun n => absurd rfl n⟩
end SNP
