/-! ===== flips: how far apart, and that one can be taken back ===== -/
section GF
variable {w h : Nat} {r : Bool} {S : Nat → Bool} {G : (Nat → Nat) → Nat → Int} {p pk : Nat → Nat} {c : Nat}
theorem sm_m4 {f : Nat → Nat} : ∀ {n : Nat}, (∀ k, k < n → f k % 4 = 0) → fb_sm f n % 4 = 0
  | 0, _ => rfl
  | n + 1, h => by
    have h1 := sm_m4 (n := n) (fun k hk => h k (by omega))
    have h2 := h n (by omega)
    rw [fb_sm_succ]
    omega
theorem apd_t (hd : jd w h false S) (hf : fam w h S G) (hp : pc w false S p) (hk : pc w false S pk) {v : Nat} (hc : cnr S v = true) : (G p v - G p (lst S v) - (G pk v - G pk (lst S v))) % 4 = 0 := by
  have l := cn_cnr hc (lst_s S v).1
  obtain ⟨c1, c2⟩ := cnr_in hd.2.2.2.2.2 hc
  obtain ⟨d1, d2⟩ := cnr_in hd.2.2.2.2.2 l
  have a1 := df_4 hf hp hk _ _ c1 c2
  have a2 := df_4 hf hp hk _ _ d1 d2
  unfold df at a1 a2
  rw [show 9 * (v / 9) + v % 9 = v by omega] at a1
  rw [show 9 * (lst S v / 9) + lst S v % 9 = lst S v by omega] at a2
  omega
theorem apd_4 (hd : jd w h false S) (hf : fam w h S G) (hp : pc w false S p) (hk : pc w false S pk) : fb_sm (apS S (G p) (G pk)) 81 % 4 = 0 := by
  refine sm_m4 (fun v _ => ?_)
  unfold apS
  by_cases q : cnr S v = true
  · rw [if_pos q]
    have := apd_t hd hf hp hk q
    omega
  · rw [if_neg q]
theorem apd_0 : fb_sm (apS S (G p) (G p)) 81 = 0 := by
  have : fb_sm (apS S (G p) (G p)) 81 = fb_sm (fun _ => 0) 81 := fb_sm_cong fun v _ => by
    unfold apS
    split
    · omega
    · rfl
  rw [this, fb_sm_0]
/-- a flip goes one nearer or one further -/
theorem apd_s (hd : jd w h false S) (hf : fam w h S G) (hp : pc w false S p) (hk : pc w false S pk) (e : fq w h false S p c = true) : fb_sm (apS S (G (pf w p c)) (G pk)) 81 = fb_sm (apS S (G p) (G pk)) 81 + 4 ∨ fb_sm (apS S (G (pf w p c)) (G pk)) 81 + 4 = fb_sm (apS S (G p) (G pk)) 81 := by
  have hw8 := hd.2.1
  have hh8 := hd.2.2.2.1
  obtain ⟨κ, k4, kd⟩ := fl_df hd hf hp e
  obtain ⟨h1, h2, h3, s0, _⟩ := fq_t hd hp e
  have h3 : c % 8 + 1 < w := h3.resolve_right (by decide)
  have b1 : bx S (c % 8 + 1) (c / 8 + 1) = true := by rw [bx_in (by omega) (by omega) (by omega) (by omega), show 8 * (c / 8 + 1 - 1) + (c % 8 + 1 - 1) = c by omega]; exact s0
  have kv : ∀ v, cnr S v = true → G (pf w p c) v - G p v = if v = 9 * (c / 8 + 1) + (c % 8 + 1) then κ else 0 := by
    intro v hc
    obtain ⟨c1, c2⟩ := cnr_in hd.2.2.2.2.2 hc
    have := kd _ _ c1 c2
    unfold df at this
    rw [show 9 * (v / 9) + v % 9 = v by omega] at this
    rw [this]
    by_cases u : v = 9 * (c / 8 + 1) + (c % 8 + 1)
    · rw [if_pos u, if_pos ⟨by omega, by omega⟩]
    · rw [if_neg u, if_neg (fun x => u (by omega))]
  obtain ⟨v0, e0⟩ : ∃ v0, v0 = 9 * (c / 8 + 1) + (c % 8 + 1) := ⟨_, rfl⟩
  have v81 : v0 < 81 := by omega
  have cv : cnr S v0 = true := by
    unfold cnr
    rw [show v0 % 9 = c % 8 + 1 by omega, show v0 / 9 = c / 8 + 1 by omega, b1, decide_eq_true v81]
    rfl
  have lno : ∀ v, lst S v ≠ v0 := fun v => by rw [e0]; exact lst_no hd (by omega) h3 (by omega) h2 b1 v
  have upd := fb_sm_upd (apS S (G p) (G pk)) (apS S (G (pf w p c)) (G pk) v0) v81
  have same : fb_sm (fun k => if k = v0 then apS S (G (pf w p c)) (G pk) v0 else apS S (G p) (G pk) k) 81 = fb_sm (apS S (G (pf w p c)) (G pk)) 81 := fb_sm_cong fun v _ => by
    by_cases u : v = v0
    · rw [if_pos u, u]
    · rw [if_neg u]
      unfold apS
      by_cases q : cnr S v = true
      · rw [if_pos q, if_pos q]
        have a1 := kv v q
        have a2 := kv _ (cn_cnr q (lst_s S v).1)
        rw [if_neg (by rw [← e0]; exact u)] at a1
        rw [if_neg (by rw [← e0]; exact lno v)] at a2
        congr 1
        omega
      · rw [if_neg q, if_neg q]
  rw [same] at upd
  have a0 : apS S (G p) (G pk) v0 = (G p v0 - G p (lst S v0) - (G pk v0 - G pk (lst S v0))).natAbs := if_pos cv
  have a1 : apS S (G (pf w p c)) (G pk) v0 = (G (pf w p c) v0 - G (pf w p c) (lst S v0) - (G pk v0 - G pk (lst S v0))).natAbs := if_pos cv
  have m := apd_t hd hf hp hk cv
  have b1 := kv v0 cv
  have b2 := kv _ (cn_cnr cv (lst_s S v0).1)
  rw [if_pos e0] at b1
  rw [if_neg (by rw [← e0]; exact lno v0)] at b2
  omega
/-- what was flipped can be flipped back -/
theorem fq_back (hd : jd w h r S) (hp : pc w r S p) (e : fq w h r S p c = true) : fq w h r S (pf w p c) c = true := by
  have v := pf_v hd hp e
  obtain ⟨h1, h2, h3, s1, s2, s3, s4, h4⟩ := fq_t hd hp e
  have hw8 := hd.2.1
  have hr4 := jd_r hd
  have hb := bb_lt h1 hw8 h3 hr4
  have h38 : (c + 8) % 8 + 1 < w ∨ r = true := by rw [show (c + 8) % 8 = c % 8 by omega]; exact h3
  have n1 : bb w c ≠ c + 8 := by omega
  have g0 : (decide (c % 8 < w) && decide (c / 8 + 1 < h) && (decide (c % 8 + 1 < w) || r)) = true := by
    rw [decide_eq_true h1, decide_eq_true h2]
    rcases h3 with q | q
    · rw [decide_eq_true q]; rfl
    · rw [q]; simp
  unfold fq
  rw [g0, Bool.true_and]
  by_cases q : p c = bb w c
  · obtain ⟨v1, v2, v3, v4⟩ := v.1 q
    rw [s1, s2, Dp_d v1, Dp_d v3]; simp
  · obtain ⟨v1, v2, v3, v4⟩ := v.2.1 q
    rw [s1, s3, Rp_b h1 h3 v1, Rp_b (by omega) h38 (by rw [hb.2.2.2]; exact v3)]; rfl
theorem fq_pos (hd : jd w h r S) (hp : pc w r S p) (e : fq w h r S p c = true) (hc : c < 64) : 0 < fb_ct (fq w h r S (pf w p c)) 64 := fb_ct_pos.mpr ⟨c, hc, fq_back hd hp e⟩
end GF
