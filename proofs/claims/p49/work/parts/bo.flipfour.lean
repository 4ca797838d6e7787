section FPD
variable {w h : Nat} {S : Nat → Bool} {G : (Nat → Nat) → Nat → Int} {p : Nat → Nat} {c : Nat}
theorem fl_df (hd : jd w h false S) (hf : fam w h S G) (hp : pc w false S p) (e : fq w h false S p c = true) : ∃ κ : Int, κ.natAbs = 4 ∧ ∀ x' y', x' ≤ w → y' ≤ h → df G (pf w p c) p x' y' = if x' = c % 8 + 1 ∧ y' = c / 8 + 1 then κ else 0 := by
  have hw8 := hd.2.1
  have hh8 := hd.2.2.2.1
  obtain ⟨h1, h2, h3, s0, s1, s8, s9, cs⟩ := fq_t hd hp e
  have h3 : c % 8 + 1 < w := h3.resolve_right (by decide)
  have eb : bb w c = c + 1 := by unfold bb; rw [if_pos h3]
  obtain ⟨v1, v2, v3⟩ := pf_v hd hp e
  have pq := pf_pc hd hp e
  rw [eb] at s1 s9 cs v1 v2 v3
  obtain ⟨q, eq⟩ : ∃ q, q = pf w p c := ⟨_, rfl⟩
  rw [← eq] at v1 v2 v3 pq ⊢
  have ha : c = 8 * (c / 8 + 1 - 1) + (c % 8 + 1 - 1) := by omega
  have b1 : bx S (c % 8 + 1) (c / 8 + 1) = true := by rw [bx_in (by omega) (by omega) (by omega) (by omega), ← ha]; exact s0
  have b2 : bx S (c % 8 + 1 + 1) (c / 8 + 1) = true := by rw [bx_in (by omega) (by omega) (by omega) (by omega), show 8 * (c / 8 + 1 - 1) + (c % 8 + 1 + 1 - 1) = c + 1 by omega]; exact s1
  have b3 : bx S (c % 8 + 1) (c / 8 + 1 + 1) = true := by rw [bx_in (by omega) (by omega) (by omega) (by omega), show 8 * (c / 8 + 1 + 1 - 1) + (c % 8 + 1 - 1) = c + 8 by omega]; exact s8
  have vlt : ∀ d : Bool, vl d true - vl d false = if d = true then -4 else 4 := by decide
  have vlf : ∀ d : Bool, vl d false - vl d true = if d = true then 4 else -4 := by decide
  have c7 : c % 8 + 1 < w := h3
  rcases cs with ⟨p0, p1, p8, p9⟩ | ⟨p0, p8, p1, p9⟩
  · obtain ⟨q0, q8, q1, q9⟩ := v1 p0
    have dq0 : Dp q c = true := by unfold Dp; rw [q0]; exact decide_eq_true rfl
    have dq1 : Dp q (c + 1) = true := by unfold Dp; rw [q1]; exact decide_eq_true (by omega)
    have dp0 : Dp p c = false := by unfold Dp; rw [p0]; exact decide_eq_false (by omega)
    have dp1 : Dp p (c + 1) = false := by unfold Dp; rw [p1]; exact decide_eq_false (by omega)
    have rq0 : Rp w false q c = false := by rw [Rp_f, q0, decide_eq_false (show ¬ c + 8 = c + 1 by omega), Bool.and_false]
    have rq8 : Rp w false q (c + 8) = false := by rw [Rp_f, q8, decide_eq_false (show ¬ c = c + 8 + 1 by omega), Bool.and_false]
    have rp0 : Rp w false p c = true := by rw [Rp_f, p0, decide_eq_true h3, decide_eq_true rfl]; rfl
    have rp8 : Rp w false p (c + 8) = true := by rw [Rp_f, p8, decide_eq_true (show (c + 8) % 8 + 1 < w by omega), decide_eq_true (show c + 1 + 8 = c + 8 + 1 by omega)]; rfl
    refine ⟨if (c % 8 + 1 + (c / 8 + 1)) % 2 = 0 then -4 else 4, by split <;> rfl, ?_⟩
    refine df_fl hd hf hp pq ha (by omega) h3 (by omega) (by omega) b1 b2 b3 (fun j n1 n2 => ?_) (fun j n1 n2 => ?_) ?_ ?_ ?_ ?_
    · unfold Dp
      by_cases u : j = c + 8
      · subst u; rw [q8, p8, decide_eq_false (by omega), decide_eq_false (by omega)]
      · by_cases v : j = c + 1 + 8
        · subst v; rw [q9, p9, decide_eq_false (by omega), decide_eq_false (by omega)]
        · rw [v3 j n1 u n2 v]
    · rw [Rp_f, Rp_f]
      by_cases u : j = c + 1
      · subst u; rw [q1, p1, decide_eq_false (show ¬ c + 1 + 8 = c + 1 + 1 by omega), decide_eq_false (show ¬ c = c + 1 + 1 by omega)]
      · by_cases v : j = c + 1 + 8
        · subst v; rw [q9, p9, decide_eq_false (show ¬ c + 1 = c + 1 + 8 + 1 by omega), decide_eq_false (show ¬ c + 8 = c + 1 + 8 + 1 by omega)]
        · rw [v3 j n1 n2 u v]
    · rw [dq1, dp1, vlt]; simp only [decide_eq_true_eq]; split <;> split <;> omega
    · rw [dq0, dp0, vlt]; simp only [decide_eq_true_eq]
    · rw [rq8, rp8, vlf]; simp only [decide_eq_true_eq]; split <;> split <;> omega
    · rw [rq0, rp0, vlf]; simp only [decide_eq_true_eq]; split <;> split <;> omega
  · obtain ⟨q0, q1, q8, q9⟩ := v2 (by omega)
    have dq0 : Dp q c = false := by unfold Dp; rw [q0]; exact decide_eq_false (by omega)
    have dq1 : Dp q (c + 1) = false := by unfold Dp; rw [q1]; exact decide_eq_false (by omega)
    have dp0 : Dp p c = true := by unfold Dp; rw [p0]; exact decide_eq_true rfl
    have dp1 : Dp p (c + 1) = true := by unfold Dp; rw [p1]; exact decide_eq_true rfl
    have rq0 : Rp w false q c = true := by rw [Rp_f, q0, decide_eq_true h3, decide_eq_true rfl]; rfl
    have rq8 : Rp w false q (c + 8) = true := by rw [Rp_f, q8, decide_eq_true (show (c + 8) % 8 + 1 < w by omega), decide_eq_true (show c + 1 + 8 = c + 8 + 1 by omega)]; rfl
    have rp0 : Rp w false p c = false := by rw [Rp_f, p0, decide_eq_false (show ¬ c + 8 = c + 1 by omega), Bool.and_false]
    have rp8 : Rp w false p (c + 8) = false := by rw [Rp_f, p8, decide_eq_false (show ¬ c = c + 8 + 1 by omega), Bool.and_false]
    refine ⟨if (c % 8 + 1 + (c / 8 + 1)) % 2 = 0 then 4 else -4, by split <;> rfl, ?_⟩
    refine df_fl hd hf hp pq ha (by omega) h3 (by omega) (by omega) b1 b2 b3 (fun j n1 n2 => ?_) (fun j n1 n2 => ?_) ?_ ?_ ?_ ?_
    · unfold Dp
      by_cases u : j = c + 8
      · subst u; rw [q8, p8, decide_eq_false (by omega), decide_eq_false (by omega)]
      · by_cases v : j = c + 1 + 8
        · subst v; rw [q9, p9, decide_eq_false (by omega), decide_eq_false (by omega)]
        · rw [v3 j n1 u n2 v]
    · rw [Rp_f, Rp_f]
      by_cases u : j = c + 1
      · subst u; rw [q1, p1, decide_eq_false (show ¬ c + 1 + 8 = c + 1 + 1 by omega), decide_eq_false (show ¬ c = c + 1 + 1 by omega)]
      · by_cases v : j = c + 1 + 8
        · subst v; rw [q9, p9, decide_eq_false (show ¬ c + 1 = c + 1 + 8 + 1 by omega), decide_eq_false (show ¬ c + 8 = c + 1 + 8 + 1 by omega)]
        · rw [v3 j n1 n2 u v]
    · rw [dq1, dp1, vlf]; simp only [decide_eq_true_eq]; split <;> split <;> omega
    · rw [dq0, dp0, vlf]; simp only [decide_eq_true_eq]
    · rw [rq8, rp8, vlt]; simp only [decide_eq_true_eq]; split <;> split <;> omega
    · rw [rq0, rp0, vlt]; simp only [decide_eq_true_eq]; split <;> split <;> omega
/-- the sum of what the corners are apart is four -/
theorem fl_hF (hd : jd w h false S) (hf : fam w h S G) (hp : pc w false S p) (e : fq w h false S p c = true) : pot w S (pf w p c) (G (pf w p c)) ∧ fb_sm (apS S (G (pf w p c)) (G p)) 81 = 4 := by
  have hw8 := hd.2.1
  have hh8 := hd.2.2.2.1
  refine ⟨(hf.1 _ (pf_pc hd hp e)).1, ?_⟩
  obtain ⟨κ, k4, kd⟩ := fl_df hd hf hp e
  obtain ⟨h1, h2, h3, s0, _⟩ := fq_t hd hp e
  have h3 : c % 8 + 1 < w := h3.resolve_right (by decide)
  have b1 : bx S (c % 8 + 1) (c / 8 + 1) = true := by rw [bx_in (by omega) (by omega) (by omega) (by omega), show 8 * (c / 8 + 1 - 1) + (c % 8 + 1 - 1) = c by omega]; exact s0
  refine ap_4 hd k4 (by omega) h3 (by omega) h2 b1 (fun v hv hc => ?_) (fun v hv hc => ?_)
  · obtain ⟨c1, c2⟩ := cnr_in hd.2.2.2.2.2 hc
    have := kd _ _ c1 c2
    unfold df at this
    rw [show 9 * (v / 9) + v % 9 = v by omega] at this
    rw [this]
    by_cases u : v = 9 * (c / 8 + 1) + (c % 8 + 1)
    · rw [if_pos u, if_pos ⟨by omega, by omega⟩]
    · rw [if_neg u, if_neg (fun x => u (by omega))]
  · have := cn_cnr hc (lst_s S v).1
    exact ⟨cnr_81 this, this⟩
end FPD
