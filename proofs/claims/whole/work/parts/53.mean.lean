/-! ===== means: no mean is a NaN ===== -/
def nan64 (r : UInt64) : Bool := decide (r &&& 0x7fffffffffffffff ≤ 0x7ff0000000000000)
theorem mean_c : ∀ a : Fin 65, ∀ b : Fin 65, b.val ≠ 0 → nan64 (FP.ddiv (FP.i2d (nI a.val)) (FP.i2d (nI b.val))) = true := by decide +kernel
theorem mean_n {a b : Nat} (ha : a ≤ 64) (hb : b ≤ 64) (h0 : b ≠ 0) : vf_n64 (FP.ddiv (FP.i2d (nI a)) (FP.i2d (nI b))) := by
  have h := mean_c ⟨a, by omega⟩ ⟨b, by omega⟩ h0
  unfold nan64 at h
  have h2 := of_decide_eq_true h
  unfold vf_n64
  exact h2
theorem ct_pos {f : Nat → Bool} {n c : Nat} (hc : c < n) (h : f c = true) : 0 < fb_ct f n := by
  have u := fb_ct_upd f false hc
  rw [if_pos h] at u
  have e : (if false = true then 1 else 0) = 0 := rfl
  rw [e] at u
  omega
theorem ct_nil {f : Nat → Bool} {n : Nat} (h : ∀ c, c < n → f c = false) : fb_ct f n = 0 := by
  refine Nat.le_zero.mp (Nat.not_lt.mp (fun u => ?_))
  have e : fb_ct f n = fb_ct (fun _ => false) n := fb_ct_cong (fun i hi => h i hi)
  have e2 : ∀ m, fb_ct (fun _ => false) m = 0 := by
    intro m
    induction m with
    | zero => rfl
    | succ m ih =>
      show fb_ct (fun _ => false) m + 0 = 0
      rw [ih]
  rw [e, e2] at u
  omega
section MEAN
variable {w h : Nat} {r : Bool} {S : Nat → Bool} {z : tq_S} {Q : tq_O → tq_S → Prop}
theorem gr_pos (hd : jd w h r S) : 0 < gr_n w r S (fun _ => false) ↔ 0 < fb_ct S 64 := by
  constructor
  · intro u
    refine Nat.pos_of_ne_zero (fun e => ?_)
    have e2 : gr_n w r S (fun _ => false) = 0 := by
      unfold gr_n
      refine ct_nil (fun c hc => ?_)
      unfold rc_k
      refine @decide_eq_false _ (Classical.propDecidable _) (fun hl => ?_)
      have := ct_pos hc hl.1
      omega
    omega
  · intro u
    have ex : ∃ c, c < 64 ∧ S c = true := by
      refine Classical.byContradiction fun hn => ?_
      have := ct_nil (f := S) (n := 64) (fun c hc => by
        cases e : S c
        · rfl
        · exact absurd ⟨c, hc, e⟩ hn)
      omega
    obtain ⟨c, hc, hs⟩ := ex
    obtain ⟨l, -, l2, l3⟩ := ct_first (f := fun j => @decide (rc (nb w r) S c j) (Classical.propDecidable _)) c (@decide_eq_true _ (Classical.propDecidable _) (fun T h1 _ => h1))
    have l2' : rc (nb w r) S c l := @of_decide_eq_true _ (Classical.propDecidable _) l2
    have sl : S l = true := l2' S hs (fun _ _ _ _ h => h)
    unfold gr_n
    refine ct_pos (jd_in hd l sl) ?_
    unfold rc_k
    refine @decide_eq_true _ (Classical.propDecidable _) ⟨sl, fun j hj => ?_, fun _ _ => rfl⟩
    refine Nat.not_lt.mp (fun hlt => ?_)
    have q := @of_decide_eq_false _ (Classical.propDecidable _) (l3 j hlt)
    exact q (fun T h1 h2 => hj T (l2' T h1 h2) h2)
theorem gr_64 : gr_n w r S (fun _ => false) ≤ 64 := by unfold gr_n; exact fb_ct_le _ 64
theorem sc_meanPart (hd : jd w h r S) (hj : jc w h r S z) (k0 : fb_ct S 64 = 0 → Q (.inr 0) z) (k1 : 0 < fb_ct S 64 → Q (.inl (some (.double (FP.ddiv (FP.i2d (nI (fb_ct S 64))) (FP.i2d (nI (gr_n w r S (fun _ => false)))))))) z) : wm_X11_meanPart z Q := by
  have g64 := gr_64 (w := w) (r := r) (S := S)
  have s64 := fb_ct_le S 64
  have gp := gr_pos hd
  have key : ((0 : Int32) < nI (gr_n w r S (fun _ => false))) ↔ 0 < fb_ct S 64 := by
    rw [i_0, i_lt (by omega) (by omega)]; exact gp
  unfold wm_X11_meanPart
  refine sc_parts hd hj ⟨_, rfl, ?_⟩
  show ((0 : Int32) < nI (gr_n w r S (fun _ => false)) → _) ∧ (¬ (0 : Int32) < nI (gr_n w r S (fun _ => false)) → _)
  rw [key]
  refine ⟨fun h1 => ?_, fun h1 => k0 (by omega)⟩
  exact sq_size hj ⟨_, rfl, mean_n s64 g64 (by omega), k1 h1⟩
theorem sr_meanPart (hd : jd w h r S) (hj : jr w h r S z) (k0 : fb_ct S 64 = 0 → ∀ z', fr [(0, 3264)] z z' → tq_fi z' 3264 = 1 → Q (.inl (some (.double FP.dconst0))) z') (k1 : 0 < fb_ct S 64 → ∀ z', fr [(0, 3264), (2, 61), (2, 62), (0, 3282)] z z' → tq_fi z' 3264 = 0 → Q (.inl (some (.double (FP.ddiv (FP.i2d (nI (fb_ct S 64))) (FP.i2d (nI (gr_n w r S (fun _ => false)))))))) z') : wm_X12_meanPart z Q := by
  have g64 := gr_64 (w := w) (r := r) (S := S)
  have s64 := fb_ct_le S 64
  have gp := gr_pos hd
  unfold wm_X12_meanPart
  refine sq_many hj ⟨_, rfl, ?_⟩
  show (¬ nI (fb_ct S 64) = (0 : Int32) → _) ∧ (nI (fb_ct S 64) = (0 : Int32) → _)
  rw [i_0, i_eq (by omega) (by omega)]
  refine ⟨fun h1 => ?_, fun h1 => ?_⟩
  · unfold wc_X12_meanPart_15
    refine sq_isThrown (b := false) (a := 1) (fun z1 f1 e1 => ⟨_, rfl, fun _ => ?_, fun h3 => absurd rfl h3⟩)
    have j1 := jr_f f1 (by decide) (by decide) (by decide) (by decide) hj
    refine sr_partsOf hd j1 (fun z2 f2 => ⟨_, rfl, mean_n s64 g64 (by omega), ?_⟩)
    exact k1 (by omega) z2 (fr_t (fr_m (by decide) f1) (fr_m (by decide) f2)) ((fr_fi f2 (by decide)).trans e1)
  · unfold wc_X12_meanPart_15
    exact sq_isThrown (b := true) (a := 1) (fun z1 f1 e1 => ⟨_, rfl, fun h3 => (by cases h3), fun _ => k0 h1 z1 f1 e1⟩)
end MEAN
