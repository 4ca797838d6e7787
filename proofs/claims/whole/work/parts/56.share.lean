/-! ===== share ===== -/
def fl_ok (d : FP.Core.Datum) : Prop := match d with
  | .nan => False
  | .inf _ => True
  | .fin _ c q => c < 2 ^ 53 ∧ q ≤ 971
theorem fl_bound {s : Bool} {c : Nat} {q : Int} (hc : c < 2 ^ 53) : fl_ok (FP.Core.bound FP.Core.b64 s c q) := by
  unfold FP.Core.bound
  have e : FP.Core.Fmt.qmax FP.Core.b64 = 971 := by decide +kernel
  rw [e]
  by_cases h : q ≤ 971
  · rw [if_pos h]; exact ⟨hc, h⟩
  · rw [if_neg h]; trivial
theorem fl_settle {s : Bool} {c : Nat} {q : Int} : fl_ok (FP.Core.settle FP.Core.b64 s c q) := by
  unfold FP.Core.settle
  have e : (2 : Nat) ^ FP.Core.b64.p = 2 ^ 53 := rfl
  rw [e]
  by_cases h : c < 2 ^ 53
  · rw [if_pos h]; exact fl_bound h
  · rw [if_neg h]; exact fl_bound (by have e : FP.Core.Fmt.tails FP.Core.b64 = 2 ^ 52 := rfl; rw [e]; omega)
theorem fl_ratio {s : Bool} {a b : Nat} {e : Int} : fl_ok (FP.Core.roundRatio FP.Core.b64 s a b e) := by
  unfold FP.Core.roundRatio
  by_cases h : a = 0
  · rw [if_pos h]
    exact ⟨by omega, by decide +kernel⟩
  · rw [if_neg h]
    unfold FP.Core.roundAt
    exact fl_settle
theorem fl_enc {d : FP.Core.Datum} (h : fl_ok d) : ∃ s : Bool, ∃ m, m ≤ 9218868437227405312 ∧ FP.Core.encode FP.Core.b64 d = s.toNat * 9223372036854775808 + m := by
  have e1 : FP.Core.Fmt.exps FP.Core.b64 = 2048 := rfl
  have e2 : FP.Core.Fmt.tails FP.Core.b64 = 4503599627370496 := rfl
  have e3 : FP.Core.Fmt.qmin FP.Core.b64 = -1074 := by decide +kernel
  cases d with
  | nan => exact h.elim
  | inf s =>
    refine ⟨s, 9218868437227405312, Nat.le_refl _, ?_⟩
    show (s.toNat * FP.Core.Fmt.exps FP.Core.b64 + (FP.Core.Fmt.exps FP.Core.b64 - 1)) * FP.Core.Fmt.tails FP.Core.b64 + 0 = _
    rw [e1, e2]
    omega
  | fin s c q =>
    obtain ⟨h1, h2⟩ := h
    unfold FP.Core.encode FP.Core.assemble
    simp only [e1, e2, e3]
    by_cases hc : c < 4503599627370496
    · rw [if_pos hc]
      exact ⟨s, c, by omega, by omega⟩
    · rw [if_neg hc]
      refine ⟨s, ((q - -1074).toNat + 1) * 4503599627370496 + (c - 4503599627370496), by omega, by omega⟩
theorem fl_n64 {d : FP.Core.Datum} (h : fl_ok d) : vf_n64 (UInt64.ofNat (FP.Core.encode FP.Core.b64 d)) := by
  obtain ⟨s, m, h1, h2⟩ := fl_enc h
  rw [h2]
  unfold vf_n64
  rw [UInt64.le_iff_toNat_le, UInt64.toNat_and, UInt64.toNat_ofNat']
  have e : (9223372036854775807 : UInt64).toNat = 2 ^ 63 - 1 := rfl
  have e2 : (9218868437227405312 : UInt64).toNat = 9218868437227405312 := rfl
  show ((s.toNat * 9223372036854775808 + m) % 2 ^ 64 &&& (9223372036854775807 : UInt64).toNat) ≤ (9218868437227405312 : UInt64).toNat
  rw [e, e2, Nat.and_two_pow_sub_one_eq_mod]
  have : s.toNat ≤ 1 := by cases s <;> decide
  omega
theorem fk_f2d {d : FP.Core.Datum} (h : fk_ok d) : vf_n64 (FP.f2d (UInt32.ofNat (FP.Core.encode FP.Core.b32 d))) := by
  obtain ⟨s, m, h1, h2⟩ := fk_enc h
  have e1 : FP.Core.Fmt.exps FP.Core.b32 = 256 := rfl
  have e2 : FP.Core.Fmt.tails FP.Core.b32 = 8388608 := rfl
  have s1 : s.toNat ≤ 1 := by cases s <;> decide
  have nn : FP.Core.decode FP.Core.b32 (UInt32.ofNat (FP.Core.encode FP.Core.b32 d)).toNat ≠ .nan := by
    rw [h2, UInt32.toNat_ofNat']
    unfold FP.Core.decode FP.Core.fieldE FP.Core.fieldT
    rw [e1, e2]
    by_cases q : (s.toNat * 2147483648 + m) % 2 ^ 32 / 8388608 % 256 = 256 - 1
    · rw [if_pos q, if_pos (by omega)]
      intro u; cases u
    · rw [if_neg q]
      split
      · intro u; cases u
      · intro u; cases u
  have e : FP.f2d (UInt32.ofNat (FP.Core.encode FP.Core.b32 d)) = UInt64.ofNat (FP.Core.encode FP.Core.b64 (FP.Core.round FP.Core.b64 (FP.Core.decode FP.Core.b32 (UInt32.ofNat (FP.Core.encode FP.Core.b32 d)).toNat))) := by
    unfold FP.f2d
    have e0 : FP.Core.fIsNaN (UInt32.ofNat (FP.Core.encode FP.Core.b32 d)) = false := decide_eq_false nn
    rw [e0, if_neg Bool.false_ne_true]; rfl
  rw [e]
  refine fl_n64 ?_
  generalize FP.Core.decode FP.Core.b32 (UInt32.ofNat (FP.Core.encode FP.Core.b32 d)).toNat = dd at nn
  cases dd with
  | nan => exact absurd rfl nn
  | inf s => trivial
  | fin s c q => exact fl_ratio
theorem share_d {a b : Nat} (ha : a < 9223372036854775808) (hb : b < 9223372036854775808) (h0 : 0 < b) : vf_n64 (FP.f2d (FP.fdiv (FP.l2f (lN a)) (FP.l2f (lN b)))) := by
  obtain ⟨d, h1, h2⟩ := fk_div ha hb h0
  rw [h2]; exact fk_f2d h1
section SHARE
variable {w h : Nat} {r : Bool} {S : Nat → Bool} {z : tq_S} {Q : tq_O → tq_S → Prop}
theorem sc_share {X Y D : Int32} (hd : jd w h r S) (hj : jc w h r S z) (hc : tq_fi z 134 = tq_fi z 68 → fro w h r S z) (hh : tq_fi z 135 = tq_fi z 68 → hvt w h r S z) (k0 : (∀ x y o, ¬ pcn w h r S X Y D x y o) → Q (.inr 3) z) (k1 : ∀ x y o, pcn w h r S X Y D x y o → cv_T w r 0 S = 0 → ∀ z', fr [(3, 3), (3, 4), (0, 134)] z z' → fro w h r S z' → tq_fi z' 134 = tq_fi z' 68 → Q (.inr 0) z') (k2 : ∀ x y o, pcn w h r S X Y D x y o → 0 < cv_T w r 0 S → ∀ z', fr FH z z' → hvt w h r S z' → tq_fi z' 135 = tq_fi z' 68 → (tq_fi z' 134 = tq_fi z' 68 → fro w h r S z') → Q (.inl (some (.float (FP.fdiv (FP.l2f (lN (cv_T w r 0 (cv_rm S (8 * y + x) o)))) (FP.l2f (lN (cv_T w r 0 S))))))) z') : wm_X11_share X Y D z Q := by
  have hT := T_b hd
  unfold wm_X11_share
  refine sq_isPiece hd hj (fun u => ⟨_, rfl, fun h1 => absurd rfl h1, fun _ => k0 u⟩) (fun x y o hp => ⟨_, rfl, fun _ => ?_, fun h1 => absurd h1 (by decide +kernel)⟩)
  have hP := pc_big (r := r) (S' := cv_rm S (8 * y + x) o) hd (fun j hj => (cv_rm_t.mp hj).1)
  refine sq_total hd hj hc (fun z1 f1 g1 c1 => ⟨_, rfl, ?_⟩)
  have key : ((0 : Int64) < lN (cv_T w r 0 S)) ↔ 0 < cv_T w r 0 S := by
    rw [l_0, pk_lLT (by omega) (by omega)]
  show ((0 : Int64) < lN (cv_T w r 0 S) → _) ∧ (¬ (0 : Int64) < lN (cv_T w r 0 S) → _)
  rw [key]
  refine ⟨fun h1 => ?_, fun h1 => k1 x y o hp (by omega) z1 f1 g1 c1⟩
  have j1 := jc_f f1 (by decide) (by decide) (by decide) (by decide) hj
  refine sq_fillHaving hd j1 (fun _ => g1) (fun e => fun x y W hx hy hw sa sb => ?_) (fun z2 f2 v2 c2 g2 => ⟨rfl, ?_⟩)
  · have e2 : tq_fi z 135 = tq_fi z 68 := by rw [← fr_fi f1 (by decide : (0, 135) ∉ _), ← fr_fi f1 (by decide : (0, 68) ∉ _)]; exact e
    rw [fr_al f1 (by decide)]
    exact hh e2 x y W hx hy hw sa sb
  · refine sq_withPiece hd v2 hp ⟨_, rfl, share_n hP (by omega) h1, ?_⟩
    exact k2 x y o hp h1 z2 (fr_t (fr_m (by decide) f1) f2) v2 c2 g2
theorem sr_share {X Y D : Int32} (hd : jd w h r S) (hj : jr w h r S z) (k0 : (∀ x y o, ¬ pcn w h r S X Y D x y o) → ∀ z', fr [(0, 3264)] z z' → tq_fi z' 3264 = 1 → Q (.inl (some (.float FP.fconst0))) z') (k1 : ∀ x y o, pcn w h r S X Y D x y o → cv_T w r 0 S = 0 → ∀ z', fr ([(0, 3264)] ++ FN) z z' → tq_fi z' 3264 = 2 → Q (.inl (some (.float FP.fconst0))) z') (k2 : ∀ x y o, pcn w h r S X Y D x y o → 0 < cv_T w r 0 S → ∀ z', fr ([(0, 3264)] ++ FN) z z' → tq_fi z' 3264 = 0 → Q (.inl (some (.float (FP.fdiv (FP.l2f (lN (cv_T w r 0 (cv_rm S (8 * y + x) o)))) (FP.l2f (lN (cv_T w r 0 S))))))) z') : wm_X12_share X Y D z Q := by
  have hw8 := hd.2.1
  have hh8 := hd.2.2.2.1
  have hT := T_b hd
  unfold wm_X12_share
  refine sq_pieceOther (D := D) hd hj (fun u => ⟨_, rfl, fun h1 => absurd rfl h1, fun _ => ?_⟩) (fun x y o hp => ⟨_, rfl, fun _ => ?_, fun h1 => ?_⟩)
  · unfold wc_X12_share_21
    exact sq_isThrown (b := true) (a := 1) (fun z1 f1 e1 => ⟨_, rfl, fun h3 => (by cases h3), fun _ => k0 u z1 f1 e1⟩)
  · have o64 := jd_in hd _ hp.2.2.2.2.2.2
    have hP := pc_big (r := r) (S' := cv_rm S (8 * y + x) o) hd (fun j hj => (cv_rm_t.mp hj).1)
    have hp' := hp
    obtain ⟨rfl, rfl, hx, hy, sa, -⟩ := hp'
    unfold wc_X12_share_21
    refine sq_isThrown (b := false) (a := 1) (fun z1 f1 e1 => ⟨_, rfl, fun _ => ?_, fun h3 => absurd rfl h3⟩)
    have j1 := jr_f f1 (by decide) (by decide) (by decide) (by decide) hj
    refine sr_countAll hd j1 (fun z2 f2 => ⟨_, rfl, ?_⟩)
    have f12 : fr ([(0, 3264)] ++ FN) z z2 := fr_t (fr_m (by decide) f1) (fr_m (by decide) f2)
    have j2 := jr_f f12 (by decide) (by decide) (by decide) (by decide) hj
    show (¬ lN (cv_T w r 0 S) = 0 → _) ∧ (lN (cv_T w r 0 S) = 0 → _)
    rw [l_z (by omega)]
    refine ⟨fun h4 => ?_, fun h4 => ?_⟩
    · unfold wc_X12_share_49
      refine sq_isThrown (b := false) (a := 2) (fun z3 f3 e3 => ⟨_, rfl, fun _ => ?_, fun h3 => absurd rfl h3⟩)
      have j3 := jr_f f3 (by decide) (by decide) (by decide) (by decide) j2
      show wm_X12_countWith ((8 : Int32) * nI y + nI x) (nI o) z3 _
      rw [i_8, pk_mul, i_add]
      refine sq_countWith hd j3 (by omega) o64 (fun z4 f4 => ⟨_, rfl, share_n hP (by omega) (by omega), ?_⟩)
      exact k2 x y o hp (by omega) z4 (fr_t f12 (fr_t (fr_m (by decide) f3) (fr_m (by decide) f4))) ((fr_fi f4 (by decide)).trans e3)
    · unfold wc_X12_share_49
      exact sq_isThrown (b := true) (a := 2) (fun z3 f3 e3 => ⟨_, rfl, fun h3 => (by cases h3), fun _ => k1 x y o hp h4 z3 (fr_t f12 (fr_m (by decide) f3)) e3⟩)
  · have o64 := jd_in hd _ hp.2.2.2.2.2.2
    have e2 : nI o = (-1 : Int32) := h1
    rw [nu_eq, i_ti (by omega)] at e2
    have : (-1 : Int32).toInt = -1 := by decide +kernel
    omega
end SHARE
