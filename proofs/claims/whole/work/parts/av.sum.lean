/-! ===== unlike: the sum of the motions' counts ===== -/
section UU
variable {w h : Nat} {S : Nat → Bool} {P K : Nat} {f : Nat → plc} {M Z : Nat → Nat}
/-- each place's motions are those that make a place of it -/
def GLp (w h : Nat) (S : Nat → Bool) (P : Nat) (f : Nat → plc) : Prop := ∀ a m, a < P → grB w h false S m = true → ((f a).2.2.2.testBit m = true ↔ ∃ q, imP w h S P f m a q)
theorem gA_Vf (hpl : plg S Z P f) (hn : fb_ct S 64 ≤ 24) (hG : GLp w h S P f) {g0 : Nat} (hg0 : ∀ m, g0.testBit m = grB w h false S m) {j m : Nat} (hj : j < exn (fb_ct S 64) P f K M) : (gAnd f g0 (LL S P f K M j)).testBit m = Vf w h S P f K M j m := by
  have iff : (gAnd f g0 (LL S P f K M j)).testBit m = true ↔ Vf w h S P f K M j m = true := by
    rw [gAnd_t, Vf_t, hg0]
    constructor
    · rintro ⟨a, b⟩
      exact ⟨a, fun x mx => (hG x m (LL_P hpl hn hj mx) a).mp (b x mx)⟩
    · rintro ⟨a, b⟩
      exact ⟨a, fun x mx => (hG x m (LL_P hpl hn hj mx) a).mpr (b x mx)⟩
  cases e1 : (gAnd f g0 (LL S P f K M j)).testBit m <;> cases e2 : Vf w h S P f K M j m
  · rfl
  · rw [iff.mpr e2] at e1; cases e1
  · rw [iff.mp e1] at e2; cases e2
  · rfl
theorem uu_sum (hd : jd w h false S) (hpl : plg S Z P f) (hn : fb_ct S 64 ≤ 24) (hG : GLp w h S P f) {g0 : Nat} (hg0 : ∀ m, g0.testBit m = grB w h false S m) {F : Nat → Bool} (Ft : ∀ j, j < exn (fb_ct S 64) P f K M → (F j = true ↔ ∀ m, m < 8 → Vf w h S P f K M j m = true → j ≤ acN w h S P f K M m j)) : fb_sm (fun m => if grB w h false S m = true then fb_sm (fun j => fxv w h S P f m g0 (LL S P f K M j)) (exn (fb_ct S 64) P f K M) else 0) 8 = 840 * fb_ct F (exn (fb_ct S 64) P f K M) := by
  rw [← Vf_all hd hpl hn Ft]
  have e1 : fb_sm (fun m => if grB w h false S m = true then fb_sm (fun j => fxv w h S P f m g0 (LL S P f K M j)) (exn (fb_ct S 64) P f K M) else 0) 8 = fb_sm (fun m => fb_sm (fun j => if grB w h false S m = true then fxv w h S P f m g0 (LL S P f K M j) else 0) (exn (fb_ct S 64) P f K M)) 8 := fb_sm_cong fun m _ => by
    by_cases g : grB w h false S m = true
    · rw [if_pos g]
      exact fb_sm_cong fun j _ => (if_pos g).symm
    · rw [if_neg g]
      exact (fb_sm_0 (exn (fb_ct S 64) P f K M)).symm.trans (fb_sm_cong fun j _ => (if_neg g).symm)
  rw [e1, sm_swap]
  refine fb_sm_cong fun j hj => ?_
  have hp : pop8 (gAnd f g0 (LL S P f K M j)) = fb_ct (Vf w h S P f K M j) 8 := fb_ct_cong fun m _ => gA_Vf hpl hn hG hg0 hj
  have hv : fb_ct (Vf w h S P f K M j) 8 ≠ 0 := by
    have v0 : Vf w h S P f K M j 0 = true := Vf_t.mpr ⟨grB_y (by omega) (gok_0 hd), fun a m => ⟨a, LL_P hpl hn hj m, rfl, (img_0 hd (hpl.1 a (LL_P hpl hn hj m)).2.1).symm⟩⟩
    have := fb_ct_pos.mpr ⟨0, (by omega : 0 < 8), v0⟩
    omega
  have hw : WG (gAnd f g0 (LL S P f K M j)) = 840 / fb_ct (Vf w h S P f K M j) 8 := by
    unfold WG
    rw [hp, if_neg hv]
  rw [← sm_ct]
  refine fb_sm_cong fun m hm => ?_
  by_cases g : grB w h false S m = true
  · rw [if_pos g]
    have fa := fix_ac (K := K) (M := M) hd hpl hn hj hm (grB_g hd g).2
    by_cases x : fixd w h S P f m (LL S P f K M j)
    · rw [fxv_y x, hw, if_pos]
      rw [Bool.and_eq_true]
      exact ⟨(fa.mp x).1, decide_eq_true (fa.mp x).2⟩
    · rw [fxv_n x, if_neg]
      intro c
      rw [Bool.and_eq_true] at c
      exact x (fa.mpr ⟨c.1, of_decide_eq_true c.2⟩)
  · rw [if_neg g, if_neg]
    intro c
    rw [Bool.and_eq_true] at c
    exact g (Vf_t.mp c.1).1
end UU
