/-! ===== unlike: the reference turns places and boards, and finds places ===== -/
section RIM
variable {w h : Nat} {r : Bool} {S : Nat → Bool} {z : tq_S} {Q : tq_O → tq_S → Prop} {P : Nat} {f : Nat → plc}
theorem gto_g (hd : jd w h r S) {m c : Nat} (hm : m < 8) (hg : gok w h S m = true) (hc : S c = true) : gto w h m c < 64 ∧ S (gto w h m c) = true ∧ mvx w h S m (fb_ct S c) = fb_ct S (gto w h m c) := by
  have hw8 := hd.2.1
  have hh8 := hd.2.2.2.1
  have rc := hd.2.2.2.2.2 c hc
  obtain ⟨g1, g2, g3⟩ := gok_cell hd hm hg hc
  refine ⟨by unfold gto; omega, g3, ?_⟩
  unfold mvx gto
  rw [kth_of rc.1 hc, bmv_act hm rc.2.1 rc.2.2]
theorem exP_img (hd : jd w h r S) {m M : Nat} {X Y : Int64} (hm : m < 8) (hg : gok w h S m = true) (hX : exP S M X) (hY : ∀ b, b < 64 → (ct Y b = true ↔ ∃ c, c < 64 ∧ ct X c = true ∧ gto w h m c = b)) : exP S (img w h S m M) Y := by
  intro b hb
  have iff : ct Y b = true ↔ (S b && (img w h S m M).testBit (fb_ct S b)) = true := by
    rw [hY b hb, Bool.and_eq_true, img_t]
    constructor
    · rintro ⟨c, c64, cx, e⟩
      rw [hX c c64, Bool.and_eq_true] at cx
      obtain ⟨_, g2, g3⟩ := gto_g hd hm hg cx.1
      rw [← e]
      exact ⟨g2, fb_ct S c, ct_in c64 cx.1, cx.2, g3⟩
    · rintro ⟨sb, j, jn, j1, j2⟩
      obtain ⟨k1, k2, k3⟩ := kth_ok (p := S) jn
      have mk := mvx_k hd hm hg jn
      rw [j2, kth_of hb sb] at mk
      exact ⟨kth S j, k1, by rw [hX _ k1, k2, k3, j1]; rfl, mk.symm⟩
  cases x : ct Y b <;> cases y : (S b && (img w h S m M).testBit (fb_ct S b))
  · rfl
  · rw [iff.mpr y] at x; cases x
  · rw [iff.mp x] at y; cases y
  · rfl
theorem brd_same (hd : jd w h r S) {m : Nat} {B Y : Int64} (hm : m < 8) (hsq : m % 2 = 1 → w = h) (hB : ∀ c, c < 64 → ct B c = S c) (hY : ∀ b, b < 64 → (ct Y b = true ↔ ∃ c, c < 64 ∧ ct B c = true ∧ gto w h m c = b)) : Y = B ↔ gok w h S m = true := by
  have hw8 := hd.2.1
  have hh8 := hd.2.2.2.1
  constructor
  · intro e
    refine gok_t.mpr ⟨hsq, fun c c64 hc => ?_⟩
    have rc := hd.2.2.2.2.2 c hc
    obtain ⟨g1, g2, g3, g4, g5⟩ := gto_b rc.2.1 rc.2.2 hw8 hh8 hm hsq
    have := (hY _ g1).mpr ⟨c, c64, by rw [hB c c64]; exact hc, rfl⟩
    rw [e, hB _ g1] at this
    rw [bmv_act hm rc.2.1 rc.2.2, ho_n (by omega) (by omega), ← g2, ← g3, decide_eq_true g4, decide_eq_true g5, show 8 * (gto w h m c / 8) + gto w h m c % 8 = gto w h m c by omega, this]
    rfl
  · intro hg
    refine ct_ext fun b hb => ?_
    have iff : ct Y b = true ↔ S b = true := by
      rw [hY b hb]
      constructor
      · rintro ⟨c, c64, cx, e⟩
        rw [hB c c64] at cx
        rw [← e]
        exact (gto_g hd hm hg cx).2.1
      · intro sb
        have rb := hd.2.2.2.2.2 b sb
        obtain ⟨_, i2, i3⟩ := minv_m ⟨m, hm⟩
        have gi := gok_inv hd hm hg
        obtain ⟨g1, g2, g3⟩ := gto_g hd i3 gi sb
        obtain ⟨_, q1, q2, q3, q4⟩ := gto_b (m := minv m) rb.2.1 rb.2.2 hw8 hh8 i3 (gok_t.mp gi).1
        refine ⟨gto w h (minv m) b, g1, by rw [hB _ g1]; exact g2, ?_⟩
        have am := act_mul (p := (b % 8, b / 8)) i3 hm rb.2.1 rb.2.2 (gok_t.mp gi).1 hsq
        rw [i2] at am
        unfold gto at q1 q2 ⊢
        rw [q1, q2, am]
        show 8 * (b / 8) + b % 8 = b
        omega
    rw [hB b hb]
    cases x : ct Y b <;> cases y : S b
    · rfl
    · rw [iff.mpr y] at x; cases x
    · rw [iff.mp x] at y; cases y
    · rfl
theorem sq_isPlace {X : Int64} {m k : Nat} (hr : rrow S P f z) (hP : P ≤ 3072) (hX : exP S m X) (hm : m < 2 ^ fb_ct S 64) (hk : k < 6) (k0 : (¬ ∃ q, q < P ∧ (f q).2.1 = k ∧ (f q).2.2.1 = m) → Q (.inl (some (.int 0))) z) (k1 : (∃ q, q < P ∧ (f q).2.1 = k ∧ (f q).2.2.1 = m) → Q (.inl (some (.int 1))) z) : wm_X12_isPlace X (nI k) z Q := by
  unfold wm_X12_isPlace wc_X12_isPlace_6
  refine lp_inv (fun p s => ∃ a : Nat, a < 2 ∧ s = (nI a, nI p, z) ∧ (a = 1 ↔ ∃ q, q < p ∧ (f q).2.1 = k ∧ (f q).2.2.1 = m)) P ?_ ⟨0, by omega, rfl, ⟨fun e => absurd e (by omega), fun ⟨q, hq, _⟩ => absurd hq (Nat.not_lt_zero _)⟩⟩
  rintro p s hp ⟨a, a2, rfl, ha⟩ B hB
  simp only
  unfold wb_X12_isPlace_6
  rw [hr.1, i_le (by omega) (by omega)]
  refine ⟨fun q => ?_, fun q => ?_⟩
  · have : p = P := by omega
    subst this
    rcases (show a = 0 ∨ a = 1 by omega) with e | e
    · subst e
      exact ⟨Or.inl rfl, k0 fun c => absurd (ha.mpr c) (by omega)⟩
    · subst e
      exact ⟨Or.inr rfl, k1 (ha.mp rfl)⟩
  have pP : p < P := by omega
  obtain ⟨r1, r2, r3⟩ := hr.2.1 p pP
  obtain ⟨b1, b2, b3, b4, b5, b6⟩ := hr.2.2.1 p pP
  have nx : ∀ s0 : Nat, s0 < 2 → (s0 = 1 ↔ (f p).2.1 = k ∧ (f p).2.2.1 = m) → wc_X12_isPlace_45 (fun b4 b5 z => B (b4, b5, z)) Q X (nI k) (nI p) (nI s0) (nI a) z := by
    intro s0 h2 hs0
    unfold wc_X12_isPlace_45
    intro v1 e1 v2 e2
    rw [i_or] at e1
    rw [i_1, i_add] at e2
    subst e1
    subst e2
    have two : ∀ x y : Fin 2, x.val ||| y.val < 2 ∧ (x.val ||| y.val = 1 ↔ x.val = 1 ∨ y.val = 1) := by decide
    obtain ⟨t1, t2⟩ := two ⟨a, a2⟩ ⟨s0, h2⟩
    refine hB pP _ ⟨_, t1, rfl, ?_⟩
    rw [t2]
    show a = 1 ∨ s0 = 1 ↔ _
    rw [ha, hs0]
    constructor
    · rintro (⟨q, c1, c2⟩ | c)
      · exact ⟨q, by omega, c2⟩
      · exact ⟨p, by omega, c⟩
    · rintro ⟨q, c1, c2⟩
      by_cases u : q = p
      · subst u; exact Or.inr c2
      · exact Or.inl ⟨q, by omega, c2⟩
  rw [i_cl (by omega), r2, i_eq (by omega) (by omega)]
  refine ⟨i_in (by omega) (by omega), fun n => ?_, fun n => ⟨i_in (by omega) (by omega), fun n2 => ?_, fun n2 => ?_⟩⟩
  · exact nx 0 (by omega) ⟨fun e => absurd e (by omega), fun e => absurd e.1 n⟩
  · exact nx 0 (by omega) ⟨fun e => absurd e (by omega), fun e => absurd (exP_1 (by rw [← e.2]; exact r1) hX) n2⟩
  · exact nx 1 (by omega) ⟨fun _ => ⟨n, exP_m r1 (by rw [n2]; exact hX) b3 hm⟩, fun _ => rfl⟩
end RIM
