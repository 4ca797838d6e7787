/-! ===== unlike: the reference compares a cover with its image ===== -/
section RIA
variable {w h : Nat} {S : Nat → Bool} {z : tq_S} {Q : tq_O → tq_S → Prop} {P K : Nat} {f : Nat → plc} {M Z : Nat → Nat}
/-- the last one so far that has it -/
def pck (p : Nat → Prop) (i : Nat) (a : Int32) : Prop := (a = -1 ∧ ∀ k, k < i → ¬ p k) ∨ ∃ k, k < i ∧ p k ∧ a = nI k
theorem pck_y {p : Nat → Prop} {i : Nat} {a : Int32} (_ : pck p i a) (h : p i) : pck p (i + 1) (nI i) := Or.inr ⟨i, by omega, h, rfl⟩
theorem pck_n {p : Nat → Prop} {i : Nat} {a : Int32} (hp : pck p i a) (h : ¬ p i) : pck p (i + 1) a := by
  rcases hp with ⟨e, n⟩ | ⟨k, k1, k2, k3⟩
  · refine Or.inl ⟨e, fun k hk => ?_⟩
    by_cases u : k = i
    · rw [u]; exact h
    · exact n k (by omega)
  · exact Or.inr ⟨k, by omega, k2, k3⟩
theorem pck_e {p : Nat → Prop} {i k0 : Nat} {a : Int32} (hp : pck p i a) (hk : k0 < i) (h : p k0) : ∃ k, k < i ∧ p k ∧ a = nI k := by
  rcases hp with ⟨_, n⟩ | e
  · exact absurd h (n k0 hk)
  · exact e
theorem sq_imCells {m j : Nat} (hd : jd w h false S) (hpl : plg S Z P f) (hn : fb_ct S 64 ≤ 24) (hr : rrow S P f z) (hP : P ≤ 3072) (hm : m < 8) (hj : j < exn (fb_ct S 64) P f K M) (hv : Vf w h S P f K M j m = true) (hB : ∀ c, c < 64 → ct (tq_fl z 3306) c = S c) (h3 : tq_fi z 3303 = nI (LL S P f K M j).length) (h8 : (LL S P f K M j).length ≤ 8) (h4 : ∀ k, k < (LL S P f K M j).length → tq_ai z 74 k = nI ((LL S P f K M j).getD k 0)) (h6 : ∀ k, k < (LL S P f K M j).length → exP S (img w h S m (f ((LL S P f K M j).getD k 0)).2.2.1) (tq_al z 76 k) ∧ tq_ai z 77 k = nI (f ((LL S P f K M j).getD k 0)).2.1) (k0 : ¬ acN w h S P f K M m j < j → Q (.inl (some (.int 0))) z) (k1 : acN w h S P f K M m j < j → Q (.inl (some (.int 1))) z) : wc_X12_isImageAhead_73 Q z := by
  obtain ⟨hjm, him⟩ := im_cmp hd hpl hn hj hm hv
  obtain ⟨v1, v2⟩ := Vf_t.mp hv
  obtain ⟨_, gm⟩ := grB_g hd v1
  obtain ⟨d, ed⟩ : ∃ d, d = (LL S P f K M j).length := ⟨_, rfl⟩
  obtain ⟨cp, ecp⟩ : ∃ cp, cp = fun k => (LL S P f K M j).getD k 0 := ⟨_, rfl⟩
  rw [← ed] at h3 h8 h4 h6
  have h4 : ∀ k, k < d → tq_ai z 74 k = nI (cp k) := fun k hk => by rw [ecp]; exact h4 k hk
  have h6 : ∀ k, k < d → exP S (img w h S m (f (cp k)).2.2.1) (tq_al z 76 k) ∧ tq_ai z 77 k = nI (f (cp k)).2.1 := fun k hk => by rw [ecp]; exact h6 k hk
  have mem : ∀ a, a ∈ LL S P f K M j ↔ ∃ k, k < d ∧ cp k = a := fun a => by rw [ed, ecp]; exact cmp_len
  have cj := LL_cmp hpl hn hj
  have cm := LL_cmp hpl hn hjm
  unfold wc_X12_isImageAhead_73 wc_X12_isImageAhead_75
  refine lp_inv (fun c s => s = (nI c, z) ∧ ∀ b, b < fb_ct S c → ∃ u, u ∈ LL S P f K M (acN w h S P f K M m j) ∧ u ∈ LL S P f K M j ∧ (f u).2.2.1.testBit b = true) 64 ?_ ⟨rfl, fun b hb => absurd hb (Nat.not_lt_zero _)⟩
  rintro c s hc ⟨rfl, inv⟩ B hBB
  simp only
  unfold wb_X12_isImageAhead_75
  rw [i_64, i_le (by omega) (by omega)]
  refine ⟨fun q => ?_, fun q => ?_⟩
  · have : c = 64 := by omega
    subst this
    exact k0 (LL_eq hpl hn hjm hj inv)
  have c64 : c < 64 := by omega
  have nx : (∀ b, b < fb_ct S (c + 1) → ∃ u, u ∈ LL S P f K M (acN w h S P f K M m j) ∧ u ∈ LL S P f K M j ∧ (f u).2.2.1.testBit b = true) → wc_X12_isImageAhead_263 (fun b2 z => B (b2, z)) Q (nI c) z := by
    intro iv
    unfold wc_X12_isImageAhead_263
    intro v e
    rw [i_1, i_add] at e
    subst e
    exact hBB c64 _ ⟨rfl, iv⟩
  rw [ct_is1 c64, hB c c64]
  refine ⟨fun n => nx ?_, fun sc => ?_⟩
  · rw [fb_ct_succ, if_neg n]
    exact inv
  obtain ⟨b, eb⟩ : ∃ b, b = fb_ct S c := ⟨_, rfl⟩
  have bn : b < fb_ct S 64 := by rw [eb]; exact ct_in c64 sc
  rw [← eb] at inv
  have bc : ∀ {mk : Nat} {X : Int64}, exP S mk X → ct X c = mk.testBit b := fun hx => by rw [hx c c64, sc, eb, Bool.true_and]
  unfold wc_X12_isImageAhead_102
  refine lp_inv (fun i s => ∃ a3 a4, s = (a3, a4, nI i, z) ∧ pck (fun k => (img w h S m (f (cp k)).2.2.1).testBit b = true) i a3 ∧ pck (fun k => (f (cp k)).2.2.1.testBit b = true) i a4) d ?_ ⟨-1, -1, rfl, Or.inl ⟨rfl, fun k hk => absurd hk (Nat.not_lt_zero _)⟩, Or.inl ⟨rfl, fun k hk => absurd hk (Nat.not_lt_zero _)⟩⟩
  rintro i s hi ⟨a3, a4, rfl, p3, p4⟩ B2 hB2
  simp only
  unfold wb_X12_isImageAhead_102
  rw [h3, i_le (by omega) (by omega)]
  refine ⟨fun q2 => ?_, fun q2 => ?_⟩
  rotate_left
  · have id : i < d := by omega
    have cpP : cp i < P := LL_P hpl hn hj ((mem _).mpr ⟨i, id, rfl⟩)
    have fin : ∀ x3 x4, pck (fun k => (img w h S m (f (cp k)).2.2.1).testBit b = true) (i + 1) x3 → pck (fun k => (f (cp k)).2.2.1.testBit b = true) (i + 1) x4 → wc_X12_isImageAhead_162 (fun b2 z => B (b2, z)) (fun b3 b4 b5 z => B2 (b3, b4, b5, z)) Q (nI c) x3 (nI i) x4 z := by
      intro x3 x4 y3 y4
      unfold wc_X12_isImageAhead_162
      intro v e
      rw [i_1, i_add] at e
      subst e
      exact hB2 id _ ⟨x3, x4, rfl, y3, y4⟩
    have nx2 : ∀ x3, pck (fun k => (img w h S m (f (cp k)).2.2.1).testBit b = true) (i + 1) x3 → wc_X12_isImageAhead_133 (fun b2 z => B (b2, z)) (fun b3 b4 b5 z => B2 (b3, b4, b5, z)) Q (nI c) a4 (nI i) x3 z := by
      intro x3 y3
      unfold wc_X12_isImageAhead_133
      rw [i_cl (by omega), h4 i id, i_cl (by omega), ct_is1 c64, bc (hr.2.1 _ cpP).1]
      exact ⟨i_in (by omega) (by omega), i_in (by omega) (by omega), fun n => fin x3 a4 y3 (pck_n p4 n), fun n => fin x3 (nI i) y3 (pck_y p4 n)⟩
    rw [i_cl (by omega), ct_is1 c64, bc (h6 i id).1]
    exact ⟨i_in (by omega) (by omega), fun n => nx2 a3 (pck_n p3 n), fun n => nx2 (nI i) (pck_y p3 n)⟩
  have : i = d := by omega
  subst this
  obtain ⟨y0, y1, y2⟩ := cj.2.1 b bn (Nat.zero_testBit _)
  obtain ⟨ky0, ky1, ky2⟩ := (mem y0).mp (of_decide_eq_true y1)
  obtain ⟨ky, kyd, kyt, ea4⟩ := pck_e p4 ky1 (by show (f (cp ky0)).2.2.1.testBit b = true; rw [ky2]; exact y2)
  obtain ⟨x0, x1, x2⟩ := cm.2.1 b bn (Nat.zero_testBit _)
  obtain ⟨ax, ax1, ax2⟩ := (him x0).mp (of_decide_eq_true x1)
  obtain ⟨kx0, kx1, kx2⟩ := (mem ax).mp ax1
  obtain ⟨kx, kxd, kxt, ea3⟩ := pck_e p3 kx1 (by show (img w h S m (f (cp kx0)).2.2.1).testBit b = true; rw [kx2, ← ax2.2.2]; exact x2)
  have kyt : (f (cp ky)).2.2.1.testBit b = true := kyt
  have kxt : (img w h S m (f (cp kx)).2.2.1).testBit b = true := kxt
  clear y0 y1 y2 ky0 ky1 ky2 x0 x1 x2 ax ax1 ax2 kx0 kx1 kx2 p3 p4
  have yL : cp ky ∈ LL S P f K M j := (mem _).mpr ⟨ky, kyd, rfl⟩
  have xL : cp kx ∈ LL S P f K M j := (mem _).mpr ⟨kx, kxd, rfl⟩
  obtain ⟨x, hx⟩ := v2 _ xL
  have xm : x ∈ LL S P f K M (acN w h S P f K M m j) := (him x).mpr ⟨_, xL, hx⟩
  obtain ⟨y, ey⟩ : ∃ y, y = cp ky := ⟨_, rfl⟩
  rw [← ey] at yL kyt
  have yP := LL_P hpl hn hj yL
  have xP := hx.1
  have tx : (f x).2.2.1.testBit b = true := by rw [hx.2.2]; exact kxt
  obtain ⟨r1, r2, r3⟩ := hr.2.1 y yP
  obtain ⟨c1, c2, c3, c4, c5, c6⟩ := hr.2.2.1 y yP
  obtain ⟨d1, d2, d3, d4, d5, d6⟩ := hr.2.2.1 x xP
  have ix := (h6 kx kxd).1
  have ik := (h6 kx kxd).2
  rw [← hx.2.2] at ix
  rw [← hx.2.1] at ik
  have fin1 : x ≠ y → (((f x).2.1 < (f y).2.1 ∨ ((f x).2.1 = (f y).2.1 ∧ ahd (f x).2.2.1 (f y).2.2.1)) ↔ acN w h S P f K M m j < j) := fun ne => (LL_at hpl hn hr.2.2.2 hjm hj bn xm yL tx kyt ne inv).symm
  have n221 : x ≠ y → wc_X12_isImageAhead_221 Q (nI kx) (tq_al z 70 y) (nI (f y).2.1) z := by
    intro ne
    unfold wc_X12_isImageAhead_221
    rw [i_cl (by omega), ik, i_lt (by omega) (by omega), i_eq (by omega) (by omega)]
    refine ⟨i_in (by omega) (by omega), fun lt => k1 ((fin1 ne).mp (Or.inl lt)), fun nl => ⟨i_in (by omega) (by omega), fun n2 => k0 fun e => ?_, fun e2 => ⟨i_in (by omega) (by omega), ?_⟩⟩⟩
    · rcases (fin1 ne).mpr e with u | u
      · exact nl u
      · exact n2 u.1
    · refine sq_rAhead ix r1 d3 (fun na => ⟨_, rfl, fun _ => k0 fun e => ?_, fun u => absurd rfl u⟩) (fun a => ⟨_, rfl, fun u => absurd u (by decide +kernel), fun _ => k1 ((fin1 ne).mp (Or.inr ⟨e2, a⟩))⟩)
      rcases (fin1 ne).mpr e with u | u
      · exact nl u
      · exact na u.2
  unfold wc_X12_isImageAhead_170
  rw [ea4, ea3, i_cl (a := ky) (by omega), h4 ky kyd, ← ey, i_cl (a := y) (by omega), r2]
  refine ⟨i_in (by omega) (by omega), i_in (by omega) (by omega), ?_⟩
  intro v101 e101
  refine ⟨i_in (by omega) (by omega), i_in (by omega) (by omega), ?_⟩
  intro v102 e102
  subst e101
  subst e102
  rw [i_cl (a := kx) (by omega), ik, i_eq (by omega) (by omega)]
  refine ⟨i_in (by omega) (by omega), fun ne => n221 (fun e => ne (by rw [e])), fun ek => ⟨i_in (by omega) (by omega), fun em => nx ?_, fun ne => n221 (fun e => ne ?_)⟩⟩
  · have xy : x = y := hpl.2 x y xP yP ek (exP_m ix (by rw [em]; exact r1) d3 c3)
    rw [fb_ct_succ, if_pos sc, ← eb]
    intro b' hb'
    by_cases u : b' = b
    · rw [u]
      exact ⟨x, xm, by rw [xy]; exact yL, tx⟩
    · exact inv b' (by omega)
  · subst e
    exact exP_1 ix r1
end RIA
