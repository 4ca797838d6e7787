/-! ===== the reference goes through a group by a queue ===== -/
def bq (N : Nat → Nat → Bool) (W s0 : Nat → Bool) (c n : Nat) (sn : Nat → Bool) (g : Nat → Nat) (z : tq_S) : Prop := tq_fi z 3282 = nI n ∧ (∀ j, j < 64 → tq_ai z 61 j = bi (sn j)) ∧ (∀ i, i < n → tq_ai z 62 i = nI (g i)) ∧ g 0 = c ∧ (∀ i, i < n → g i < 64 ∧ rc N W c (g i) ∧ sn (g i) = true) ∧ (∀ j, j < 64 → sn j = true → s0 j = true ∨ ∃ i, i < n ∧ g i = j) ∧ fb_ct sn 64 = fb_ct s0 64 + n ∧ (∀ j, s0 j = true → sn j = true) ∧ 0 < n
def sn_a (sn : Nat → Bool) (c : Nat) : Nat → Bool := fun j => if j = c then true else sn j
theorem sn_ct {sn : Nat → Bool} {c : Nat} (hc : c < 64) (h : sn c = false) : fb_ct (sn_a sn c) 64 = fb_ct sn 64 + 1 := by
  have u := fb_ct_upd sn true hc
  rw [h] at u
  have v3 : (if false = true then 1 else 0) = 0 := rfl
  have v4 : (if true = true then 1 else 0) = 1 := rfl
  rw [v3, v4] at u
  exact u
theorem sn_room {sn : Nat → Bool} {c : Nat} (hc : c < 64) (h : sn c = false) : fb_ct sn 64 < 64 := by
  have h1 := sn_ct hc h
  have h2 := fb_ct_le (sn_a sn c) 64
  omega
section BFS
variable {w h : Nat} {r : Bool} {S W s0 sn : Nat → Bool} {N : Nat → Nat → Bool} {z : tq_S} {Q : tq_O → tq_S → Prop} {c n : Nat} {g : Nat → Nat}
/-- the first cell -/
theorem bq_0 (hc : c < 64) (hs : s0 c = false) (hz : ∀ j, j < 64 → tq_ai z 61 j = bi (s0 j)) (hq : tq_fi z 3282 = 0) (k : ∀ z', fr [(2, 61), (2, 62), (0, 3282)] z z' → bq N W s0 c 1 (sn_a s0 c) (fun _ => c) z' → Q (.inl none) z') : wm_X12_see (nI c) z Q := by
  refine sq_see (n := 0) hc (by omega) hq (fun z1 f1 a1 a2 a3 => k z1 f1 ⟨a3, fun j hj => ?_, fun i hi => ?_, rfl, fun i hi => ⟨hc, rc_r, ?_⟩, fun j hj e => ?_, ?_, fun j e => ?_, by omega⟩)
  · rw [a1]; unfold sn_a
    split
    · rfl
    · exact hz j hj
  · rw [a2, if_pos (by omega)]
  · unfold sn_a; rw [if_pos rfl]
  · unfold sn_a at e
    by_cases q : j = c
    · exact Or.inr ⟨0, by omega, q.symm⟩
    · rw [if_neg q] at e; exact Or.inl e
  · rw [sn_ct hc hs]
  · unfold sn_a
    split
    · rfl
    · exact e
/-- one more -/
theorem bq_1 {o : Nat} (hb : bq N W s0 c n sn g z) (ho : o < 64) (hs : sn o = false) (hr : rc N W c o) (k : ∀ z', fr [(2, 61), (2, 62), (0, 3282)] z z' → bq N W s0 c (n + 1) (sn_a sn o) (fun i => if i = n then o else g i) z' → Q (.inl none) z') : wm_X12_see (nI o) z Q := by
  obtain ⟨b1, b2, b3, b4, b5, b6, b7, b8, b9⟩ := hb
  have rm := sn_room ho hs
  refine sq_see (n := n) ho (by omega) b1 (fun z1 f1 a1 a2 a3 => k z1 f1 ⟨a3, fun j hj => ?_, fun i hi => ?_, ?_, fun i hi => ?_, fun j hj e => ?_, ?_, fun j e => ?_, by omega⟩)
  · rw [a1]; unfold sn_a
    split
    · rfl
    · exact b2 j hj
  · rw [a2]
    show _ = nI (if i = n then o else g i)
    by_cases q : i = n
    · rw [if_pos q, if_pos q]
    · rw [if_neg q, if_neg q]; exact b3 i (by omega)
  · show (if 0 = n then o else g 0) = c
    rw [if_neg (by omega)]; exact b4
  · show (if i = n then o else g i) < 64 ∧ rc N W c (if i = n then o else g i) ∧ sn_a sn o (if i = n then o else g i) = true
    by_cases q : i = n
    · rw [if_pos q]; exact ⟨ho, hr, by unfold sn_a; rw [if_pos rfl]⟩
    · rw [if_neg q]
      have := b5 i (by omega)
      refine ⟨this.1, this.2.1, ?_⟩
      unfold sn_a
      split
      · rfl
      · exact this.2.2
  · unfold sn_a at e
    by_cases q : j = o
    · exact Or.inr ⟨n, by omega, by show (if n = n then o else g n) = j; rw [if_pos rfl, q]⟩
    · rw [if_neg q] at e
      rcases b6 j hj e with e | ⟨i, hi, e⟩
      · exact Or.inl e
      · exact Or.inr ⟨i, by omega, by show (if i = n then o else g i) = j; rw [if_neg (by omega)]; exact e⟩
  · rw [sn_ct ho hs]; omega
  · unfold sn_a
    split
    · rfl
    · exact b8 j e
theorem bq_n (hb : bq N W s0 c n sn g z) : n ≤ 64 := by
  have := fb_ct_le sn 64
  have h7 := hb.2.2.2.2.2.2.1
  omega
theorem bq_le {j : Nat} (e : sn j = true) {o : Nat} : sn_a sn o j = true := by
  unfold sn_a
  split
  · rfl
  · exact e
/-- at the end: the group is seen -/
theorem bq_e (hW : ∀ j, W j = true → j < 64) (hc : W c = true) (h0 : ∀ j, rc N W c j → s0 j = false) (hb : bq N W s0 c n sn g z) (hp : ∀ i, i < n → ∀ b, W b = true → N (g i) b = true → sn b = true) : (∀ j, j < 64 → (sn j = true ↔ s0 j = true ∨ rc N W c j)) ∧ ∀ j, rc N W c j → ∃ i, i < n ∧ g i = j := by
  obtain ⟨b1, b2, b3, b4, b5, b6, b7, b8, b9⟩ := hb
  have key : ∀ j, rc N W c j → (decide (j < 64) && (sn j && !s0 j)) = true := by
    intro j hj
    refine hj (fun x => decide (x < 64) && (sn x && !s0 x)) ?_ ?_
    · have a := (b5 0 b9).2.2
      rw [b4] at a
      show (decide (c < 64) && (sn c && !s0 c)) = true
      rw [a, h0 c rc_r, decide_eq_true (hW c hc)]; rfl
    · intro a b ha hab hwb
      have ha' : (decide (a < 64) && (sn a && !s0 a)) = true := ha
      simp only [Bool.and_eq_true, Bool.not_eq_true', decide_eq_true_eq] at ha'
      obtain e | ⟨i, hi, e⟩ := b6 a ha'.1 ha'.2.1
      · rw [ha'.2.2] at e; cases e
      · have h1 := hp i hi b hwb (by rw [e]; exact hab)
        have h2 : rc N W c b := rc_n (by rw [← e]; exact (b5 i hi).2.1) hab hwb
        show (decide (b < 64) && (sn b && !s0 b)) = true
        rw [h1, h0 b h2, decide_eq_true (hW b hwb)]; rfl
  refine ⟨fun j hj => ⟨fun e => ?_, fun e => ?_⟩, fun j hj => ?_⟩
  · rcases b6 j hj e with e | ⟨i, hi, e⟩
    · exact Or.inl e
    · exact Or.inr (by rw [← e]; exact (b5 i hi).2.1)
  · rcases e with e | e
    · exact b8 j e
    · have := key j e
      simp only [Bool.and_eq_true] at this
      exact this.2.1
  · have h1 := key j hj
    simp only [Bool.and_eq_true, Bool.not_eq_true'] at h1
    have hj64 := hW j (rc_w hc hj)
    rcases b6 j hj64 h1.2.1 with e | e
    · rw [h1.2.2] at e; cases e
    · exact e
/-- all ways of a cell gone through -/
theorem bq_k {a : Nat} (bw : w ≤ 8) (bh : h ≤ 8) (ha : a % 8 < w) (ha2 : a / 8 < h) (hW : cv_re w h W) (hk : ∀ k, k < 4 → ∀ b, bs w h r a k = some b → W b = true → sn b = true) : ∀ b, W b = true → nb w r a b = true → sn b = true := by
  intro b hb hab
  obtain ⟨k, k4, e⟩ := (bs_nb bw bh ha ha2 (hW b hb).2.1 (hW b hb).2.2).mpr hab
  exact hk k k4 b e hb
/-- the group of a cell, for the count of parts -/
theorem sr_pgroup {a1 a2 : Int32} {B8 : Int32 → Int32 → tq_S → Prop} (hd : jd w h r S) (hj : jr w h r S z) (hc : S c = true) (h0 : ∀ j, rc (nb w r) S c j → s0 j = false) (hb : bq (nb w r) S s0 c 1 (sn_a s0 c) (fun _ => c) z) (k : ∀ (sn : Nat → Bool) z', fr [(2, 61), (2, 62), (0, 3282)] z z' → (∀ j, j < 64 → tq_ai z' 61 j = bi (sn j)) → (∀ j, j < 64 → (sn j = true ↔ s0 j = true ∨ rc (nb w r) S c j)) → wc_X12_partsOf_122 B8 Q a1 a2 z') : wc_X12_partsOf_47 B8 Q a1 a2 (0 : Int32) z := by
  have hre := hd.2.2.2.2.2
  unfold wc_X12_partsOf_47
  refine lp_inv (fun q s => ∃ n sn g z', s = (nI q, z') ∧ fr [(2, 61), (2, 62), (0, 3282)] z z' ∧ bq (nb w r) S s0 c n sn g z' ∧ q ≤ n ∧ ∀ i, i < q → ∀ b, S b = true → nb w r (g i) b = true → sn b = true) 64 ?_ ⟨1, _, _, z, rfl, fr_r, hb, by omega, fun i hi => by omega⟩
  rintro q s hq ⟨n, sn, g, z1, rfl, f1, b1, qn, p1⟩ B hB
  simp only
  have n64 := bq_n b1
  unfold wb_X12_partsOf_47
  rw [b1.1]
  refine ⟨fun h1 => ?_, fun h1 => ?_⟩
  · rw [i_le (by omega) (by omega)] at h1
    have : q = n := by omega
    subst this
    have e := bq_e (fun j hj => (hre j hj).1) hc h0 b1 p1
    exact k sn z1 f1 b1.2.1 e.1
  · rw [i_le (by omega) (by omega)] at h1
    unfold wc_X12_partsOf_58
    refine lp_inv (fun kk s => ∃ n sn g z', s = (nI kk, z') ∧ fr [(2, 61), (2, 62), (0, 3282)] z z' ∧ bq (nb w r) S s0 c n sn g z' ∧ q < n ∧ (∀ i, i < q → ∀ b, S b = true → nb w r (g i) b = true → sn b = true) ∧ ∀ k', k' < kk → ∀ b, bs w h r (g q) k' = some b → S b = true → sn b = true) 4 ?_ ⟨n, sn, g, z1, rfl, f1, b1, by omega, p1, fun k' hk => by omega⟩
    rintro kk s hkk ⟨n, sn, g, z2, rfl, f2, b2, qn2, p2, p3⟩ B' hB'
    simp only
    have n64 := bq_n b2
    have j2 := jr_f f2 (by decide) (by decide) (by decide) (by decide) hj
    have gq := b2.2.2.2.2.1 q qn2
    have gS := hre (g q) (rc_w hc gq.2.1)
    unfold wb_X12_partsOf_58
    rw [i_4]
    refine ⟨fun h2 => ?_, fun h2 => ?_⟩
    · rw [i_le (by omega) (by omega)] at h2
      have : kk = 4 := by omega
      subst this
      unfold wc_X12_partsOf_116
      intro v e
      rw [i_1, i_add] at e
      subst e
      refine hB (by omega) _ ⟨n, sn, g, z2, rfl, f2, b2, by omega, fun i hi => ?_⟩
      by_cases e : i = q
      · subst e
        exact bq_k hd.2.1 hd.2.2.2.1 gS.2.1 gS.2.2 hre p3
      · exact p2 i (by omega)
    · rw [i_le (by omega) (by omega)] at h2
      rw [i_cl (by omega), b2.2.2.1 q qn2]
      refine ⟨i_in (by omega) (by omega), ?_⟩
      refine sq_rbes hd j2 gS.2.1 gS.2.2 (by omega) ⟨_, rfl, ?_⟩
      have bsin : ∀ x, bs w h r (g q) kk = some x → x < 64 ∧ x % 8 < w ∧ x / 8 < h := fun x e => bs_in hd.2.1 hd.2.2.2.1 gS.2.1 gS.2.2 e
      have go : ∀ n' sn' g' z3, fr [(2, 61), (2, 62), (0, 3282)] z z3 → bq (nb w r) S s0 c n' sn' g' z3 → n ≤ n' → (∀ i, i < n → g' i = g i) → (∀ j, sn j = true → sn' j = true) → (∀ b, bs w h r (g q) kk = some b → S b = true → sn' b = true) → wc_X12_partsOf_110 B8 (fun b3 z => B (b3, z)) (fun b4 z => B' (b4, z)) Q a1 a2 (nI q) (nI kk) z3 := by
        intro n' sn' g' z3 f3 b3 hn' hg' hsn' hb'
        unfold wc_X12_partsOf_110
        intro v e
        rw [i_1, i_add] at e
        subst e
        refine hB' (by omega) _ ⟨n', sn', g', z3, rfl, f3, b3, by omega, fun i hi b hb hab => hsn' b (p2 i hi b hb (by rw [← hg' i (by omega)]; exact hab)), fun k' hk' b e hb => ?_⟩
        rw [hg' q (by omega)] at e
        by_cases q2 : k' = kk
        · subst q2; exact hb' b e hb
        · exact hsn' b (p3 k' (by omega) b e hb)
      refine ⟨fun h3 => ?_, fun h3 => ?_⟩
      · rw [bo_n (fun x e => (bsin x e).1)] at h3
        exact go n sn g z2 f2 b2 (Nat.le_refl _) (fun _ _ => rfl) (fun _ e => e) (fun b e => by rw [h3] at e; cases e)
      · cases ho : bs w h r (g q) kk with
        | none => rw [ho] at h3; exact absurd rfl h3
        | some o =>
          have o64 := (bsin o ho).1
          show vp_in (nI o) 64 ∧ _
          rw [show bo (some o) = nI o from rfl, i_cl (by omega), j2.2 o o64, b2.2.1 o o64]
          have stay : (S o = true → sn o = true) → wc_X12_partsOf_110 B8 (fun b3 z => B (b3, z)) (fun b4 z => B' (b4, z)) Q a1 a2 (nI q) (nI kk) z2 := fun q3 => go n sn g z2 f2 b2 (Nat.le_refl _) (fun _ _ => rfl) (fun _ e => e) (fun b e => by rw [ho] at e; cases e; exact q3)
          refine ⟨i_in (by omega) (by omega), fun h4 => stay (fun q3 => ?_), fun h4 => ⟨i_in (by omega) (by omega), fun h5 => stay (fun _ => bi_n.mp h5), fun h5 => ?_⟩⟩
          · rw [bi_0] at h4; rw [h4] at q3; cases q3
          · rw [bi_n] at h4
            rw [bi_0] at h5
            have hab : nb w r (g q) o = true := (bs_nb hd.2.1 hd.2.2.2.1 gS.2.1 gS.2.2 (bsin o ho).2.1 (bsin o ho).2.2).mp ⟨kk, by omega, ho⟩
            refine bq_1 b2 o64 h5 (rc_n gq.2.1 hab h4) (fun z3 f3 b3 => ⟨rfl, ?_⟩)
            refine go (n + 1) _ _ z3 (fr_t f2 f3) b3 (by omega) (fun i hi => if_neg (by omega)) (fun j e => bq_le e) (fun b e _ => ?_)
            rw [ho] at e
            cases e
            unfold sn_a; rw [if_pos rfl]
theorem sr_partsOf (hd : jd w h r S) (hj : jr w h r S z) (k : ∀ z', fr [(2, 61), (2, 62), (0, 3282)] z z' → Q (.inl (some (.int (nI (gr_n w r S (fun _ => false)))))) z') : wm_X12_partsOf z Q := by
  have hre := hd.2.2.2.2.2
  unfold wm_X12_partsOf
  refine sq_noneSeen (fun z0 f0 s0 => ⟨rfl, ?_⟩)
  unfold wc_X12_partsOf_8
  have le64 : ∀ b, b ≤ 64 → fb_ct (rc_k (nb w r) S (fun _ => false)) b ≤ 64 := fun b hb => Nat.le_trans (fb_ct_le _ _) hb
  refine lp_inv (fun c s => ∃ sn z', s = (nI (fb_ct (rc_k (nb w r) S (fun _ => false)) c), nI c, z') ∧ fr [(2, 61), (2, 62), (0, 3282)] z z' ∧ (∀ j, j < 64 → tq_ai z' 61 j = bi (sn j)) ∧ ∀ j, j < 64 → (sn j = true ↔ S j = true ∧ ∃ i, rc (nb w r) S j i ∧ i < c)) 64 ?_ ⟨fun _ => false, z0, rfl, fr_m (by decide) f0, s0, fun j _ => ⟨fun e => (by cases e), fun e => by obtain ⟨_, i, _, hi⟩ := e; omega⟩⟩
  rintro c s hc ⟨sn, z1, rfl, f1, e1, e2⟩ B hB
  simp only
  have j1 := jr_f f1 (by decide) (by decide) (by decide) (by decide) hj
  unfold wb_X12_partsOf_8
  rw [i_64]
  refine ⟨fun h1 => ?_, fun h1 => ?_⟩
  · rw [i_le (by omega) (by omega)] at h1
    have : c = 64 := by omega
    subst this
    exact k z1 f1
  · rw [i_le (by omega) (by omega)] at h1
    have hB := hB (by omega)
    rw [fb_ct_succ] at hB
    have same : rc_k (nb w r) S (fun _ => false) c = false → (∀ j, j < 64 → S j = true → rc (nb w r) S j c → ∃ i, rc (nb w r) S j i ∧ i < c) → wc_X12_partsOf_122 (fun b1 b2 z => B (b1, b2, z)) Q (nI (fb_ct (rc_k (nb w r) S (fun _ => false)) c)) (nI c) z1 := by
      intro hk hrc
      rw [hk] at hB
      unfold wc_X12_partsOf_122
      intro v e
      rw [i_1, i_add] at e
      subst e
      refine hB _ ⟨sn, z1, rfl, f1, e1, fun j hj => ?_⟩
      rw [e2 j hj]
      constructor
      · rintro ⟨a, i, b, d⟩; exact ⟨a, i, b, by omega⟩
      · rintro ⟨a, i, b, d⟩
        by_cases q : i = c
        · subst q
          exact ⟨a, hrc j hj a b⟩
        · exact ⟨a, i, b, by omega⟩
    rw [i_cl (by omega), j1.2 c (by omega), e1 c (by omega)]
    refine ⟨i_in (by omega) (by omega), fun h2 => ?_, fun h2 => ⟨i_in (by omega) (by omega), fun h3 => ?_, fun h3 => ?_⟩⟩
    · rw [bi_0] at h2
      refine same (rc_kf.mpr (fun q => by have q1 := q.1; rw [h2] at q1; cases q1)) (fun j hj hs hr => ?_)
      rw [rc_w hs hr] at h2; cases h2
    · rw [bi_n, e2 c (by omega)] at h3
      obtain ⟨hs, i, hr, hi⟩ := h3
      refine same (rc_kf.mpr (fun q => ?_)) (fun j hj hs2 hr2 => ⟨i, rc_t hr2 hr, hi⟩)
      have := q.2.1 i hr
      omega
    · rw [bi_n] at h2
      rw [bi_0] at h3
      have lead : ∀ i, rc (nb w r) S c i → c ≤ i := by
        intro i hi
        refine Classical.byContradiction fun hn => ?_
        have := (e2 c (by omega)).mpr ⟨h2, i, hi, by omega⟩
        rw [h3] at this; cases this
      have hk : rc_k (nb w r) S (fun _ => false) c = true := rc_kt.mpr ⟨h2, lead, fun _ _ => rfl⟩
      rw [hk] at hB
      intro v1 q1 z2 q2
      have f2 : fr [(2, 61), (2, 62), (0, 3282)] z1 z2 := by rw [q2]; exact fr_sfi (by decide) fr_r
      have e1' : ∀ j, j < 64 → tq_ai z2 61 j = bi (sn j) := fun j hj => by rw [q2]; exact e1 j hj
      refine bq_0 (N := nb w r) (W := S) (by omega) h3 e1' (by rw [q2]; rfl) (fun z3 f3 b3 => ⟨rfl, ?_⟩)
      have f13 : fr [(2, 61), (2, 62), (0, 3282)] z z3 := fr_t f1 (fr_t f2 f3)
      have j3 := jr_f f13 (by decide) (by decide) (by decide) (by decide) hj
      refine sr_pgroup hd j3 h2 (fun j hjr => ?_) b3 (fun sn' z4 f4 e4 e5 => ?_)
      · cases hc : sn j
        · rfl
        · have hj64 := (hre j (rc_w h2 hjr)).1
          obtain ⟨_, i, hi, hlt⟩ := (e2 j hj64).mp hc
          have := lead i (rc_t hjr hi)
          omega
      · unfold wc_X12_partsOf_122
        intro v e
        rw [i_1, i_add] at e q1
        subst e; subst q1
        refine hB _ ⟨sn', z4, rfl, fr_t f13 f4, e4, fun j hj => ?_⟩
        rw [e5 j hj, e2 j hj]
        constructor
        · rintro (⟨a, i, b, d⟩ | q)
          · exact ⟨a, i, b, by omega⟩
          · exact ⟨rc_w h2 q, c, rc_s gr_sy h2 q, by omega⟩
        · rintro ⟨a, i, b, d⟩
          by_cases q : i = c
          · subst q
            exact Or.inr (rc_s gr_sy a b)
          · exact Or.inl ⟨a, i, b, by omega⟩
end BFS
