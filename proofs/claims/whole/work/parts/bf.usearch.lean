/-! ===== unlike: the reference's search counts the first of those alike ===== -/
section RUS
variable {w h : Nat} {S : Nat → Bool} {z : tq_S} {Q : tq_O → tq_S → Prop} {K P : Nat} {M Z : Nat → Nat} {f : Nat → plc}
theorem gD_l {l' : List Nat} : ∀ {l : List Nat} {k : Nat}, k < l.length → (l ++ l').getD k 0 = l.getD k 0
  | [], k, h => absurd h (Nat.not_lt_zero k)
  | _ :: l, 0, _ => rfl
  | _ :: l, k + 1, h => gD_l (l := l) (k := k) (Nat.lt_of_succ_lt_succ h)
theorem gD_r {i : Nat} : ∀ (l : List Nat), (l ++ [i]).getD l.length 0 = i
  | [] => rfl
  | _ :: l => gD_r l
def FSu : List (Nat × Nat) := FSr ++ FIm
noncomputable def fsB (w h : Nat) (S : Nat → Bool) (P : Nat) (f : Nat → plc) (K : Nat) (M : Nat → Nat) (j : Nat) : Bool := @decide (fsA w h S P f K M j) (Classical.propDecidable _)
theorem fsB_t {j : Nat} : fsB w h S P f K M j = true ↔ fsA w h S P f K M j := @decide_eq_true_iff _ (Classical.propDecidable _)
theorem sq_usearch (hdd : jd w h false S) (hjr : jr w h false S z) (hpl : plg S Z P f) (hn : fb_ct S 64 ≤ 24) (hP : P ≤ 3072) (hr : rrow S P f z) (hBB : ∀ c, c < 64 → ct (tq_fl z 3306) c = S c) (hkK : ∀ p, p < P → (f p).2.1 < K) (hK : K ≤ 6) (h1 : tq_fi z 3301 = 1) (hw : tq_fi z 3300 = -1) : ∀ (t fuel d c v off : Nat) (l cp : Nat → Nat) (pre : List Nat) (X : Int64) (z1 : tq_S) (Q : tq_O → tq_S → Prop), t < fuel → fr FSu z z1 → c < 2 ^ fb_ct S 64 → 3 * d ≤ pop c → fb_ct S 64 ≤ pop c + 3 * t → rst S c X → bef K l d v cp z1 → (pre.length = d ∧ ∀ k, k < d → pre.getD k 0 = cp k) → (∀ jj, jj < cnx (fb_ct S 64) P f t c l → off + jj < exn (fb_ct S 64) P f K M ∧ LL S P f K M (off + jj) = pre ++ pth (fb_ct S 64) P f t c l jj) → (∀ z2, fr FSu z z2 → (∀ k, k < K → tq_ai z2 73 k = nI (l k)) → tq_fi z2 3303 = nI d → (∀ j, j < d → tq_ai z2 74 j = nI (cp j)) → tq_fi z2 3299 = nI (v + fb_ct (fun jj => fsB w h S P f K M (off + jj)) (cnx (fb_ct S 64) P f t c l)) → Q (.inl none) z2) → wm_X12_search fuel X z1 Q := by
  have hpop : ∀ p, p < P → 3 ≤ pop (f p).2.2.1 := fun p hp => (hpl.1 p hp).2.2.2.2.2
  have leaf : ∀ (t d c v off : Nat) (l cp : Nat → Nat) (pre : List Nat) (z1 : tq_S) (Q : tq_O → tq_S → Prop) (R : Int64 → tq_S → (tq_O → tq_S → Prop) → Prop), fb_ct S 64 ≤ tro c → fr FSu z z1 → d ≤ 8 → bef K l d v cp z1 → (pre.length = d ∧ ∀ k, k < d → pre.getD k 0 = cp k) → (∀ jj, jj < cnx (fb_ct S 64) P f t c l → off + jj < exn (fb_ct S 64) P f K M ∧ LL S P f K M (off + jj) = pre ++ pth (fb_ct S 64) P f t c l jj) → (∀ z2, fr FSu z z2 → (∀ k, k < K → tq_ai z2 73 k = nI (l k)) → tq_fi z2 3303 = nI d → (∀ j, j < d → tq_ai z2 74 j = nI (cp j)) → tq_fi z2 3299 = nI (v + fb_ct (fun jj => fsB w h S P f K M (off + jj)) (cnx (fb_ct S 64) P f t c l)) → Q (.inl none) z2) → wm_X12_isFirstOfAlike z1 (tq_wi fun r4 z3 => ((r4 = 0 → Q (.inl none) z3) ∧ (¬ r4 = 0 → wc_X12_search_20 R Q z3))) := by
    intro t d c v off l cp pre z1 Q R full f1 hd8 hb hpre hoff kk
    have c1 := cnx_1 (P := P) (f := f) (l := l) full t
    rw [c1] at kk hoff
    obtain ⟨o1, o2⟩ := hoff 0 (by omega)
    rw [pth_0 full, List.append_nil, Nat.add_zero] at o2
    rw [Nat.add_zero] at o1
    obtain ⟨b1, b2, b3, b4⟩ := hb
    have one : fb_ct (fun jj => fsB w h S P f K M (off + jj)) 1 = if fsB w h S P f K M off = true then 1 else 0 := by
      rw [fb_ct_succ]
      show 0 + (if fsB w h S P f K M (off + 0) = true then 1 else 0) = _
      rw [Nat.zero_add, Nat.add_zero]
    rw [one] at kk
    refine sq_isFirst hdd (jr_f f1 (by decide) (by decide) (by decide) (by decide) hjr) hpl hn (rrow_f f1 (by decide) (by decide) (by decide) (by decide) hr) hP o1 (fun c hc => by rw [fr_fl f1 (by decide)]; exact hBB c hc) (by rw [o2, hpre.1]; exact b2) (by rw [o2, hpre.1]; exact hd8) (fun k hk => by
      rw [o2, hpre.1] at hk
      rw [o2, hpre.2 k hk]
      exact b3 k hk) (fun z2 f2 nn => ⟨_, rfl, fun _ => ?_, fun u => absurd rfl u⟩) (fun z2 f2 yy => ⟨_, rfl, fun u => absurd u (by decide +kernel), fun _ => ?_⟩)
    · refine kk z2 (fr_t f1 (fr_m (by decide) f2)) (fun k hk => by rw [fr_ai f2 (by decide)]; exact (b1 k hk).1) (by rw [fr_fi f2 (by decide)]; exact b2) (fun k hk => by rw [fr_ai f2 (by decide)]; exact b3 k hk) ?_
      rw [if_neg (fun e => nn (fsB_t.mp e)), fr_fi f2 (by decide)]
      exact b4
    · have f12 : fr FSu z z2 := fr_t f1 (fr_m (by decide) f2)
      refine sq_leaf (Md := none) (L := fun _ => []) rfl (by show tq_fi z2 3300 = -1; rw [fr_fi f12 (by decide)]; exact hw) hd8 (K := K) (l := l) (d := d) (v := v) (cp := cp) ⟨fun k hk => by rw [fr_ai f2 (by decide)]; exact b1 k hk, by rw [fr_fi f2 (by decide)]; exact b2, fun k hk => by rw [fr_ai f2 (by decide)]; exact b3 k hk, by rw [fr_fi f2 (by decide)]; exact b4⟩ (fun V hV => by cases hV) (fun z3 f3 a b e g => ?_)
      refine kk z3 (fr_t f12 (fr_m (by decide) f3)) a b e ?_
      rw [if_pos (fsB_t.mpr yy)]
      exact g
  intro t
  induction t with
  | zero =>
    intro fuel d c v off l cp pre X z1 Q hf f1 hc hd ht hX hb hpre hoff kk
    obtain ⟨fu, rfl⟩ : ∃ fu, fuel = fu + 1 := ⟨fuel - 1, by omega⟩
    have full := pop_full hc hn (by omega)
    have x0 := (rst_0 hX hc hn).mpr (by omega)
    show we_X12_search (wm_X12_search fu) X z1 Q
    unfold we_X12_search
    have pl := pop_le hc hn
    exact ⟨fun u => absurd x0 u, fun _ => ⟨fun u => absurd u (by rw [fr_fi f1 (by decide), h1]; decide +kernel), fun _ => leaf 0 d c v off l cp pre z1 Q _ (by omega) f1 (by omega) hb hpre hoff kk⟩⟩
  | succ t ih =>
    intro fuel d c v off l cp pre X z1 Q hf f1 hc hd ht hX hb hpre hoff kk
    obtain ⟨fu, rfl⟩ : ∃ fu, fuel = fu + 1 := ⟨fuel - 1, by omega⟩
    have pl := pop_le hc hn
    show we_X12_search (wm_X12_search fu) X z1 Q
    unfold we_X12_search
    rw [rst_0 hX hc hn]
    refine ⟨fun u => ?_, fun u => ⟨fun u2 => absurd u2 (by rw [fr_fi f1 (by decide), h1]; decide +kernel), fun _ => leaf (t + 1) d c v off l cp pre z1 Q _ u f1 (by omega) hb hpre hoff kk⟩⟩
    have lo := rst_l hX (by omega) hn
    have un : tro c < fb_ct S 64 := by omega
    obtain ⟨k1, k2, k3⟩ := kth_ok (p := S) un
    refine sq_lowestL k1 lo.1 lo.2 ⟨_, rfl, ?_⟩
    have cs : cnx (fb_ct S 64) P f (t + 1) c l = fb_sm (tm (fb_ct S 64) P f t c l) P := by rw [cnx_s, if_neg u]
    rw [cs] at kk hoff
    have mono : ∀ a, a ≤ P → fb_sm (tm (fb_ct S 64) P f t c l) a ≤ fb_sm (tm (fb_ct S 64) P f t c l) P := fun a ha => by
      obtain ⟨e, rfl⟩ : ∃ e, P = a + e := ⟨P - a, by omega⟩
      exact fb_sm_mono _ _ _
    obtain ⟨b1, b2, b3, b4⟩ := hb
    unfold wc_X12_search_86
    refine lp_inv (fun i st => ∃ z3, st = (nI i, z3) ∧ fr FSu z z3 ∧ (∀ k, k < K → tq_ai z3 73 k = nI (l k)) ∧ tq_fi z3 3303 = nI d ∧ (∀ j, j < d → tq_ai z3 74 j = nI (cp j)) ∧ tq_fi z3 3299 = nI (v + fb_ct (fun jj => fsB w h S P f K M (off + jj)) (fb_sm (tm (fb_ct S 64) P f t c l) i))) P ?_ ⟨z1, rfl, f1, fun k hk => (b1 k hk).1, b2, b3, by show tq_fi z1 3299 = nI (v + 0); rw [Nat.add_zero]; exact b4⟩
    rintro i st hi ⟨z3, rfl, f3, d3, e3, p3, a3⟩ B hB
    simp only
    have r3 := rrow_f f3 (by decide) (by decide) (by decide) (by decide) hr
    unfold wb_X12_search_86
    rw [r3.1, i_le (by omega) (by omega)]
    refine ⟨fun q => ?_, fun q => ?_⟩
    · have : i = P := by omega
      subst this
      exact kk z3 f3 d3 e3 p3 a3
    have iP : i < P := by omega
    obtain ⟨ri1, ri2, ri3⟩ := r3.2.1 i iP
    obtain ⟨q1, q2, q3, q4, q5, q6⟩ := r3.2.2.1 i iP
    have nx : ∀ z4, fr FSu z z4 → (∀ k, k < K → tq_ai z4 73 k = nI (l k)) → tq_fi z4 3303 = nI d → (∀ j, j < d → tq_ai z4 74 j = nI (cp j)) → tq_fi z4 3299 = nI (v + fb_ct (fun jj => fsB w h S P f K M (off + jj)) (fb_sm (tm (fb_ct S 64) P f t c l) (i + 1))) → wc_X12_search_238 (wm_X12_search fu) (fun b4 z => B (b4, z)) Q X (nI (kth S (tro c))) (nI i) z4 := by
      intro z4 f4 d4 e4 p4 a4
      unfold wc_X12_search_238
      intro v2 ev
      rw [i_1, i_add] at ev
      subst ev
      exact hB iP _ ⟨z4, rfl, f4, d4, e4, p4, a4⟩
    -- the counter is not past the wanted one
    have go : wc_X12_search_114 (wm_X12_search fu) (fun b4 z => B (b4, z)) Q X (nI (kth S (tro c))) (nI i) z3 := by
      have h99 := a3
      have skip : ¬ ((f i).1 = tro c ∧ c &&& (f i).2.2.1 = 0 ∧ l (f i).2.1 ≠ 0) → wc_X12_search_238 (wm_X12_search fu) (fun b4 z => B (b4, z)) Q X (nI (kth S (tro c))) (nI i) z3 := by
        intro hno
        have t0 : fb_sm (tm (fb_ct S 64) P f t c l) (i + 1) = fb_sm (tm (fb_ct S 64) P f t c l) i := by
          rw [fb_sm_succ]
          unfold tm
          rw [if_neg hno, Nat.add_zero]
        refine nx z3 f3 d3 e3 p3 ?_
        rw [t0]; exact a3
      unfold wc_X12_search_114
      rw [i_cl (by omega), ri3, (kth_lt q1 un).2]
      refine ⟨i_in (by omega) (by omega), fun a => skip (fun b => a b.1), fun a => ⟨i_in (by omega) (by omega), ?_⟩⟩
      rw [rst_p hX ri1 q3]
      refine ⟨fun b => skip (fun e => b e.2.1), fun b => ⟨i_in (by omega) (by omega), ?_⟩⟩
      have kK := hkK i iP
      have l16 := (b1 _ kK).2
      rw [ri2, i_cl (by omega), d3 _ kK, show (0 : Int32) = nI 0 from rfl, i_le (by omega) (by omega)]
      refine ⟨i_in (by omega) (by omega), fun e => skip (fun g => g.2.2 (by omega)), fun e => ⟨i_in (by omega) (by omega), i_in (by omega) (by omega), i_in (by omega) (by omega), fun z4 e4 => ?_⟩⟩
      rw [i_pmn (by omega)] at e4
      have hv1 : (f i).1 = tro c ∧ c &&& (f i).2.2.1 = 0 ∧ l (f i).2.1 ≠ 0 := ⟨a, b, by omega⟩
      have g4 : tq_fi z4 3303 = nI d := by rw [e4]; exact e3
      rw [g4, i_cl (by omega)]
      refine ⟨i_in (by omega) (by omega), fun z5 e5 z6 e6 => ⟨i_in (by omega) (by omega), ?_⟩⟩
      have z3_6 : fr [(2, 73), (2, 74), (0, 3303)] z3 z6 := by
        rw [e6]
        refine fr_sfi (by decide) ?_
        rw [e5]
        refine fr_sai (by decide) ?_
        rw [e4]; exact fr_sai (by decide) fr_r
      have f6 : fr FSu z z6 := fr_t f3 (fr_m (by decide) z3_6)
      have r6 := rrow_f f6 (by decide) (by decide) (by decide) (by decide) hr
      have a73 : ∀ k, tq_ai z6 73 k = if k = (f i).2.1 then nI (l (f i).2.1 - 1) else tq_ai z3 73 k := fun k => by
        rw [e6, rw_ai_fi, e5, rw_ain (by decide), e4, rw_aie, rw_upd]
      have a74 : ∀ j, tq_ai z6 74 j = if j = d then nI i else tq_ai z3 74 j := fun j => by
        rw [e6, rw_ai_fi, e5, rw_aie, rw_upd, e4, rw_ain (by decide)]
      have g6 : tq_fi z6 3303 = nI (d + 1) := by
        rw [e6]
        show tq_fi z5 3303 + 1 = _
        rw [e5]; show tq_fi z4 3303 + 1 = _
        rw [g4, i_1, i_add]
      have po := pop_or hv1.2.1
      have p3' := hpop i iP
      have co : c ||| (f i).2.2.1 < 2 ^ fb_ct S 64 := Nat.or_lt_two_pow hc q3
      have pc' := pop_le co hn
      have ts : fb_sm (tm (fb_ct S 64) P f t c l) (i + 1) = fb_sm (tm (fb_ct S 64) P f t c l) i + cnx (fb_ct S 64) P f t (c ||| (f i).2.2.1) (lsub l (f i).2.1 1) := by
        rw [fb_sm_succ]
        congr 1
        unfold tm
        rw [if_pos hv1]
      obtain ⟨cp', hcp'⟩ : ∃ cp' : Nat → Nat, cp' = fun j => if j = d then i else cp j := ⟨_, rfl⟩
      have m1 := mono (i + 1) (by omega)
      refine ih fu (d + 1) (c ||| (f i).2.2.1) (v + fb_ct (fun jj => fsB w h S P f K M (off + jj)) (fb_sm (tm (fb_ct S 64) P f t c l) i)) (off + fb_sm (tm (fb_ct S 64) P f t c l) i) (lsub l (f i).2.1 1) cp' (pre ++ [i]) _ z6 _ (by omega) f6 co (by omega) (by omega) (rst_n hX (r6.2.1 i iP).1) ⟨fun k hk => ?_, g6, fun j hj => ?_, ?_⟩ ⟨by rw [List.length_append, hpre.1]; rfl, fun k hk => ?_⟩ (fun jj hjj => ?_) (fun z7 f7 d7 e7 p7 a7 => ⟨rfl, fun z8 e8 => ?_⟩)
      · rw [a73]
        unfold lsub
        have := (b1 k hk).2
        by_cases u2 : k = (f i).2.1
        · rw [if_pos u2, if_pos u2, u2]; exact ⟨rfl, by omega⟩
        · rw [if_neg u2, if_neg u2]; exact ⟨d3 k hk, this⟩
      · rw [a74, hcp']
        dsimp only
        by_cases u2 : j = d
        · rw [if_pos u2, if_pos u2]
        · rw [if_neg u2, if_neg u2]; exact p3 j (by omega)
      · rw [fr_fi z3_6 (by decide)]; exact h99
      · rw [hcp']
        dsimp only
        by_cases u2 : k = d
        · rw [if_pos u2, u2, ← hpre.1]
          exact gD_r pre
        · rw [if_neg u2, gD_l (by rw [hpre.1]; omega)]
          exact hpre.2 k (by omega)
      · obtain ⟨e1, e2⟩ := hoff (fb_sm (tm (fb_ct S 64) P f t c l) i + jj) (by omega)
        rw [Nat.add_assoc]
        refine ⟨e1, ?_⟩
        rw [e2, pth_s u iP (by omega) (by rw [ts]; omega), Nat.add_sub_cancel_left, List.append_assoc]
        rfl
      · have r8 : rrow S P f z8 := rrow_f (F := FSu) (fr_t f7 (by rw [e8]; exact fr_sfi (by decide) fr_r)) (by decide) (by decide) (by decide) (by decide) hr
        obtain ⟨_, s2, _⟩ := r8.2.1 i iP
        have h73 : tq_ai z8 73 = tq_ai z7 73 := by rw [e8]; rfl
        rw [s2, i_cl (by omega), h73, d7 _ kK]
        refine ⟨i_in (by omega) (by omega), i_in (by omega) (by omega), i_in (by omega) (by omega), fun z9 e9 => ?_⟩
        have back : lsub l (f i).2.1 1 (f i).2.1 + 1 = l (f i).2.1 := by
          unfold lsub
          rw [if_pos rfl]
          omega
        rw [i_1, i_add, back] at e9
        have g8 : tq_fi z8 3303 = nI d := by
          rw [e8]
          show tq_fi z7 3303 - 1 = _
          rw [e7, i_pmn (by omega), Nat.add_sub_cancel]
        have z7_9 : fr [(0, 3303), (2, 73)] z7 z9 := by
          rw [e9]
          refine fr_sai (by decide) ?_
          rw [e8]; exact fr_sfi (by decide) fr_r
        refine nx z9 (fr_t f7 (fr_m (by decide) z7_9)) (fun k hk => ?_) (by rw [e9]; exact g8) (fun j hj => ?_) ?_
        · rw [e9, rw_aie, rw_upd]
          by_cases u2 : k = (f i).2.1
          · rw [if_pos u2, u2]
          · rw [if_neg u2, d7 k hk]
            unfold lsub
            rw [if_neg u2]
        · rw [fr_ai z7_9 (by decide), p7 j (by omega), hcp']
          dsimp only
          rw [if_neg (by omega)]
        · rw [ts, fb_ct_split, fr_fi z7_9 (by decide), a7, Nat.add_assoc]
          congr 3
          exact fb_ct_cong fun k _ => by rw [Nat.add_assoc]
    have w3 : tq_fi z3 3300 = -1 := by rw [fr_fi f3 (by decide)]; exact hw
    exact ⟨fun _ => go, fun u2 => absurd w3 u2⟩
end RUS
