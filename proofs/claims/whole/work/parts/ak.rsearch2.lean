/-! ===== exact covers: the reference's search goes through ===== -/
section RSF
variable {w h : Nat} {r : Bool} {S : Nat → Bool} {z : tq_S} {Q : tq_O → tq_S → Prop} {K P : Nat} {C M Z : Nat → Nat} {A : Nat → Int64} {f : Nat → plc}
theorem cnx_1 {n P : Nat} {f : Nat → plc} {c : Nat} {l : Nat → Nat} (hn : n ≤ tro c) : ∀ t, cnx n P f t c l = 1
  | 0 => if_pos hn
  | t + 1 => by rw [cnx_s, if_pos hn]
theorem sq_rsearch {Md : Option Nat} (hn : fb_ct S 64 ≤ 24) (hP : P ≤ 3072) (hr : rrow S P f z) (hkK : ∀ p, p < P → (f p).2.1 < K) (hK : K ≤ 6) (hpop : ∀ p, p < P → 3 ≤ pop (f p).2.2.1) (h1 : tq_fi z 3301 = 0) (hw : wnt Md z) : ∀ (t fuel d c v : Nat) (l cp : Nat → Nat) (X : Int64) (z1 : tq_S) (Q : tq_O → tq_S → Prop), t < fuel → fr FSr z z1 → c < 2 ^ fb_ct S 64 → 3 * d ≤ pop c → fb_ct S 64 ≤ pop c + 3 * t → rst S c X → bef K l d v cp z1 → (∀ V, Md = some V → v ≤ V ∧ (V + 1 < 2147483648 ∨ v + cnx (fb_ct S 64) P f t c l ≤ V)) → (∀ z2, fr FSr z z2 → (∀ k, k < K → tq_ai z2 73 k = nI (l k)) → tq_fi z2 3303 = nI d → (∀ j, j < d → tq_ai z2 74 j = nI (cp j)) → aft Md v (cnx (fb_ct S 64) P f t c l) d cp (pth (fb_ct S 64) P f t c l) z1 z2 → Q (.inl none) z2) → wm_X12_search fuel X z1 Q := by
  have wf : ∀ z1, fr FSr z z1 → wnt Md z1 := fun z1 f1 => by
    cases Md with
    | none => show tq_fi z1 3300 = -1; rw [fr_fi f1 (by decide)]; exact hw
    | some V => exact ⟨by rw [fr_fi f1 (by decide)]; exact hw.1, hw.2⟩
  intro t
  induction t with
  | zero =>
    intro fuel d c v l cp X z1 Q hf f1 hc hd ht hX hb hv kk
    obtain ⟨fu, rfl⟩ : ∃ fu, fuel = fu + 1 := ⟨fuel - 1, by omega⟩
    have full := pop_full hc hn (by omega)
    have x0 := (rst_0 hX hc hn).mpr (by omega)
    show we_X12_search (wm_X12_search fu) X z1 Q
    unfold we_X12_search
    refine ⟨fun u => absurd x0 u, fun _ => ⟨fun _ => ?_, fun u => absurd (by rw [fr_fi f1 (by decide)]; exact h1) u⟩⟩
    have pl := pop_le hc hn
    have c1 := cnx_1 (P := P) (f := f) (l := l) (show fb_ct S 64 ≤ tro c by omega) 0
    rw [c1] at kk hv
    refine sq_leaf (L := pth (fb_ct S 64) P f 0 c l) rfl (wf z1 f1) (by omega) hb hv (fun z2 f2 a b e g => kk z2 (fr_t f1 f2) a b e g)
  | succ t ih =>
    intro fuel d c v l cp X z1 Q hf f1 hc hd ht hX hb hv kk
    obtain ⟨fu, rfl⟩ : ∃ fu, fuel = fu + 1 := ⟨fuel - 1, by omega⟩
    have pl := pop_le hc hn
    show we_X12_search (wm_X12_search fu) X z1 Q
    unfold we_X12_search
    rw [rst_0 hX hc hn]
    refine ⟨fun u => ?_, fun u => ⟨fun _ => ?_, fun u2 => absurd (by rw [fr_fi f1 (by decide)]; exact h1) u2⟩⟩
    rotate_left
    · have c1 := cnx_1 (P := P) (f := f) (l := l) u (t + 1)
      rw [c1] at kk hv
      exact sq_leaf (L := pth (fb_ct S 64) P f (t + 1) c l) (pth_0 u) (wf z1 f1) (by omega) hb hv (fun z2 f2 a b e g => kk z2 (fr_t f1 f2) a b e g)
    have lo := rst_l hX (by omega) hn
    have un : tro c < fb_ct S 64 := by omega
    obtain ⟨k1, k2, k3⟩ := kth_ok (p := S) un
    refine sq_lowestL k1 lo.1 lo.2 ⟨_, rfl, ?_⟩
    have cs : cnx (fb_ct S 64) P f (t + 1) c l = fb_sm (tm (fb_ct S 64) P f t c l) P := by rw [cnx_s, if_neg u]
    rw [cs] at kk hv
    have mono : ∀ a, a ≤ P → fb_sm (tm (fb_ct S 64) P f t c l) a ≤ fb_sm (tm (fb_ct S 64) P f t c l) P := fun a ha => by
      obtain ⟨e, rfl⟩ : ∃ e, P = a + e := ⟨P - a, by omega⟩
      exact fb_sm_mono _ _ _
    obtain ⟨b1, b2, b3, b4⟩ := hb
    unfold wc_X12_search_86
    refine lp_inv (fun i st => ∃ z3, st = (nI i, z3) ∧ fr FSr z z3 ∧ (∀ k, k < K → tq_ai z3 73 k = nI (l k)) ∧ tq_fi z3 3303 = nI d ∧ (∀ j, j < d → tq_ai z3 74 j = nI (cp j)) ∧ aft Md v (fb_sm (tm (fb_ct S 64) P f t c l) i) d cp (pth (fb_ct S 64) P f (t + 1) c l) z1 z3) P ?_ ⟨z1, rfl, f1, fun k hk => (b1 k hk).1, b2, b3, by
      cases Md with
      | none => show tq_fi z1 3299 = nI (v + 0); rw [Nat.add_zero]; exact b4
      | some V => exact Or.inl ⟨by have := (hv V rfl).1; show v + 0 ≤ V; omega, b4, rfl, rfl⟩⟩
    rintro i st hi ⟨z3, rfl, f3, d3, e3, p3, a3⟩ B hB
    simp only
    have r3 := rrow_f f3 (by decide) (by decide) (by decide) (by decide) hr
    unfold wb_X12_search_86
    rw [r3.1, i_le (by omega) (by omega)]
    refine ⟨fun q => ?_, fun q => ?_⟩
    · have : i = P := by omega
      subst this
      exact kk z3 f3 d3 e3 p3 a3
    have iP : i < P := by omega
    obtain ⟨ri1, ri2, ri3⟩ := r3.2.1 i iP
    obtain ⟨q1, q2, q3, q4, q5, q6⟩ := r3.2.2.1 i iP
    have nx : ∀ z4, fr FSr z z4 → (∀ k, k < K → tq_ai z4 73 k = nI (l k)) → tq_fi z4 3303 = nI d → (∀ j, j < d → tq_ai z4 74 j = nI (cp j)) → aft Md v (fb_sm (tm (fb_ct S 64) P f t c l) (i + 1)) d cp (pth (fb_ct S 64) P f (t + 1) c l) z1 z4 → wc_X12_search_238 (wm_X12_search fu) (fun b4 z => B (b4, z)) Q X (nI (kth S (tro c))) (nI i) z4 := by
      intro z4 f4 d4 e4 p4 a4
      unfold wc_X12_search_238
      intro v2 ev
      rw [i_1, i_add] at ev
      subst ev
      exact hB iP _ ⟨z4, rfl, f4, d4, e4, p4, a4⟩
    -- the counter is not past the wanted one
    have go : (∀ V, Md = some V → v + fb_sm (tm (fb_ct S 64) P f t c l) i ≤ V ∧ tq_fi z3 3305 = tq_fi z1 3305 ∧ tq_ai z3 75 = tq_ai z1 75) → tq_fi z3 3299 = nI (v + fb_sm (tm (fb_ct S 64) P f t c l) i) → wc_X12_search_114 (wm_X12_search fu) (fun b4 z => B (b4, z)) Q X (nI (kth S (tro c))) (nI i) z3 := by
      intro hM h99
      have skip : ¬ ((f i).1 = tro c ∧ c &&& (f i).2.2.1 = 0 ∧ l (f i).2.1 ≠ 0) → wc_X12_search_238 (wm_X12_search fu) (fun b4 z => B (b4, z)) Q X (nI (kth S (tro c))) (nI i) z3 := by
        intro hno
        have t0 : fb_sm (tm (fb_ct S 64) P f t c l) (i + 1) = fb_sm (tm (fb_ct S 64) P f t c l) i := by
          rw [fb_sm_succ]
          unfold tm
          rw [if_neg hno, Nat.add_zero]
        refine nx z3 f3 d3 e3 p3 ?_
        rw [t0]; exact a3
      unfold wc_X12_search_114
      rw [i_cl (by omega), ri3, (kth_lt q1 un).2]
      refine ⟨i_in (by omega) (by omega), fun a => skip (fun b => a b.1), fun a => ⟨i_in (by omega) (by omega), ?_⟩⟩
      rw [rst_p hX ri1 q3]
      refine ⟨fun b => skip (fun e => b e.2.1), fun b => ⟨i_in (by omega) (by omega), ?_⟩⟩
      have kK := hkK i iP
      have l16 := (b1 _ kK).2
      rw [ri2, i_cl (by omega), d3 _ kK, show (0 : Int32) = nI 0 from rfl, i_le (by omega) (by omega)]
      refine ⟨i_in (by omega) (by omega), fun e => skip (fun g => g.2.2 (by omega)), fun e => ⟨i_in (by omega) (by omega), i_in (by omega) (by omega), i_in (by omega) (by omega), fun z4 e4 => ?_⟩⟩
      rw [i_pmn (by omega)] at e4
      have hv1 : (f i).1 = tro c ∧ c &&& (f i).2.2.1 = 0 ∧ l (f i).2.1 ≠ 0 := ⟨a, b, by omega⟩
      have g4 : tq_fi z4 3303 = nI d := by rw [e4]; exact e3
      rw [g4, i_cl (by omega)]
      refine ⟨i_in (by omega) (by omega), fun z5 e5 z6 e6 => ⟨i_in (by omega) (by omega), ?_⟩⟩
      have z3_6 : fr [(2, 73), (2, 74), (0, 3303)] z3 z6 := by
        rw [e6]
        refine fr_sfi (by decide) ?_
        rw [e5]
        refine fr_sai (by decide) ?_
        rw [e4]; exact fr_sai (by decide) fr_r
      have f6 : fr FSr z z6 := fr_t f3 (fr_m (by decide) z3_6)
      have r6 := rrow_f f6 (by decide) (by decide) (by decide) (by decide) hr
      have a73 : ∀ k, tq_ai z6 73 k = if k = (f i).2.1 then nI (l (f i).2.1 - 1) else tq_ai z3 73 k := fun k => by
        rw [e6, rw_ai_fi, e5, rw_ain (by decide), e4, rw_aie, rw_upd]
      have a74 : ∀ j, tq_ai z6 74 j = if j = d then nI i else tq_ai z3 74 j := fun j => by
        rw [e6, rw_ai_fi, e5, rw_aie, rw_upd, e4, rw_ain (by decide)]
      have g6 : tq_fi z6 3303 = nI (d + 1) := by
        rw [e6]
        show tq_fi z5 3303 + 1 = _
        rw [e5]; show tq_fi z4 3303 + 1 = _
        rw [g4, i_1, i_add]
      have po := pop_or hv1.2.1
      have p3' := hpop i iP
      have co : c ||| (f i).2.2.1 < 2 ^ fb_ct S 64 := Nat.or_lt_two_pow hc q3
      have pc' := pop_le co hn
      have ts : fb_sm (tm (fb_ct S 64) P f t c l) (i + 1) = fb_sm (tm (fb_ct S 64) P f t c l) i + cnx (fb_ct S 64) P f t (c ||| (f i).2.2.1) (lsub l (f i).2.1 1) := by
        rw [fb_sm_succ]
        congr 1
        unfold tm
        rw [if_pos hv1]
      obtain ⟨cp', hcp'⟩ : ∃ cp' : Nat → Nat, cp' = fun j => if j = d then i else cp j := ⟨_, rfl⟩
      have m1 := mono (i + 1) (by omega)
      refine ih fu (d + 1) (c ||| (f i).2.2.1) (v + fb_sm (tm (fb_ct S 64) P f t c l) i) (lsub l (f i).2.1 1) cp' _ z6 _ (by omega) f6 co (by omega) (by omega) (rst_n hX (r6.2.1 i iP).1) ⟨fun k hk => ?_, g6, fun j hj => ?_, ?_⟩ (fun V hV => ?_) (fun z7 f7 d7 e7 p7 a7 => ⟨rfl, fun z8 e8 => ?_⟩)
      · rw [a73]
        unfold lsub
        have := (b1 k hk).2
        by_cases u2 : k = (f i).2.1
        · rw [if_pos u2, if_pos u2, u2]; exact ⟨rfl, by omega⟩
        · rw [if_neg u2, if_neg u2]; exact ⟨d3 k hk, this⟩
      · rw [a74, hcp']
        dsimp only
        by_cases u2 : j = d
        · rw [if_pos u2, if_pos u2]
        · rw [if_neg u2, if_neg u2]; exact p3 j (by omega)
      · rw [fr_fi z3_6 (by decide)]; exact h99
      · obtain ⟨v1, v2⟩ := hv V hV
        have := (hM V hV).1
        refine ⟨this, ?_⟩
        rcases v2 with v2 | v2
        · exact Or.inl v2
        · exact Or.inr (by omega)
      · have r8 : rrow S P f z8 := rrow_f (F := FSr) (fr_t f7 (by rw [e8]; exact fr_sfi (by decide) fr_r)) (by decide) (by decide) (by decide) (by decide) hr
        obtain ⟨_, s2, _⟩ := r8.2.1 i iP
        have h73 : tq_ai z8 73 = tq_ai z7 73 := by rw [e8]; rfl
        rw [s2, i_cl (by omega), h73, d7 _ kK]
        refine ⟨i_in (by omega) (by omega), i_in (by omega) (by omega), i_in (by omega) (by omega), fun z9 e9 => ?_⟩
        have back : lsub l (f i).2.1 1 (f i).2.1 + 1 = l (f i).2.1 := by
          unfold lsub
          rw [if_pos rfl]
          omega
        rw [i_1, i_add, back] at e9
        have g8 : tq_fi z8 3303 = nI d := by
          rw [e8]
          show tq_fi z7 3303 - 1 = _
          rw [e7, i_pmn (by omega), Nat.add_sub_cancel]
        have z7_9 : fr [(0, 3303), (2, 73)] z7 z9 := by
          rw [e9]
          refine fr_sai (by decide) ?_
          rw [e8]; exact fr_sfi (by decide) fr_r
        refine nx z9 (fr_t f7 (fr_m (by decide) z7_9)) (fun k hk => ?_) (by rw [e9]; exact g8) (fun j hj => ?_) ?_
        · rw [e9, rw_aie, rw_upd]
          by_cases u2 : k = (f i).2.1
          · rw [if_pos u2, u2]
          · rw [if_neg u2, d7 k hk]
            unfold lsub
            rw [if_neg u2]
        · rw [fr_ai z7_9 (by decide), p7 j (by omega), hcp']
          dsimp only
          rw [if_neg (by omega)]
        · rw [ts]
          cases Md with
          | none =>
            show tq_fi z9 3299 = _
            have a7 : tq_fi z7 3299 = nI (v + fb_sm (tm (fb_ct S 64) P f t c l) i + cnx (fb_ct S 64) P f t (c ||| (f i).2.2.1) (lsub l (f i).2.1 1)) := a7
            rw [fr_fi z7_9 (by decide), a7, Nat.add_assoc]
          | some V =>
            obtain ⟨m1', m2, m3⟩ := hM V rfl
            rcases a7 with ⟨n1, n2, n3, n4⟩ | ⟨n1, n2, n3, n4⟩
            · refine Or.inl ⟨by omega, by rw [fr_fi z7_9 (by decide), n2, Nat.add_assoc], ?_, ?_⟩
              · rw [fr_fi z7_9 (by decide), n3, fr_fi z3_6 (by decide)]; exact m2
              · rw [fr_ai z7_9 (by decide), n4, fr_ai z3_6 (by decide)]; exact m3
            · refine Or.inr ⟨by omega, n2, by rw [fr_fi z7_9 (by decide)]; exact n3, ?_⟩
              have pe := pth_s (P := P) (f := f) (l := l) (t := t) (j := V - v) u iP (by omega) (by rw [ts]; omega)
              rw [pe, show V - v - fb_sm (tm (fb_ct S 64) P f t c l) i = V - (v + fb_sm (tm (fb_ct S 64) P f t c l) i) by omega]
              refine fnd_c (cp' := cp') (i := i) (fun j hj => by rw [hcp']; dsimp only; rw [if_neg (by omega)]) (by rw [hcp']; dsimp only; rw [if_pos rfl]) ?_
              exact ⟨by rw [fr_fi z7_9 (by decide)]; exact n4.1, fun j hj => by rw [fr_ai z7_9 (by decide)]; exact n4.2 j hj⟩
    have w3 := wf z3 f3
    cases Md with
    | none =>
      refine ⟨fun _ => go (fun V hV => by cases hV) a3, fun u2 => absurd w3 u2⟩
    | some V =>
      rw [w3.1]
      refine ⟨fun u2 => absurd u2 (i_nm1 w3.2), fun _ => ?_⟩
      rcases a3 with ⟨n1, n2, n3, n4⟩ | ⟨n1, n2, n3, n4⟩
      · have w2 := w3.2
        rw [n2, i_lt w2 (by omega)]
        exact ⟨fun u2 => absurd u2 (by omega), fun _ => go (fun V' hV => by cases hV; exact ⟨n1, n3, n4⟩) n2⟩
      · rw [n3, i_lt (by omega) n2]
        refine ⟨fun _ => ?_, fun u2 => absurd (Nat.lt_succ_self V) u2⟩
        have := mono i (by omega)
        exact kk z3 f3 d3 e3 p3 (Or.inr ⟨by omega, n2, n3, n4⟩)
end RSF
