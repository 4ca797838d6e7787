section TURN
variable {w h : Nat} {r : Bool} {S : Nat → Bool} {z : tq_S} {Q : tq_O → tq_S → Prop}
/-- two cells become mates, and what the dark one had is free -/
def pr2 (m : Nat → Nat) (d l : Nat) : Nat → Nat := fun x => if x = d then l else if x = l then d else if x = m d then x else m x
theorem pr2_v {m : Nat → Nat} {d l : Nat} (hdl : d ≠ l) (hml : m d ≠ l) : pr2 m d l d = l ∧ pr2 m d l l = d ∧ (m d ≠ d → pr2 m d l (m d) = m d) ∧ ∀ x, x ≠ d → x ≠ l → x ≠ m d → pr2 m d l x = m x := by
  unfold pr2
  refine ⟨if_pos rfl, by rw [if_neg (fun e => hdl e.symm), if_pos rfl], fun e => by rw [if_neg e, if_neg hml, if_pos rfl], fun x h1 h2 h3 => by rw [if_neg h1, if_neg h2, if_neg h3]⟩
theorem pr2_mg {m : Nat → Nat} {d l : Nat} (hm : mg w r S m) (hd' : S d = true) (hl : S l = true) (hdl : d ≠ l) (hf : m l = l) (hn : nb w r d l = true) : mg w r S (pr2 m d l) := by
  have md := hm d hd'
  have hml : m d ≠ l := fun e => hdl (by rw [← md.2.1, e, hf])
  obtain ⟨v1, v2, v3, v4⟩ := pr2_v (m := m) hdl hml
  intro x hx
  by_cases q1 : x = d
  · rw [q1, v1, v2]; exact ⟨hl, rfl, Or.inr hn⟩
  · by_cases q2 : x = l
    · rw [q2, v2, v1]; exact ⟨hd', rfl, Or.inr (nb_s hn)⟩
    · by_cases q3 : x = m d
      · have : m d ≠ d := fun e => q1 (by rw [q3, e])
        rw [q3, v3 this]; exact ⟨md.1, v3 this, Or.inl rfl⟩
      · obtain ⟨a1, a2, a3⟩ := hm x hx
        rw [v4 x q1 q2 q3]
        refine ⟨a1, ?_, a3⟩
        rw [v4 (m x) (fun e => q3 (by rw [← e, a2])) (fun e => q2 (by rw [← a2, e, hf])) (fun e => q1 (by rw [← a2, e, md.2.1]))]
        exact a2
theorem sq_turnPath {m : Nat → Nat} {s n i t : Nat} {q L pa : Nat → Nat} (hd : jd w h r S) (hm : mg w r S m) (hA : mar S m (tq_ai z 20)) (hs : S s = true) (hsf : m s = s) (hsk : dk s = true) (hb : bq9 w r S m s n q L pa (tq_ai z 22) (tq_ai z 21)) (hi : i < n) (ht : t < 64) (htS : S t = true) (htk : dk t = false) (htf : m t = t) (hfr : tq_ai z 21 t = nI (q i)) (hn : nb w r (q i) t = true) (kk : ∀ z' m', fr [(2, 20)] z z' → mar S m' (tq_ai z' 20) → mg w r S m' → (∀ x, S x = true → (m' x = x ↔ m x = x ∧ x ≠ t ∧ x ≠ s)) → (∀ Zd Zl : Nat → Bool, (∀ d l, Zd d = true → l < 64 → S l = true → nb w r d l = true → Zl l = true) → (∀ l, Zl l = true → S l = true ∧ dk l = false ∧ m l ≠ l ∧ Zd (m l) = true) → ∀ l, Zl l = true → m' l = m l) → Q (.inl none) z') : wm_X9_turnPath (nI t) z Q := by
  have hre := hd.2.2.2.2.2
  have n33 := bq9_n hb
  obtain ⟨q0, n1, bq_, bl, binj⟩ := hb
  have s64 := (hre s hs).1
  -- the dark cells of the queue are all different
  have qne : ∀ a b, a < b → b < n → q a ≠ q b := by
    intro a b hab hbn e
    obtain ⟨x1, x2, x3, x4, x5, -⟩ := bl b (by omega) hbn
    by_cases a0 : a = 0
    · rw [a0, q0, x5] at e
      have : m (m (L b)) = m (L b) := by rw [← e]; exact hsf
      rw [(hm _ x2).2.1] at this
      exact x4 this.symm
    · obtain ⟨y1, y2, y3, y4, y5, -⟩ := bl a (by omega) (by omega)
      rw [x5, y5] at e
      exact binj a b (by omega) hab hbn (by rw [← (hm _ y2).2.1, e, (hm _ x2).2.1])
  have mq : ∀ a, 1 ≤ a → a < n → m (q a) = L a := by
    intro a a1 a2
    obtain ⟨x1, x2, x3, x4, x5, -⟩ := bl a a1 a2
    rw [x5]; exact (hm _ x2).2.1
  unfold wm_X9_turnPath wc_X9_turnPath_4
  refine lp_inv (fun k u => (∃ mc ℓ a z', u = (nI ℓ, nI k, z') ∧ fr [(2, 20)] z z' ∧ a < n ∧ a + k < 64 ∧ ℓ < 64 ∧ S ℓ = true ∧ dk ℓ = false ∧ tq_ai z 21 ℓ = nI (q a) ∧ nb w r (q a) ℓ = true ∧ mg w r S mc ∧ mc ℓ = ℓ ∧ (ℓ = t ∨ m ℓ ≠ ℓ) ∧ (∀ x, x < 64 → x ≠ ℓ → tq_ai z' 20 x = if S x = true ∧ mc x ≠ x then nI (mc x) else -1) ∧ (∀ b, b ≤ a → mc (q b) = m (q b)) ∧ (∀ x, S x = true → (mc x = x ↔ (m x = x ∧ x ≠ t) ∨ x = ℓ)) ∧ (∀ Zd Zl : Nat → Bool, (∀ d l, Zd d = true → l < 64 → S l = true → nb w r d l = true → Zl l = true) → (∀ l, Zl l = true → S l = true ∧ dk l = false ∧ m l ≠ l ∧ Zd (m l) = true) → Zl ℓ = false ∧ ∀ l, Zl l = true → mc l = m l)) ∨ ∃ mc z', u = (-1, nI k, z') ∧ fr [(2, 20)] z z' ∧ mar S mc (tq_ai z' 20) ∧ mg w r S mc ∧ (∀ x, S x = true → (mc x = x ↔ m x = x ∧ x ≠ t ∧ x ≠ s)) ∧ (∀ Zd Zl : Nat → Bool, (∀ d l, Zd d = true → l < 64 → S l = true → nb w r d l = true → Zl l = true) → (∀ l, Zl l = true → S l = true ∧ dk l = false ∧ m l ≠ l ∧ Zd (m l) = true) → ∀ l, Zl l = true → mc l = m l)) 64 ?_ (Or.inl ⟨m, t, i, z, rfl, fr_r, hi, by omega, ht, htS, htk, hfr, hn, hm, htf, Or.inl rfl, fun x hx _ => hA x hx, fun _ _ => rfl, fun x hx => ⟨fun e => by
    by_cases u : x = t
    · exact Or.inr u
    · exact Or.inl ⟨e, u⟩, fun e => e.elim (fun e => e.1) (fun e => by rw [e]; exact htf)⟩, fun Zd Zl h1 h2 => ⟨by
    cases e : Zl t
    · rfl
    · exact absurd htf (h2 t e).2.2.1, fun _ _ => rfl⟩⟩)
  rintro k u hk hI B hB
  rcases hI with ⟨mc, ℓ, a, z1, rfl, f1, a1, a2, l64, lS, lk, lfr, ln, mcm, mcl, lt_, arr, agr, free, cl⟩ | ⟨mc, z1, rfl, f1, arr, mcm, free, cl⟩
  · simp only
    obtain ⟨x1, x2, x3, x4⟩ := bq_ a a1
    have dl : q a ≠ ℓ := fun e => by rw [e, lk] at x4; cases x4
    have hmdl : mc (q a) ≠ ℓ := fun e => dl (by rw [← (mcm _ x3).2.1, e, mcl])
    have m2 := pr2_mg mcm x3 lS dl mcl ln
    obtain ⟨v1, v2, v3, v4⟩ := pr2_v (m := mc) dl hmdl
    have agra := agr a (Nat.le_refl _)
    have a20q : tq_ai z1 20 (q a) = if S (q a) = true ∧ mc (q a) ≠ q a then nI (mc (q a)) else -1 := arr _ x2 dl
    unfold wb_X9_turnPath_4
    rw [i_64, i_le (by omega) (by omega), i_cl (by omega), fr_ai (k := 21) f1 (by decide), lfr]
    refine ⟨fun e => by omega, fun _ => ⟨fun e => absurd e (i_n0 (by omega)), fun _ => ⟨i_in (by omega) (by omega), fun w1 e1 => ?_⟩⟩⟩
    rw [e1, i_cl (by omega)]
    refine ⟨i_in (by omega) (by omega), fun w2 e2 => ⟨i_in (by omega) (by omega), fun z2 e3 => ⟨i_in (by omega) (by omega), fun z3 e4 w5 e5 => ?_⟩⟩⟩
    rw [i_1, i_add] at e5
    have a20 : ∀ x, tq_ai z3 20 x = if x = ℓ then nI (q a) else if x = q a then nI ℓ else tq_ai z1 20 x := by
      intro x; rw [e4, rw_aie, rw_upd, e3, rw_aie, rw_upd]
    have f3 : fr [(2, 20)] z z3 := by rw [e4]; refine fr_sai (by decide) ?_; rw [e3]; exact fr_sai (by decide) f1
    clear e3 e4
    by_cases ha0 : a = 0
    · -- the beginning
      have qs : q a = s := by rw [ha0]; exact q0
      have mcs : mc (q a) = q a := by rw [agra, qs, hsf]
      rw [a20q, if_neg (fun e => e.2 mcs)] at e2
      have w4' : ∀ x, x ≠ q a → x ≠ ℓ → pr2 mc (q a) ℓ x = mc x := fun x h1 h2 => v4 x h1 h2 (fun e => h1 (by rw [e, mcs]))
      refine hB (by omega) _ (Or.inr ⟨pr2 mc (q a) ℓ, z3, by rw [e2, e5], f3, fun x hx => ?_, m2, fun x hx => ?_, fun Zd Zl h1 h2 l hl => ?_⟩)
      · rw [a20]
        by_cases u1 : x = ℓ
        · rw [if_pos u1, u1, v2, if_pos ⟨lS, dl⟩]
        · rw [if_neg u1]
          by_cases u2 : x = q a
          · rw [if_pos u2, u2, v1, if_pos ⟨x3, fun e => dl e.symm⟩]
          · rw [if_neg u2, w4' x u2 u1]; exact arr x hx u1
      · by_cases u1 : x = ℓ
        · rw [u1, v2]
          refine ⟨fun e => absurd e dl, fun e => ?_⟩
          exact (lt_.elim (fun u => e.2.1 u) (fun u => u e.1)).elim
        · by_cases u2 : x = q a
          · rw [u2, v1]
            refine ⟨fun e => absurd e.symm dl, fun e => absurd qs e.2.2⟩
          · rw [w4' x u2 u1, free x hx]
            rw [qs] at u2
            refine ⟨fun e => e.elim (fun e => ⟨e.1, e.2, u2⟩) (fun e => absurd e u1), fun e => Or.inl ⟨e.1, e.2.1⟩⟩
      · obtain ⟨c1, c2⟩ := cl Zd Zl h1 h2
        have l1 : l ≠ ℓ := fun e => by rw [e, c1] at hl; cases hl
        have l2 : l ≠ q a := fun e => by
          have := (h2 l hl).2.1
          rw [e, x4] at this; cases this
        rw [w4' l l2 l1]; exact c2 l hl
    · obtain ⟨y1, y2, y3, y4, y5, y6, y7, y8⟩ := bl a (by omega) a1
      have mca : mc (q a) = L a := by rw [agra]; exact mq a (by omega) a1
      have La : L a ≠ q a := fun e => by rw [e, x4] at y3; cases y3
      rw [a20q, mca, if_pos ⟨x3, La⟩] at e2
      rw [mca] at v3 v4 hmdl
      have v3 := v3 La
      refine hB (by omega) _ (Or.inl ⟨pr2 mc (q a) ℓ, L a, pa a, z3, by rw [e2, e5], f3, by omega, by omega, y1, y2, y3, y7, y8, m2, v3, Or.inr y4, fun x hx hxL => ?_, fun b hb => ?_, fun x hx => ?_, fun Zd Zl h1 h2 => ?_⟩)
      · rw [a20]
        by_cases u1 : x = ℓ
        · rw [if_pos u1, u1, v2, if_pos ⟨lS, dl⟩]
        · rw [if_neg u1]
          by_cases u2 : x = q a
          · rw [if_pos u2, u2, v1, if_pos ⟨x3, fun e => dl e.symm⟩]
          · rw [if_neg u2, v4 x u2 u1 hxL]; exact arr x hx u1
      · have d1 := (bq_ b (by omega)).2.2.2
        rw [v4 (q b) (qne b a (by omega) a1) (fun e => by rw [e, lk] at d1; cases d1) (fun e => by rw [e, y3] at d1; cases d1)]
        exact agr b (by omega)
      · by_cases u1 : x = ℓ
        · rw [u1, v2]
          refine ⟨fun e => absurd e dl, fun e => ?_⟩
          rcases e with e | e
          · exact (lt_.elim (fun u => e.2 u) (fun u => u e.1)).elim
          · exact absurd e.symm hmdl
        · by_cases u2 : x = q a
          · rw [u2, v1]
            refine ⟨fun e => absurd e.symm dl, fun e => ?_⟩
            rcases e with e | e
            · rw [mq a (by omega) a1] at e
              exact absurd e.1 La
            · exact absurd e.symm La
          · by_cases u3 : x = L a
            · rw [u3]; exact ⟨fun _ => Or.inr rfl, fun _ => v3⟩
            · rw [v4 x u2 u1 u3, free x hx]
              exact ⟨fun e => e.elim Or.inl (fun e => absurd e u1), fun e => e.elim Or.inl (fun e => absurd e u3)⟩
      · obtain ⟨c1, c2⟩ := cl Zd Zl h1 h2
        have qz : Zd (q a) = false := by
          cases e : Zd (q a)
          · rfl
          · rw [h1 (q a) ℓ e l64 lS ln] at c1; cases c1
        have lz : Zl (L a) = false := by
          cases e : Zl (L a)
          · rfl
          · have := (h2 _ e).2.2.2
            rw [← y5, qz] at this; cases this
        refine ⟨lz, fun l hl => ?_⟩
        have l1 : l ≠ ℓ := fun e => by rw [e, c1] at hl; cases hl
        have l2 : l ≠ q a := fun e => by
          have := (h2 l hl).2.1
          rw [e, x4] at this; cases this
        have l3 : l ≠ L a := fun e => by rw [e, lz] at hl; cases hl
        rw [v4 l l2 l1 l3]; exact c2 l hl
  · simp only
    unfold wb_X9_turnPath_4
    have e1 : (-1 : Int32) < 0 := by decide +kernel
    exact ⟨fun _ => kk z1 mc f1 arr mcm free cl, fun _ => ⟨fun _ => kk z1 mc f1 arr mcm free cl, fun e => absurd e1 e⟩⟩
end TURN
