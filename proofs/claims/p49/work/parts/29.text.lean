/-! ===== numbers in digits ===== -/
def dg (n : Nat) : List Nat := if n < 10 then [48 + n] else dg (n / 10) ++ [48 + n % 10]
termination_by n
decreasing_by omega
theorem dg_1 {n : Nat} (h : n < 10) : dg n = [48 + n] := by rw [dg, if_pos h]
theorem dg_2 {n : Nat} (h : ¬ n < 10) : dg n = dg (n / 10) ++ [48 + n % 10] := by rw [dg, if_neg h]
theorem dg_a {p d : Nat} (hp : 0 < p) (hd : d < 10) : dg (10 * p + d) = dg p ++ [48 + d] := by
  rw [dg_2 (by omega)]
  have h1 : (10 * p + d) / 10 = p := by omega
  have h2 : (10 * p + d) % 10 = d := by omega
  rw [h1, h2]
/-- the text is such a list of signs -/
def tx (A : Nat → Int32) (l : List Nat) : Prop := ∀ i c, l[i]? = some c → A i = nI c
theorem tx_0 {A : Nat → Int32} : tx A [] := fun i c h => by simp at h
theorem tx_s {A A' : Nat → Int32} {l : List Nat} {c : Nat} (h : tx A l) (e : ∀ j, A' j = if j = l.length then nI c else A j) : tx A' (l ++ [c]) := by
  intro i d hd
  rw [e]
  by_cases q : i < l.length
  · rw [if_neg (by omega)]
    rw [List.getElem?_append_left q] at hd
    exact h i d hd
  · rw [List.getElem?_append_right (by omega)] at hd
    by_cases q2 : i = l.length
    · subst q2
      rw [if_pos rfl]
      simp at hd
      rw [hd]
    · have : i - l.length ≠ 0 := by omega
      obtain ⟨m, hm⟩ : ∃ m, i - l.length = m + 1 := ⟨i - l.length - 1, by omega⟩
      rw [hm] at hd
      simp at hd
theorem i_ch {c : Nat} (h : c < 65536) : vp_nar .char ((Int32.toUInt32 (nI c)) % 65536).toInt32 = nI c := by
  rw [pk_vc, pk_char, pk_tn (by omega), Nat.mod_eq_of_lt h]
def tn (neg : Bool) (n : Nat) : List Nat := (if neg = true then [45] else []) ++ dg n
section TEXT
variable {z : tq_S} {Q : tq_O → tq_S → Prop} {l : List Nat}
/-! the reference -/
def rt (z : tq_S) (l : List Nat) : Prop := tq_fi z 3279 = nI l.length ∧ tx (tq_ai z 60) l
theorem l_neg {n : Nat} (h : 0 < n) (h2 : n < 9223372036854775808) : ¬ (0 : Int64) ≤ -(lN n) ∧ -(-(lN n)) = lN n := by
  have h1 : (lN n).toInt = (n : Int) := pk_lT (by omega)
  refine ⟨fun q => ?_, by simp⟩
  rw [Int64.le_iff_toInt_le, Int64.toInt_neg, h1] at q
  have h3 : (0 : Int64).toInt = 0 := rfl
  have h4 : Int.bmod (-(n : Int)) (2 ^ 64) = -(n : Int) := Int.bmod_eq_of_le (by omega) (by omega)
  rw [h3, h4] at q
  omega
/-- a long as it is written: below 0, too -/
def ln (neg : Bool) (n : Nat) : Int64 := if neg = true then -(lN n) else lN n
/-! the class -/
def up (L : Nat → Nat) : Nat → Nat → Nat
  | 0, _ => 0
  | n + 1, i => L i + 1000000000 * up L n (i + 1)
/-- the number that the limbs tell -/
def bnum (L : Nat → Nat) (u : Nat) : Nat := up L u 0
def bn (L : Nat → Nat) (u : Nat) (z : tq_S) : Prop := u ≤ 34 ∧ tq_fi z 2945 = nI u ∧ ∀ i, i < u → tq_ai z 47 i = nI (L i) ∧ L i < 1000000000
/-- the signs up to a place: the number so far, if it is begun -/
def pt (neg : Bool) (p : Nat) : List Nat := (if neg = true then [45] else []) ++ (if p = 0 then [] else dg p)
theorem pt_n {neg : Bool} {p : Nat} (h : 0 < p) : pt neg p = tn neg p := by
  have h1 : ¬ p = 0 := by omega
  unfold pt tn; rw [if_neg h1]
theorem pt_a {neg : Bool} {p d : Nat} (hd : d < 10) (h : 0 < 10 * p + d) : tn neg (10 * p + d) = pt neg p ++ [48 + d] := by
  unfold pt tn
  by_cases q : p = 0
  · subst q
    rw [if_pos rfl, List.append_nil]
    have : 10 * 0 + d = d := by omega
    rw [this, dg_1 hd]
  · rw [if_neg q, dg_a (by omega) hd, List.append_assoc]
def pj (p li j : Nat) : Nat := p * 10 ^ j + li / 10 ^ (9 - j)
theorem pj_0 {p li : Nat} (h : li < 1000000000) : pj p li 0 = p := by
  unfold pj
  have : li / 10 ^ (9 - 0) = 0 := Nat.div_eq_of_lt h
  rw [this]; omega
theorem pj_9 {p li : Nat} : pj p li 9 = li + 1000000000 * p := by
  unfold pj
  have e1 : (10 : Nat) ^ 9 = 1000000000 := rfl
  have e2 : (10 : Nat) ^ (9 - 9) = 1 := rfl
  rw [e1, e2]; omega
theorem pj_s {p li j : Nat} (h : j < 9) : pj p li (j + 1) = 10 * pj p li j + li / 10 ^ (8 - j) % 10 := by
  unfold pj
  have e1 : 9 - (j + 1) = 8 - j := by omega
  have e2 : (10 : Nat) ^ (9 - j) = 10 ^ (8 - j) * 10 := by
    rw [← Nat.pow_succ]
    congr 1
    omega
  have e3 : p * 10 ^ (j + 1) = 10 * (p * 10 ^ j) := by rw [Nat.pow_succ]; rw [Nat.mul_comm (10 ^ j) 10, ← Nat.mul_assoc, Nat.mul_comm p 10, Nat.mul_assoc]
  rw [e1, e2, e3, ← Nat.div_div_eq_div_mul]
  omega
theorem p10 : ∀ j : Fin 10, (10 : Nat) ^ (8 - j.val) < 2147483648 ∧ 0 < (10 : Nat) ^ (8 - j.val) := by decide +kernel
theorem p10s : ∀ j : Fin 9, (10 : Nat) ^ (8 - j.val) / 10 = 10 ^ (8 - (j.val + 1)) ∨ j.val = 8 := by decide +kernel
theorem p10l : ∀ j : Fin 9, (10 : Nat) ^ (8 - j.val) ≤ 1 ↔ j.val = 8 := by decide +kernel
/-- what nine signs of a limb do -/
theorem sq_limb {neg : Bool} {P li i : Nat} (hli : li < 1000000000) (hi : i < 34) {len : Nat} {B37 : Int32 → Int32 → Int32 → tq_S → Prop} (hlen : len + 9 < 320) (ht : tx (tq_ai z 50) (pt neg P)) (hl : (pt neg P).length = len) (k : ∀ z' t, fr [(2, 50)] z z' → tx (tq_ai z' 50) t → t.length ≤ len + 9 → (0 < i → t = pt neg (li + 1000000000 * P)) → (i = 0 → t = tn neg (li + 1000000000 * P)) → ∀ bg, (0 < i → bg = bi (decide (li + 1000000000 * P ≠ 0))) → B37 (nI t.length) bg (nI i + (-1 : Int32)) z') : wc_X0_writeTo_60 B37 Q (nI len) (bi (decide (P ≠ 0))) (nI i) (nI li) z := by
  unfold wc_X0_writeTo_60 wc_X0_writeTo_69
  refine lp_inv (fun j s => ∃ z' t bg, s = (nI t.length, bg, nI (10 ^ (8 - j)), nI j, z') ∧ fr [(2, 50)] z z' ∧ tx (tq_ai z' 50) t ∧ t.length ≤ len + j ∧ ((j < 9 ∨ 0 < i) → t = pt neg (pj P li j) ∧ bg = bi (decide (pj P li j ≠ 0))) ∧ ((j = 9 ∧ i = 0) → t = tn neg (pj P li j))) 9 ?_ ⟨z, pt neg P, _, by rw [hl]; rfl, fr_r, ht, by omega, fun _ => by rw [pj_0 hli]; exact ⟨rfl, rfl⟩, fun h => by omega⟩
  rintro j s hj ⟨z1, t, bg, rfl, f1, t1, len1, i1, i2⟩ B hB
  simp only
  unfold wb_X0_writeTo_69
  rw [i_9]
  refine ⟨fun h1 => ?_, fun h1 => ?_⟩
  · rw [i_le (by omega) (by omega)] at h1
    have : j = 9 := by omega
    subst this
    unfold wc_X0_writeTo_158
    intro v e
    rw [e]
    refine k z1 t f1 t1 len1 (fun q => ?_) (fun q => ?_) bg (fun q => ?_)
    · rw [(i1 (Or.inr q)).1, pj_9]
    · rw [i2 ⟨rfl, q⟩, pj_9]
    · rw [(i1 (Or.inr q)).2, pj_9]
  · rw [i_le (by omega) (by omega)] at h1
    have j9 : j < 9 := by omega
    obtain ⟨e1, e2⟩ := i1 (Or.inl j9)
    have pw := p10 ⟨j, by omega⟩
    have pw1 : (10 : Nat) ^ (8 - j) < 2147483648 := pw.1
    have pw0 : 0 < (10 : Nat) ^ (8 - j) := pw.2
    have dlt : li / 10 ^ (8 - j) < 2147483648 := Nat.lt_of_le_of_lt (Nat.div_le_self _ _) (by omega)
    rw [pk_div (by omega) pw0 pw1, i_10, pk_rem dlt (by omega) (by omega)]
    refine ⟨?_, fun v q => ?_⟩
    · rw [i_0, i_eq pw1 (by omega)]; omega
    subst q
    have dg10 : li / 10 ^ (8 - j) % 10 < 10 := Nat.mod_lt _ (by omega)
    have hs := pj_s (p := P) (li := li) j9
    -- on with the next sign
    have nx : ∀ z2 t2 bg2, fr [(2, 50)] z z2 → tx (tq_ai z2 50) t2 → t2.length ≤ len + (j + 1) → ((j + 1 < 9 ∨ 0 < i) → t2 = pt neg (pj P li (j + 1)) ∧ bg2 = bi (decide (pj P li (j + 1) ≠ 0))) → ((j + 1 = 9 ∧ i = 0) → t2 = tn neg (pj P li (j + 1))) → wc_X0_writeTo_135 B37 (fun b2 b3 b6 b7 z => B (b2, b3, b6, b7, z)) Q (nI t2.length) bg2 (nI i) (nI li) (nI (10 ^ (8 - j))) (nI j) z2 := by
      intro z2 t2 bg2 f2 q1 q2 q3 q4
      unfold wc_X0_writeTo_135
      rw [i_1, i_le pw1 (by omega)]
      refine ⟨fun h2 => ?_, fun h2 => ?_⟩
      · have j8 : j = 8 := (p10l ⟨j, j9⟩).mp h2
        unfold wc_X0_writeTo_150
        intro v q
        rw [i_1, i_add] at q
        subst q
        refine hB j9 _ ⟨z2, t2, bg2, ?_, f2, q1, q2, q3, q4⟩
        rw [j8]
      · have j8 : ¬ j = 8 := fun q => h2 ((p10l ⟨j, j9⟩).mpr q)
        have e5 : (10 : Nat) ^ (8 - j) / 10 = 10 ^ (8 - (j + 1)) := (p10s ⟨j, j9⟩).elim (fun q => q) (fun q => absurd q j8)
        rw [i_10, pk_div pw1 (by omega) (by omega), e5]
        unfold wc_X0_writeTo_150
        intro v q
        rw [i_1, i_add] at q
        subst q
        exact hB j9 _ ⟨z2, t2, bg2, rfl, f2, q1, q2, q3, q4⟩
    have wr : (0 < pj P li (j + 1) ∨ (i = 0 ∧ j = 8)) → wc_X0_writeTo_107 B37 (fun b2 b3 b6 b7 z => B (b2, b3, b6, b7, z)) Q (nI t.length) (nI i) (nI li) (nI (10 ^ (8 - j))) (nI j) (nI (li / 10 ^ (8 - j) % 10)) z1 := by
      intro hw
      unfold wc_X0_writeTo_107 wc_X0_writeTo_112
      refine ⟨fun q => (by cases q), fun _ => ?_⟩
      have c320 : Int32.ofNat 320 = nI 320 := rfl
      rw [c320, i_le (by omega) (by omega)]
      refine ⟨fun q => by omega, fun _ => ⟨i_in (by omega) (by omega), fun z2 e3 v e4 => ?_⟩⟩
      rw [i_cl (by omega), show (48 : Int32) = nI 48 from rfl, i_add, i_ch (by omega)] at e3
      rw [i_1, i_add] at e4
      subst e4
      have hlen2 : t.length + 1 = (t ++ [48 + li / 10 ^ (8 - j) % 10]).length := by rw [List.length_append]; rfl
      rw [hlen2]
      have newt : t ++ [48 + li / 10 ^ (8 - j) % 10] = tn neg (pj P li (j + 1)) := by
        rw [hs]
        by_cases q : 0 < 10 * pj P li j + li / 10 ^ (8 - j) % 10
        · rw [pt_a dg10 q, e1]
        · have q1 : pj P li j = 0 := by omega
          have q2 : li / 10 ^ (8 - j) % 10 = 0 := by omega
          rw [e1, q1, q2]
          unfold pt tn
          rw [if_pos rfl, List.append_nil, dg_1 (by omega)]
      refine nx z2 _ _ (by rw [e3]; exact fr_sai (by decide) f1) (tx_s t1 (fun x => by rw [e3, rw_aie, rw_upd])) (by rw [← hlen2]; omega) (fun q => ?_) (fun _ => newt)
      have hp : 0 < pj P li (j + 1) := by
        rcases hw with u | u
        · exact u
        · omega
      refine ⟨by rw [newt, pt_n hp], ?_⟩
      rw [decide_eq_true (by omega : pj P li (j + 1) ≠ 0)]; rfl
    have now : pj P li (j + 1) = 0 → ¬ (i = 0 ∧ j = 8) → wc_X0_writeTo_111 B37 (fun b2 b3 b6 b7 z => B (b2, b3, b6, b7, z)) Q (nI t.length) (nI i) (nI li) (nI (10 ^ (8 - j))) (nI j) (nI (li / 10 ^ (8 - j) % 10)) z1 := by
      intro h0 hn
      unfold wc_X0_writeTo_111 wc_X0_writeTo_112
      refine ⟨fun _ => ?_, fun q => absurd rfl q⟩
      refine nx z1 t _ f1 t1 (by omega) (fun _ => ?_) (fun q => absurd ⟨q.2, by omega⟩ hn)
      have q1 : pj P li j = 0 := by omega
      rw [h0, e1, q1]
      exact ⟨rfl, rfl⟩
    rw [e2, show (8 : Int32) = nI 8 from rfl, i_eq (by omega) (by omega)]
    refine ⟨fun h2 => wr (Or.inl ?_), fun h2 => ⟨fun h3 => wr (Or.inl ?_), fun h3 => ⟨fun h4 => now ?_ ?_, fun h4 => ⟨fun h5 => now ?_ ?_, fun h5 => wr (Or.inr ⟨?_, h5⟩)⟩⟩⟩⟩
    · rw [bi_n] at h2
      have := of_decide_eq_true h2
      omega
    · rw [i_0, i_eq (by omega) (by omega)] at h3
      omega
    · rw [bi_0] at h2
      have := of_decide_eq_false h2
      rw [i_0, i_eq (by omega) (by omega)] at h3
      omega
    · rw [i_0, i_eq (by omega) (by omega)] at h4
      omega
    · rw [bi_0] at h2
      have := of_decide_eq_false h2
      rw [i_0, i_eq (by omega) (by omega)] at h3
      omega
    · omega
    · rw [i_0, i_eq (by omega) (by omega)] at h4
      exact h4
theorem sq_writeTo {L : Nat → Nat} {u : Nat} {neg : Bool} (hb : bn L u z) (hn : tq_fi z 2946 = bi neg) (k : ∀ z', fr [(2, 50)] z z' → tx (tq_ai z' 50) (tn neg (bnum L u)) → (tn neg (bnum L u)).length ≤ 307 → Q (.inl (some (.int (nI (tn neg (bnum L u)).length)))) z') : wm_X0_writeTo z Q := by
  obtain ⟨u34, hu, hL⟩ := hb
  have main : ∀ z1, fr [(2, 50)] z z1 → tx (tq_ai z1 50) (pt neg 0) → wc_X0_writeTo_23 Q (nI (pt neg 0).length) z1 := by
    intro z1 f1 t1
    have hu1 : tq_fi z1 2945 = nI u := (fr_fi f1 (by decide)).trans hu
    have hl0 : (pt neg 0).length ≤ 1 := by
      unfold pt; rw [if_pos rfl, List.append_nil]
      split
      · exact Nat.le_refl 1
      · exact Nat.zero_le 1
    unfold wc_X0_writeTo_23
    rw [hu1]
    -- the first limb that is written
    obtain ⟨v, hv1, hv2, hv3⟩ : ∃ v, 1 ≤ v ∧ v ≤ 34 ∧ ((u = 0 ∧ v = 1) ∨ (0 < u ∧ v = u)) := by
      rcases Nat.eq_zero_or_pos u with q | q
      · exact ⟨1, by omega, by omega, Or.inl ⟨q, rfl⟩⟩
      · exact ⟨u, by omega, by omega, Or.inr ⟨q, rfl⟩⟩
    have mx : ∀ f : Int32 → tq_S → Prop, f (nI (v - 1)) z1 → wm_J9_max_7cf53 (nI u - (1 : Int32)) (0 : Int32) z1 (tq_wi f) := by
      intro f hf
      rcases hv3 with ⟨q1, q2⟩ | ⟨q1, q2⟩
      · subst q1; subst q2
        refine fn_iw sp_max ?_
        rw [if_pos (by decide +kernel)]
        exact hf
      · subst q2
        rw [i_1, pk_sub q1]
        refine fn_iw sp_max ?_
        rw [if_neg (i_n0 (by omega))]
        exact hf
    refine mx _ ?_
    let M : Nat → Nat := fun i => if u = 0 then 0 else L i
    have hM : ∀ i, M i = if u = 0 then 0 else L i := fun i => rfl
    have Mv : up M v 0 = bnum L u := by
      unfold bnum
      rcases hv3 with ⟨q1, q2⟩ | ⟨q1, q2⟩
      · subst q1; subst q2; rfl
      · subst q2
        have : M = L := by funext i; rw [hM, if_neg (by omega)]
        rw [this]
    have Mlt : ∀ i, i < v → M i < 1000000000 := by
      intro i hi
      rw [hM]
      split
      · omega
      · exact (hL i (by omega)).2
    unfold wc_X0_writeTo_37
    refine lp_inv (fun m s => ∃ z' t bg, s = (nI t.length, bg, (if m < v then nI (v - 1 - m) else -1 : Int32), z') ∧ fr [(2, 50)] z z' ∧ tx (tq_ai z' 50) t ∧ t.length ≤ 1 + 9 * m ∧ (m < v → t = pt neg (up M m (v - m)) ∧ bg = bi (decide (up M m (v - m) ≠ 0))) ∧ (m = v → t = tn neg (up M m (v - m)))) v ?_ ⟨z1, pt neg 0, bi false, by rw [if_pos (by omega)]; rfl, f1, t1, by omega, fun _ => ⟨rfl, rfl⟩, fun h => by omega⟩
    rintro m s hm ⟨z2, t, bg, rfl, f2, t2, l2, i1, i2⟩ B hB
    simp only
    unfold wb_X0_writeTo_37
    by_cases hmv : m < v
    · rw [if_pos hmv]
      refine ⟨fun h1 => absurd h1 (i_n0 (by omega)), fun _ => ?_⟩
      obtain ⟨e1, e2⟩ := i1 hmv
      have hu2 : tq_fi z2 2945 = nI u := (fr_fi f2 (by decide)).trans hu
      have ai2 : tq_ai z2 47 = tq_ai z 47 := fr_ai f2 (by decide)
      have go : wc_X0_writeTo_60 (fun b2 b3 b4 z => B (b2, b3, b4, z)) Q (nI t.length) (bi (decide (up M m (v - m) ≠ 0))) (nI (v - 1 - m)) (nI (M (v - 1 - m))) z2 := by
        refine sq_limb (neg := neg) (Mlt _ (by omega)) (by omega) (by omega) (by rw [← e1]; exact t2) (by rw [e1]) (fun z3 t' f3 q1 q2 q3 q4 bg' q5 => ?_)
        have ups : M (v - 1 - m) + 1000000000 * up M m (v - m) = up M (m + 1) (v - (m + 1)) := by
          have a1 : v - (m + 1) = v - 1 - m := by omega
          have a2 : v - m = v - 1 - m + 1 := by omega
          rw [a1, a2]; rfl
        rw [ups] at q3 q4 q5
        refine hB hmv _ ⟨z3, t', bg', ?_, fr_t f2 f3, q1, by omega, fun q => ⟨q3 (by omega), q5 (by omega)⟩, fun q => q4 (by omega)⟩
        by_cases q : m + 1 < v
        · rw [if_pos q, i_m1 (by omega)]
          have : v - 1 - m - 1 = v - 1 - (m + 1) := by omega
          rw [this]
        · rw [if_neg q]
          have : v - 1 - m = 0 := by omega
          rw [this]; rfl
      rw [hu2, e2, i_0, i_eq (by omega) (by omega)]
      refine ⟨fun h2 => ⟨i_in (by omega) (by omega), ?_⟩, fun h2 => ?_⟩
      · rw [i_cl (by omega), ai2, (hL _ (by omega)).1]
        have : M (v - 1 - m) = L (v - 1 - m) := by rw [hM, if_neg h2]
        rw [this] at go; exact go
      · have : M (v - 1 - m) = 0 := by rw [hM, if_pos h2]
        rw [this] at go; exact go
    · rw [if_neg hmv]
      have : m = v := by omega
      subst this
      refine ⟨fun _ => ?_, fun h1 => absurd (show (-1 : Int32) < 0 by decide +kernel) h1⟩
      have e := i2 rfl
      rw [Nat.sub_self, Mv] at e
      rw [e] at t2 l2 ⊢
      exact k z2 f2 t2 (by omega)
  unfold wm_X0_writeTo
  rw [hn]
  refine ⟨fun h1 => ?_, fun h1 => ⟨fun h2 => ?_, fun h2 z1 e1 v2 e2 => ?_⟩⟩
  · rw [bi_0] at h1
    have e : pt neg 0 = [] := by rw [h1]; rfl
    rw [e] at main
    exact main z fr_r tx_0
  · exact absurd h2 (by decide +kernel)
  · rw [bi_n] at h1
    have e : pt neg 0 = [45] := by rw [h1]; rfl
    rw [e] at main
    rw [e2]
    refine main z1 (by rw [e1]; exact fr_sai (by decide) fr_r) ?_
    have c45 : vp_nar .char (45 : Int32) = nI 45 := by decide +kernel
    rw [i_0, i_cl (by omega), c45] at e1
    exact tx_s (l := []) (c := 45) (A := tq_ai z 50) tx_0 (fun j => by rw [e1, rw_aie, rw_upd]; rfl)
end TEXT
