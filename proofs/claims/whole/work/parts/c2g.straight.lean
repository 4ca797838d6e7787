/-! ===== the number of exact covers: straight shapes, and all others ===== -/
/-- V lies in one row or in one column -/
def stV (V : Int → Int → Prop) : Prop := (∃ y0, ∀ x y, V x y → y = y0) ∨ ∃ x0, ∀ x y, V x y → x = x0
theorem stV_tl {V W : Int → Int → Prop} (t : tl V W) (h : stV W) : stV V := by
  obtain ⟨a, b, t⟩ := t
  have g : ∀ x y, V x y → W (x - a) (y - b) := fun x y u => (t _ _).mpr (by rw [Int.sub_add_cancel, Int.sub_add_cancel]; exact u)
  rcases h with ⟨y0, h⟩ | ⟨x0, h⟩
  · exact Or.inl ⟨y0 + b, fun x y u => by have := h _ _ (g x y u); omega⟩
  · exact Or.inr ⟨x0 + a, fun x y u => by have := h _ _ (g x y u); omega⟩
theorem stV_trn {V : Int → Int → Prop} (h : stV (trn V)) : stV V := by
  have g : ∀ x y, V x y → trn V (5 - y) x := fun x y u => by
    show V x (5 - (5 - y))
    rw [show 5 - (5 - y) = y by omega]; exact u
  rcases h with ⟨y0, h⟩ | ⟨x0, h⟩
  · exact Or.inr ⟨y0, fun x y u => h _ _ (g x y u)⟩
  · exact Or.inl ⟨5 - x0, fun x y u => by have := h _ _ (g x y u); omega⟩
theorem stV_mir {V : Int → Int → Prop} (h : stV (mir V)) : stV V := by
  have g : ∀ x y, V x y → mir V (5 - x) y := fun x y u => by
    show V (5 - (5 - x)) y
    rw [show 5 - (5 - x) = x by omega]; exact u
  rcases h with ⟨y0, h⟩ | ⟨x0, h⟩
  · exact Or.inl ⟨y0, fun x y u => h _ _ (g x y u)⟩
  · exact Or.inr ⟨5 - x0, fun x y u => by have := h _ _ (g x y u); omega⟩
theorem stV_tim {V : Int → Int → Prop} : ∀ n, stV (tim n V) → stV V
  | 0, h => h
  | n + 1, h => stV_tim n (stV_trn h)
theorem stV_mo {V : Int → Int → Prop} {m : Nat} (h : stV (mo m V)) : stV V := by
  unfold mo at h
  have h := stV_tim _ h
  by_cases q : m < 4
  · rw [if_pos q] at h; exact h
  · rw [if_neg q] at h; exact stV_mir h
theorem ln_ex {U : Int → Prop} {s : Nat} (h0 : ∃ a, U a) (hU : ∀ (a : Int) (d : Nat), 0 < d → d < s → (∀ i : Nat, i < d → U (a + i)) → U (a - 1) ∨ U (a + d)) : ∀ d : Nat, d ≤ s → ∃ a : Int, ∀ i : Nat, i < d → U (a + i)
  | 0, _ => ⟨0, fun i hi => absurd hi (Nat.not_lt_zero _)⟩
  | d + 1, h => by
    by_cases q : d = 0
    · obtain ⟨a, ha⟩ := h0
      refine ⟨a, fun i hi => ?_⟩
      rw [show a + (i : Int) = a by omega]; exact ha
    · obtain ⟨a, ha⟩ := ln_ex h0 hU d (by omega)
      rcases hU a d (by omega) (by omega) ha with u | u
      · refine ⟨a - 1, fun i hi => ?_⟩
        by_cases q2 : i = 0
        · rw [q2, show a - 1 + ((0 : Nat) : Int) = a - 1 by omega]; exact u
        · have := ha (i - 1) (by omega)
          rw [show a + ((i - 1 : Nat) : Int) = a - 1 + (i : Int) by omega] at this
          exact this
      · refine ⟨a, fun i hi => ?_⟩
        by_cases q2 : i = d
        · rw [q2]; exact u
        · exact ha i (by omega)
/-- a straight shape has the pattern of a line -/
theorem st_pat {T : Int64} (hw : wS T) (hh : hgp T) (hs : stV (bsh T)) {n : Nat} (hn : fb_ct (ct T) 64 = n) {l : List (Int × Int)} (hl : ∀ e ∈ l, ∃ i : Nat, i < n ∧ e = ((i : Int), 0)) : pat l (bsh T) := by
  have hc := hgp_cn hw hh
  obtain ⟨lo, l1, -⟩ := hh
  have v0 := (bsh_k (hw lo l1)).mpr l1
  generalize ((lo % 6 : Nat) : Int) = x1 at v0
  generalize ((lo / 6 : Nat) : Int) = y1 at v0
  rcases hs with ⟨y0, h⟩ | ⟨x0, h⟩
  · obtain ⟨a, ha⟩ := ln_ex (U := fun x => bsh T x y0) (s := n) ⟨x1, by rw [← h _ _ v0]; exact v0⟩ (fun a d d0 dn hd => by
      obtain ⟨c, hc1, b, hb, vb, ad⟩ := grow hc ((List.range d).map (fun (i : Nat) => (a + (i : Int), y0))) (fun e he => by
        obtain ⟨i, hi, rfl⟩ := List.mem_map.mp he
        exact hd i (List.mem_range.mp hi)) ⟨_, List.mem_map.mpr ⟨0, List.mem_range.mpr d0, rfl⟩⟩ (more hw _ (by rw [List.length_map, List.length_range, hn]; exact dn))
      obtain ⟨i, hi, rfl⟩ := List.mem_map.mp hc1
      have hi := List.mem_range.mp hi
      have yb := h _ _ vb
      have no : ∀ j : Nat, j < d → b.1 ≠ a + j := fun j hj e => hb (List.mem_map.mpr ⟨j, List.mem_range.mpr hj, Prod.ext e.symm yb.symm⟩)
      have ad : (b.1 = a + (i : Int) ∧ (b.2 = y0 + 1 ∨ b.2 = y0 - 1)) ∨ (b.2 = y0 ∧ (b.1 = a + (i : Int) + 1 ∨ b.1 = a + (i : Int) - 1)) := ad
      have eb : b.1 = a - 1 ∨ b.1 = a + d := by
        rcases ad with ⟨q1, q2⟩ | ⟨q1, q2 | q2⟩
        · omega
        · by_cases u : i + 1 < d
          · exact absurd (by omega) (no (i + 1) u)
          · omega
        · by_cases u : i = 0
          · omega
          · exact absurd (by omega) (no (i - 1) (by omega))
      rw [yb] at vb
      rcases eb with e | e
      · rw [e] at vb; exact Or.inl vb
      · rw [e] at vb; exact Or.inr vb) n (Nat.le_refl n)
    refine ⟨a, y0, (1, 0, 0, 1), by decide, fun e he => ?_⟩
    obtain ⟨i, hi, rfl⟩ := hl e he
    show bsh T (a + (i : Int) * 1 + 0 * 0) (y0 + (i : Int) * 0 + 0 * 1)
    rw [show a + (i : Int) * 1 + 0 * 0 = a + i by omega, show y0 + (i : Int) * 0 + 0 * 1 = y0 by omega]
    exact ha i hi
  · obtain ⟨a, ha⟩ := ln_ex (U := fun y => bsh T x0 y) (s := n) ⟨y1, by rw [← h _ _ v0]; exact v0⟩ (fun a d d0 dn hd => by
      obtain ⟨c, hc1, b, hb, vb, ad⟩ := grow hc ((List.range d).map (fun (i : Nat) => (x0, a + (i : Int)))) (fun e he => by
        obtain ⟨i, hi, rfl⟩ := List.mem_map.mp he
        exact hd i (List.mem_range.mp hi)) ⟨_, List.mem_map.mpr ⟨0, List.mem_range.mpr d0, rfl⟩⟩ (more hw _ (by rw [List.length_map, List.length_range, hn]; exact dn))
      obtain ⟨i, hi, rfl⟩ := List.mem_map.mp hc1
      have hi := List.mem_range.mp hi
      have xb := h _ _ vb
      have no : ∀ j : Nat, j < d → b.2 ≠ a + j := fun j hj e => hb (List.mem_map.mpr ⟨j, List.mem_range.mpr hj, Prod.ext xb.symm e.symm⟩)
      have ad : (b.1 = x0 ∧ (b.2 = a + (i : Int) + 1 ∨ b.2 = a + (i : Int) - 1)) ∨ (b.2 = a + (i : Int) ∧ (b.1 = x0 + 1 ∨ b.1 = x0 - 1)) := ad
      have eb : b.2 = a - 1 ∨ b.2 = a + d := by
        rcases ad with ⟨q1, q2 | q2⟩ | ⟨q1, q2⟩
        · by_cases u : i + 1 < d
          · exact absurd (by omega) (no (i + 1) u)
          · omega
        · by_cases u : i = 0
          · omega
          · exact absurd (by omega) (no (i - 1) (by omega))
        · omega
      rw [xb] at vb
      rcases eb with e | e
      · rw [e] at vb; exact Or.inl vb
      · rw [e] at vb; exact Or.inr vb) n (Nat.le_refl n)
    refine ⟨x0, a, (0, 1, 1, 0), by decide, fun e he => ?_⟩
    obtain ⟨i, hi, rfl⟩ := hl e he
    show bsh T (x0 + (i : Int) * 0 + 0 * 1) (a + (i : Int) * 1 + 0 * 0)
    rw [show x0 + (i : Int) * 0 + 0 * 1 = x0 by omega, show a + (i : Int) * 1 + 0 * 0 = a + i by omega]
    exact ha i hi
/-- a shape and the one turned half round have, in their first rows, no more than all cells -/
theorem opp {W : Int → Int → Prop} {A1 A2 : Int64} (h1 : nz W A1) (h2 : nz (trn (trn W)) A2) (ns : ¬ stV W) : fb_ct (ct A1) 6 + fb_ct (ct A2) 6 ≤ fb_ct (ct A1) 64 := by
  obtain ⟨w1, ⟨a, b, t1⟩, n1⟩ := h1
  obtain ⟨w2, ⟨c, d, t2⟩, n2⟩ := h2
  have g : ∀ x y, bsh A2 x y ↔ bsh A1 (5 - c - a - x) (5 - d - b - y) := fun x y => by
    rw [t2, t1]
    show W (5 - (x + c)) (5 - (y + d)) ↔ _
    rw [show 5 - c - a - x + a = 5 - (x + c) by omega, show 5 - d - b - y + b = 5 - (y + d) by omega]
  generalize 5 - c - a = α at g
  generalize 5 - d - b = β at g
  have b0 : β ≠ 0 := fun e => ns (stV_tl ⟨a, b, t1⟩ (Or.inl ⟨0, fun x y u => by
    have u2 := (g (α - x) (β - y)).mpr (by rw [show α - (α - x) = x by omega, show β - (β - y) = y by omega]; exact u)
    have p1 := (n1.1 _ _ u).2
    have p2 := (n2.1 _ _ u2).2
    omega⟩))
  rw [show fb_ct (ct A1) 64 = fb_ct (ct A1) 6 + fb_ct (fun k => ct A1 (6 + k)) 58 from fb_ct_split _ 6 58]
  refine Nat.add_le_add_left ?_ _
  have cell : ∀ i, i < 6 → ct A2 i = true → bsh A1 (α - (i : Int)) β := fun i hi hc => by
    have u : bsh A2 (i : Int) 0 := ⟨by omega, by omega, by omega, by omega, by rw [show (6 * (0 : Int) + (i : Int)).toNat = i by omega]; exact hc⟩
    have := (g _ _).mp u
    rw [Int.sub_zero] at this
    exact this
  refine cinj (g := fun i => (6 * β + (α - (i : Int))).toNat - 6) (fun i hi hc => ?_) (fun i j hi hj hc hc' e => ?_)
  · obtain ⟨c1, c2, c3, c4, c5⟩ := cell i hi hc
    refine ⟨by omega, ?_⟩
    show ct A1 (6 + ((6 * β + (α - (i : Int))).toNat - 6)) = true
    rw [show 6 + ((6 * β + (α - (i : Int))).toNat - 6) = (6 * β + (α - (i : Int))).toNat by omega]
    exact c5
  · obtain ⟨c1, c2, c3, c4, c5⟩ := cell i hi hc
    obtain ⟨d1, d2, d3, d4, d5⟩ := cell j hj hc'
    have e : (6 * β + (α - (i : Int))).toNat - 6 = (6 * β + (α - (j : Int))).toNat - 6 := e
    omega
