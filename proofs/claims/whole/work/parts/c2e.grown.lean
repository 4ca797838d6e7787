/-! ===== the number of exact covers: shapes of three and four cells ===== -/
def dirs4 : List (Int × Int) := [(1, 0), (-1, 0), (0, 1), (0, -1)]
def nxt (r : List (Int × Int)) : List (Int × Int) := (r.flatMap (fun a => dirs4.map (fun d => (a.1 + d.1, a.2 + d.2)))).filter (fun b => decide (b ∉ r))
def lvs : Nat → List (List (Int × Int))
  | 0 => [[(0, 0)]]
  | n + 1 => (lvs n).flatMap (fun r => (nxt r).map (fun b => b :: r))
theorem lvs_ex {T : Int64} (hw : wS T) (hc : cnV (bsh T)) {x y : Int} (v : bsh T x y) : ∀ n, n < fb_ct (ct T) 64 → ∃ r ∈ lvs n, r.length = n + 1 ∧ ∀ e ∈ r, bsh T (x + e.1) (y + e.2)
  | 0, _ => ⟨[(0, 0)], List.mem_singleton.mpr rfl, rfl, fun e he => by
      rw [List.mem_singleton.mp he]
      show bsh T (x + 0) (y + 0)
      rw [Int.add_zero, Int.add_zero]; exact v⟩
  | n + 1, h => by
    obtain ⟨r, hr, hl, hv⟩ := lvs_ex hw hc v n (by omega)
    obtain ⟨a, ha, b, hb, vb, ad⟩ := grow hc (r.map (fun e => (x + e.1, y + e.2))) (fun e he => by
      obtain ⟨e', he', rfl⟩ := List.mem_map.mp he
      exact hv e' he') (by
      cases r with
      | nil => cases hl
      | cons e r => exact ⟨_, List.mem_map.mpr ⟨e, List.mem_cons_self .., rfl⟩⟩) (more hw _ (by rw [List.length_map, hl]; exact h))
    obtain ⟨e, he, rfl⟩ := List.mem_map.mp ha
    have nb : (b.1 - x, b.2 - y) ∉ r := fun u => hb (List.mem_map.mpr ⟨_, u, Prod.ext (by show x + (b.1 - x) = b.1; omega) (by show y + (b.2 - y) = b.2; omega)⟩)
    have dn : ∃ d ∈ dirs4, (b.1 - x, b.2 - y) = (e.1 + d.1, e.2 + d.2) := by
      rcases ad with ⟨q1, q2 | q2⟩ | ⟨q1, q2 | q2⟩
      · exact ⟨(0, 1), by decide, Prod.ext (by show b.1 - x = e.1 + 0; omega) (by show b.2 - y = e.2 + 1; omega)⟩
      · exact ⟨(0, -1), by decide, Prod.ext (by show b.1 - x = e.1 + 0; omega) (by show b.2 - y = e.2 + -1; omega)⟩
      · exact ⟨(1, 0), by decide, Prod.ext (by show b.1 - x = e.1 + 1; omega) (by show b.2 - y = e.2 + 0; omega)⟩
      · exact ⟨(-1, 0), by decide, Prod.ext (by show b.1 - x = e.1 + -1; omega) (by show b.2 - y = e.2 + 0; omega)⟩
    obtain ⟨d, hd, ed⟩ := dn
    refine ⟨(b.1 - x, b.2 - y) :: r, List.mem_flatMap.mpr ⟨r, hr, List.mem_map.mpr ⟨_, List.mem_filter.mpr ⟨List.mem_flatMap.mpr ⟨e, he, List.mem_map.mpr ⟨d, hd, ed.symm⟩⟩, decide_eq_true nb⟩, rfl⟩⟩, by rw [List.length_cons, hl], fun e' he' => ?_⟩
    rcases List.mem_cons.mp he' with q | q
    · rw [q]
      show bsh T (x + (b.1 - x)) (y + (b.2 - y))
      rw [show x + (b.1 - x) = b.1 by omega, show y + (b.2 - y) = b.2 by omega]
      exact vb
    · exact hv e' q
def pts3 : List (List (Int × Int)) := [[(0, 0), (1, 0), (2, 0)], [(0, 0), (1, 0), (0, 1)]]
def pts4 : List (List (Int × Int)) := [[(0, 0), (1, 0), (2, 0), (3, 0)], [(0, 0), (1, 0), (0, 1), (1, 1)], [(0, 0), (1, 0), (2, 0), (1, 1)], [(0, 0), (1, 0), (1, 1), (2, 1)], [(0, 0), (1, 0), (2, 0), (0, 1)]]
def pchk (ps : List (List (Int × Int))) (r : List (Int × Int)) : Bool := ps.any (fun l => fr8.any (fun F => r.any (fun b => l.all (fun e => decide ((b.1 + e.1 * F.1 + e.2 * F.2.2.1, b.2 + e.1 * F.2.1 + e.2 * F.2.2.2) ∈ r)))))
theorem pchk_3 : (lvs 2).all (pchk pts3) = true := by decide +kernel
theorem pchk_4 : (lvs 3).all (pchk pts4) = true := by decide +kernel
theorem pat_ex {T : Int64} (hw : wS T) (hh : hgp T) {n : Nat} (hn : n < fb_ct (ct T) 64) {ps : List (List (Int × Int))} (hp : (lvs n).all (pchk ps) = true) : ∃ l ∈ ps, pat l (bsh T) := by
  have hc := hgp_cn hw hh
  obtain ⟨lo, l1, -⟩ := hh
  obtain ⟨r, hr, -, hv⟩ := lvs_ex hw hc ((bsh_k (hw lo l1)).mpr l1) n hn
  have := List.all_eq_true.mp hp r hr
  unfold pchk at this
  obtain ⟨l, hl, this⟩ := List.any_eq_true.mp this
  obtain ⟨F, hF, this⟩ := List.any_eq_true.mp this
  obtain ⟨b, hb, this⟩ := List.any_eq_true.mp this
  refine ⟨l, hl, ((lo % 6 : Nat) : Int) + b.1, ((lo / 6 : Nat) : Int) + b.2, F, hF, fun e he => ?_⟩
  have := hv _ (of_decide_eq_true (List.all_eq_true.mp this e he))
  simp only at this
  rw [show ((lo % 6 : Nat) : Int) + b.1 + e.1 * F.1 + e.2 * F.2.2.1 = ((lo % 6 : Nat) : Int) + (b.1 + e.1 * F.1 + e.2 * F.2.2.1) by omega, show ((lo / 6 : Nat) : Int) + b.2 + e.1 * F.2.1 + e.2 * F.2.2.2 = ((lo / 6 : Nat) : Int) + (b.2 + e.1 * F.2.1 + e.2 * F.2.2.2) by omega]
  exact this
