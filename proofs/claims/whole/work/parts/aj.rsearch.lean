/-! ===== exact covers: the reference's search ===== -/
section RSE
variable {w h : Nat} {r : Bool} {S : Nat → Bool} {z : tq_S} {Q : tq_O → tq_S → Prop} {K P : Nat} {C M Z : Nat → Nat} {A : Nat → Int64} {f : Nat → plc}
def FSr : List (Nat × Nat) := [(0, 3299), (2, 73), (2, 74), (0, 3303), (2, 75), (0, 3305)]
/-- the cells that are left -/
def rst (S : Nat → Bool) (c : Nat) (X : Int64) : Prop := ∀ j, j < 64 → ct X j = (S j && !c.testBit (fb_ct S j))
theorem rst_0 {c : Nat} {X : Int64} (hX : rst S c X) (hc : c < 2 ^ fb_ct S 64) (hn : fb_ct S 64 ≤ 24) : X = 0 ↔ fb_ct S 64 ≤ tro c := by
  obtain ⟨o, o24, oe, o1, o2⟩ := tro_ex c
  constructor
  · intro e
    refine Nat.le_of_not_lt fun u => ?_
    rw [oe] at u
    obtain ⟨k1, k2, k3⟩ := kth_ok (p := S) u
    have := hX _ k1
    rw [e, ct_0, k2, k3, o2 (by omega)] at this
    cases this
  · intro u
    refine ct_n0.mpr fun j hj => ?_
    rw [hX j hj]
    cases e : S j
    · rfl
    · have := ct_in hj e
      rw [o1 _ (by omega)]; rfl
theorem rst_l {c : Nat} {X : Int64} (hX : rst S c X) (hu : tro c < fb_ct S 64) (hn : fb_ct S 64 ≤ 24) : ct X (kth S (tro c)) = true ∧ ∀ j, j < kth S (tro c) → ct X j = false := by
  obtain ⟨o, o24, oe, o1, o2⟩ := tro_ex c
  obtain ⟨k1, k2, k3⟩ := kth_ok (p := S) hu
  refine ⟨by rw [hX _ k1, k2, k3, oe, o2 (by omega)]; rfl, fun j hj => ?_⟩
  rw [hX j (by omega)]
  cases e : S j
  · rfl
  · have := idx_lt e hj
    rw [o1 _ (by omega)]; rfl
theorem rst_p {c m : Nat} {X Y : Int64} (hX : rst S c X) (hY : exP S m Y) (hm : m < 2 ^ fb_ct S 64) : (Y &&& (X ^^^ (-1 : Int64))) = 0 ↔ c &&& m = 0 := by
  constructor
  · intro e
    refine Nat.eq_of_testBit_eq fun b => ?_
    rw [Nat.zero_testBit, Nat.testBit_and]
    cases q : m.testBit b
    · rw [Bool.and_false]
    · have bn := tb_in hm q
      obtain ⟨k1, k2, k3⟩ := kth_ok (p := S) bn
      have := ct_n0.mp e _ k1
      rw [ct_and, ct_not, decide_eq_true k1, Bool.true_and, hY _ k1, hX _ k1, k2, k3, q] at this
      simpa using this
  · intro e
    refine ct_n0.mpr fun j hj => ?_
    rw [ct_and, ct_not, decide_eq_true hj, Bool.true_and, hY j hj, hX j hj]
    have := congrArg (fun x => Nat.testBit x (fb_ct S j)) e
    rw [Nat.zero_testBit, Nat.testBit_and] at this
    cases a : S j <;> cases b : m.testBit (fb_ct S j) <;> cases d : c.testBit (fb_ct S j) <;> rw [b, d] at this <;> first | rfl | exact absurd this (by decide)
theorem rst_n {c m : Nat} {X Y : Int64} (hX : rst S c X) (hY : exP S m Y) : rst S (c ||| m) (X &&& (Y ^^^ (-1 : Int64))) := fun j hj => by
  rw [ct_and, ct_not, decide_eq_true hj, Bool.true_and, hY j hj, hX j hj, Nat.testBit_or]
  cases S j <;> cases m.testBit (fb_ct S j) <;> cases c.testBit (fb_ct S j) <;> rfl
/-- which cover is wanted: none, or the one of a number -/
def wnt (Md : Option Nat) (z : tq_S) : Prop := match Md with
  | none => tq_fi z 3300 = -1
  | some V => tq_fi z 3300 = nI V ∧ V < 2147483648
/-- what is found: the first d places are as chosen, then those of L -/
def fnd (d : Nat) (cp : Nat → Nat) (L : List Nat) (z : tq_S) : Prop := tq_fi z 3305 = nI (d + L.length) ∧ ∀ j, j < d + L.length → tq_ai z 75 j = nI (if j < d then cp j else L.getD (j - d) 0)
theorem fnd_c {d : Nat} {cp cp' : Nat → Nat} {L : List Nat} {i : Nat} (h1 : ∀ j, j < d → cp' j = cp j) (h2 : cp' d = i) (hf : fnd (d + 1) cp' L z) : fnd d cp (i :: L) z := by
  obtain ⟨a, b⟩ := hf
  refine ⟨by rw [a, List.length_cons]; congr 1; omega, fun j hj => ?_⟩
  rw [List.length_cons] at hj
  rw [b j (by omega)]
  congr 1
  by_cases u : j < d
  · rw [if_pos u, if_pos (by omega), h1 j u]
  · rw [if_neg u]
    by_cases v : j = d
    · rw [if_pos (by omega), v, h2, Nat.sub_self]; rfl
    · rw [if_neg (by omega), show j - d = (j - (d + 1)) + 1 by omega]; rfl
/-- what a search leaves behind -/
def aft (Md : Option Nat) (v N d : Nat) (cp : Nat → Nat) (L : Nat → List Nat) (z z' : tq_S) : Prop := match Md with
  | none => tq_fi z' 3299 = nI (v + N)
  | some V => (v + N ≤ V ∧ tq_fi z' 3299 = nI (v + N) ∧ tq_fi z' 3305 = tq_fi z 3305 ∧ tq_ai z' 75 = tq_ai z 75) ∨ (V < v + N ∧ V + 1 < 2147483648 ∧ tq_fi z' 3299 = nI (V + 1) ∧ fnd d cp (L (V - v)) z')
/-- what holds before a search -/
def bef (K : Nat) (l : Nat → Nat) (d v : Nat) (cp : Nat → Nat) (z : tq_S) : Prop := (∀ k, k < K → tq_ai z 73 k = nI (l k) ∧ l k < 16) ∧ tq_fi z 3303 = nI d ∧ (∀ j, j < d → tq_ai z 74 j = nI (cp j)) ∧ tq_fi z 3299 = nI v
theorem i_nm1 {V : Nat} (hV : V < 2147483648) : ¬ nI V = -1 := fun e => by
  have := congrArg Int32.toInt e
  rw [i_ti hV, show (-1 : Int32).toInt = -1 from by decide +kernel] at this
  omega
/-- an end -/
theorem sq_leaf {Md : Option Nat} {l : Nat → Nat} {d v : Nat} {cp : Nat → Nat} {R : Int64 → tq_S → (tq_O → tq_S → Prop) → Prop} {L : Nat → List Nat} (hL : L 0 = []) (hw : wnt Md z) (hd : d ≤ 8) (hb : bef K l d v cp z) (hv : ∀ V, Md = some V → v ≤ V ∧ (V + 1 < 2147483648 ∨ v + 1 ≤ V)) (kk : ∀ z', fr FSr z z' → (∀ k, k < K → tq_ai z' 73 k = nI (l k)) → tq_fi z' 3303 = nI d → (∀ j, j < d → tq_ai z' 74 j = nI (cp j)) → aft Md v 1 d cp L z z' → Q (.inl none) z') : wc_X12_search_20 R Q z := by
  obtain ⟨b1, b2, b3, b4⟩ := hb
  unfold wc_X12_search_20
  have copy : (∀ z1, fr [(2, 75), (0, 3305)] z z1 → fnd d cp [] z1 → wc_X12_search_67 R Q z1) → wc_X12_search_33 R Q 0 z := by
    intro kc
    unfold wc_X12_search_33
    refine lp_inv (fun j st => ∃ z1, st = (nI j, z1) ∧ fr [(2, 75), (0, 3305)] z z1 ∧ ∀ j', j' < j → tq_ai z1 75 j' = nI (cp j')) d ?_ ⟨z, rfl, fr_r, fun j' hj => absurd hj (Nat.not_lt_zero _)⟩
    rintro j st hj ⟨z1, rfl, f1, a1⟩ B hB
    simp only
    unfold wb_X12_search_33
    rw [fr_fi f1 (by decide), b2, i_le (by omega) (by omega)]
    refine ⟨fun q => ?_, fun q => ⟨i_in (by omega) (by omega), i_in (by omega) (by omega), fun z2 e2 v2 e3 => ?_⟩⟩
    · have : j = d := by omega
      subst this
      unfold wc_X12_search_59
      intro z2 e2
      refine kc z2 (by rw [e2]; exact fr_sfi (by decide) f1) ⟨?_, fun j' hj' => ?_⟩
      · rw [e2]
        show tq_fi z1 3303 = _
        rw [fr_fi f1 (by decide), b2]; rfl
      · rw [List.length_nil, Nat.add_zero] at hj'
        rw [if_pos hj', e2]
        exact a1 j' hj'
    · rw [i_cl (by omega), fr_ai (k := 74) f1 (by decide), b3 j (by omega)] at e2
      rw [i_1, i_add] at e3
      subst e3
      refine hB (by omega) _ ⟨z2, rfl, by rw [e2]; exact fr_sai (by decide) f1, fun j' hj' => ?_⟩
      rw [e2, rw_aie, rw_upd]
      by_cases u : j' = j
      · rw [if_pos u, u]
      · rw [if_neg u]; exact a1 j' (by omega)
  have up1 : ∀ z1, fr [(2, 75), (0, 3305)] z z1 → (∀ z2, fr [(0, 3299)] z1 z2 → tq_fi z2 3299 = nI (v + 1) → Q (.inl none) z2) → wc_X12_search_67 R Q z1 := by
    intro z1 f1 k2
    unfold wc_X12_search_67
    intro z2 e2
    refine k2 z2 (by rw [e2]; exact fr_sfi (by decide) fr_r) ?_
    rw [e2]
    show tq_fi z1 3299 + 1 = _
    rw [fr_fi f1 (by decide), b4, i_1, i_add]
  have fin : ∀ z1 z2, fr [(2, 75), (0, 3305)] z z1 → fr [(0, 3299)] z1 z2 → aft Md v 1 d cp L z z2 → Q (.inl none) z2 := by
    intro z1 z2 f1 f2 ha
    have f12 : fr [(2, 75), (0, 3305), (0, 3299)] z z2 := fr_t (fr_m (by decide) f1) (fr_m (by decide) f2)
    refine kk z2 (fr_m (by decide) f12) (fun k hk => by rw [fr_ai f12 (by decide)]; exact (b1 k hk).1) (by rw [fr_fi f12 (by decide)]; exact b2) (fun j hj => by rw [fr_ai f12 (by decide)]; exact b3 j hj) ha
  cases Md with
  | none =>
    refine ⟨fun _ => up1 z fr_r (fun z2 f2 e2 => fin z z2 fr_r f2 e2), fun _ => copy (fun z1 f1 _ => up1 z1 f1 (fun z2 f2 e2 => fin z1 z2 f1 f2 e2))⟩
  | some V =>
    obtain ⟨h1, h2⟩ := hw
    obtain ⟨v1, v2⟩ := hv V rfl
    rw [b4, h1, i_eq (by omega) (by omega)]
    refine ⟨fun q => up1 z fr_r (fun z2 f2 e2 => fin z z2 fr_r f2 (Or.inl ⟨by omega, e2, fr_fi f2 (by decide), fr_ai f2 (by decide)⟩)), fun q => copy (fun z1 f1 hf => up1 z1 f1 (fun z2 f2 e2 => fin z1 z2 f1 f2 (Or.inr ⟨by omega, by omega, by rw [e2, q], ?_⟩)))⟩
    rw [q, Nat.sub_self, hL]
    exact ⟨by rw [fr_fi f2 (by decide)]; exact hf.1, fun j hj => by rw [fr_ai f2 (by decide)]; exact hf.2 j hj⟩
end RSE
