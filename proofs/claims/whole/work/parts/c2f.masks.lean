/-! ===== the number of exact covers: a shape with a pattern is one of a few ===== -/
def bmk : List Nat → Nat
  | [] => 0
  | a :: l => 2 ^ a ||| bmk l
theorem bmk_t (j : Nat) : ∀ l, (bmk l).testBit j = decide (j ∈ l)
  | [] => by rw [bmk, Nat.zero_testBit]; exact (decide_eq_false (List.not_mem_nil)).symm
  | a :: l => by
    rw [bmk, Nat.testBit_or, Nat.testBit_two_pow, bmk_t j l, Bool.eq_iff_iff]
    simp only [Bool.or_eq_true, decide_eq_true_eq, List.mem_cons]
    constructor
    · rintro (e | e)
      · exact Or.inl e.symm
      · exact Or.inr e
    · rintro (e | e)
      · exact Or.inl e.symm
      · exact Or.inr e
theorem nd_ct {n : Nat} : ∀ {l : List Nat}, l.Nodup → (∀ a ∈ l, a < n) → fb_ct (fun j => decide (j ∈ l)) n = l.length
  | [], _, _ => fb_ct_zero.mpr (fun k _ => decide_eq_false List.not_mem_nil)
  | a :: l, h, hb => by
    obtain ⟨h1, h2⟩ := List.nodup_cons.mp h
    have ih := nd_ct h2 (fun b hb' => hb b (List.mem_cons_of_mem _ hb'))
    have u := ct_ex (P := fun j => decide (j ∈ a :: l)) (hb a (List.mem_cons_self ..)) (decide_eq_true (List.mem_cons_self ..))
    rw [List.length_cons, ← u, ← ih]
    refine congrArg (· + 1) (fb_ct_cong (fun k _ => ?_))
    rw [Bool.eq_iff_iff]
    simp only [Bool.and_eq_true, Bool.not_eq_true', decide_eq_true_eq, decide_eq_false_iff_not, List.mem_cons]
    constructor
    · rintro ⟨e | e, ne⟩
      · exact absurd e ne
      · exact e
    · intro e
      exact ⟨Or.inr e, fun q => h1 (q ▸ e)⟩
theorem ct_sat {p q : Nat → Bool} {n : Nat} (h : ∀ j, j < n → p j = true → q j = true) (hn : fb_ct q n ≤ fb_ct p n) : ∀ j, j < n → q j = true → p j = true := fun j hj hq => by
  cases e : p j with
  | true => rfl
  | false =>
    have u := ct_ex hj hq
    have : fb_ct p n ≤ fb_ct (fun i => q i && !decide (i = j)) n := fb_ct_sub (fun i hi hp => by
      rw [h i hi hp, decide_eq_false (fun u => by rw [u, e] at hp; cases hp)]; rfl)
    omega
/-- the places of a pattern's cells -/
def ppt (l : List (Int × Int)) (x y : Int) (F : Int × Int × Int × Int) : List (Int × Int) := l.map (fun e => (x + e.1 * F.1 + e.2 * F.2.2.1, y + e.1 * F.2.1 + e.2 * F.2.2.2))
def ibx (P : List (Int × Int)) : Bool := P.all (fun e => decide (0 ≤ e.1 ∧ e.1 < 6 ∧ 0 ≤ e.2 ∧ e.2 < 6))
def pnu (P : List (Int × Int)) : List Nat := P.map (fun e => (6 * e.2 + e.1).toNat)
def mchk (l : List (Int × Int)) (ms : List Nat) : Bool := (List.range 6).all (fun x => (List.range 6).all (fun y => fr8.all (fun F => !ibx (ppt l x y F) || (decide (pnu (ppt l x y F)).Nodup && (!((ppt l x y F).any (fun e => decide (e.1 = 0)) && (ppt l x y F).any (fun e => decide (e.2 = 0))) || decide (bmk (pnu (ppt l x y F)) ∈ ms))))))
theorem pat_msk {A : Int64} {l : List (Int × Int)} {ms : List Nat} (h0 : (0, 0) ∈ l) (wA : wS A) (nA : nmz (bsh A)) (cA : fb_ct (ct A) 64 = l.length) (hp : pat l (bsh A)) (hk : mchk l ms = true) : ∃ q, q < ms.length ∧ A = lN (ms.getD q 0) := by
  obtain ⟨x, y, F, hF, hv⟩ := hp
  have vb := hv (0, 0) h0
  simp only [Int.zero_mul, Int.add_zero] at vb
  obtain ⟨X, rfl⟩ := Int.eq_ofNat_of_zero_le vb.1
  obtain ⟨Y, rfl⟩ := Int.eq_ofNat_of_zero_le vb.2.2.1
  have hX : X < 6 := by have := vb.2.1; omega
  have hY : Y < 6 := by have := vb.2.2.2.1; omega
  have ck := List.all_eq_true.mp (List.all_eq_true.mp (List.all_eq_true.mp hk X (List.mem_range.mpr hX)) Y (List.mem_range.mpr hY)) F hF
  have hvP : ∀ e ∈ ppt l X Y F, bsh A e.1 e.2 := fun e he => by
    obtain ⟨e', he', rfl⟩ := List.mem_map.mp he
    exact hv e' he'
  have ib : ibx (ppt l X Y F) = true := List.all_eq_true.mpr (fun e he => decide_eq_true (by
    obtain ⟨a, b, c, d, -⟩ := hvP e he
    exact ⟨a, b, c, d⟩))
  have lP : (ppt l X Y F).length = l.length := List.length_map ..
  rw [ib] at ck
  generalize ppt l X Y F = P at ck hvP ib lP
  have ck : (decide (pnu P).Nodup && (!(P.any (fun e => decide (e.1 = 0)) && P.any (fun e => decide (e.2 = 0))) || decide (bmk (pnu P) ∈ ms))) = true := ck
  obtain ⟨nd, ck⟩ := Bool.and_eq_true_iff.mp ck
  have nd := of_decide_eq_true nd
  have inN : ∀ j ∈ pnu P, ct A j = true ∧ j < 36 := fun j hj => by
    obtain ⟨e, he, rfl⟩ := List.mem_map.mp hj
    obtain ⟨a, b, c, d, u⟩ := hvP e he
    exact ⟨u, by omega⟩
  have cN : fb_ct (fun j => decide (j ∈ pnu P)) 64 = l.length := by
    rw [nd_ct nd (fun a ha => by have := (inN a ha).2; omega)]
    unfold pnu
    rw [List.length_map, lP]
  have all : ∀ j, j < 64 → ct A j = true → j ∈ pnu P := fun j hj hc => of_decide_eq_true (ct_sat (p := fun j => decide (j ∈ pnu P)) (q := ct A) (n := 64) (fun j _ h => (inN j (of_decide_eq_true h)).1) (by rw [cN, cA]; exact Nat.le_refl _) j hj hc)
  have onP : ∀ x y, bsh A x y → ∃ e ∈ P, e.1 = x ∧ e.2 = y := fun x y u => by
    obtain ⟨a, b, c, d, v⟩ := u
    obtain ⟨e, he, en⟩ := List.mem_map.mp (all _ (by omega) v)
    have := of_decide_eq_true (List.all_eq_true.mp ib e he)
    exact ⟨e, he, by omega, by omega⟩
  have ax : P.any (fun e => decide (e.1 = 0)) = true := by
    obtain ⟨y', u⟩ := nA.2.1
    obtain ⟨e, he, e1, -⟩ := onP _ _ u
    exact List.any_eq_true.mpr ⟨e, he, decide_eq_true e1⟩
  have ay : P.any (fun e => decide (e.2 = 0)) = true := by
    obtain ⟨x', u⟩ := nA.2.2
    obtain ⟨e, he, -, e2⟩ := onP _ _ u
    exact List.any_eq_true.mpr ⟨e, he, decide_eq_true e2⟩
  rw [ax, ay] at ck
  have im := of_decide_eq_true (show decide (bmk (pnu P) ∈ ms) = true from ck)
  have eA : A = lN (bmk (pnu P)) := ct_ext (fun i hi => by
    rw [ct_lN, decide_eq_true hi, Bool.true_and, bmk_t, Bool.eq_iff_iff, decide_eq_true_eq]
    exact ⟨all i hi, fun u => (inN i u).1⟩)
  obtain ⟨q, eq⟩ := List.mem_iff_getElem?.mp im
  refine ⟨q, (List.getElem?_eq_some_iff.mp eq).1, ?_⟩
  rw [eA, List.getD_eq_getElem?_getD, eq]
  rfl
/-- the shapes of each pattern -/
def mss3 : List (List Nat) := [[7, 4161], [67, 131, 193, 194]]
def mss4 : List (List Nat) := [[15, 266305], [195], [135, 450, 4289, 8386], [198, 387, 4290, 8385], [71, 263, 449, 452, 4163, 8323, 12353, 12418]]
def ln5 : List (Int × Int) := [(0, 0), (1, 0), (2, 0), (3, 0), (4, 0)]
def ln6 : List (Int × Int) := [(0, 0), (1, 0), (2, 0), (3, 0), (4, 0), (5, 0)]
theorem mchk_3 : ∀ q, q < 2 → mchk (pts3.getD q []) (mss3.getD q []) = true := by decide +kernel
theorem mchk_4 : ∀ q, q < 5 → mchk (pts4.getD q []) (mss4.getD q []) = true := by decide +kernel
theorem mchk_5 : mchk ln5 [31, 17043521] = true := by decide +kernel
theorem mchk_6 : mchk ln6 [63, 1090785345] = true := by decide +kernel
