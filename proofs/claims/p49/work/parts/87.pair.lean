/-! ===== the class's search for a free light cell ===== -/
theorem ct_ng (a : Int64) {i : Nat} (hi : i < 64) : ct (-a) i = (ct a i ^^ decide (∃ j, j < i ∧ ct a j = true)) := by
  show (-a.toBitVec).getLsbD i = _
  rw [BitVec.getLsbD_neg, decide_eq_true hi, Bool.true_and]; rfl
theorem ct_lo {a : Int64} {l : Nat} (h1 : ct a l = true) (h2 : ∀ j, j < l → ct a j = false) {i : Nat} (hi : i < 64) : ct ((a ^^^ (-1 : Int64)) &&& (a - 1)) i = decide (i < l) ∧ ct (a &&& (a - 1)) i = (if i = l then false else ct a i) := by
  rw [ct_and, ct_and, ct_not, ct_pred a hi, ct_ng a hi, decide_eq_true hi, Bool.true_and]
  by_cases q : i < l
  · have n : ¬ ∃ j, j < i ∧ ct a j = true := fun ⟨j, u, v⟩ => by rw [h2 j (by omega)] at v; cases v
    rw [h2 i q, decide_eq_false n, decide_eq_true q, if_neg (by omega)]; exact ⟨rfl, rfl⟩
  · by_cases q2 : i = l
    · have n : ¬ ∃ j, j < i ∧ ct a j = true := fun ⟨j, u, v⟩ => by rw [h2 j (by omega)] at v; cases v
      rw [q2] at n ⊢
      rw [h1, decide_eq_false n, decide_eq_false (by omega), if_pos rfl]; exact ⟨rfl, rfl⟩
    · have n : ∃ j, j < i ∧ ct a j = true := ⟨l, by omega, h1⟩
      rw [decide_eq_true n, decide_eq_false q, if_neg q2]
      cases ct a i <;> exact ⟨rfl, rfl⟩
section PAIR
variable {w h : Nat} {r : Bool} {S : Nat → Bool} {z : tq_S} {Q : tq_O → tq_S → Prop}
theorem sq_lowest {a : Int64} (ha : ¬ a = 0) (k : ∀ l, l < 64 → ct a l = true → (∀ j, j < l → ct a j = false) → Q (.inl (some (.int (nI l)))) z) : wm_X9_lowest a z Q := by
  obtain ⟨i, hi, hc⟩ := ct_ne.mp ha
  obtain ⟨l, l1, l2, l3⟩ := ct_first (f := ct a) i hc
  unfold wm_X9_lowest
  refine sp_bc ⟨_, rfl, ?_⟩
  have e : fb_ct (ct ((a ^^^ (-1 : Int64)) &&& (a - 1))) 64 = l := by
    have e1 : fb_ct (ct ((a ^^^ (-1 : Int64)) &&& (a - 1))) 64 = fb_ct (fun i => decide (i < l)) 64 := fb_ct_cong (fun i hi => (ct_lo l2 l3 hi).1)
    have e2 : (64 : Nat) = l + (64 - l) := by omega
    rw [e1, e2, fb_ct_split]
    have a1 : fb_ct (fun i => decide (i < l)) l = l := fb_ct_all.mpr (fun k hk => decide_eq_true hk)
    have a2 : fb_ct (fun k => decide (l + k < l)) (64 - l) = 0 := fb_ct_zero.mpr (fun k _ => decide_eq_false (by omega))
    rw [a1, a2, Nat.add_zero]
  dsimp only
  rw [e]
  exact k l (by omega) l2 l3
/-- mates in a row -/
def mar (S : Nat → Bool) (m : Nat → Nat) (A : Nat → Int32) : Prop := ∀ x, x < 64 → A x = if S x = true ∧ m x ≠ x then nI (m x) else -1
/-- the search: dark cells in the queue, light cells that led to them, and whence -/
def bq9 (w : Nat) (r : Bool) (S : Nat → Bool) (m : Nat → Nat) (s n : Nat) (q L pa : Nat → Nat) (A22 A21 : Nat → Int32) : Prop := q 0 = s ∧ 1 ≤ n ∧ (∀ i, i < n → A22 i = nI (q i) ∧ q i < 64 ∧ S (q i) = true ∧ dk (q i) = true) ∧ (∀ i, 1 ≤ i → i < n → L i < 64 ∧ S (L i) = true ∧ dk (L i) = false ∧ m (L i) ≠ L i ∧ q i = m (L i) ∧ pa i < i ∧ A21 (L i) = nI (q (pa i)) ∧ nb w r (q (pa i)) (L i) = true) ∧ ∀ i j, 1 ≤ i → i < j → j < n → L i ≠ L j
theorem bq9_n {m : Nat → Nat} {s n : Nat} {q L pa : Nat → Nat} {A22 A21 : Nat → Int32} (hb : bq9 w r S m s n q L pa A22 A21) : n ≤ 33 := by
  have h1 : fb_ct (fun i => decide (1 ≤ i)) n ≤ fb_ct (fun l => !dk l) 64 := by
    refine cinj (g := L) (fun i hi hP => ?_) (fun i j hi hj hP hP' e => ?_)
    · have := hb.2.2.2.1 i (of_decide_eq_true hP) hi
      exact ⟨this.1, by show (!dk (L i)) = true; rw [this.2.2.1]; rfl⟩
    · have hP := of_decide_eq_true hP
      have hP' := of_decide_eq_true hP'
      refine Classical.byContradiction fun hne => ?_
      rcases Nat.lt_or_gt_of_ne hne with u | u
      · exact hb.2.2.2.2 i j hP u hj e
      · exact hb.2.2.2.2 j i hP' u hi e.symm
  have h2 : fb_ct (fun l => !dk l) 64 = 32 := by decide +kernel
  have h3 : fb_ct (fun i => decide (1 ≤ i)) n = n - 1 := by
    have : n = 1 + (n - 1) := by have := hb.2.1; omega
    rw [this, fb_ct_split]
    have a1 : fb_ct (fun i => decide (1 ≤ i)) 1 = 0 := rfl
    have a2 : fb_ct (fun k => decide (1 ≤ 1 + k)) (n - 1) = n - 1 := fb_ct_all.mpr (fun k _ => decide_eq_true (by omega))
    rw [a1, a2]; omega
  omega
/-- nothing is found: all that was seen, and what led to it, is closed -/
def noF (w : Nat) (r : Bool) (S : Nat → Bool) (m : Nat → Nat) (s : Nat) (Yd Yl : Nat → Bool) : Prop := Yd s = true ∧ (∀ d, Yd d = true → d < 64 ∧ S d = true ∧ dk d = true ∧ (d = s ∨ m d ≠ d)) ∧ (∀ d l, Yd d = true → l < 64 → S l = true → nb w r d l = true → Yl l = true) ∧ ∀ l, Yl l = true → l < 64 ∧ S l = true ∧ dk l = false ∧ m l ≠ l ∧ Yd (m l) = true
theorem nb_four (hd : jd w h r S) {c : Nat} (hc : S c = true) {O : Nat → Bool} (hO : ∀ l, O l = true → S l = true ∧ nb w r c l = true) : fb_ct O 64 ≤ 4 := by
  have hw8 := hd.2.1
  have hh8 := hd.2.2.2.1
  have rc_ := hd.2.2.2.2.2 c hc
  have e4 : fb_ct (fun _ => true) 4 = 4 := rfl
  rw [← e4]
  have ex : ∀ l, O l = true → ∃ k, k < 4 ∧ bs w h r c k = some l := by
    intro l hl
    obtain ⟨a, b⟩ := hO l hl
    have rl := hd.2.2.2.2.2 l a
    exact (bs_nb hw8 hh8 rc_.2.1 rc_.2.2 rl.2.1 rl.2.2).mpr b
  refine cinj (g := fun l => @dite Nat (∃ k, k < 4 ∧ bs w h r c k = some l) (Classical.propDecidable _) (fun e => Classical.choose e) (fun _ => 4)) (fun l hl hP => ?_) (fun l l' hl hl' hP hP' e => ?_)
  · rw [dif_pos (ex l hP)]
    exact ⟨(Classical.choose_spec (ex l hP)).1, rfl⟩
  · rw [dif_pos (ex l hP), dif_pos (ex l' hP')] at e
    have a := (Classical.choose_spec (ex l hP)).2
    have b := (Classical.choose_spec (ex l' hP')).2
    rw [e, b] at a
    cases a; rfl
theorem sq_findFree {m : Nat → Nat} {s : Nat} (hd : jd w h r S) (hj : jc w h r S z) (hm : mg w r S m) (hA : mar S m (tq_ai z 20)) (hs : S s = true) (hk : dk s = true) (k0 : ∀ z' Yd Yl, fr [(2, 21), (2, 22)] z z' → noF w r S m s Yd Yl → Q (.inl (some (.int (-1)))) z') (k1 : ∀ z' n q L pa i t, fr [(2, 21), (2, 22)] z z' → bq9 w r S m s n q L pa (tq_ai z' 22) (tq_ai z' 21) → i < n → t < 64 → S t = true → dk t = false → m t = t → tq_ai z' 21 t = nI (q i) → nb w r (q i) t = true → Q (.inl (some (.int (nI t)))) z') : wm_X9_findFree (nI s) z Q := by
  have hw8 := hd.2.1
  have hh8 := hd.2.2.2.1
  have hre := hd.2.2.2.2.2
  have s64 := (hre s hs).1
  unfold wm_X9_findFree
  intro z1 e1
  have c0 : Int32.toNatClampNeg 0 = 0 := rfl
  rw [c0] at e1
  have f1 : fr [(2, 21), (2, 22)] z z1 := by rw [e1]; exact fr_sai (by decide) fr_r
  have b1 : bq9 w r S m s 1 (fun _ => s) (fun _ => 0) (fun _ => 0) (tq_ai z1 22) (tq_ai z1 21) := by
    refine ⟨rfl, Nat.le_refl _, fun i hi => ⟨?_, s64, hs, hk⟩, fun i h1 h2 => by omega, fun i j h1 h2 h3 => by omega⟩
    have : i = 0 := by omega
    rw [this, e1, rw_aie, rw_upd, if_pos rfl]
  clear e1
  unfold wc_X9_findFree_15
  refine lp_inv (fun i t => ∃ (n : Nat) (q L pa : Nat → Nat) (z' : tq_S) (V : Int64), t = (V, nI n, nI i, z') ∧ fr [(2, 21), (2, 22)] z z' ∧ bq9 w r S m s n q L pa (tq_ai z' 22) (tq_ai z' 21) ∧ i ≤ n ∧ (∀ l, l < 64 → (ct V l = true ↔ ∃ j, 1 ≤ j ∧ j < n ∧ L j = l)) ∧ ∀ j, j < i → ∀ l, l < 64 → S l = true → nb w r (q j) l = true → ct V l = true) 64 ?_ ⟨1, _, _, _, z1, 0, rfl, f1, b1, by omega, fun l hl => by rw [ct_0]; exact ⟨fun e => (by cases e), fun ⟨j, a, b, _⟩ => by omega⟩, fun j hj => by omega⟩
  rintro i t hi ⟨n, q, L, pa, z2, V, rfl, f2, b2, hin, hV, hdone⟩ B hB
  simp only
  have n33 := bq9_n b2
  obtain ⟨q0, n1, bq_, bl, binj⟩ := b2
  unfold wb_X9_findFree_15
  rw [i_le (by omega) (by omega), i_64, i_le (by omega) (by omega)]
  refine ⟨fun u => ?_, fun u => ⟨fun u2 => by omega, fun _ => ?_⟩⟩
  · have : i = n := by omega
    subst this
    refine k0 z2 (fun d => @decide (∃ j, j < i ∧ q j = d) (Classical.propDecidable _)) (fun l => decide (l < 64) && ct V l) f2 ⟨?_, fun d hd' => ?_, fun d l hd' hl hS hn => ?_, fun l hl => ?_⟩
    · exact (@decide_eq_true_iff _ (Classical.propDecidable _)).mpr ⟨0, by omega, q0⟩
    · obtain ⟨j, j1, rfl⟩ := (@decide_eq_true_iff _ (Classical.propDecidable _)).mp hd'
      obtain ⟨x1, x2, x3, x4⟩ := bq_ j j1
      refine ⟨x2, x3, x4, ?_⟩
      by_cases e : j = 0
      · exact Or.inl (by rw [e]; exact q0)
      · obtain ⟨y1, y2, y3, y4, y5, y6⟩ := bl j (by omega) j1
        refine Or.inr ?_
        rw [y5, (hm _ y2).2.1]
        exact fun e => y4 e.symm
    · obtain ⟨j, j1, rfl⟩ := (@decide_eq_true_iff _ (Classical.propDecidable _)).mp hd'
      show (decide (l < 64) && ct V l) = true
      rw [decide_eq_true hl, hdone j j1 l hl hS hn]; rfl
    · have hl : (decide (l < 64) && ct V l) = true := hl
      rw [Bool.and_eq_true, decide_eq_true_eq] at hl
      obtain ⟨j, j1, j2, rfl⟩ := (hV l hl.1).mp hl.2
      obtain ⟨y1, y2, y3, y4, y5, y6⟩ := bl j j1 j2
      exact ⟨y1, y2, y3, y4, (@decide_eq_true_iff _ (Classical.propDecidable _)).mpr ⟨j, j2, y5⟩⟩
  have hin : i < n := by omega
  have hB := hB (by omega)
  obtain ⟨x1, x2, x3, x4⟩ := bq_ i hin
  rw [i_cl (by omega), x1]
  have j2 := jc_f f2 (by decide) (by decide) (by decide) (by decide) hj
  refine ⟨i_in (by omega) (by omega), ?_⟩
  refine sq_beside hd j2 (fun j hj' => ?_) (fun v hv => ⟨_, rfl, fun O eO V' eV => ?_⟩)
  · rw [ct_bit j x2] at hj'
    rw [of_decide_eq_true hj']; exact hre _ x3
  have hO : ∀ l, l < 64 → (ct O l = true ↔ S l = true ∧ nb w r (q i) l = true ∧ ct V l = false) := by
    intro l hl
    rw [eO, ct_and, ct_and, ct_not, decide_eq_true hl, Bool.true_and, j2.2.2.2]
    constructor
    · intro e
      simp only [Bool.and_eq_true, Bool.not_eq_true'] at e
      obtain ⟨a, a1, a2⟩ := (hv l hl (hre l e.1.2).2.1).mp e.1.1
      rw [ct_bit a x2] at a1
      rw [of_decide_eq_true a1] at a2
      exact ⟨e.1.2, a2, e.2⟩
    · rintro ⟨e1, e2, e3⟩
      rw [e1, e3, (hv l hl (hre l e1).2.1).mpr ⟨q i, by rw [ct_bit _ x2]; exact decide_eq_true rfl, e2⟩]; rfl
  have four : fb_ct (ct O) 64 ≤ 4 := by
    have : fb_ct (ct O) 64 = fb_ct (fun l => decide (l < 64) && ct O l) 64 := fb_ct_cong (fun l hl => by rw [decide_eq_true hl, Bool.true_and])
    rw [this]
    refine nb_four hd x3 (fun l hl => ?_)
    rw [Bool.and_eq_true, decide_eq_true_eq] at hl
    have := (hO l hl.1).mp hl.2
    exact ⟨this.1, this.2.1⟩
  have hV' : ∀ l, l < 64 → (ct V' l = true ↔ ct V l = true ∨ ct O l = true) := by
    intro l hl
    rw [eV, ct_or, Bool.or_eq_true]
  clear eO eV
  unfold wc_X9_findFree_69
  refine lp_inv (fun k t => ∃ (n' : Nat) (q' L' pa' : Nat → Nat) (z' : tq_S) (P : Int64), t = (nI n', P, nI k, z') ∧ fr [(2, 21), (2, 22)] z z' ∧ bq9 w r S m s n' q' L' pa' (tq_ai z' 22) (tq_ai z' 21) ∧ n ≤ n' ∧ (∀ j, j < n → q' j = q j) ∧ fb_ct (ct P) 64 + k ≤ 4 ∧ (∀ l, l < 64 → ct P l = true → ct O l = true ∧ ∀ j, 1 ≤ j → j < n' → L' j ≠ l) ∧ ∀ l, l < 64 → (ct V' l = true ↔ (∃ j, 1 ≤ j ∧ j < n' ∧ L' j = l) ∨ ct P l = true)) 4 ?_ ⟨n, q, L, pa, z2, O, rfl, f2, ⟨q0, n1, bq_, bl, binj⟩, Nat.le_refl _, fun _ _ => rfl, by omega, fun l hl hP => ⟨hP, fun j j1 j2 e => by
    have := (hO l hl).mp hP
    rw [(hV l hl).mpr ⟨j, j1, j2, e⟩] at this; cases this.2.2⟩, fun l hl => by rw [hV' l hl, hV l hl]⟩
  rintro k t hk ⟨n', q', L', pa', z3, P, rfl, f3, b3, m3, s3, c3, d3, v3⟩ B2 hB2
  simp only
  have n33' := bq9_n b3
  have b3' := b3
  obtain ⟨q0', n1', bq', bl', binj'⟩ := b3
  unfold wb_X9_findFree_69
  rw [i_4, i_le (by omega) (by omega)]
  have out : fb_ct (ct P) 64 = 0 → wc_X9_findFree_155 (fun b2 b4 b5 z => B (b2, b4, b5, z)) Q V' (nI n') (nI i) z3 := by
    intro hP0
    have P0 : ∀ l, l < 64 → ct P l = false := fun l hl => fb_ct_zero.mp hP0 l hl
    unfold wc_X9_findFree_155
    intro v9 e9
    rw [i_1, i_add] at e9
    refine hB _ ⟨n', q', L', pa', z3, V', by rw [e9], f3, b3', by omega, fun l hl => ?_, fun j hj l hl hS hn => ?_⟩
    · rw [v3 l hl, P0 l hl]
      exact ⟨fun e => e.resolve_right (fun e => (by cases e)), Or.inl⟩
    · rw [s3 j (by omega)] at hn
      rw [hV' l hl]
      by_cases e : j = i
      · rw [e] at hn
        cases e2 : ct V l
        · exact Or.inr ((hO l hl).mpr ⟨hS, hn, e2⟩)
        · exact Or.inl rfl
      · exact Or.inl (hdone j (by omega) l hl hS hn)
  refine ⟨fun u => out (by omega), fun u => ⟨fun u2 => out ?_, fun u2 => ?_⟩⟩
  · rw [u2]; exact fb_ct_zero.mpr (fun l _ => ct_0 l)
  refine sq_lowest u2 (fun l l64 l1 l2 => ⟨_, rfl, fun P' eP => ?_⟩)
  obtain ⟨lO, lnew⟩ := d3 l l64 l1
  obtain ⟨lS, ln, lV⟩ := (hO l l64).mp lO
  have ldk : dk l = false := by rw [nb_dk hd x3 lS ln, x4]; rfl
  have qi : q' i = q i := s3 i hin
  obtain ⟨y1, y2, y3, y4⟩ := bq' i (by omega)
  rw [i_cl (by omega), i_cl (by omega), y1]
  refine ⟨i_in (by omega) (by omega), i_in (by omega) (by omega), fun z4 e4 => ⟨i_in (by omega) (by omega), ?_⟩⟩
  have a21 : ∀ x, tq_ai z4 21 x = if x = l then nI (q' i) else tq_ai z3 21 x := by intro x; rw [e4, rw_aie, rw_upd]
  have a22 : tq_ai z4 22 = tq_ai z3 22 := by rw [e4, rw_ain (by omega)]
  have f4 : fr [(2, 21), (2, 22)] z z4 := by rw [e4]; exact fr_sai (by decide) f3
  have a20 : tq_ai z4 20 l = if S l = true ∧ m l ≠ l then nI (m l) else -1 := by rw [fr_ai f4 (by decide)]; exact hA l l64
  clear e4
  have b4 : bq9 w r S m s n' q' L' pa' (tq_ai z4 22) (tq_ai z4 21) := by
    refine ⟨q0', n1', fun j hj' => by rw [a22]; exact bq' j hj', fun j j1 j2 => ?_, binj'⟩
    obtain ⟨w1, w2, w3, w4, w5, w6, w7, w8⟩ := bl' j j1 j2
    refine ⟨w1, w2, w3, w4, w5, w6, ?_, w8⟩
    rw [a21, if_neg (lnew j j1 j2)]; exact w7
  rw [a20]
  by_cases hml : m l = l
  · rw [if_neg (fun e => e.2 hml)]
    refine ⟨fun e => absurd e (by decide +kernel), fun _ => ?_⟩
    exact k1 z4 n' q' L' pa' i l f4 b4 (by omega) l64 lS ldk hml (by rw [a21, if_pos rfl]) (by rw [qi]; exact ln)
  · rw [if_pos ⟨lS, hml⟩]
    obtain ⟨ml1, ml2, ml3⟩ := hm l lS
    have ml64 := (hre _ ml1).1
    have mdk : dk (m l) = true := by rw [nb_dk hd lS ml1 (ml3.resolve_left hml), ldk]; rfl
    have P'v : ∀ x, x < 64 → ct P' x = (if x = l then false else ct P x) := fun x hx => by rw [eP]; exact (ct_lo l1 l2 hx).2
    have cP : fb_ct (ct P') 64 + 1 = fb_ct (ct P) 64 := by
      have := ct_ex (P := ct P) (n := 64) l64 l1
      rw [← this]
      congr 1
      refine fb_ct_cong (fun x hx => ?_)
      rw [P'v x hx]
      by_cases e : x = l
      · rw [if_pos e, decide_eq_true e]; simp
      · rw [if_neg e, decide_eq_false e]; simp
    refine ⟨fun _ => ?_, fun e => absurd (show (0 : Int32) ≤ nI (m l) by rw [i_0, i_le (by omega) (by omega)]; omega) e⟩
    rw [i_64, i_le (by omega) (by omega), i_cl (by omega)]
    refine ⟨fun e => by omega, fun _ => ⟨i_in (by omega) (by omega), i_in (by omega) (by omega), fun z5 e5 v6 e6 => ?_⟩⟩
    rw [i_1, i_add] at e6
    rw [e6]
    have a22' : ∀ x, tq_ai z5 22 x = if x = n' then nI (m l) else tq_ai z4 22 x := by intro x; rw [e5, rw_aie, rw_upd]
    have a21' : tq_ai z5 21 = tq_ai z4 21 := by rw [e5, rw_ain (by omega)]
    have f5 : fr [(2, 21), (2, 22)] z z5 := by rw [e5]; exact fr_sai (by decide) f4
    clear e5
    unfold wc_X9_findFree_149
    intro v7 e7
    rw [i_1, i_add] at e7
    have qn : ∀ j, j < n' → (fun x => if x = n' then m l else q' x) j = q' j := fun j hj' => if_neg (by omega)
    have Ln : ∀ j, j < n' → (fun x => if x = n' then l else L' x) j = L' j := fun j hj' => if_neg (by omega)
    have pn : ∀ j, j < n' → (fun x => if x = n' then i else pa' x) j = pa' j := fun j hj' => if_neg (by omega)
    have qN : (fun x => if x = n' then m l else q' x) n' = m l := if_pos rfl
    have LN : (fun x => if x = n' then l else L' x) n' = l := if_pos rfl
    have pN : (fun x => if x = n' then i else pa' x) n' = i := if_pos rfl
    refine hB2 (by omega) _ ⟨n' + 1, fun x => if x = n' then m l else q' x, fun x => if x = n' then l else L' x, fun x => if x = n' then i else pa' x, z5, P', by rw [e7], f5, ⟨by rw [qn 0 (by omega)]; exact q0', by omega, fun j hj' => ?_, fun j j1 j2 => ?_, fun a b a1 a2 a3 => ?_⟩, by omega, fun j hj' => by rw [qn j (by omega)]; exact s3 j hj', by omega, fun x hx hP => ?_, fun x hx => ?_⟩
    · by_cases e : j = n'
      · rw [e, qN, a22', if_pos rfl]; exact ⟨rfl, ml64, ml1, mdk⟩
      · rw [qn j (by omega), a22', if_neg e]; exact b4.2.2.1 j (by omega)
    · by_cases e : j = n'
      · rw [e, LN, qN, pN, qn i (by omega), a21', a21, if_pos rfl]
        exact ⟨l64, lS, ldk, hml, rfl, by omega, rfl, by rw [qi]; exact ln⟩
      · have hjn : j < n' := by omega
        obtain ⟨w1, w2, w3, w4, w5, w6, w7, w8⟩ := b4.2.2.2.1 j j1 hjn
        rw [Ln j hjn, qn j hjn, pn j hjn, qn _ (by omega), a21']
        exact ⟨w1, w2, w3, w4, w5, w6, w7, w8⟩
    · rw [Ln a (by omega)]
      by_cases e : b = n'
      · rw [e, LN]; exact lnew a a1 (by omega)
      · rw [Ln b (by omega)]; exact binj' a b a1 a2 (by omega)
    · rw [P'v x hx] at hP
      by_cases e : x = l
      · rw [if_pos e] at hP; cases hP
      · rw [if_neg e] at hP
        obtain ⟨o1, o2⟩ := d3 x hx hP
        refine ⟨o1, fun j j1 j2 => ?_⟩
        by_cases e2 : j = n'
        · rw [e2, LN]; exact fun u => e u.symm
        · rw [Ln j (by omega)]; exact o2 j j1 (by omega)
    · rw [v3 x hx, P'v x hx]
      constructor
      · rintro (⟨j, j1, j2, j3⟩ | e)
        · exact Or.inl ⟨j, j1, by omega, by rw [Ln j j2]; exact j3⟩
        · by_cases e2 : x = l
          · exact Or.inl ⟨n', by omega, by omega, by rw [LN, e2]⟩
          · rw [if_neg e2]; exact Or.inr e
      · rintro (⟨j, j1, j2, j3⟩ | e)
        · by_cases e2 : j = n'
          · rw [e2, LN] at j3
            rw [← j3]; exact Or.inr l1
          · rw [Ln j (by omega)] at j3
            exact Or.inl ⟨j, j1, by omega, j3⟩
        · by_cases e2 : x = l
          · rw [if_pos e2] at e; cases e
          · rw [if_neg e2] at e; exact Or.inr e
end PAIR
