/-! ===== the checksum ===== -/
def fd (g : Nat → Int64 → Int64) : Nat → Int64 → Int64
  | 0, s => s
  | n + 1, s => g n (fd g n s)
theorem fd_c {g g' : Nat → Int64 → Int64} : ∀ n, (∀ c s, c < n → g c s = g' c s) → ∀ s, fd g n s = fd g' n s
  | 0, _, _ => rfl
  | n + 1, h, s => by
    show g n (fd g n s) = g' n (fd g' n s)
    rw [fd_c n (fun c s hc => h c s (by omega)) s, h n _ (by omega)]
theorem fd_skip {g : Nat → Int64 → Int64} {a : Nat} : ∀ k, (∀ c s, a ≤ c → c < a + k → g c s = s) → ∀ s, fd g (a + k) s = fd g a s
  | 0, _, _ => rfl
  | k + 1, h, s => by
    show g (a + k) (fd g (a + k) s) = fd g a s
    rw [h (a + k) _ (by omega) (by omega)]
    exact fd_skip k (fun c s h1 h2 => h c s h1 (by omega)) s
/-- what the board adds, row by row -/
def ksB (w h : Nat) (S : Nat → Bool) (s : Int64) : Int64 := fd (fun y t => fd (fun x u => (31 : Int64) * u + Int32.toInt64 (bi (S (8 * y + x)))) w t) h s
def ksC (S : Nat → Bool) (C : Nat → Nat) (s : Int64) : Int64 := fd (fun c u => if S c = true then (31 : Int64) * u + Int32.toInt64 (nI (C c)) else u) 64 s
def ksK (n : Nat) (A B : Nat → Int32) (s : Int64) : Int64 := fd (fun j u => (31 : Int64) * ((31 : Int64) * u + Int32.toInt64 (A j)) + Int32.toInt64 (B j)) n ((31 : Int64) * s + Int32.toInt64 (nI n))
def ksT (l : List Nat) (s : Int64) : Int64 := fd (fun j u => (31 : Int64) * u + Int32.toInt64 (nI (l.getD j 0))) l.length s
def ksH (w h : Nat) (r : Bool) : Int64 := (31 : Int64) * ((31 : Int64) * ((31 : Int64) * 7 + Int32.toInt64 (nI w)) + Int32.toInt64 (nI h)) + Int32.toInt64 (bi r)
def ksum (w h : Nat) (r : Bool) (S : Nat → Bool) (b : Bool) (C : Nat → Nat) (n : Nat) (A B : Nat → Int32) (l : List Nat) : Int64 :=
  ksT l (ksK n A B (if b = true then ksC S C (ksB w h S (ksH w h r)) else ksB w h S (ksH w h r)))
section CHECK
variable {w h : Nat} {r : Bool} {S : Nat → Bool} {z : tq_S} {Q : tq_O → tq_S → Prop}
theorem sq_addB (hd : jd w h r S) (hj : jc w h r S z) (k : Q (.inl (some (.long (ksB w h S (ksH w h r))))) z) : wm_X1_addTo 7 z Q := by
  obtain ⟨hw1, hw8, hh1, hh8, -, -⟩ := hd
  have main : wc_X1_addTo_47 Q (ksH w h r) 0 z := by
    unfold wc_X1_addTo_47
    refine lp_for (fun y => (fd (fun y t => fd (fun x u => (31 : Int64) * u + Int32.toInt64 (bi (S (8 * y + x)))) w t) y (ksH w h r), nI y, z)) h ?_ rfl
    intro y hy B hB
    simp only
    unfold wb_X1_addTo_47
    rw [hj.2.1]
    refine ⟨fun h1 => ?_, fun h1 => ?_⟩
    · rw [i_le (by omega) (by omega)] at h1
      have : y = h := by omega
      subst this
      exact k
    · rw [i_le (by omega) (by omega)] at h1
      have hB := hB (by omega)
      unfold wc_X1_addTo_59
      refine lp_for (fun x => (fd (fun x u => (31 : Int64) * u + Int32.toInt64 (bi (S (8 * y + x)))) x (fd (fun y t => fd (fun x u => (31 : Int64) * u + Int32.toInt64 (bi (S (8 * y + x)))) w t) y (ksH w h r)), nI x, z)) w ?_ rfl
      intro x hx B2 hB2
      simp only
      unfold wb_X1_addTo_59
      rw [hj.1]
      refine ⟨fun h2 => ?_, fun h2 => ?_⟩
      · rw [i_le (by omega) (by omega)] at h2
        have : x = w := by omega
        subst this
        unfold wc_X1_addTo_98
        intro v e
        rw [i_1, i_add] at e
        rw [e]; exact hB
      · rw [i_le (by omega) (by omega)] at h2
        have hB2 := hB2 (by omega)
        have hho : ho w h S (nI x) (nI y) = S (8 * y + x) := by
          rw [ho_n (by omega) (by omega), decide_eq_true (by omega : x < w), decide_eq_true (by omega : y < h)]; simp
        have fin : ∀ v : Int32, v = bi (S (8 * y + x)) → wc_X1_addTo_89 (fun b3 b5 z => B (b3, b5, z)) (fun b3 b6 z => B2 (b3, b6, z)) Q (nI y) (nI x) v ((31 : Int64) * fd (fun x u => (31 : Int64) * u + Int32.toInt64 (bi (S (8 * y + x)))) x (fd (fun y t => fd (fun x u => (31 : Int64) * u + Int32.toInt64 (bi (S (8 * y + x)))) w t) y (ksH w h r))) z := by
          intro v ev
          unfold wc_X1_addTo_89
          intro v1 e1 v2 e2
          rw [i_1, i_add] at e2
          rw [e1, e2, ev]; exact hB2
        refine sq_holds hw8 hh8 hj ⟨_, rfl, fun h3 => ?_, fun h3 => ?_⟩
        · rw [bi_0, hho] at h3
          exact fin _ (by rw [h3]; rfl)
        · rw [bi_n, hho] at h3
          exact fin _ (by rw [h3]; rfl)
  unfold wm_X1_addTo
  intro v1 e1 v2 e2
  rw [hj.1] at e1
  rw [hj.2.1] at e2
  rw [hj.2.2.1]
  have fin : ∀ v : Int32, v = bi r → wc_X1_addTo_41 Q v ((31 : Int64) * v2) z := by
    intro v ev
    unfold wc_X1_addTo_41
    intro v3 e3
    have : v3 = ksH w h r := by rw [e3, e2, e1, ev]; rfl
    rw [this]; exact main
  refine ⟨fun h3 => ?_, fun h3 => ?_⟩
  · rw [bi_0] at h3
    exact fin _ (by rw [h3]; rfl)
  · rw [bi_n] at h3
    exact fin _ (by rw [h3]; rfl)
theorem ksC_g {C : Nat → Nat} {c : Nat} {s : Int64} (hc : S c = false) : (if S c = true then (31 : Int64) * s + Int32.toInt64 (nI (C c)) else s) = s := by rw [hc]; rfl
theorem sq_addC {p : Nat → Nat} {s : Int64} (hd : jd w h r S) (hj : jc w h r S z) (hc : cvo w r S p (tq_fl z 517) (tq_fl z 518)) (k : Q (.inl (some (.long (ksC S (tc w r p) s)))) z) : wm_X2_addTo s z Q := by
  have hd0 := hd
  obtain ⟨hw1, hw8, hh1, hh8, -, hre⟩ := hd
  unfold wm_X2_addTo wc_X2_addTo_5
  refine lp_for (fun y => (fd (fun c u => if S c = true then (31 : Int64) * u + Int32.toInt64 (nI (tc w r p c)) else u) (8 * y) s, nI y, z)) h ?_ rfl
  intro y hy B hB
  simp only
  unfold wb_X2_addTo_5
  rw [hj.2.1]
  refine ⟨fun h1 => ?_, fun h1 => ?_⟩
  · rw [i_le (by omega) (by omega)] at h1
    have : y = h := by omega
    subst this
    have e : fd (fun c u => if S c = true then (31 : Int64) * u + Int32.toInt64 (nI (tc w r p c)) else u) (8 * y) s = ksC S (tc w r p) s := by
      unfold ksC
      have : 64 = 8 * y + (64 - 8 * y) := by omega
      rw [this]
      refine (fd_skip (64 - 8 * y) (fun c s h1 h2 => ksC_g ?_) s).symm
      cases hs : S c
      · rfl
      · have := hre c hs; omega
    rw [e]; exact k
  · rw [i_le (by omega) (by omega)] at h1
    have hB := hB (by omega)
    unfold wc_X2_addTo_20
    refine lp_for (fun x => (fd (fun c u => if S c = true then (31 : Int64) * u + Int32.toInt64 (nI (tc w r p c)) else u) (8 * y + x) s, nI x, z)) w ?_ rfl
    intro x hx B2 hB2
    simp only
    unfold wb_X2_addTo_20
    rw [hj.1]
    refine ⟨fun h2 => ?_, fun h2 => ?_⟩
    · rw [i_le (by omega) (by omega)] at h2
      have : x = w := by omega
      subst this
      unfold wc_X2_addTo_68
      intro v e
      rw [i_1, i_add] at e
      rw [e]
      have e2 : fd (fun c u => if S c = true then (31 : Int64) * u + Int32.toInt64 (nI (tc x r p c)) else u) (8 * y + x) s = fd (fun c u => if S c = true then (31 : Int64) * u + Int32.toInt64 (nI (tc x r p c)) else u) (8 * (y + 1)) s := by
        have : 8 * (y + 1) = 8 * y + x + (8 - x) := by omega
        rw [this]
        refine (fd_skip (8 - x) (fun c s h1 h2 => ksC_g ?_) s).symm
        cases hs : S c
        · rfl
        · have := hre c hs; omega
      rw [e2]; exact hB
    · rw [i_le (by omega) (by omega)] at h2
      have hB2 := hB2 (by omega)
      have hho : ho w h S (nI x) (nI y) = S (8 * y + x) := by
        rw [ho_n (by omega) (by omega), decide_eq_true (by omega : x < w), decide_eq_true (by omega : y < h)]; simp
      have stp : fd (fun c u => if S c = true then (31 : Int64) * u + Int32.toInt64 (nI (tc w r p c)) else u) (8 * y + (x + 1)) s = if S (8 * y + x) = true then (31 : Int64) * fd (fun c u => if S c = true then (31 : Int64) * u + Int32.toInt64 (nI (tc w r p c)) else u) (8 * y + x) s + Int32.toInt64 (nI (tc w r p (8 * y + x))) else fd (fun c u => if S c = true then (31 : Int64) * u + Int32.toInt64 (nI (tc w r p c)) else u) (8 * y + x) s := rfl
      rw [stp] at hB2
      refine sq_holds hw8 hh8 hj ⟨_, rfl, fun h3 => ?_, fun h3 => ?_⟩
      · rw [bi_0, hho] at h3
        unfold wc_X2_addTo_62
        intro v e
        rw [i_1, i_add] at e
        rw [e]
        rw [if_neg (by rw [h3]; exact Bool.false_ne_true)] at hB2
        exact hB2
      · rw [bi_n, hho] at h3
        refine sq_codeAt hd0 hj hc (by omega) (by omega) h3 ⟨_, rfl, fun v e => ?_⟩
        unfold wc_X2_addTo_62
        intro v2 e2
        rw [i_1, i_add] at e2
        rw [e2, e]
        rw [if_pos h3] at hB2
        exact hB2
theorem sq_addK {n : Nat} {A B : Nat → Int32} {s : Int64} (hn : n ≤ 6) (hk : tq_fi z 1477 = nI n) (hA : ∀ j, j < n → tq_ai z 25 j = A j) (hB : ∀ j, j < n → tq_ai z 26 j = B j) (k : Q (.inl (some (.long (ksK n A B s)))) z) : wm_X8_addTo s z Q := by
  unfold wm_X8_addTo
  intro v1 e1
  rw [hk] at e1
  unfold wc_X8_addTo_15
  refine lp_for (fun j => (fd (fun j u => (31 : Int64) * ((31 : Int64) * u + Int32.toInt64 (A j)) + Int32.toInt64 (B j)) j v1, nI j, z)) n ?_ rfl
  intro j hj B1 hB1
  simp only
  unfold wb_X8_addTo_15
  rw [hk]
  refine ⟨fun h1 => ?_, fun h1 => ?_⟩
  · rw [i_le (by omega) (by omega)] at h1
    have : j = n := by omega
    subst this
    rw [e1]; exact k
  · rw [i_le (by omega) (by omega)] at h1
    refine ⟨i_in (by omega) (by omega), fun v2 e2 => ⟨i_in (by omega) (by omega), fun v3 e3 v4 e4 => ?_⟩⟩
    rw [i_cl (by omega), hA j (by omega)] at e2
    rw [i_cl (by omega), hB j (by omega), e2] at e3
    rw [i_1, i_add] at e4
    rw [e3, e4]
    exact hB1 (by omega)
theorem tx_at {A : Nat → Int32} {l : List Nat} (h : tx A l) {j : Nat} (hj : j < l.length) : A j = nI (l.getD j 0) := by
  refine h j _ ?_
  rw [List.getD_eq_getElem?_getD, List.getElem?_eq_getElem hj]; rfl
theorem sc_checksum {b : Bool} {p : Nat → Nat} {n : Nat} {A B : Nat → Int32} {l : List Nat} (hd : jd w h r S) (hj : jc w h r S z) (hb : tq_fi z 516 = bi b) (hc : b = true → cvo w r S p (tq_fl z 517) (tq_fl z 518)) (hn : n ≤ 6) (hk : tq_fi z 1477 = nI n) (hA : ∀ j, j < n → tq_ai z 25 j = A j) (hB : ∀ j, j < n → tq_ai z 26 j = B j) (ht : ctx z l) (k : Q (.inl (some (.long (ksum w h r S b (tc w r p) n A B l)))) z) : wm_X11_checksum z Q := by
  have rest : ∀ s : Int64, s = (if b = true then ksC S (tc w r p) (ksB w h S (ksH w h r)) else ksB w h S (ksH w h r)) → wc_X11_checksum_30 Q s z := by
    intro s es
    unfold wc_X11_checksum_30
    refine sq_addK hn hk hA hB ⟨_, rfl, ?_⟩
    unfold wc_X11_checksum_41
    refine lp_for (fun j => (fd (fun j u => (31 : Int64) * u + Int32.toInt64 (nI (l.getD j 0))) j (ksK n A B s), nI j, z)) l.length ?_ rfl
    intro j hj2 B1 hB1
    have l307 := ht.2.2
    simp only
    unfold wb_X11_checksum_41
    rw [ht.1]
    refine ⟨fun h1 => ?_, fun h1 => ?_⟩
    · rw [i_le (by omega) (by omega)] at h1
      have : j = l.length := by omega
      subst this
      rw [es]; exact k
    · rw [i_le (by omega) (by omega)] at h1
      refine ⟨i_in (by omega) (by omega), fun v1 e1 v2 e2 => ?_⟩
      rw [i_cl (by omega), tx_at ht.2.1 (by omega)] at e1
      rw [i_1, i_add] at e2
      rw [e1, e2]
      exact hB1 (by omega)
  unfold wm_X11_checksum
  refine sq_addB hd hj ⟨_, rfl, ?_⟩
  show (tq_fi z 516 = 0 → _) ∧ (¬ tq_fi z 516 = 0 → _)
  rw [hb]
  refine ⟨fun h1 => ?_, fun h1 => ?_⟩
  · rw [bi_0] at h1
    exact rest _ (by rw [h1]; rfl)
  · rw [bi_n] at h1
    exact sq_addC hd hj (hc h1) ⟨_, rfl, rest _ (by rw [h1]; rfl)⟩
theorem sr_checksum {b : Bool} {p : Nat → Nat} {n : Nat} {A B : Nat → Int32} {l : List Nat} (hd : jd w h r S) (hj : jr w h r S z) (hb : tq_fi z 3272 = bi b) (hc : b = true → rto w r S (fun _ => false) p (tq_ai z 56)) (hn : n ≤ 6) (hk : tq_fi z 3290 = nI n) (hA : ∀ j, j < n → tq_ai z 68 j = A j) (hB : ∀ j, j < n → tq_ai z 67 j = B j) (ht : rt z l) (hl : l.length ≤ 307) (k : ∀ z', fr [(0, 3264)] z z' → Q (.inl (some (.long (ksum w h r S b (tc w r p) n A B l)))) z') : wm_X12_checksum z Q := by
  obtain ⟨hw1, hw8, hh1, hh8, -, hre⟩ := hd
  unfold wm_X12_checksum
  intro z1 e1
  have f1 : fr [(0, 3264)] z z1 := by rw [e1]; exact fr_sfi (by decide) fr_r
  have k := k z1 f1
  have j1 := jr_f f1 (by decide) (by decide) (by decide) (by decide) hj
  have b1 : tq_fi z1 3272 = bi b := (fr_fi f1 (by decide)).trans hb
  have k1 : tq_fi z1 3290 = nI n := (fr_fi f1 (by decide)).trans hk
  have a56 : tq_ai z1 56 = tq_ai z 56 := fr_ai f1 (by decide)
  have a52 : tq_ai z1 52 = tq_ai z 52 := fr_ai f1 (by decide)
  have a68 : tq_ai z1 68 = tq_ai z 68 := fr_ai f1 (by decide)
  have a67 : tq_ai z1 67 = tq_ai z 67 := fr_ai f1 (by decide)
  have a60 : tq_ai z1 60 = tq_ai z 60 := fr_ai f1 (by decide)
  have t1 : tq_fi z1 3279 = nI l.length := (fr_fi f1 (by decide)).trans ht.1
  clear f1 e1
  have text : ∀ s : Int64, s = ksK n A B (if b = true then ksC S (tc w r p) (ksB w h S (ksH w h r)) else ksB w h S (ksH w h r)) → wc_X12_checksum_214 Q s z1 := by
    intro s es
    unfold wc_X12_checksum_214 wc_X12_checksum_216
    refine lp_for (fun j => (fd (fun j u => (31 : Int64) * u + Int32.toInt64 (nI (l.getD j 0))) j s, nI j, z1)) l.length ?_ rfl
    intro j hj2 B1 hB1
    simp only
    unfold wb_X12_checksum_216
    rw [t1]
    refine ⟨fun h1 => ?_, fun h1 => ?_⟩
    · rw [i_le (by omega) (by omega)] at h1
      have : j = l.length := by omega
      subst this
      rw [es]; exact k
    · rw [i_le (by omega) (by omega)] at h1
      refine ⟨i_in (by omega) (by omega), fun v1 e1 v2 e2 => ?_⟩
      rw [i_cl (by omega), a60, tx_at ht.2 (by omega)] at e1
      rw [i_1, i_add] at e2
      rw [e1, e2]
      exact hB1 (by omega)
  have kinds : ∀ s : Int64, s = (if b = true then ksC S (tc w r p) (ksB w h S (ksH w h r)) else ksB w h S (ksH w h r)) → wc_X12_checksum_158 Q s z1 := by
    intro s es
    unfold wc_X12_checksum_158
    intro v1 e1
    rw [k1] at e1
    unfold wc_X12_checksum_172
    refine lp_for (fun j => (fd (fun j u => (31 : Int64) * ((31 : Int64) * u + Int32.toInt64 (A j)) + Int32.toInt64 (B j)) j v1, nI j, z1)) n ?_ rfl
    intro j hj B1 hB1
    simp only
    unfold wb_X12_checksum_172
    rw [k1]
    refine ⟨fun h1 => ?_, fun h1 => ?_⟩
    · rw [i_le (by omega) (by omega)] at h1
      have : j = n := by omega
      subst this
      exact text _ (by rw [e1, ← es]; rfl)
    · rw [i_le (by omega) (by omega)] at h1
      refine ⟨i_in (by omega) (by omega), fun v2 e2 => ⟨i_in (by omega) (by omega), fun v3 e3 v4 e4 => ?_⟩⟩
      rw [i_cl (by omega), a68, hA j (by omega)] at e2
      rw [i_cl (by omega), a67, hB j (by omega), e2] at e3
      rw [i_1, i_add] at e4
      rw [e3, e4]
      exact hB1 (by omega)
  have cov : wc_X12_checksum_110 Q (ksB w h S (ksH w h r)) z1 := by
    unfold wc_X12_checksum_110 wc_X12_checksum_112
    cases hbb : b
    · refine lp_for (fun _ => (ksB w h S (ksH w h r), nI 0, z1)) 0 ?_ rfl
      intro m hm B1 hB1
      simp only
      unfold wb_X12_checksum_112
      rw [b1, hbb]
      refine ⟨fun h1 => ?_, fun h1 => ⟨fun h2 => ?_, fun h2 => absurd rfl h2⟩⟩
      · exact absurd h1 (by decide +kernel)
      · exact kinds _ (by rw [hbb]; rfl)
    · refine lp_for (fun c => (fd (fun c u => if S c = true then (31 : Int64) * u + Int32.toInt64 (nI (tc w r p c)) else u) c (ksB w h S (ksH w h r)), nI c, z1)) 64 ?_ rfl
      intro c hc64 B1 hB1
      simp only
      unfold wb_X12_checksum_112
      rw [b1, hbb, i_64]
      refine ⟨fun h1 => ?_, fun h1 => ⟨fun h2 => absurd h2 (by decide +kernel), fun _ => ?_⟩⟩
      · rw [i_le (by omega) (by omega)] at h1
        have : c = 64 := by omega
        subst this
        exact kinds _ (by rw [hbb]; rfl)
      · rw [i_le (by omega) (by omega)] at h1
        have hB1 := hB1 (by omega)
        have stp : fd (fun c u => if S c = true then (31 : Int64) * u + Int32.toInt64 (nI (tc w r p c)) else u) (c + 1) (ksB w h S (ksH w h r)) = if S c = true then (31 : Int64) * fd (fun c u => if S c = true then (31 : Int64) * u + Int32.toInt64 (nI (tc w r p c)) else u) c (ksB w h S (ksH w h r)) + Int32.toInt64 (nI (tc w r p c)) else fd (fun c u => if S c = true then (31 : Int64) * u + Int32.toInt64 (nI (tc w r p c)) else u) c (ksB w h S (ksH w h r)) := rfl
        rw [stp] at hB1
        rw [i_cl (by omega), a52, hj.2 c (by omega)]
        refine ⟨i_in (by omega) (by omega), fun h3 => ?_, fun h3 => ⟨i_in (by omega) (by omega), ?_⟩⟩
        · rw [bi_0] at h3
          unfold wc_X12_checksum_151
          intro v e
          rw [i_1, i_add] at e
          rw [e]
          rw [if_neg (by rw [h3]; exact Bool.false_ne_true)] at hB1
          exact hB1
        · rw [bi_n] at h3
          unfold wc_X12_checksum_151
          intro v e
          rw [i_1, i_add] at e
          rw [e, a56, rto_at (hc hbb) (by omega) h3]
          rw [if_pos h3] at hB1
          exact hB1
  have main : wc_X12_checksum_55 Q (ksH w h r) 0 z1 := by
    unfold wc_X12_checksum_55
    refine lp_for (fun y => (fd (fun y t => fd (fun x u => (31 : Int64) * u + Int32.toInt64 (bi (S (8 * y + x)))) w t) y (ksH w h r), nI y, z1)) h ?_ rfl
    intro y hy B hB
    simp only
    unfold wb_X12_checksum_55
    rw [j1.1.2.1]
    refine ⟨fun h1 => ?_, fun h1 => ?_⟩
    · rw [i_le (by omega) (by omega)] at h1
      have : y = h := by omega
      subst this
      exact cov
    · rw [i_le (by omega) (by omega)] at h1
      have hB := hB (by omega)
      unfold wc_X12_checksum_66
      refine lp_for (fun x => (fd (fun x u => (31 : Int64) * u + Int32.toInt64 (bi (S (8 * y + x)))) x (fd (fun y t => fd (fun x u => (31 : Int64) * u + Int32.toInt64 (bi (S (8 * y + x)))) w t) y (ksH w h r)), nI x, z1)) w ?_ rfl
      intro x hx B2 hB2
      simp only
      unfold wb_X12_checksum_66
      rw [j1.1.1]
      refine ⟨fun h2 => ?_, fun h2 => ?_⟩
      · rw [i_le (by omega) (by omega)] at h2
        have : x = w := by omega
        subst this
        unfold wc_X12_checksum_104
        intro v e
        rw [i_1, i_add] at e
        rw [e]; exact hB
      · rw [i_le (by omega) (by omega)] at h2
        have hB2 := hB2 (by omega)
        have hho : ho w h S (nI x) (nI y) = S (8 * y + x) := by
          rw [ho_n (by omega) (by omega), decide_eq_true (by omega : x < w), decide_eq_true (by omega : y < h)]; simp
        have fin : ∀ v : Int32, v = bi (S (8 * y + x)) → wc_X12_checksum_95 (fun b1 b3 z => B (b1, b3, z)) (fun b1 b4 z => B2 (b1, b4, z)) Q (nI y) (nI x) v ((31 : Int64) * fd (fun x u => (31 : Int64) * u + Int32.toInt64 (bi (S (8 * y + x)))) x (fd (fun y t => fd (fun x u => (31 : Int64) * u + Int32.toInt64 (bi (S (8 * y + x)))) w t) y (ksH w h r))) z1 := by
          intro v ev
          unfold wc_X12_checksum_95
          intro v1 e1 v2 e2
          rw [i_1, i_add] at e2
          rw [e1, e2, ev]; exact hB2
        refine sq_isCell hw1 hw8 hh1 hh8 j1 ⟨_, rfl, fun h3 => ?_, fun h3 => ?_⟩
        · rw [bi_0, hho] at h3
          exact fin _ (by rw [h3]; rfl)
        · rw [bi_n, hho] at h3
          exact fin _ (by rw [h3]; rfl)
  intro v1 e1 v2 e2
  rw [j1.1.1] at e1
  rw [j1.1.2.1] at e2
  rw [j1.1.2.2]
  have fin : ∀ v : Int32, v = bi r → wc_X12_checksum_50 Q v ((31 : Int64) * v2) z1 := by
    intro v ev
    unfold wc_X12_checksum_50
    intro v3 e3
    have : v3 = ksH w h r := by rw [e3, e2, e1, ev]; rfl
    rw [this]; exact main
  refine ⟨fun h3 => ?_, fun h3 => ?_⟩
  · cases hr : r
    · exact fin _ (by rw [hr]; rfl)
    · rw [hr] at h3; exact absurd h3 (by decide +kernel)
  · cases hr : r
    · rw [hr] at h3; exact absurd rfl h3
    · exact fin _ (by rw [hr]; rfl)
end CHECK
