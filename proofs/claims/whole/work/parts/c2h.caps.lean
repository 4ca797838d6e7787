/-! ===== the number of exact covers: how many places each size has at a cell ===== -/
theorem ct_blk (L : Nat → Int64) : ∀ n, fb_ct (fun j => ct (L (j / 6)) (j % 6)) (6 * n) = fb_sm (fun m => fb_ct (ct (L m)) 6) n
  | 0 => rfl
  | n + 1 => by
    rw [fb_sm_succ, ← ct_blk L n, show 6 * (n + 1) = 6 * n + 6 by omega, fb_ct_split]
    refine congrArg (_ + ·) (fb_ct_cong (fun k hk => ?_))
    rw [show (6 * n + k) / 6 = n by omega, show (6 * n + k) % 6 = k by omega]
section CAP
variable {w h : Nat} {r : Bool} {S : Nat → Bool} {z : tq_S} {K P : Nat} {C Z : Nat → Nat} {A : Nat → Int64} {f : Nat → plc}
/-- the shape that a kind's shapes come from -/
theorem kf_T (ks : shps K C Z A) (kf : kfam K C A) {k : Nat} (hk : k < K) : C k = 0 ∨ ∃ T, wS T ∧ hgp T ∧ fb_ct (ct T) 64 = Z k ∧ ∀ i, i < C k → ∃ m, m < 8 ∧ nz (mo m (bsh T)) (A (8 * k + i)) := by
  by_cases q : C k = 0
  · exact Or.inl q
  · obtain ⟨T, a, b, -, -, e⟩ := kf.1 k hk
    obtain ⟨m, hm, n⟩ := e 0 (by omega)
    exact Or.inr ⟨T, a, b, by rw [← nz_ct hm a n]; exact (ks k hk 0 (by omega)).2.2, e⟩
theorem mo_nz {T : Int64} (hT : wS T) (h0 : 0 < fb_ct (ct T) 64) {m : Nat} (hm : m < 8) : nz (mo m (bsh T)) (nzs (mo m (bsh T))) := by
  obtain ⟨c, c64, hc⟩ := fb_ct_pos.mp h0
  have c36 := hT c hc
  obtain ⟨s, hs⟩ := nz_ex (V := mo m (bsh T)) ⟨_, _, (mvp_V (m := m) (V := bsh T) c36).mpr ((bsh_k c36).mpr hc)⟩ (fun x y u => mo_out hm u)
  rw [← nzs_e hs]; exact hs
theorem pat_in (ks : shps K C Z A) {k i m : Nat} (hk : k < K) (hi : i < C k) {T : Int64} (n : nz (mo m (bsh T)) (A (8 * k + i))) {l : List (Int × Int)} {ms : List Nat} (h0 : (0, 0) ∈ l) (hl : l.length = Z k) (hp : pat l (bsh T)) (hc : mchk l ms = true) : ∃ q, q < ms.length ∧ A (8 * k + i) = lN (ms.getD q 0) := by
  obtain ⟨a1, a2, a3⟩ := ks k hk i hi
  exact pat_msk h0 a1 a2 (a3.trans hl.symm) (pat_tl n.2.1 (pat_mo hp m)) hc
theorem cap_56 (hd : jd w h r S) (ks : shps K C Z A) (kf : kfam K C A) (hp : prs w h r S K C A P f z) (c : Nat) {k : Nat} (hk : k < K) (h56 : Z k = 5 ∨ Z k = 6) : fb_ct (fun p => decide ((f p).1 = c) && decide ((f p).2.1 = k)) P ≤ 4 * Z k := by
  have use : ∀ (L : Nat → Int64) (len : Nat), (∀ i, i < C k → ∃ q, q < len ∧ A (8 * k + i) = L q) → fb_ct (fun j => ct (L (j / 6)) (j % 6)) (6 * len) ≤ 4 * Z k → fb_ct (fun p => decide ((f p).1 = c) && decide ((f p).2.1 = k)) P ≤ 4 * Z k := fun L len hL hb => Nat.le_trans (ccap hd kf hp c (fun k' => decide (k' = k)) L len (fun k' _ e i hi => by
    have e := of_decide_eq_true e
    subst e
    exact hL i hi)) hb
  rcases kf_T ks kf hk with q | ⟨T, hT, hh, cT, hA⟩
  · exact use (fun _ => 0) 0 (fun i hi => by omega) (Nat.zero_le _)
  · by_cases st : stV (bsh T)
    · rcases h56 with z5 | z6
      · refine use (fun q => lN ([31, 17043521].getD q 0)) 2 (fun i hi => ?_) ?_
        · obtain ⟨m, hm, n⟩ := hA i hi
          exact pat_in ks hk hi n (l := ln5) (ms := [31, 17043521]) (by decide) (by rw [z5]; rfl) (st_pat hT hh st (cT.trans z5) (fun e he => by
            simp only [ln5, List.mem_cons, List.not_mem_nil, or_false] at he
            rcases he with e | e | e | e | e <;> subst e
            · exact ⟨0, by decide, rfl⟩
            · exact ⟨1, by decide, rfl⟩
            · exact ⟨2, by decide, rfl⟩
            · exact ⟨3, by decide, rfl⟩
            · exact ⟨4, by decide, rfl⟩)) mchk_5
        · rw [z5]; decide +kernel
      · refine use (fun q => lN ([63, 1090785345].getD q 0)) 2 (fun i hi => ?_) ?_
        · obtain ⟨m, hm, n⟩ := hA i hi
          exact pat_in ks hk hi n (l := ln6) (ms := [63, 1090785345]) (by decide) (by rw [z6]; rfl) (st_pat hT hh st (cT.trans z6) (fun e he => by
            simp only [ln6, List.mem_cons, List.not_mem_nil, or_false] at he
            rcases he with e | e | e | e | e | e <;> subst e
            · exact ⟨0, by decide, rfl⟩
            · exact ⟨1, by decide, rfl⟩
            · exact ⟨2, by decide, rfl⟩
            · exact ⟨3, by decide, rfl⟩
            · exact ⟨4, by decide, rfl⟩
            · exact ⟨5, by decide, rfl⟩)) mchk_6
        · rw [z6]; decide +kernel
    · have nn : ∀ m, m < 8 → nz (mo m (bsh T)) (nzs (mo m (bsh T))) := fun m hm => mo_nz hT (by omega) hm
      have cn : ∀ m, m < 8 → fb_ct (ct (nzs (mo m (bsh T)))) 64 = Z k := fun m hm => (nz_ct hm hT (nn m hm)).trans cT
      refine use (fun m => nzs (mo m (bsh T))) 8 (fun i hi => ?_) ?_
      · obtain ⟨m, hm, n⟩ := hA i hi
        exact ⟨m, hm, nzs_e n⟩
      · rw [ct_blk (fun m => nzs (mo m (bsh T)))]
        have p0 := opp (nn 0 (by decide)) (nn 2 (by decide)) (fun u => st (stV_mo u))
        have p1 := opp (nn 1 (by decide)) (nn 3 (by decide)) (fun u => st (stV_mo u))
        have p4 := opp (nn 4 (by decide)) (nn 6 (by decide)) (fun u => st (stV_mo u))
        have p5 := opp (nn 5 (by decide)) (nn 7 (by decide)) (fun u => st (stV_mo u))
        rw [cn 0 (by decide)] at p0
        rw [cn 1 (by decide)] at p1
        rw [cn 4 (by decide)] at p4
        rw [cn 5 (by decide)] at p5
        simp only [fb_sm_succ]
        rw [show fb_sm (fun m => fb_ct (ct (nzs (mo m (bsh T)))) 6) 0 = 0 from rfl]
        omega
theorem psz_56 (hd : jd w h r S) (ks : shps K C Z A) (kf : kfam K C A) (hp : prs w h r S K C A P f z) (c : Nat) {s : Nat} (h56 : s = 5 ∨ s = 6) : psz f Z P c s ≤ 4 * s * ksz Z K s := by
  rw [← psz_s (fun p hP => (hp.2 p hP).1)]
  unfold ksz
  rw [← sm_ct]
  refine fb_sm_le (fun k hk => ?_)
  by_cases q : Z k = s
  · rw [if_pos q, if_pos (decide_eq_true q), ← q]
    exact cap_56 hd ks kf hp c hk (by omega)
  · rw [if_neg q]; exact Nat.zero_le _
/-- the kinds of a size by their patterns -/
theorem psz_c (hK : ∀ p, p < P → (f p).2.1 < K) {c s q : Nat} {cl cp : Nat → Nat} (hcl : ∀ k, k < K → Z k = s → cl k < q) (hcp : ∀ g, g < q → fb_ct (fun p => decide ((f p).1 = c) && (decide (Z (f p).2.1 = s) && decide (cl (f p).2.1 = g))) P ≤ cp g) : ∃ b : Nat → Bool, fb_ct b q ≤ ksz Z K s ∧ psz f Z P c s ≤ fb_sm (fun g => if b g = true then cp g else 0) q := by
  refine ⟨fun g => @decide (∃ k, k < K ∧ Z k = s ∧ cl k = g) (Classical.propDecidable _), ?_, ?_⟩
  · have ch : ∀ g, ∃ k, (∃ k, k < K ∧ Z k = s ∧ cl k = g) → k < K ∧ Z k = s ∧ cl k = g := fun g => by
      by_cases u : ∃ k, k < K ∧ Z k = s ∧ cl k = g
      · obtain ⟨k, e⟩ := u
        exact ⟨k, fun _ => e⟩
      · exact ⟨0, fun v => absurd v u⟩
    refine cinj (g := fun g => Classical.choose (ch g)) (fun g _ hg => ?_) (fun g g' _ _ hg hg' e => ?_)
    · obtain ⟨a, b, -⟩ := Classical.choose_spec (ch g) (@of_decide_eq_true _ (Classical.propDecidable _) hg)
      exact ⟨a, decide_eq_true b⟩
    · obtain ⟨-, -, a⟩ := Classical.choose_spec (ch g) (@of_decide_eq_true _ (Classical.propDecidable _) hg)
      obtain ⟨-, -, b⟩ := Classical.choose_spec (ch g') (@of_decide_eq_true _ (Classical.propDecidable _) hg')
      have e : Classical.choose (ch g) = Classical.choose (ch g') := e
      rw [← a, ← b, e]
  · have e1 : ∀ X : Nat → Bool, fb_ct X P = fb_sm (fun p => if X p = true then 1 else 0) P := fun X => by rw [sm_ct, Nat.one_mul]
    have e2 : psz f Z P c s = fb_sm (fun g => fb_ct (fun p => decide ((f p).1 = c) && (decide (Z (f p).2.1 = s) && decide (cl (f p).2.1 = g))) P) q := by
      have e3 : fb_sm (fun g => fb_ct (fun p => decide ((f p).1 = c) && (decide (Z (f p).2.1 = s) && decide (cl (f p).2.1 = g))) P) q = fb_sm (fun g => fb_sm (fun p => if cl (f p).2.1 = g then (if (f p).1 = c ∧ Z (f p).2.1 = s then 1 else 0) else 0) P) q := fb_sm_cong (fun g _ => by
        rw [e1]
        refine fb_sm_cong (fun p _ => ?_)
        by_cases q1 : (f p).1 = c <;> by_cases q2 : Z (f p).2.1 = s <;> by_cases q3 : cl (f p).2.1 = g <;> simp [q1, q2, q3])
      unfold psz
      rw [e3, e1, sm_swp2 (fun g p => if cl (f p).2.1 = g then (if (f p).1 = c ∧ Z (f p).2.1 = s then 1 else 0) else 0) P q]
      refine fb_sm_cong (fun p hp => ?_)
      by_cases q2 : Z (f p).2.1 = s
      · rw [sm_one (f := fun _ => if (f p).1 = c ∧ Z (f p).2.1 = s then 1 else 0) (hcl _ (hK p hp) q2)]
        by_cases q1 : (f p).1 = c <;> simp [q1, q2]
      · refine Eq.trans ?_ (Eq.trans (fb_sm_0 q).symm (fb_sm_cong (fun g _ => ?_)))
        · simp [q2]
        · simp [q2]
    rw [e2]
    refine fb_sm_le (fun g hg => ?_)
    by_cases u : ∃ k, k < K ∧ Z k = s ∧ cl k = g
    · rw [if_pos (@decide_eq_true _ (Classical.propDecidable _) u)]
      exact hcp g hg
    · rw [if_neg (fun v => u (@of_decide_eq_true _ (Classical.propDecidable _) v))]
      refine Nat.le_of_eq (fb_ct_zero.mpr (fun p hp => ?_))
      by_cases q2 : Z (f p).2.1 = s
      · have : cl (f p).2.1 ≠ g := fun e => u ⟨_, hK p hp, q2, e⟩
        simp [this]
      · simp [q2]
/-- each kind of a size has one of the patterns -/
theorem cl_ex (ks : shps K C Z A) (kf : kfam K C A) {s : Nat} (hs : 3 ≤ s) (q : Nat) (q0 : 0 < q) (ps : List (List (Int × Int))) (ms : List (List Nat)) (hq : ps.length = q) (hps : (lvs (s - 1)).all (pchk ps) = true) (h0 : ∀ l ∈ ps, (0, 0) ∈ l ∧ l.length = s) (hc : ∀ g, g < q → mchk (ps.getD g []) (ms.getD g []) = true) : ∃ cl : Nat → Nat, ∀ k, k < K → Z k = s → cl k < q ∧ ∀ i, i < C k → ∃ j, j < (ms.getD (cl k) []).length ∧ A (8 * k + i) = lN ((ms.getD (cl k) []).getD j 0) := by
  have each : ∀ k, ∃ g, k < K → Z k = s → g < q ∧ ∀ i, i < C k → ∃ j, j < (ms.getD g []).length ∧ A (8 * k + i) = lN ((ms.getD g []).getD j 0) := fun k => by
    by_cases u : k < K ∧ Z k = s
    · obtain ⟨hk, hz⟩ := u
      rcases kf_T ks kf hk with e | ⟨T, hT, hh, cT, hA⟩
      · exact ⟨0, fun _ _ => ⟨q0, fun i hi => by omega⟩⟩
      · obtain ⟨l, hl, hp⟩ := pat_ex hT hh (n := s - 1) (by omega) hps
        obtain ⟨g, hg⟩ := List.mem_iff_getElem?.mp hl
        have gq : g < q := by rw [← hq]; exact (List.getElem?_eq_some_iff.mp hg).1
        have eg : ps.getD g [] = l := by rw [List.getD_eq_getElem?_getD, hg]; rfl
        refine ⟨g, fun _ _ => ⟨gq, fun i hi => ?_⟩⟩
        obtain ⟨m, hm, n⟩ := hA i hi
        exact pat_in ks hk hi n (h0 l hl).1 ((h0 l hl).2.trans hz.symm) hp (by rw [← eg]; exact hc g gq)
    · exact ⟨0, fun a b => absurd ⟨a, b⟩ u⟩
  exact ⟨fun k => Classical.choose (each k), fun k hk hz => Classical.choose_spec (each k) hk hz⟩
theorem cp_3 : ∀ g, g < 2 → fb_ct (fun j => ct (lN ((mss3.getD g []).getD (j / 6) 0)) (j % 6)) (6 * (mss3.getD g []).length) ≤ [4, 6].getD g 0 := by decide +kernel
theorem cp_4 : ∀ g, g < 5 → fb_ct (fun j => ct (lN ((mss4.getD g []).getD (j / 6) 0)) (j % 6)) (6 * (mss4.getD g []).length) ≤ [5, 2, 6, 6, 14].getD g 0 := by decide +kernel
theorem tbp_3 : ∀ (b0 b1 : Bool) (n : Nat), fb_ct (fun g => [b0, b1].getD g false) 2 ≤ n → fb_sm (fun g => if [b0, b1].getD g false = true then [4, 6].getD g 0 else 0) 2 ≤ [0, 6, 10].getD n 10
  | b0, b1, 0 => by revert b0 b1; decide
  | b0, b1, 1 => by revert b0 b1; decide
  | b0, b1, n + 2 => fun hx => by
    clear hx
    rw [show [0, 6, 10].getD (n + 2) 10 = 10 by cases n <;> rfl]
    revert b0 b1; decide
theorem tbp_4 : ∀ (b0 b1 b2 b3 b4 : Bool) (n : Nat), fb_ct (fun g => [b0, b1, b2, b3, b4].getD g false) 5 ≤ n → fb_sm (fun g => if [b0, b1, b2, b3, b4].getD g false = true then [5, 2, 6, 6, 14].getD g 0 else 0) 5 ≤ [0, 14, 20, 26, 31].getD n 33
  | b0, b1, b2, b3, b4, 0 => by revert b0 b1 b2 b3 b4; decide
  | b0, b1, b2, b3, b4, 1 => by revert b0 b1 b2 b3 b4; decide
  | b0, b1, b2, b3, b4, 2 => by revert b0 b1 b2 b3 b4; decide
  | b0, b1, b2, b3, b4, 3 => by revert b0 b1 b2 b3 b4; decide
  | b0, b1, b2, b3, b4, 4 => by revert b0 b1 b2 b3 b4; decide
  | b0, b1, b2, b3, b4, n + 5 => fun hx => by
    clear hx
    rw [show [0, 14, 20, 26, 31].getD (n + 5) 33 = 33 from rfl]
    revert b0 b1 b2 b3 b4; decide
theorem psz_3 (hd : jd w h r S) (ks : shps K C Z A) (kf : kfam K C A) (hp : prs w h r S K C A P f z) (c : Nat) : psz f Z P c 3 ≤ [0, 6, 10].getD (ksz Z K 3) 10 := by
  obtain ⟨cl, hcl⟩ := cl_ex ks kf (s := 3) (by decide) 2 (by decide) pts3 mss3 rfl pchk_3 (by decide) mchk_3
  obtain ⟨b, h1, h2⟩ := psz_c (Z := Z) (c := c) (s := 3) (q := 2) (cl := cl) (cp := fun g => [4, 6].getD g 0) (fun p hP => (hp.2 p hP).1) (fun k hk hz => (hcl k hk hz).1) (fun g hg => Nat.le_trans (ccap hd kf hp c (fun k => decide (Z k = 3) && decide (cl k = g)) (fun j => lN ((mss3.getD g []).getD j 0)) (mss3.getD g []).length (fun k hk e i hi => by
    simp only [Bool.and_eq_true, decide_eq_true_eq] at e
    have := (hcl k hk e.1).2 i hi
    rw [e.2] at this
    exact this)) (cp_3 g hg))
  refine Nat.le_trans h2 (Nat.le_trans (Nat.le_of_eq ?_) (tbp_3 (b 0) (b 1) _ (Nat.le_trans (Nat.le_of_eq ?_) h1)))
  · rfl
  · rfl
theorem psz_4 (hd : jd w h r S) (ks : shps K C Z A) (kf : kfam K C A) (hp : prs w h r S K C A P f z) (c : Nat) : psz f Z P c 4 ≤ [0, 14, 20, 26, 31].getD (ksz Z K 4) 33 := by
  obtain ⟨cl, hcl⟩ := cl_ex ks kf (s := 4) (by decide) 5 (by decide) pts4 mss4 rfl pchk_4 (by decide) mchk_4
  obtain ⟨b, h1, h2⟩ := psz_c (Z := Z) (c := c) (s := 4) (q := 5) (cl := cl) (cp := fun g => [5, 2, 6, 6, 14].getD g 0) (fun p hP => (hp.2 p hP).1) (fun k hk hz => (hcl k hk hz).1) (fun g hg => Nat.le_trans (ccap hd kf hp c (fun k => decide (Z k = 4) && decide (cl k = g)) (fun j => lN ((mss4.getD g []).getD j 0)) (mss4.getD g []).length (fun k hk e i hi => by
    simp only [Bool.and_eq_true, decide_eq_true_eq] at e
    have := (hcl k hk e.1).2 i hi
    rw [e.2] at this
    exact this)) (cp_4 g hg))
  refine Nat.le_trans h2 (Nat.le_trans (Nat.le_of_eq ?_) (tbp_4 (b 0) (b 1) (b 2) (b 3) (b 4) _ (Nat.le_trans (Nat.le_of_eq ?_) h1)))
  · rfl
  · rfl
end CAP
