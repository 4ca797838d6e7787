section CNT
/-- the places that can be put next, and the exact covers that each begins -/
def cnx (n P : Nat) (f : Nat → plc) : Nat → Nat → (Nat → Nat) → Nat
  | 0, c, _ => if n ≤ tro c then 1 else 0
  | t + 1, c, l => if n ≤ tro c then 1 else fb_sm (fun i => if (f i).1 = tro c ∧ c &&& (f i).2.2.1 = 0 ∧ l (f i).2.1 ≠ 0 then cnx n P f t (c ||| (f i).2.2.1) (lsub l (f i).2.1 1) else 0) P
def tm (n P : Nat) (f : Nat → plc) (t c : Nat) (l : Nat → Nat) (i : Nat) : Nat := if (f i).1 = tro c ∧ c &&& (f i).2.2.1 = 0 ∧ l (f i).2.1 ≠ 0 then cnx n P f t (c ||| (f i).2.2.1) (lsub l (f i).2.1 1) else 0
theorem cnx_s {n P : Nat} {f : Nat → plc} {t c : Nat} {l : Nat → Nat} : cnx n P f (t + 1) c l = if n ≤ tro c then 1 else fb_sm (tm n P f t c l) P := rfl
/-- which one comes with the j-th -/
noncomputable def pidx (g : Nat → Nat) (P j : Nat) : Nat := @dite _ (∃ i, i < P ∧ fb_sm g i ≤ j ∧ j < fb_sm g (i + 1)) (Classical.propDecidable _) (fun e => Classical.choose e) (fun _ => 0)
theorem pidx_e {g : Nat → Nat} {P j i : Nat} (hi : i < P) (h1 : fb_sm g i ≤ j) (h2 : j < fb_sm g (i + 1)) : pidx g P j = i := by
  have ex : ∃ i, i < P ∧ fb_sm g i ≤ j ∧ j < fb_sm g (i + 1) := ⟨i, hi, h1, h2⟩
  unfold pidx
  rw [dif_pos ex]
  obtain ⟨c1, c2, c3⟩ := Classical.choose_spec ex
  generalize Classical.choose ex = i' at c1 c2 c3
  have mono : ∀ a b, a ≤ b → fb_sm g a ≤ fb_sm g b := fun a b h => by
    obtain ⟨d, rfl⟩ : ∃ d, b = a + d := ⟨b - a, by omega⟩
    exact fb_sm_mono _ _ _
  rcases Nat.lt_trichotomy i' i with u | u | u
  · have := mono (i' + 1) i (by omega); omega
  · exact u
  · have := mono (i + 1) i' (by omega); omega
theorem pidx_x {g : Nat → Nat} {j : Nat} : ∀ {P : Nat}, j < fb_sm g P → ∃ i, i < P ∧ fb_sm g i ≤ j ∧ j < fb_sm g (i + 1)
  | 0, h => absurd h (Nat.not_lt_zero _)
  | P + 1, h => by
    by_cases q : j < fb_sm g P
    · obtain ⟨i, a, b⟩ := pidx_x (P := P) q
      exact ⟨i, by omega, b⟩
    · exact ⟨P, by omega, by omega, h⟩
/-- the places of the j-th exact cover -/
noncomputable def pth (n P : Nat) (f : Nat → plc) : Nat → Nat → (Nat → Nat) → Nat → List Nat
  | 0, _, _, _ => []
  | t + 1, c, l, j => if n ≤ tro c then [] else pidx (tm n P f t c l) P j :: pth n P f t (c ||| (f (pidx (tm n P f t c l) P j)).2.2.1) (lsub l (f (pidx (tm n P f t c l) P j)).2.1 1) (j - fb_sm (tm n P f t c l) (pidx (tm n P f t c l) P j))
theorem pth_s {n P : Nat} {f : Nat → plc} {t c j i : Nat} {l : Nat → Nat} (hn : ¬ n ≤ tro c) (hi : i < P) (h1 : fb_sm (tm n P f t c l) i ≤ j) (h2 : j < fb_sm (tm n P f t c l) (i + 1)) : pth n P f (t + 1) c l j = i :: pth n P f t (c ||| (f i).2.2.1) (lsub l (f i).2.1 1) (j - fb_sm (tm n P f t c l) i) := by
  have e := pidx_e hi h1 h2
  show (if n ≤ tro c then [] else pidx (tm n P f t c l) P j :: pth n P f t (c ||| (f (pidx (tm n P f t c l) P j)).2.2.1) (lsub l (f (pidx (tm n P f t c l) P j)).2.1 1) (j - fb_sm (tm n P f t c l) (pidx (tm n P f t c l) P j))) = _
  rw [if_neg hn, e]
theorem pth_0 {n P : Nat} {f : Nat → plc} {t c j : Nat} {l : Nat → Nat} (hn : n ≤ tro c) : pth n P f t c l j = [] := by
  cases t with
  | zero => rfl
  | succ t =>
    show (if n ≤ tro c then [] else _) = _
    rw [if_pos hn]
end CNT
section CSR
variable {w h : Nat} {r : Bool} {S : Nat → Bool} {K P : Nat} {C M Z : Nat → Nat} {A : Nat → Int64} {f : Nat → plc}
theorem wlp_0 {i c g : Nat} {l : Nat → Nat} : wlp w h S P f 0 i 4 i c g l = if c &&& (f i).2.2.1 ≠ 0 ∨ l (f i).2.1 = 0 then none else some (c ||| (f i).2.2.1, g &&& (f i).2.2.2, lsub l (f i).2.1 1) := by
  unfold wlp
  by_cases u : c &&& (f i).2.2.1 ≠ 0 ∨ l (f i).2.1 = 0
  · rw [if_pos u, if_pos u]
  · rw [if_neg u, if_neg u, if_pos rfl]
    dsimp only
    rw [if_pos rfl]
/-- the class counts exact covers -/
theorem cnx_sr (hpl : plg S Z P f) (hK : ∀ p, p < P → (f p).2.1 < K) (hK6 : K ≤ 6) (hn : fb_ct S 64 ≤ 24) : ∀ (t e : Nat) (l : Nat → Nat), GG w h S e → e / 2 ^ 56 = 0 → e / 2 ^ 24 % 2 ^ 8 = 0 → (∀ k, k < K → min (dcl e k) (rmF Z (fb_ct S 64) (e % 2 ^ 24) k) = min (l k) (rmF Z (fb_ct S 64) (e % 2 ^ 24) k)) → sr (fb_ct S 64) P (fun i => (f i).1) (TT w h S K Z P f) WW t e = cnx (fb_ct S 64) P f t (e % 2 ^ 24) l := by
  have w1 : ∀ e, e / 2 ^ 24 % 2 ^ 8 = 0 → WW e = 1 := fun e he => by
    unfold WW
    rw [he]; rfl
  intro t
  induction t with
  | zero =>
    intro e l hg m0 g0 hl
    show (if fb_ct S 64 ≤ tro (e % 2 ^ 24) then WW e else 0) = if fb_ct S 64 ≤ tro (e % 2 ^ 24) then 1 else 0
    rw [w1 e g0]
  | succ t ih =>
    intro e l hg m0 g0 hl
    have un : sr (fb_ct S 64) P (fun i => (f i).1) (TT w h S K Z P f) WW (t + 1) e = if fb_ct S 64 ≤ tro (e % 2 ^ 24) then WW e else fb_sm (fun i => if (f i).1 = tro (e % 2 ^ 24) then (match TT w h S K Z P f e i with | none => 0 | some e' => sr (fb_ct S 64) P (fun i => (f i).1) (TT w h S K Z P f) WW t e') else 0) P := rfl
    rw [un, cnx_s, w1 e g0]
    by_cases u : fb_ct S 64 ≤ tro (e % 2 ^ 24)
    · rw [if_pos u, if_pos u]
    rw [if_neg u, if_neg u]
    refine fb_sm_cong (fun i hi => ?_)
    unfold tm
    by_cases fi : (f i).1 = tro (e % 2 ^ 24)
    rotate_left
    · rw [if_neg fi, if_neg (fun a => fi a.1)]
    rw [if_pos fi]
    obtain ⟨b1, b2, b3, b4, b5, b6⟩ := hpl.1 i hi
    have kK := hK i hi
    have tt : TT w h S K Z P f e i = (match (if (e % 2 ^ 24) &&& (f i).2.2.1 ≠ 0 ∨ dcl e (f i).2.1 = 0 then none else some ((e % 2 ^ 24) ||| (f i).2.2.1, 0 &&& (f i).2.2.2, lsub (dcl e) (f i).2.1 1) : Option (Nat × Nat × (Nat → Nat))) with
      | none => none
      | some x => some (encN x.1 x.2.1 (bndl K Z (fb_ct S 64) x.1 x.2.2) 0)) := by
      unfold TT
      rw [m0, g0, wlp_0]
      rfl
    by_cases dis : (e % 2 ^ 24) &&& (f i).2.2.1 = 0
    rotate_left
    · rw [if_neg (fun a => dis a.2.1), tt, if_pos (Or.inl dis)]
    have po := pop_or dis
    have co : (e % 2 ^ 24) ||| (f i).2.2.1 < 2 ^ fb_ct S 64 := Nat.or_lt_two_pow hg.2.1 b2
    have cp := pop_le co hn
    have r1 : 1 ≤ rmF Z (fb_ct S 64) (e % 2 ^ 24) (f i).2.1 := by
      unfold rmF
      rw [← b5]
      exact (Nat.le_div_iff_mul_le (by omega)).mpr (by omega)
    have lk := hl _ kK
    by_cases l0 : l (f i).2.1 = 0
    · rw [if_neg (fun a => a.2.2 l0), tt, if_pos (Or.inr (by omega))]
    have d0 : dcl e (f i).2.1 ≠ 0 := by omega
    rw [if_pos ⟨fi, dis, l0⟩, tt, if_neg (fun a => a.elim (fun b => b dis) (fun b => d0 b)), Nat.zero_and]
    dsimp only
    have c24 : (e % 2 ^ 24) ||| (f i).2.2.1 < 2 ^ 24 := Nat.lt_of_lt_of_le co (Nat.pow_le_pow_right (by decide) hn)
    have b15 := bndl_15 (K := K) (Z := Z) (n := fb_ct S 64) (c := (e % 2 ^ 24) ||| (f i).2.2.1) (lsub_15 (k := (f i).2.1) (t := 1) (dcl_15 e))
    obtain ⟨e', he'⟩ : ∃ e', e' = encN ((e % 2 ^ 24) ||| (f i).2.2.1) 0 (bndl K Z (fb_ct S 64) ((e % 2 ^ 24) ||| (f i).2.2.1) (lsub (dcl e) (f i).2.1 1)) 0 := ⟨_, rfl⟩
    rw [← he']
    have c1 : e' % 2 ^ 24 = (e % 2 ^ 24) ||| (f i).2.2.1 := by rw [he']; exact encN_c c24
    have m1 : e' / 2 ^ 56 = 0 := by rw [he']; exact encN_m c24 (by omega) b15
    have l1 : e' < 2 ^ 59 := by rw [he']; exact encN_lt c24 (by omega) b15 (by omega)
    have g1 : e' / 2 ^ 24 % 2 ^ 8 = 0 := by
      rw [he']
      unfold encN
      omega
    have := ih e' (lsub l (f i).2.1 1) ⟨l1, by rw [c1]; exact co, Or.inl m1⟩ m1 g1 (fun k hk => by
      have dk : dcl e' k = bndl K Z (fb_ct S 64) ((e % 2 ^ 24) ||| (f i).2.2.1) (lsub (dcl e) (f i).2.1 1) k := by
        unfold dcl
        rw [he']
        exact encN_l c24 (by omega) b15 (by omega)
      rw [dk, c1]
      unfold bndl
      rw [if_pos hk]
      have hk1 := hl k hk
      have mono : rmF Z (fb_ct S 64) ((e % 2 ^ 24) ||| (f i).2.2.1) k ≤ rmF Z (fb_ct S 64) (e % 2 ^ 24) k := by
        unfold rmF
        exact Nat.div_le_div_right (by omega)
      unfold lsub
      by_cases kk : k = (f i).2.1
      · rw [if_pos kk, if_pos kk]
        have dd : rmF Z (fb_ct S 64) (e % 2 ^ 24) k = rmF Z (fb_ct S 64) ((e % 2 ^ 24) ||| (f i).2.2.1) k + 1 := by
          unfold rmF
          rw [po, kk, b5, Nat.div_eq_sub_div (by omega) (by omega), Nat.sub_sub]
        omega
      · rw [if_neg kk, if_neg kk]
        omega)
    rw [c1] at this
    exact this
end CSR
