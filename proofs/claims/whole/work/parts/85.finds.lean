/-! ===== the reference's search: its code ===== -/
section FINDS2
variable {w h : Nat} {r : Bool} {S T : Nat → Bool}
def amf (f : Nat → Nat) (z : tq_S) : Prop := ∀ l, l < 64 → tq_ai z 66 l = if f l < 64 then nI (f l) else -1
/-- the cells that are there: all, or all but one -/
def thr (S T : Nat → Bool) (z : tq_S) : Prop := (tq_fi z 3288 = -1 ∧ T = S) ∨ ∃ c, c < 64 ∧ tq_fi z 3288 = nI c ∧ T = wo S c
theorem thr_S {z : tq_S} (ht : thr S T z) {x : Nat} (hx : T x = true) : S x = true := by
  rcases ht with ⟨-, rfl⟩ | ⟨c, -, -, rfl⟩
  · exact hx
  · exact (wo_t.mp hx).1
theorem i_nm {a : Nat} (ha : a < 2147483648) : ¬ nI a = -1 := by
  intro e
  have := congrArg Int32.toInt e
  have m1 : (-1 : Int32).toInt = -1 := by decide +kernel
  rw [i_ti ha, m1] at this; omega
theorem sq_isThere {o : Nat} {z : tq_S} {Q : tq_O → tq_S → Prop} (hj : jr w h r S z) (ht : thr S T z) (ho : o < 64) (k : Q (.inl (some (.int (bi (T o))))) z) : wm_X12_isThere (nI o) z Q := by
  unfold wm_X12_isThere
  refine ⟨fun e => absurd e (i_nm (by omega)), fun _ => ?_⟩
  have main : ¬ nI o = tq_fi z 3288 → T o = S o → vp_in (nI o) 64 ∧ ((tq_ai z 52 (Int32.toNatClampNeg (nI o)) = 0 → Q (.inl (some (.int 0))) z) ∧ (¬ tq_ai z 52 (Int32.toNatClampNeg (nI o)) = 0 → Q (.inl (some (.int 1))) z)) := by
    intro _ e
    rw [e] at k
    rw [i_cl (by omega), hj.2 o ho, bi_0]
    refine ⟨i_in (by omega) (by omega), fun q => ?_, fun q => ?_⟩
    · rw [q] at k; exact k
    · have q : S o = true := by simpa using q
      rw [q] at k; exact k
  rcases ht with ⟨t1, rfl⟩ | ⟨c, c1, t1, rfl⟩
  · refine ⟨fun e => absurd (e.trans t1) (i_nm (by omega)), fun e => main e rfl⟩
  · rw [t1] at main ⊢
    rw [i_eq (by omega) (by omega)] at main ⊢
    refine ⟨fun e => ?_, fun e => main e ?_⟩
    · have : wo S c o = false := by unfold wo; rw [decide_eq_true e]; simp
      rw [this] at k; exact k
    · unfold wo; rw [decide_eq_false e]; simp
def FD : List (Nat × Nat) := [(2, 61), (2, 66)]
theorem sq_finds (hd : jd w h r S) : ∀ (n : Nat) (f : Nat → Nat) (V : Nat → Bool) (c e : Nat) (z : tq_S) (Q : tq_O → tq_S → Prop), fb_ct (fun l => T l && !dk l && !V l) 64 < n → jr w h r S z → thr S T z → amf f z → (∀ j, j < 64 → tq_ai z 61 j = bi (V j)) → pre w r T f V c e → (∀ (z' : tq_S) (V' : Nat → Bool), fr FD z z' → amf f z' → (∀ j, j < 64 → tq_ai z' 61 j = bi (V' j)) → nff w r T f V c V' → Q (.inl (some (.int 0))) z') → (∀ (z' : tq_S) (f' : Nat → Nat) (V' : Nat → Bool), fr FD z z' → amf f' z' → (∀ j, j < 64 → tq_ai z' 61 j = bi (V' j)) → pst w r T f V c e f' → Q (.inl (some (.int 1))) z') → wm_X12_finds n (nI c) z Q := by
  intro n
  induction n with
  | zero => intro f V c e z Q hn; omega
  | succ n ih =>
    intro f V c e z Q hn hj ht hf hV hp k0 k1
    have hp0 := hp
    obtain ⟨hl, c64, cT, ck, cu, ce_⟩ := hp
    have hw8 := hd.2.1
    have hh8 := hd.2.2.2.1
    have cS := thr_S ht cT
    have rc_ := hd.2.2.2.2.2 c cS
    show we_X12_finds (wm_X12_finds n) (nI c) z Q
    unfold we_X12_finds wc_X12_finds_2
    refine lp_inv (fun k s => ∃ V' z', s = (nI k, z') ∧ fr FD z z' ∧ amf f z' ∧ (∀ j, j < 64 → tq_ai z' 61 j = bi (V' j)) ∧ (∀ l, V l = true → V' l = true) ∧ (∀ k', k' < k → ∀ o, bs w h r c k' = some o → T o = true → V' o = true) ∧ ∀ l, V' l = true → V l = false → l < 64 ∧ T l = true ∧ f l < 64 ∧ ∀ l2, l2 < 64 → T l2 = true → nb w r (f l) l2 = true → V' l2 = true) 4 ?_ ⟨V, z, rfl, fr_r, hf, hV, fun _ h => h, fun k hk => by omega, fun l h1 h2 => by rw [h1] at h2; cases h2⟩
    rintro k s hk ⟨V1, z1, rfl, f1, hf1, hV1, m1, n1, p1⟩ B hB
    simp only
    unfold wb_X12_finds_2
    rw [i_4, i_le (by omega) (by omega)]
    refine ⟨fun q => ?_, fun q => ?_⟩
    · refine k0 z1 V1 f1 hf1 hV1 ⟨m1, fun l hl64 lT hn2 => ?_, p1⟩
      have lS := hd.2.2.2.2.2 l (thr_S ht lT)
      obtain ⟨k', k1', k2'⟩ := (bs_nb hw8 hh8 rc_.2.1 rc_.2.2 lS.2.1 lS.2.2).mpr hn2
      exact n1 k' (by omega) l k2' lT
    have hB := hB (by omega)
    have j1 := jr_f f1 (by decide) (by decide) (by decide) (by decide) hj
    have t1 : thr S T z1 := by unfold thr; rw [fr_fi f1 (by decide)]; exact ht
    -- on with the next side
    have go : ∀ (z2 : tq_S) (V2 : Nat → Bool), fr FD z z2 → amf f z2 → (∀ j, j < 64 → tq_ai z2 61 j = bi (V2 j)) → (∀ l, V1 l = true → V2 l = true) → (∀ o, bs w h r c k = some o → T o = true → V2 o = true) → (∀ l, V2 l = true → V1 l = false → l < 64 ∧ T l = true ∧ f l < 64 ∧ ∀ l2, l2 < 64 → T l2 = true → nb w r (f l) l2 = true → V2 l2 = true) → wc_X12_finds_70 (wm_X12_finds n) (fun b2 z => B (b2, z)) Q (nI c) (nI k) z2 := by
      intro z2 V2 f2 hf2 hV2 m2 n2 p2
      unfold wc_X12_finds_70
      intro v ev
      rw [i_1, i_add] at ev
      refine hB _ ⟨V2, z2, by rw [ev], f2, hf2, hV2, fun l h => m2 l (m1 l h), fun k' hk' o ho oT => ?_, fun l h1 h2 => ?_⟩
      · by_cases q2 : k' = k
        · rw [q2] at ho; exact n2 o ho oT
        · exact m2 o (n1 k' (by omega) o ho oT)
      · cases q2 : V1 l
        · exact p2 l h1 q2
        · obtain ⟨a1, a2, a3, a4⟩ := p1 l q2 h2
          exact ⟨a1, a2, a3, fun l2 b1 b2 b3 => m2 l2 (a4 l2 b1 b2 b3)⟩
    refine sq_rbes hd j1 rc_.2.1 rc_.2.2 (by omega) ⟨_, rfl, ?_⟩
    cases hbs : bs w h r c k with
    | none =>
      show wm_X12_isThere (-1) z1 _
      unfold wm_X12_isThere
      refine ⟨fun _ => ⟨_, rfl, fun _ => go z1 V1 f1 hf1 hV1 (fun _ h => h) (fun o ho => by rw [hbs] at ho; cases ho) (fun l h1 h2 => by rw [h1] at h2; cases h2), fun q2 => absurd rfl q2⟩, fun q2 => absurd rfl q2⟩
    | some o =>
      obtain ⟨o64, ox, oy⟩ := bs_in hw8 hh8 rc_.2.1 rc_.2.2 hbs
      have on : nb w r c o = true := (bs_nb hw8 hh8 rc_.2.1 rc_.2.2 ox oy).mp ⟨k, by omega, hbs⟩
      dsimp only [bo]
      refine sq_isThere j1 t1 o64 ⟨_, rfl, fun q2 => ?_, fun q2 => ⟨i_in (by omega) (by omega), fun q3 => ?_, fun q3 => ?_⟩⟩
      · rw [bi_0] at q2
        exact go z1 V1 f1 hf1 hV1 (fun _ h => h) (fun o' ho' oT => by rw [hbs] at ho'; cases ho'; rw [q2] at oT; cases oT) (fun l h1 h2 => by rw [h1] at h2; cases h2)
      · rw [i_cl (by omega), hV1 o o64, bi_n] at q3
        exact go z1 V1 f1 hf1 hV1 (fun _ h => h) (fun o' ho' oT => by rw [hbs] at ho'; cases ho'; exact q3) (fun l h1 h2 => by rw [h1] at h2; cases h2)
      · rw [bi_n] at q2
        rw [i_cl (by omega), hV1 o o64, bi_0] at q3
        have oS := thr_S ht q2
        have okd : dk o = false := by rw [nb_dk hd cS oS on, ck]; rfl
        refine ⟨i_in (by omega) (by omega), fun z2 e2 => ⟨i_in (by omega) (by omega), ?_⟩⟩
        have V0o : V o = false := by
          cases q4 : V o
          · rfl
          · rw [m1 o q4] at q3; cases q3
        have f2 : fr FD z z2 := by rw [e2]; exact fr_sai (by decide) f1
        have V2 : ∀ j, j < 64 → tq_ai z2 61 j = bi (if j = o then true else V1 j) := by
          intro j hj'
          rw [e2, rw_aie, rw_upd, i_cl (by omega)]
          by_cases q4 : j = o
          · rw [if_pos q4, if_pos q4]; decide +kernel
          · rw [if_neg q4, if_neg q4]; exact hV1 j hj'
        have hf2 : amf f z2 := fun l hl' => by rw [e2, rw_ain (by omega)]; exact hf1 l hl'
        rw [i_cl (by omega), hf2 o o64]
        -- the cell is taken
        have take : ∀ (z3 : tq_S) (f3 : Nat → Nat) (V3 : Nat → Bool), fr FD z z3 → amf f3 z3 → (∀ j, j < 64 → tq_ai z3 61 j = bi (V3 j)) → pst w r T f V c e (up1 f3 o c) → wc_X12_finds_61 (wm_X12_finds n) Q (nI c) (nI o) z3 := by
          intro z3 f3 V3 g3 a3 b3 p3
          unfold wc_X12_finds_61
          refine ⟨i_in (by omega) (by omega), fun z4 e4 => ?_⟩
          refine k1 z4 (up1 f3 o c) V3 (by rw [e4]; exact fr_sai (by decide) g3) (fun l hl' => ?_) (fun j hj' => by rw [e4, rw_ain (by omega)]; exact b3 j hj') p3
          rw [e4, rw_aie, rw_upd, i_cl (by omega)]
          by_cases q4 : l = o
          · rw [if_pos q4, q4, up1_e, if_pos c64]
          · rw [if_neg q4, up1_n q4]; exact a3 l hl'
        by_cases q4 : f o < 64
        · rw [if_pos q4]
          refine ⟨fun q5 => absurd q5 (i_nm (by omega)), fun _ => ⟨i_in (by omega) (by omega), ?_⟩⟩
          obtain ⟨g1, g2, g3, g4, g5⟩ := hl.1 o o64 q4
          have j2 := jr_f f2 (by decide) (by decide) (by decide) (by decide) hj
          have t2 : thr S T z2 := by unfold thr; rw [fr_fi f2 (by decide)]; exact ht
          have cnt : fb_ct (fun l => T l && !dk l && !(if l = o then true else V1 l)) 64 < n := by
            have a := ct_ex (P := fun l => T l && !dk l && !V l) (n := 64) o64 (by show (T o && !dk o && !V o) = true; rw [q2, okd, V0o]; rfl)
            have b : fb_ct (fun l => T l && !dk l && !(if l = o then true else V1 l)) 64 ≤ fb_ct (fun j => (T j && !dk j && !V j) && !decide (j = o)) 64 := fb_ct_sub (fun l _ hP => by
              by_cases q5 : l = o
              · rw [if_pos q5] at hP; simp at hP
              · rw [if_neg q5] at hP
                simp only [Bool.and_eq_true, Bool.not_eq_true'] at hP ⊢
                refine ⟨⟨hP.1, ?_⟩, decide_eq_false q5⟩
                cases q6 : V l
                · rfl
                · rw [m1 l q6] at hP; cases hP.2)
            omega
          refine ih f (fun j => if j = o then true else V1 j) (f o) o z2 _ cnt j2 t2 hf2 V2 ⟨hl, q4, g3, g4, fun l hl' he => hl.2 l o hl' o64 (by rw [he]; exact q4) he, Or.inr ⟨o64, rfl, if_pos rfl⟩⟩ (fun z3 V3 h3 hf3 hV3 n3 => ⟨_, rfl, fun _ => ?_, fun q5 => absurd rfl q5⟩) (fun z3 f3 V3 h3 hf3 hV3 p3 => ⟨_, rfl, fun q5 => absurd q5 (by decide +kernel), fun _ => ?_⟩)
          · obtain ⟨c1, c2, c3⟩ := n3
            refine go z3 V3 (fr_t f2 h3) hf3 hV3 (fun l hl' => c1 l (by show (if l = o then true else V1 l) = true; split; rfl; exact hl')) (fun o' ho' _ => by rw [hbs] at ho'; cases ho'; exact c1 _ (if_pos rfl)) (fun l h1 h2 => ?_)
            by_cases q5 : l = o
            · rw [q5]; exact ⟨o64, q2, q4, c2⟩
            · exact c3 l h1 (by show (if l = o then true else V1 l) = false; rw [if_neg q5]; exact h2)
          · exact take z3 f3 V3 (fr_t f2 h3) hf3 hV3 (pst_2 hp0 m1 o64 q2 okd q3 on q4 p3)
        · rw [if_neg q4]
          refine ⟨fun _ => take z2 f _ f2 hf2 V2 (pst_1 hp0 o64 q2 okd V0o on q4), fun q5 => absurd rfl q5⟩
/-! how many pieces can be put -/
def FMo : List (Nat × Nat) := [(0, 3288), (2, 61), (2, 66)]
theorem sq_most {out : Int32} {z : tq_S} {Q : tq_O → tq_S → Prop} (hd : jd w h r S) (hj : jr w h r S z) (ht : (out = -1 ∧ T = S) ∨ ∃ c, c < 64 ∧ out = nI c ∧ T = wo S c) (kk : ∀ z' k, fr FMo z z' → mm w r T k → k ≤ 64 → Q (.inl (some (.int (nI k)))) z') : wm_X12_most out z Q := by
  have hw8 := hd.2.1
  have hh8 := hd.2.2.2.1
  have hre := hd.2.2.2.2.2
  unfold wm_X12_most
  intro z1 e1
  have f1 : fr FMo z z1 := by rw [e1]; exact fr_sfi (by decide) fr_r
  have t1 : thr S T z1 := by unfold thr; rw [e1, rw_fie]; exact ht
  have main : ∀ z2, fr FMo z z2 → thr S T z2 → amf (fun _ => 64) z2 → wc_X12_most_26 Q z2 := by
    intro z2 f2 t2 a2
    unfold wc_X12_most_26 wc_X12_most_30
    refine lp_inv (fun i s => ∃ f Zd Zl z', s = (nI (sz f), nI i, z') ∧ fr FMo z z' ∧ thr S T z' ∧ amf f z' ∧ lm w r T f ∧ ce w r T f Zd Zl ∧ (∀ d, d < i → T d = true → dk d = true → Zd d = true ∨ ∃ l, l < 64 ∧ f l = d) ∧ (∀ d, i ≤ d → Zd d = false) ∧ ∀ l, l < 64 → f l < 64 → f l < i) 64 ?_ ⟨fun _ => 64, fun _ => false, fun _ => false, z2, by
      have : sz (fun _ => 64) = 0 := fb_ct_zero.mpr (fun k _ => decide_eq_false (Nat.lt_irrefl 64))
      rw [this]; rfl, f2, t2, a2, ⟨fun l _ h => absurd h (Nat.lt_irrefl 64), fun l l' _ _ h => absurd h (Nat.lt_irrefl 64)⟩, ⟨fun d h => (by cases h), fun d l h => (by cases h), fun l h => (by cases h)⟩, fun d h => by omega, fun _ _ => rfl, fun l _ h => absurd h (Nat.lt_irrefl 64)⟩
    rintro i s hi ⟨f, Zd, Zl, z3, rfl, f3, t3, a3, l3, c3, d3, e3, u3⟩ B hB
    simp only
    have sz64 : sz f ≤ 64 := fb_ct_le _ 64
    unfold wb_X12_most_30
    rw [i_64, i_le (by omega) (by omega)]
    refine ⟨fun q => ?_, fun q => ?_⟩
    · have : i = 64 := by omega
      subst this
      exact kk z3 _ f3 (ce_max l3 c3 (fun d hd64 dT dK => d3 d hd64 dT dK)) sz64
    have hB := hB (by omega)
    have i64 : i < 64 := by omega
    have j3 := jr_f f3 (by decide) (by decide) (by decide) (by decide) hj
    have skip : ∀ z4, fr FMo z z4 → thr S T z4 → amf f z4 → ¬ (T i = true ∧ dk i = true) → wc_X12_most_78 (fun b2 b3 z => B (b2, b3, z)) Q (nI (sz f)) (nI i) z4 := by
      intro z4 f4 t4 a4 hn
      unfold wc_X12_most_78
      intro v ev
      rw [i_1, i_add] at ev
      refine hB _ ⟨f, Zd, Zl, z4, by rw [ev], f4, t4, a4, l3, c3, fun d h1 h2 h3 => ?_, fun d h1 => e3 d (by omega), fun l h1 h2 => by have := u3 l h1 h2; omega⟩
      by_cases q2 : d = i
      · rw [q2] at h2 h3; exact absurd ⟨h2, h3⟩ hn
      · exact d3 d (by omega) h2 h3
    refine sq_isThere j3 t3 i64 ⟨_, rfl, fun q2 => ?_, fun q2 => ?_⟩
    · rw [bi_0] at q2
      exact skip z3 f3 t3 a3 (fun h => by rw [q2] at h; cases h.1)
    rw [bi_n] at q2
    rw [i_8, pk_rem (by omega) (by omega) (by omega), pk_div (by omega) (by omega) (by omega)]
    have dki : decide ((i % 8 + i / 8) % 2 = 0) = dk i := rfl
    refine sq_isDark (by omega) (by omega) ⟨_, rfl, fun q3 => ?_, fun q3 => ?_⟩
    · rw [bi_0, dki] at q3
      exact skip z3 f3 t3 a3 (fun h => by rw [q3] at h; cases h.2)
    rw [bi_n, dki] at q3
    refine sq_noneSeen (fun z4 f4 V4 => ⟨rfl, ?_⟩)
    have f34 : fr FMo z z4 := fr_t f3 (fr_m (by decide) f4)
    have j4 := jr_f f34 (by decide) (by decide) (by decide) (by decide) hj
    have t4 : thr S T z4 := by unfold thr; rw [fr_fi f4 (by decide)]; exact t3
    have a4 : amf f z4 := fun l hl => by rw [fr_ai f4 (by decide)]; exact a3 l hl
    have iu : ∀ l, l < 64 → f l = i → l = 64 := fun l hl he => by
      have := u3 l hl (by omega); omega
    have cl : clz w r T f Zd Zl := ⟨c3.2.1, fun l hl => (c3.2.2 l hl).2⟩
    refine sq_finds (T := T) hd 40 f (fun _ => false) i 64 z4 _ ?_ j4 t4 a4 V4 ⟨l3, i64, q2, q3, iu, Or.inl rfl⟩ (fun z5 V5 f5 a5 V5' n5 => ⟨_, rfl, fun _ => ?_, fun q5 => absurd rfl q5⟩) (fun z5 f' V5 f5 a5 V5' p5 => ⟨_, rfl, fun q5 => absurd q5 (by decide +kernel), fun _ => ?_⟩)
    · -- at most 32 light cells
      have h1 : fb_ct (fun l => T l && !dk l && !false) 64 ≤ fb_ct (fun l => !dk l) 64 := fb_ct_sub (fun l _ hP => by simp only [Bool.and_eq_true] at hP; exact hP.1.2)
      have h2 : fb_ct (fun l => !dk l) 64 = 32 := by decide +kernel
      show fb_ct (fun l => T l && !dk l && !false) 64 < 40
      omega
    · -- none is found
      have f35 : fr FMo z z5 := fr_t f34 (fr_m (by decide) f5)
      have t5 : thr S T z5 := by unfold thr; rw [fr_fi f5 (by decide)]; exact t4
      obtain ⟨-, b2, b3⟩ := n5
      have b3 := fun l hl => b3 l hl rfl
      obtain ⟨Zd', hZd'⟩ : ∃ Zd' : Nat → Bool, Zd' = fun d => Zd d || decide (d = i) || @decide (∃ l, V5 l = true ∧ f l = d) (Classical.propDecidable _) := ⟨_, rfl⟩
      have zt : ∀ d, Zd' d = true ↔ Zd d = true ∨ d = i ∨ ∃ l, V5 l = true ∧ f l = d := by
        intro d
        rw [hZd']
        simp only [Bool.or_eq_true, decide_eq_true_eq, @decide_eq_true_iff _ (Classical.propDecidable _), or_assoc]
      unfold wc_X12_most_76
      intro v6 e6
      rw [i_0, i_add, Nat.add_zero] at e6
      rw [e6]
      unfold wc_X12_most_78
      intro v7 e7
      rw [i_1, i_add] at e7
      refine hB _ ⟨f, Zd', fun l => Zl l || V5 l, z5, by rw [e7], f35, t5, a5, l3, ⟨fun d hd' => ?_, fun d l hd' hl lT hn => ?_, fun l hl => ?_⟩, fun d h1 h2 h3 => ?_, fun d h1 => ?_, fun l h1 h2 => by have := u3 l h1 h2; omega⟩
      · rcases (zt d).mp hd' with q4 | q4 | ⟨l, q4, q5⟩
        · exact c3.1 d q4
        · rw [q4]; exact ⟨i64, q2, q3⟩
        · obtain ⟨x1, x2, x3, x4⟩ := b3 l q4
          have := l3.1 l x1 x3
          rw [q5] at this x3
          exact ⟨x3, this.2.2.1, this.2.2.2.1⟩
      · show (Zl l || V5 l) = true
        rcases (zt d).mp hd' with q4 | q4 | ⟨l', q4, q5⟩
        · rw [c3.2.1 d l q4 hl lT hn]; rfl
        · rw [q4] at hn; rw [b2 l hl lT hn]; simp
        · rw [← q5] at hn
          rw [(b3 l' q4).2.2.2 l hl lT hn]; simp
      · have hl : (Zl l || V5 l) = true := hl
        rw [Bool.or_eq_true] at hl
        rcases hl with q4 | q4
        · obtain ⟨x1, x2, x3⟩ := c3.2.2 l q4
          exact ⟨x1, x2, (zt _).mpr (Or.inl x3)⟩
        · obtain ⟨x1, x2, x3, x4⟩ := b3 l q4
          exact ⟨x1, x3, (zt _).mpr (Or.inr (Or.inr ⟨l, q4, rfl⟩))⟩
      · by_cases q4 : d = i
        · exact Or.inl ((zt d).mpr (Or.inr (Or.inl q4)))
        · rcases d3 d (by omega) h2 h3 with q5 | q5
          · exact Or.inl ((zt d).mpr (Or.inl q5))
          · exact Or.inr q5
      · cases q4 : Zd' d
        · rfl
        · rcases (zt d).mp q4 with q5 | q5 | ⟨l, q5, q6⟩
          · rw [e3 d (by omega)] at q5; cases q5
          · omega
          · obtain ⟨x1, x2, x3, x4⟩ := b3 l q5
            have := u3 l x1 x3
            omega
    · -- one is found
      have f35 : fr FMo z z5 := fr_t f34 (fr_m (by decide) f5)
      have t5 : thr S T z5 := by unfold thr; rw [fr_fi f5 (by decide)]; exact t4
      obtain ⟨p1, p2, p3, p4, p5, p6⟩ := p5
      have ex : ∀ g : Nat → Nat, ∀ l, l < 64 → up1 g 64 64 l = g l := fun g l hl => up1_n (by omega)
      have s' : sz f' = sz f + 1 := by
        rw [← sz_c (ex f'), ← sz_c (ex f)]; exact p3
      have lm' : lm w r T f' := by
        refine ⟨fun l hl hf => ?_, fun l l' hl hl' hf he => ?_⟩
        · have := p2.1 l hl (by rw [ex f' l hl]; exact hf)
          rw [ex f' l hl] at this; exact this
        · exact p2.2 l l' hl hl' (by rw [ex f' l hl]; exact hf) (by rw [ex f' l hl, ex f' l' hl']; exact he)
      obtain ⟨-, keep⟩ := p6 Zd Zl cl
      unfold wc_X12_most_76
      intro v6 e6
      rw [i_1, i_add, ← s'] at e6
      rw [e6]
      unfold wc_X12_most_78
      intro v7 e7
      rw [i_1, i_add] at e7
      -- the dark cells of f' are those of f and this one
      have img : ∀ l, l < 64 → f' l < 64 → f' l < i + 1 := by
        intro l hl hf
        refine Classical.byContradiction fun hn => ?_
        have big : sz f + 2 ≤ sz f' := by
          have exl := ct_ex (P := fun l' => decide (f' l' < 64)) (n := 64) hl (decide_eq_true hf)
          obtain ⟨o, o1, o2, o3⟩ := p5
          have lo : o ≠ l := fun e => by rw [e] at o3; omega
          have exo := ct_ex (P := fun l' => decide (f' l' < 64) && !decide (l' = l)) (n := 64) o1 (by show (decide (f' o < 64) && !decide (o = l)) = true; rw [o3, decide_eq_true i64, decide_eq_false lo]; rfl)
          have sub : fb_ct (fun l' => decide (f l' < 64)) 64 ≤ fb_ct (fun j => (decide (f' j < 64) && !decide (j = l)) && !decide (j = o)) 64 := by
            refine cinj (g := fun l' => @dite Nat (∃ x, x < 64 ∧ x ≠ 64 ∧ f' x = f l') (Classical.propDecidable _) (fun e => Classical.choose e) (fun _ => 64)) (fun l' hl' hP => ?_) (fun x y hx hy hP hP' he => ?_)
            · have hP := of_decide_eq_true hP
              have ex' := p4 l' hl' (by omega) hP
              rw [dif_pos ex']
              obtain ⟨b1, b2, b3⟩ := Classical.choose_spec ex'
              refine ⟨b1, ?_⟩
              have ui := u3 l' hl' hP
              show ((decide (f' (Classical.choose ex') < 64) && !decide (Classical.choose ex' = l)) && !decide (Classical.choose ex' = o)) = true
              rw [b3, decide_eq_true hP, decide_eq_false (fun q => by rw [q] at b3; omega), decide_eq_false (fun q => by rw [q, o3] at b3; omega)]; rfl
            · have hP := of_decide_eq_true hP
              have hP' := of_decide_eq_true hP'
              have exx := p4 x hx (by omega) hP
              have exy := p4 y hy (by omega) hP'
              rw [dif_pos exx, dif_pos exy] at he
              have c1 := (Classical.choose_spec exx).2.2
              have c2 := (Classical.choose_spec exy).2.2
              rw [he] at c1
              exact l3.2 x y hx hy hP (c1.symm.trans c2)
          unfold sz
          omega
        omega
      refine hB _ ⟨f', Zd, Zl, z5, by rw [e7], f35, t5, a5, lm', ⟨c3.1, c3.2.1, fun l hl => ?_⟩, fun d h1 h2 h3 => ?_, fun d h1 => e3 d (by omega), img⟩
      · rw [keep l hl]; exact c3.2.2 l hl
      · by_cases q4 : d = i
        · obtain ⟨o, o1, o2, o3⟩ := p5
          exact Or.inr ⟨o, o1, by rw [o3, q4]⟩
        · rcases d3 d (by omega) h2 h3 with q5 | ⟨l, q5, q6⟩
          · exact Or.inl q5
          · have d64 : d < 64 := by omega
            obtain ⟨l', x1, x2, x3⟩ := p4 l q5 (by omega) (by rw [q6]; exact d64)
            exact Or.inr ⟨l', x1, by rw [x3, q6]⟩
  unfold wc_X12_most_7
  refine lp_inv (fun m s => ∃ z', s = (nI m, z') ∧ fr FMo z z' ∧ thr S T z' ∧ ∀ l, l < m → tq_ai z' 66 l = -1) 64 ?_ ⟨z1, rfl, f1, t1, fun l hl => by omega⟩
  rintro m s hm ⟨z2, rfl, f2, t2, a2⟩ B hB
  simp only
  unfold wb_X12_most_7
  rw [i_64, i_le (by omega) (by omega), i_cl (by omega)]
  refine ⟨fun q => main z2 f2 t2 (fun l hl => by rw [a2 l (by omega), if_neg (Nat.lt_irrefl 64)]), fun q => ⟨i_in (by omega) (by omega), fun z3 e3 v e4 => ?_⟩⟩
  rw [i_1, i_add] at e4
  refine hB (by omega) _ ⟨z3, by rw [e4], by rw [e3]; exact fr_sai (by decide) f2, by unfold thr; rw [e3]; exact t2, fun l hl => ?_⟩
  rw [e3, rw_aie, rw_upd]
  by_cases q2 : l = m
  · rw [if_pos q2]
  · rw [if_neg q2]; exact a2 l (by omega)
end FINDS2
