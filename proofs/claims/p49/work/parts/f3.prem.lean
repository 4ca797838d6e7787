/-! ===== what the Statement gives of the start ===== -/
section PRM
variable {args : Array Value} {s : State}
theorem sa_l {a b : Cond} (h : (Cond.and a b).before args s = true) : a.before args s = true := by
  rw [Cond.before_and] at h
  exact (Bool.and_eq_true_iff.mp h).1
theorem sa_r {a b : Cond} (h : (Cond.and a b).before args s = true) : b.before args s = true := by
  rw [Cond.before_and] at h
  exact (Bool.and_eq_true_iff.mp h).2
theorem sa_x {t : Term} {cls : String} (h : (Cond.exactly t cls).before args s = true) : ∃ a, t.eval args s none [] s = some (.ref a) := by
  obtain ⟨a, _, _, _, e, _⟩ := Cond.exactly_spec h
  exact ⟨a, e⟩
theorem sa_n {w : Cond} (hw : tq_nst w = true) (h : w.before args s = true) : va_Nw w s := by
  cases w <;> first | exact h | cases hw
end PRM
theorem sx_str {b : Nat} {s : State} (hts : ∀ w ∈ lw_tbl, w.before #[Value.ref b] s = true) (hgv : (Jvm.Cond.and given_1 narrow_1).before #[Value.ref b] s = true) : ∀ q ∈ tq_strs, ∃ a, vk_R q.1 q.2.1 q.2.2 a s := List.forall_mem_cons.mpr ⟨(by obtain ⟨a, e⟩ := sa_x (sa_l (sa_r (sa_l (sa_l (sa_l (sa_r (sa_l (sa_r (sa_l (sa_l (sa_r hgv))))))))))); exact ⟨a, vk_R.of (hts _ (tq_i3 99 rfl)) e⟩), List.forall_mem_cons.mpr ⟨(by obtain ⟨a, e⟩ := sa_x (sa_r (sa_r (sa_r (sa_r (sa_l (sa_l (sa_r (sa_r (sa_l (sa_l (sa_r hgv))))))))))); exact ⟨a, vk_R.of (hts _ (tq_i3 209 rfl)) e⟩), List.forall_mem_cons.mpr ⟨(by obtain ⟨a, e⟩ := sa_x (sa_l (sa_l (sa_l (sa_r (sa_r (sa_r (sa_r (sa_l (sa_l (sa_r hgv)))))))))); exact ⟨a, vk_R.of (hts _ (tq_i4 10 rfl)) e⟩), List.forall_mem_cons.mpr ⟨(by obtain ⟨a, e⟩ := sa_x (sa_l (sa_r (sa_r (sa_r (sa_l (sa_l (sa_l (sa_l (sa_r (sa_l (sa_r hgv))))))))))); exact ⟨a, vk_R.of (hts _ (tq_i5 178 rfl)) e⟩), List.forall_mem_cons.mpr ⟨(by obtain ⟨a, e⟩ := sa_x (sa_r (sa_r (sa_r (sa_l (sa_r (sa_r (sa_l (sa_l (sa_r (sa_l (sa_r hgv))))))))))); exact ⟨a, vk_R.of (hts _ (tq_i5 215 rfl)) e⟩), List.forall_mem_cons.mpr ⟨(by obtain ⟨a, e⟩ := sa_x (sa_r (sa_r (sa_l (sa_r (sa_r (sa_l (sa_r (sa_l (sa_r (sa_l (sa_r hgv))))))))))); exact ⟨a, vk_R.of (hts _ (tq_i6 5 rfl)) e⟩), List.forall_mem_cons.mpr ⟨(by obtain ⟨a, e⟩ := sa_x (sa_l (sa_r (sa_l (sa_r (sa_l (sa_l (sa_r (sa_r (sa_l (sa_r hgv)))))))))); exact ⟨a, vk_R.of (hts _ (tq_i6 14 rfl)) e⟩), List.forall_mem_cons.mpr ⟨(by obtain ⟨a, e⟩ := sa_x (sa_r (sa_r (sa_l (sa_l (sa_l (sa_l (sa_r (sa_r (sa_r (sa_l (sa_r hgv))))))))))); exact ⟨a, vk_R.of (hts _ (tq_i6 23 rfl)) e⟩), List.forall_mem_cons.mpr ⟨(by obtain ⟨a, e⟩ := sa_x (sa_l (sa_l (sa_l (sa_r (sa_r (sa_r (sa_r (sa_r (sa_l (sa_r hgv)))))))))); exact ⟨a, vk_R.of (hts _ (tq_i6 46 rfl)) e⟩), List.forall_mem_cons.mpr ⟨(by obtain ⟨a, e⟩ := sa_x (sa_l (sa_r (sa_l (sa_r (sa_r (sa_r (sa_l (sa_l (sa_l (sa_r (sa_r hgv))))))))))); exact ⟨a, vk_R.of (hts _ (tq_i6 67 rfl)) e⟩), List.forall_mem_cons.mpr ⟨(by obtain ⟨a, e⟩ := sa_x (sa_l (sa_r (sa_l (sa_l (sa_r (sa_r (sa_l (sa_l (sa_r (sa_r hgv)))))))))); exact ⟨a, vk_R.of (hts _ (tq_i6 111 rfl)) e⟩), List.forall_mem_cons.mpr ⟨(by obtain ⟨a, e⟩ := sa_x (sa_l (sa_l (sa_l (sa_r (sa_l (sa_l (sa_r (sa_l (sa_r (sa_r hgv)))))))))); exact ⟨a, vk_R.of (hts _ (tq_i6 153 rfl)) e⟩), List.forall_mem_cons.mpr ⟨(by obtain ⟨a, e⟩ := sa_x (sa_r (sa_r (sa_r (sa_r (sa_r (sa_r (sa_l (sa_r (sa_l (sa_r (sa_r hgv))))))))))); exact ⟨a, vk_R.of (hts _ (tq_i6 162 rfl)) e⟩), List.forall_mem_cons.mpr ⟨(by obtain ⟨a, e⟩ := sa_x (sa_r (sa_l (sa_r (sa_r (sa_l (sa_r (sa_r (sa_r (sa_l (sa_r (sa_r hgv))))))))))); exact ⟨a, vk_R.of (hts _ (tq_i6 173 rfl)) e⟩), List.forall_mem_cons.mpr ⟨(by obtain ⟨a, e⟩ := sa_x (sa_r (sa_l (sa_r (sa_r (sa_r (sa_l (sa_l (sa_l (sa_r (sa_r (sa_r hgv))))))))))); exact ⟨a, vk_R.of (hts _ (tq_i6 184 rfl)) e⟩), List.forall_mem_cons.mpr ⟨(by obtain ⟨a, e⟩ := sa_x (sa_l (sa_r (sa_r (sa_r (sa_l (sa_l (sa_r (sa_l (sa_r (sa_r (sa_r hgv))))))))))); exact ⟨a, vk_R.of (hts _ (tq_i6 193 rfl)) e⟩), List.forall_mem_cons.mpr ⟨(by obtain ⟨a, e⟩ := sa_x (sa_r (sa_r (sa_r (sa_l (sa_l (sa_l (sa_l (sa_r (sa_r (sa_r (sa_r hgv))))))))))); exact ⟨a, vk_R.of (hts _ (tq_i6 202 rfl)) e⟩), List.forall_mem_cons.mpr ⟨(by obtain ⟨a, e⟩ := sa_x (sa_l (sa_l (sa_l (sa_r (sa_l (sa_r (sa_r (sa_r (sa_r (sa_r hgv)))))))))); exact ⟨a, vk_R.of (hts _ (tq_i6 213 rfl)) e⟩), fun _ h => nomatch h⟩⟩⟩⟩⟩⟩⟩⟩⟩⟩⟩⟩⟩⟩⟩⟩⟩⟩
theorem sx_nc {b : Nat} {s : State} (hgv : (Jvm.Cond.and given_1 narrow_1).before #[Value.ref b] s = true) : ∀ q ∈ tq_ncs, va_Nc q.1 q.2 s := List.forall_mem_cons.mpr ⟨va_Nc.of (sa_l (sa_l (sa_r (sa_l (sa_l (sa_r (sa_l (sa_l (sa_l (sa_r hgv)))))))))), List.forall_mem_cons.mpr ⟨va_Nc.of (sa_r (sa_r (sa_l (sa_r (sa_l (sa_l (sa_r (sa_l (sa_l (sa_l (sa_r hgv))))))))))), List.forall_mem_cons.mpr ⟨va_Nc.of (sa_l (sa_l (sa_r (sa_r (sa_l (sa_l (sa_r (sa_l (sa_l (sa_l (sa_r hgv))))))))))), List.forall_mem_cons.mpr ⟨va_Nc.of (sa_r (sa_l (sa_r (sa_r (sa_l (sa_l (sa_r (sa_l (sa_l (sa_l (sa_r hgv))))))))))), List.forall_mem_cons.mpr ⟨va_Nc.of (sa_r (sa_l (sa_r (sa_r (sa_r (sa_l (sa_r (sa_l (sa_l (sa_l (sa_r hgv))))))))))), List.forall_mem_cons.mpr ⟨va_Nc.of (sa_r (sa_r (sa_r (sa_r (sa_r (sa_l (sa_r (sa_l (sa_l (sa_l (sa_r hgv))))))))))), List.forall_mem_cons.mpr ⟨va_Nc.of (sa_l (sa_l (sa_l (sa_l (sa_r (sa_r (sa_l (sa_l (sa_l (sa_r hgv)))))))))), List.forall_mem_cons.mpr ⟨va_Nc.of (sa_l (sa_r (sa_l (sa_l (sa_l (sa_r (sa_r (sa_l (sa_l (sa_l (sa_r hgv))))))))))), List.forall_mem_cons.mpr ⟨va_Nc.of (sa_l (sa_r (sa_l (sa_l (sa_r (sa_r (sa_r (sa_l (sa_l (sa_l (sa_r hgv))))))))))), List.forall_mem_cons.mpr ⟨va_Nc.of (sa_r (sa_r (sa_l (sa_l (sa_r (sa_r (sa_r (sa_l (sa_l (sa_l (sa_r hgv))))))))))), List.forall_mem_cons.mpr ⟨va_Nc.of (sa_l (sa_r (sa_l (sa_r (sa_r (sa_r (sa_l (sa_l (sa_l (sa_r hgv)))))))))), List.forall_mem_cons.mpr ⟨va_Nc.of (sa_l (sa_r (sa_r (sa_l (sa_r (sa_r (sa_r (sa_l (sa_l (sa_l (sa_r hgv))))))))))), List.forall_mem_cons.mpr ⟨va_Nc.of (sa_r (sa_r (sa_r (sa_l (sa_l (sa_l (sa_l (sa_r (sa_l (sa_l (sa_r hgv))))))))))), List.forall_mem_cons.mpr ⟨va_Nc.of (sa_l (sa_l (sa_r (sa_l (sa_l (sa_l (sa_r (sa_l (sa_l (sa_r hgv)))))))))), List.forall_mem_cons.mpr ⟨va_Nc.of (sa_l (sa_r (sa_l (sa_r (sa_l (sa_l (sa_l (sa_r (sa_l (sa_l (sa_r hgv))))))))))), List.forall_mem_cons.mpr ⟨va_Nc.of (sa_r (sa_r (sa_l (sa_r (sa_l (sa_l (sa_l (sa_r (sa_l (sa_l (sa_r hgv))))))))))), List.forall_mem_cons.mpr ⟨va_Nc.of (sa_l (sa_l (sa_r (sa_r (sa_r (sa_l (sa_l (sa_r (sa_l (sa_l (sa_r hgv))))))))))), List.forall_mem_cons.mpr ⟨va_Nc.of (sa_l (sa_r (sa_r (sa_r (sa_r (sa_l (sa_l (sa_r (sa_l (sa_l (sa_r hgv))))))))))), List.forall_mem_cons.mpr ⟨va_Nc.of (sa_r (sa_r (sa_r (sa_r (sa_r (sa_l (sa_l (sa_r (sa_l (sa_l (sa_r hgv))))))))))), List.forall_mem_cons.mpr ⟨va_Nc.of (sa_l (sa_l (sa_l (sa_l (sa_r (sa_l (sa_r (sa_l (sa_l (sa_r hgv)))))))))), fun _ h => nomatch h⟩⟩⟩⟩⟩⟩⟩⟩⟩⟩⟩⟩⟩⟩⟩⟩⟩⟩⟩⟩
set_option maxRecDepth 100000 in
theorem sx_X {b L : Nat} {xs : Nat → Int32} {s : State} (hL : L ≤ 260) (hts : ∀ w ∈ lw_tbl, w.before #[Value.ref b] s = true) (hgv : (Jvm.Cond.and given_1 narrow_1).before #[Value.ref b] s = true) (hX : va_X b L xs s s.heap) (hbl : b < s.heap.size) : ∃ t1 t2 : Nat, ∀ ρ : Nat → Nat, ρ 900 = t1 → ρ 901 = t2 → ρ 902 = b → tq_X (L, xs) ρ (fun q => s.heap.size ≤ q) s s.heap := by
  obtain ⟨A, hAe⟩ : ∃ A : Nat → Prop, A = fun q => s.heap.size ≤ q := ⟨_, rfl⟩
  rw [← hAe]
  have hA : ∀ a : Nat, a < s.heap.size → ¬ A a := fun a ha u => by rw [hAe] at u; exact absurd u (Nat.not_le.mpr ha)
  obtain ⟨tENDS, eENDS, TENDS⟩ := va_Tof (tm := .static "Tilecount$Growth" "ENDS" "[I") (ty := .int) (N := 7) (f := fun j => .int (tq_ends.getD j 0)) (A := A) (by decide) (sa_r (sa_r (sa_r (sa_l (sa_l (sa_l (sa_l (sa_l (sa_l (sa_l (sa_r hgv))))))))))) (va_eqt (sa_l (sa_l (sa_r (sa_l (sa_l (sa_l (sa_l (sa_l (sa_l (sa_r hgv))))))))))) (fun j => match j with
    | 0 => fun _ => va_eqt (sa_l (sa_r (sa_l (sa_r (sa_l (sa_l (sa_l (sa_l (sa_l (sa_l (sa_r hgv)))))))))))
    | 1 => fun _ => va_eqt (sa_r (sa_r (sa_l (sa_r (sa_l (sa_l (sa_l (sa_l (sa_l (sa_l (sa_r hgv)))))))))))
    | 2 => fun _ => va_eqt (sa_l (sa_r (sa_r (sa_l (sa_l (sa_l (sa_l (sa_l (sa_l (sa_r hgv))))))))))
    | 3 => fun _ => va_eqt (sa_l (sa_r (sa_r (sa_r (sa_l (sa_l (sa_l (sa_l (sa_l (sa_l (sa_r hgv)))))))))))
    | 4 => fun _ => va_eqt (sa_r (sa_r (sa_r (sa_r (sa_l (sa_l (sa_l (sa_l (sa_l (sa_l (sa_r hgv)))))))))))
    | 5 => fun _ => va_eqt (sa_l (sa_l (sa_l (sa_r (sa_l (sa_l (sa_l (sa_l (sa_l (sa_r hgv))))))))))
    | 6 => fun _ => va_eqt (sa_l (sa_r (sa_l (sa_l (sa_r (sa_l (sa_l (sa_l (sa_l (sa_l (sa_r hgv)))))))))))
    | _ + 7 => fun h => absurd h (by omega)) hA
  obtain ⟨tFACTORS, eFACTORS, TFACTORS⟩ := va_Tof (tm := .static "Tilecount$Growth" "FACTORS" "[I") (ty := .int) (N := 28) (f := fun j => .int (tq_facs.getD j 0)) (A := A) (by decide) (sa_l (sa_r (sa_l (sa_r (sa_l (sa_l (sa_l (sa_l (sa_l (sa_r hgv)))))))))) (va_eqt (sa_l (sa_r (sa_r (sa_l (sa_r (sa_l (sa_l (sa_l (sa_l (sa_l (sa_r hgv)))))))))))) (fun j => match j with
    | 0 => fun _ => va_eqt (sa_r (sa_r (sa_r (sa_l (sa_r (sa_l (sa_l (sa_l (sa_l (sa_l (sa_r hgv)))))))))))
    | 1 => fun _ => va_eqt (sa_l (sa_l (sa_r (sa_r (sa_l (sa_l (sa_l (sa_l (sa_l (sa_r hgv))))))))))
    | 2 => fun _ => va_eqt (sa_l (sa_r (sa_l (sa_r (sa_r (sa_l (sa_l (sa_l (sa_l (sa_l (sa_r hgv)))))))))))
    | 3 => fun _ => va_eqt (sa_r (sa_r (sa_l (sa_r (sa_r (sa_l (sa_l (sa_l (sa_l (sa_l (sa_r hgv)))))))))))
    | 4 => fun _ => va_eqt (sa_l (sa_l (sa_r (sa_r (sa_r (sa_l (sa_l (sa_l (sa_l (sa_l (sa_r hgv)))))))))))
    | 5 => fun _ => va_eqt (sa_r (sa_l (sa_r (sa_r (sa_r (sa_l (sa_l (sa_l (sa_l (sa_l (sa_r hgv)))))))))))
    | 6 => fun _ => va_eqt (sa_l (sa_r (sa_r (sa_r (sa_r (sa_l (sa_l (sa_l (sa_l (sa_l (sa_r hgv)))))))))))
    | 7 => fun _ => va_eqt (sa_r (sa_r (sa_r (sa_r (sa_r (sa_l (sa_l (sa_l (sa_l (sa_l (sa_r hgv)))))))))))
    | 8 => fun _ => va_eqt (sa_l (sa_l (sa_l (sa_l (sa_r (sa_l (sa_l (sa_l (sa_l (sa_r hgv))))))))))
    | 9 => fun _ => va_eqt (sa_l (sa_r (sa_l (sa_l (sa_l (sa_r (sa_l (sa_l (sa_l (sa_l (sa_r hgv)))))))))))
    | 10 => fun _ => va_eqt (sa_r (sa_r (sa_l (sa_l (sa_l (sa_r (sa_l (sa_l (sa_l (sa_l (sa_r hgv)))))))))))
    | 11 => fun _ => va_eqt (sa_l (sa_r (sa_l (sa_l (sa_r (sa_l (sa_l (sa_l (sa_l (sa_r hgv))))))))))
    | 12 => fun _ => va_eqt (sa_l (sa_r (sa_r (sa_l (sa_l (sa_r (sa_l (sa_l (sa_l (sa_l (sa_r hgv)))))))))))
    | 13 => fun _ => va_eqt (sa_r (sa_r (sa_r (sa_l (sa_l (sa_r (sa_l (sa_l (sa_l (sa_l (sa_r hgv)))))))))))
    | 14 => fun _ => va_eqt (sa_l (sa_l (sa_r (sa_l (sa_r (sa_l (sa_l (sa_l (sa_l (sa_r hgv))))))))))
    | 15 => fun _ => va_eqt (sa_l (sa_r (sa_l (sa_r (sa_l (sa_r (sa_l (sa_l (sa_l (sa_l (sa_r hgv)))))))))))
    | 16 => fun _ => va_eqt (sa_r (sa_r (sa_l (sa_r (sa_l (sa_r (sa_l (sa_l (sa_l (sa_l (sa_r hgv)))))))))))
    | 17 => fun _ => va_eqt (sa_l (sa_l (sa_r (sa_r (sa_l (sa_r (sa_l (sa_l (sa_l (sa_l (sa_r hgv)))))))))))
    | 18 => fun _ => va_eqt (sa_r (sa_l (sa_r (sa_r (sa_l (sa_r (sa_l (sa_l (sa_l (sa_l (sa_r hgv)))))))))))
    | 19 => fun _ => va_eqt (sa_l (sa_r (sa_r (sa_r (sa_l (sa_r (sa_l (sa_l (sa_l (sa_l (sa_r hgv)))))))))))
    | 20 => fun _ => va_eqt (sa_r (sa_r (sa_r (sa_r (sa_l (sa_r (sa_l (sa_l (sa_l (sa_l (sa_r hgv)))))))))))
    | 21 => fun _ => va_eqt (sa_l (sa_l (sa_l (sa_r (sa_r (sa_l (sa_l (sa_l (sa_l (sa_r hgv))))))))))
    | 22 => fun _ => va_eqt (sa_l (sa_r (sa_l (sa_l (sa_r (sa_r (sa_l (sa_l (sa_l (sa_l (sa_r hgv)))))))))))
    | 23 => fun _ => va_eqt (sa_r (sa_r (sa_l (sa_l (sa_r (sa_r (sa_l (sa_l (sa_l (sa_l (sa_r hgv)))))))))))
    | 24 => fun _ => va_eqt (sa_l (sa_r (sa_l (sa_r (sa_r (sa_l (sa_l (sa_l (sa_l (sa_r hgv))))))))))
    | 25 => fun _ => va_eqt (sa_l (sa_r (sa_r (sa_l (sa_r (sa_r (sa_l (sa_l (sa_l (sa_l (sa_r hgv)))))))))))
    | 26 => fun _ => va_eqt (sa_r (sa_r (sa_r (sa_l (sa_r (sa_r (sa_l (sa_l (sa_l (sa_l (sa_r hgv)))))))))))
    | 27 => fun _ => va_eqt (sa_l (sa_l (sa_r (sa_r (sa_r (sa_l (sa_l (sa_l (sa_l (sa_r hgv))))))))))
    | _ + 28 => fun h => absurd h (by omega)) hA
  refine ⟨tENDS, tFACTORS, fun ρ r0 r1 r2 => ⟨fun w h1 h2 => sa_n h2 (hts w h1), vx_Zqof (hts _ (tq_i3 82 rfl)) (hts _ (tq_i1 13 rfl)) (sa_r (sa_r (sa_l (sa_l (sa_l (sa_l (sa_l (sa_l (sa_l (sa_l (sa_r hgv))))))))))) hA, vx_Zqof (hts _ (tq_i3 84 rfl)) (hts _ (tq_i1 13 rfl)) (sa_l (sa_r (sa_l (sa_l (sa_l (sa_l (sa_l (sa_l (sa_l (sa_r hgv)))))))))) hA, sx_str hts hgv, sx_nc hgv, ?_, ?_⟩⟩
  · refine List.forall_mem_cons.mpr ⟨?_, List.forall_mem_cons.mpr ⟨?_, fun _ h => nomatch h⟩⟩
    · show va_Z "Tilecount$Growth" "ENDS" "[I" (.ref (ρ 900)) A s s.heap
      rw [r0]
      exact va_Zref (hts _ (tq_i5 63 rfl)) (hts _ (tq_i1 10 rfl)) eENDS hA
    · show va_Z "Tilecount$Growth" "FACTORS" "[I" (.ref (ρ 901)) A s s.heap
      rw [r1]
      exact va_Zref (hts _ (tq_i5 87 rfl)) (hts _ (tq_i1 10 rfl)) eFACTORS hA
  · intro b9 n9 f9 h9
    unfold tq_ca at h9
    split at h9
    · cases h9
      rw [r0]
      exact TENDS
    · cases h9
      rw [r1]
      exact TFACTORS
    · cases h9
      rw [r2]
      obtain ⟨scr, x1, x2, x3, x4, x5⟩ := hX
      exact ⟨scr, x1, x2, x3, Nat.le_of_eq x4.symm, by rw [x4], x5, hA b hbl⟩
    · cases h9
