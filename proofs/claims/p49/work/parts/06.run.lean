theorem tq_if_eq {K : Nat × (Nat → Int32)} {d x : Nat} {M : tq_MD} {pc : Nat} {L st : List Value} {z : tq_S} {Q : tq_O → tq_S → Prop} {a : Int32} {off : Int} {tgt : Nat} (hd : decode M.2.1 pc = .ok (.ifCond .eq off, 3)) (ht : (pc : Int) + off = (tgt : Int)) (kt : a = 0 → tq_T K d x M tgt L st z Q) (kf : ¬ a = 0 → tq_T K d x M (pc + 3) L st z Q) : tq_T K d x M pc L (.int a :: st) z Q := by
  intro p l e R s m args below meth c ρ D dA A mc ms F H locs cells slots ls V
  exact lv_if_eq F.1 F.2.1 hd ht (fun h => kt h p l e R s m args below meth c ρ D dA A mc ms F H locs cells slots ls V) (fun h => kf h p l e R s m args below meth c ρ D dA A mc ms F H locs cells slots ls V)
theorem tq_if_ne {K : Nat × (Nat → Int32)} {d x : Nat} {M : tq_MD} {pc : Nat} {L st : List Value} {z : tq_S} {Q : tq_O → tq_S → Prop} {a : Int32} {off : Int} {tgt : Nat} (hd : decode M.2.1 pc = .ok (.ifCond .ne off, 3)) (ht : (pc : Int) + off = (tgt : Int)) (kt : ¬ a = 0 → tq_T K d x M tgt L st z Q) (kf : a = 0 → tq_T K d x M (pc + 3) L st z Q) : tq_T K d x M pc L (.int a :: st) z Q := by
  intro p l e R s m args below meth c ρ D dA A mc ms F H locs cells slots ls V
  exact lv_if_ne F.1 F.2.1 hd ht (fun h => kt h p l e R s m args below meth c ρ D dA A mc ms F H locs cells slots ls V) (fun h => kf h p l e R s m args below meth c ρ D dA A mc ms F H locs cells slots ls V)
theorem tq_if_lt {K : Nat × (Nat → Int32)} {d x : Nat} {M : tq_MD} {pc : Nat} {L st : List Value} {z : tq_S} {Q : tq_O → tq_S → Prop} {a : Int32} {off : Int} {tgt : Nat} (hd : decode M.2.1 pc = .ok (.ifCond .lt off, 3)) (ht : (pc : Int) + off = (tgt : Int)) (kt : a < 0 → tq_T K d x M tgt L st z Q) (kf : ¬ a < 0 → tq_T K d x M (pc + 3) L st z Q) : tq_T K d x M pc L (.int a :: st) z Q := by
  intro p l e R s m args below meth c ρ D dA A mc ms F H locs cells slots ls V
  exact lv_if_lt F.1 F.2.1 hd ht (fun h => kt h p l e R s m args below meth c ρ D dA A mc ms F H locs cells slots ls V) (fun h => kf h p l e R s m args below meth c ρ D dA A mc ms F H locs cells slots ls V)
theorem tq_if_ge {K : Nat × (Nat → Int32)} {d x : Nat} {M : tq_MD} {pc : Nat} {L st : List Value} {z : tq_S} {Q : tq_O → tq_S → Prop} {a : Int32} {off : Int} {tgt : Nat} (hd : decode M.2.1 pc = .ok (.ifCond .ge off, 3)) (ht : (pc : Int) + off = (tgt : Int)) (kt : 0 ≤ a → tq_T K d x M tgt L st z Q) (kf : ¬ 0 ≤ a → tq_T K d x M (pc + 3) L st z Q) : tq_T K d x M pc L (.int a :: st) z Q := by
  intro p l e R s m args below meth c ρ D dA A mc ms F H locs cells slots ls V
  exact lv_if_ge F.1 F.2.1 hd ht (fun h => kt h p l e R s m args below meth c ρ D dA A mc ms F H locs cells slots ls V) (fun h => kf h p l e R s m args below meth c ρ D dA A mc ms F H locs cells slots ls V)
theorem tq_if_gt {K : Nat × (Nat → Int32)} {d x : Nat} {M : tq_MD} {pc : Nat} {L st : List Value} {z : tq_S} {Q : tq_O → tq_S → Prop} {a : Int32} {off : Int} {tgt : Nat} (hd : decode M.2.1 pc = .ok (.ifCond .gt off, 3)) (ht : (pc : Int) + off = (tgt : Int)) (kt : 0 < a → tq_T K d x M tgt L st z Q) (kf : ¬ 0 < a → tq_T K d x M (pc + 3) L st z Q) : tq_T K d x M pc L (.int a :: st) z Q := by
  intro p l e R s m args below meth c ρ D dA A mc ms F H locs cells slots ls V
  exact lv_if_gt F.1 F.2.1 hd ht (fun h => kt h p l e R s m args below meth c ρ D dA A mc ms F H locs cells slots ls V) (fun h => kf h p l e R s m args below meth c ρ D dA A mc ms F H locs cells slots ls V)
theorem tq_if_le {K : Nat × (Nat → Int32)} {d x : Nat} {M : tq_MD} {pc : Nat} {L st : List Value} {z : tq_S} {Q : tq_O → tq_S → Prop} {a : Int32} {off : Int} {tgt : Nat} (hd : decode M.2.1 pc = .ok (.ifCond .le off, 3)) (ht : (pc : Int) + off = (tgt : Int)) (kt : a ≤ 0 → tq_T K d x M tgt L st z Q) (kf : ¬ a ≤ 0 → tq_T K d x M (pc + 3) L st z Q) : tq_T K d x M pc L (.int a :: st) z Q := by
  intro p l e R s m args below meth c ρ D dA A mc ms F H locs cells slots ls V
  exact lv_if_le F.1 F.2.1 hd ht (fun h => kt h p l e R s m args below meth c ρ D dA A mc ms F H locs cells slots ls V) (fun h => kf h p l e R s m args below meth c ρ D dA A mc ms F H locs cells slots ls V)
theorem tq_icmp_eq {K : Nat × (Nat → Int32)} {d x : Nat} {M : tq_MD} {pc : Nat} {L st : List Value} {z : tq_S} {Q : tq_O → tq_S → Prop} {a b : Int32} {off : Int} {tgt : Nat} (hd : decode M.2.1 pc = .ok (.if_icmp .eq off, 3)) (ht : (pc : Int) + off = (tgt : Int)) (kt : a = b → tq_T K d x M tgt L st z Q) (kf : ¬ a = b → tq_T K d x M (pc + 3) L st z Q) : tq_T K d x M pc L (.int b :: .int a :: st) z Q := by
  intro p l e R s m args below meth c ρ D dA A mc ms F H locs cells slots ls V
  exact lv_icmp_eq F.1 F.2.1 hd ht (fun h => kt h p l e R s m args below meth c ρ D dA A mc ms F H locs cells slots ls V) (fun h => kf h p l e R s m args below meth c ρ D dA A mc ms F H locs cells slots ls V)
theorem tq_icmp_ne {K : Nat × (Nat → Int32)} {d x : Nat} {M : tq_MD} {pc : Nat} {L st : List Value} {z : tq_S} {Q : tq_O → tq_S → Prop} {a b : Int32} {off : Int} {tgt : Nat} (hd : decode M.2.1 pc = .ok (.if_icmp .ne off, 3)) (ht : (pc : Int) + off = (tgt : Int)) (kt : ¬ a = b → tq_T K d x M tgt L st z Q) (kf : a = b → tq_T K d x M (pc + 3) L st z Q) : tq_T K d x M pc L (.int b :: .int a :: st) z Q := by
  intro p l e R s m args below meth c ρ D dA A mc ms F H locs cells slots ls V
  exact lv_icmp_ne F.1 F.2.1 hd ht (fun h => kt h p l e R s m args below meth c ρ D dA A mc ms F H locs cells slots ls V) (fun h => kf h p l e R s m args below meth c ρ D dA A mc ms F H locs cells slots ls V)
theorem tq_icmp_lt {K : Nat × (Nat → Int32)} {d x : Nat} {M : tq_MD} {pc : Nat} {L st : List Value} {z : tq_S} {Q : tq_O → tq_S → Prop} {a b : Int32} {off : Int} {tgt : Nat} (hd : decode M.2.1 pc = .ok (.if_icmp .lt off, 3)) (ht : (pc : Int) + off = (tgt : Int)) (kt : a < b → tq_T K d x M tgt L st z Q) (kf : ¬ a < b → tq_T K d x M (pc + 3) L st z Q) : tq_T K d x M pc L (.int b :: .int a :: st) z Q := by
  intro p l e R s m args below meth c ρ D dA A mc ms F H locs cells slots ls V
  exact lv_icmp_lt F.1 F.2.1 hd ht (fun h => kt h p l e R s m args below meth c ρ D dA A mc ms F H locs cells slots ls V) (fun h => kf h p l e R s m args below meth c ρ D dA A mc ms F H locs cells slots ls V)
theorem tq_icmp_ge {K : Nat × (Nat → Int32)} {d x : Nat} {M : tq_MD} {pc : Nat} {L st : List Value} {z : tq_S} {Q : tq_O → tq_S → Prop} {a b : Int32} {off : Int} {tgt : Nat} (hd : decode M.2.1 pc = .ok (.if_icmp .ge off, 3)) (ht : (pc : Int) + off = (tgt : Int)) (kt : b ≤ a → tq_T K d x M tgt L st z Q) (kf : ¬ b ≤ a → tq_T K d x M (pc + 3) L st z Q) : tq_T K d x M pc L (.int b :: .int a :: st) z Q := by
  intro p l e R s m args below meth c ρ D dA A mc ms F H locs cells slots ls V
  exact lv_icmp_ge F.1 F.2.1 hd ht (fun h => kt h p l e R s m args below meth c ρ D dA A mc ms F H locs cells slots ls V) (fun h => kf h p l e R s m args below meth c ρ D dA A mc ms F H locs cells slots ls V)
theorem tq_icmp_gt {K : Nat × (Nat → Int32)} {d x : Nat} {M : tq_MD} {pc : Nat} {L st : List Value} {z : tq_S} {Q : tq_O → tq_S → Prop} {a b : Int32} {off : Int} {tgt : Nat} (hd : decode M.2.1 pc = .ok (.if_icmp .gt off, 3)) (ht : (pc : Int) + off = (tgt : Int)) (kt : b < a → tq_T K d x M tgt L st z Q) (kf : ¬ b < a → tq_T K d x M (pc + 3) L st z Q) : tq_T K d x M pc L (.int b :: .int a :: st) z Q := by
  intro p l e R s m args below meth c ρ D dA A mc ms F H locs cells slots ls V
  exact lv_icmp_gt F.1 F.2.1 hd ht (fun h => kt h p l e R s m args below meth c ρ D dA A mc ms F H locs cells slots ls V) (fun h => kf h p l e R s m args below meth c ρ D dA A mc ms F H locs cells slots ls V)
theorem tq_icmp_le {K : Nat × (Nat → Int32)} {d x : Nat} {M : tq_MD} {pc : Nat} {L st : List Value} {z : tq_S} {Q : tq_O → tq_S → Prop} {a b : Int32} {off : Int} {tgt : Nat} (hd : decode M.2.1 pc = .ok (.if_icmp .le off, 3)) (ht : (pc : Int) + off = (tgt : Int)) (kt : a ≤ b → tq_T K d x M tgt L st z Q) (kf : ¬ a ≤ b → tq_T K d x M (pc + 3) L st z Q) : tq_T K d x M pc L (.int b :: .int a :: st) z Q := by
  intro p l e R s m args below meth c ρ D dA A mc ms F H locs cells slots ls V
  exact lv_icmp_le F.1 F.2.1 hd ht (fun h => kt h p l e R s m args below meth c ρ D dA A mc ms F H locs cells slots ls V) (fun h => kf h p l e R s m args below meth c ρ D dA A mc ms F H locs cells slots ls V)
theorem tq_lcmp_eq {K : Nat × (Nat → Int32)} {d x : Nat} {M : tq_MD} {pc : Nat} {L st : List Value} {z : tq_S} {Q : tq_O → tq_S → Prop} {a b : Int64} {off : Int} {tgt : Nat} (hl : decode M.2.1 pc = .ok (.lcmp, 1)) (hd : decode M.2.1 (pc + 1) = .ok (.ifCond .eq off, 3)) (ht : ((pc + 1 : Nat) : Int) + off = (tgt : Int)) (kt : a = b → tq_T K d x M tgt L st z Q) (kf : ¬ a = b → tq_T K d x M (pc + 4) L st z Q) : tq_T K d x M pc L (.long b :: .long a :: st) z Q := by
  refine tq_s_lcmp hl (tq_if_eq hd ht (fun h => kt ?_) (fun h => kf ?_))
  · exact (lg_cmp_eq a b).mp h
  · exact fun h2 => h ((lg_cmp_eq a b).mpr h2)
theorem tq_lcmp_ne {K : Nat × (Nat → Int32)} {d x : Nat} {M : tq_MD} {pc : Nat} {L st : List Value} {z : tq_S} {Q : tq_O → tq_S → Prop} {a b : Int64} {off : Int} {tgt : Nat} (hl : decode M.2.1 pc = .ok (.lcmp, 1)) (hd : decode M.2.1 (pc + 1) = .ok (.ifCond .ne off, 3)) (ht : ((pc + 1 : Nat) : Int) + off = (tgt : Int)) (kt : ¬ a = b → tq_T K d x M tgt L st z Q) (kf : a = b → tq_T K d x M (pc + 4) L st z Q) : tq_T K d x M pc L (.long b :: .long a :: st) z Q := by
  refine tq_s_lcmp hl (tq_if_ne hd ht (fun h => kt ?_) (fun h => kf ?_))
  · exact fun h2 => h ((lg_cmp_eq a b).mpr h2)
  · exact (lg_cmp_eq a b).mp h
theorem tq_lcmp_lt {K : Nat × (Nat → Int32)} {d x : Nat} {M : tq_MD} {pc : Nat} {L st : List Value} {z : tq_S} {Q : tq_O → tq_S → Prop} {a b : Int64} {off : Int} {tgt : Nat} (hl : decode M.2.1 pc = .ok (.lcmp, 1)) (hd : decode M.2.1 (pc + 1) = .ok (.ifCond .lt off, 3)) (ht : ((pc + 1 : Nat) : Int) + off = (tgt : Int)) (kt : a < b → tq_T K d x M tgt L st z Q) (kf : ¬ a < b → tq_T K d x M (pc + 4) L st z Q) : tq_T K d x M pc L (.long b :: .long a :: st) z Q := by
  refine tq_s_lcmp hl (tq_if_lt hd ht (fun h => kt ?_) (fun h => kf ?_))
  · exact (lg_cmp_lt a b).mp h
  · exact fun h2 => h ((lg_cmp_lt a b).mpr h2)
theorem tq_lcmp_ge {K : Nat × (Nat → Int32)} {d x : Nat} {M : tq_MD} {pc : Nat} {L st : List Value} {z : tq_S} {Q : tq_O → tq_S → Prop} {a b : Int64} {off : Int} {tgt : Nat} (hl : decode M.2.1 pc = .ok (.lcmp, 1)) (hd : decode M.2.1 (pc + 1) = .ok (.ifCond .ge off, 3)) (ht : ((pc + 1 : Nat) : Int) + off = (tgt : Int)) (kt : b ≤ a → tq_T K d x M tgt L st z Q) (kf : ¬ b ≤ a → tq_T K d x M (pc + 4) L st z Q) : tq_T K d x M pc L (.long b :: .long a :: st) z Q := by
  refine tq_s_lcmp hl (tq_if_ge hd ht (fun h => kt ?_) (fun h => kf ?_))
  · exact (lg_cmp_ge a b).mp h
  · exact fun h2 => h ((lg_cmp_ge a b).mpr h2)
theorem tq_lcmp_gt {K : Nat × (Nat → Int32)} {d x : Nat} {M : tq_MD} {pc : Nat} {L st : List Value} {z : tq_S} {Q : tq_O → tq_S → Prop} {a b : Int64} {off : Int} {tgt : Nat} (hl : decode M.2.1 pc = .ok (.lcmp, 1)) (hd : decode M.2.1 (pc + 1) = .ok (.ifCond .gt off, 3)) (ht : ((pc + 1 : Nat) : Int) + off = (tgt : Int)) (kt : b < a → tq_T K d x M tgt L st z Q) (kf : ¬ b < a → tq_T K d x M (pc + 4) L st z Q) : tq_T K d x M pc L (.long b :: .long a :: st) z Q := by
  refine tq_s_lcmp hl (tq_if_gt hd ht (fun h => kt ?_) (fun h => kf ?_))
  · exact (lg_cmp_gt a b).mp h
  · exact fun h2 => h ((lg_cmp_gt a b).mpr h2)
theorem tq_lcmp_le {K : Nat × (Nat → Int32)} {d x : Nat} {M : tq_MD} {pc : Nat} {L st : List Value} {z : tq_S} {Q : tq_O → tq_S → Prop} {a b : Int64} {off : Int} {tgt : Nat} (hl : decode M.2.1 pc = .ok (.lcmp, 1)) (hd : decode M.2.1 (pc + 1) = .ok (.ifCond .le off, 3)) (ht : ((pc + 1 : Nat) : Int) + off = (tgt : Int)) (kt : a ≤ b → tq_T K d x M tgt L st z Q) (kf : ¬ a ≤ b → tq_T K d x M (pc + 4) L st z Q) : tq_T K d x M pc L (.long b :: .long a :: st) z Q := by
  refine tq_s_lcmp hl (tq_if_le hd ht (fun h => kt ?_) (fun h => kf ?_))
  · exact (lg_cmp_le a b).mp h
  · exact fun h2 => h ((lg_cmp_le a b).mpr h2)
theorem tq_ret_i {K : Nat × (Nat → Int32)} {d x : Nat} {M : tq_MD} {pc : Nat} {L st : List Value} {z : tq_S} {Q : tq_O → tq_S → Prop} {v : Int32} (hd : decode M.2.1 pc = .ok (.ireturn, 1)) (hr : M.2.2.2.1 = some .int) (k : Q (.inl (some (.int v))) z) : tq_T K d x M pc L [.int v] z Q := by
  intro p l e R s m args below meth c ρ D dA A mc ms F H locs cells slots ls V
  obtain ⟨v1, v2, v3, v4, v5, v6⟩ := V
  refine W.widen (k := mc) (n := ms) (by omega) (by omega) (vx_ret ?_)
  exact W.iret F.1 F.2.1 (F.2.2.1.trans hr) (fun t ht hW => ⟨⟨_, z, rfl, k, by rw [ht]; exact v1, v2⟩, v3.F ht⟩) v3.2.2 hd F.2.2.2.2.2.2.1
theorem tq_ret_z {K : Nat × (Nat → Int32)} {d x : Nat} {M : tq_MD} {pc : Nat} {L st : List Value} {z : tq_S} {Q : tq_O → tq_S → Prop} {v : Int32} (hd : decode M.2.1 pc = .ok (.ireturn, 1)) {ty : FieldType} (hn : narrow ty (.int v) = .int v) (hr : M.2.2.2.1 = some ty) (k : Q (.inl (some (.int v))) z) : tq_T K d x M pc L [.int v] z Q := by
  intro p l e R s m args below meth c ρ D dA A mc ms F H locs cells slots ls V
  obtain ⟨v1, v2, v3, v4, v5, v6⟩ := V
  refine W.widen (k := mc) (n := ms) (by omega) (by omega) (vx_ret ?_)
  exact W.zret F.1 F.2.1 (F.2.2.1.trans hr) hn (fun t ht hW => ⟨⟨_, z, rfl, k, by rw [ht]; exact v1, v2⟩, v3.F ht⟩) v3.2.2 hd F.2.2.2.2.2.2.1
theorem tq_ret_l {K : Nat × (Nat → Int32)} {d x : Nat} {M : tq_MD} {pc : Nat} {L st : List Value} {z : tq_S} {Q : tq_O → tq_S → Prop} {v : Int64} (hd : decode M.2.1 pc = .ok (.lreturn, 1)) (hr : M.2.2.2.1 = some .long) (k : Q (.inl (some (.long v))) z) : tq_T K d x M pc L [.long v] z Q := by
  intro p l e R s m args below meth c ρ D dA A mc ms F H locs cells slots ls V
  obtain ⟨v1, v2, v3, v4, v5, v6⟩ := V
  refine W.widen (k := mc) (n := ms) (by omega) (by omega) (vx_ret ?_)
  exact W.lret F.1 F.2.1 (F.2.2.1.trans hr) (fun t ht hW => ⟨⟨_, z, rfl, k, by rw [ht]; exact v1, v2⟩, v3.F ht⟩) v3.2.2 hd F.2.2.2.2.2.2.1
theorem tq_ret_f {K : Nat × (Nat → Int32)} {d x : Nat} {M : tq_MD} {pc : Nat} {L st : List Value} {z : tq_S} {Q : tq_O → tq_S → Prop} {v : UInt32} (hd : decode M.2.1 pc = .ok (.freturn, 1)) (hr : M.2.2.2.1 = some .float) (k : Q (.inl (some (.float v))) z) : tq_T K d x M pc L [.float v] z Q := by
  intro p l e R s m args below meth c ρ D dA A mc ms F H locs cells slots ls V
  obtain ⟨v1, v2, v3, v4, v5, v6⟩ := V
  refine W.widen (k := mc) (n := ms) (by omega) (by omega) (vx_ret ?_)
  exact W.fret F.1 F.2.1 (F.2.2.1.trans hr) (fun t ht hW => ⟨⟨_, z, rfl, k, by rw [ht]; exact v1, v2⟩, v3.F ht⟩) v3.2.2 hd F.2.2.2.2.2.2.1
theorem tq_ret_d {K : Nat × (Nat → Int32)} {d x : Nat} {M : tq_MD} {pc : Nat} {L st : List Value} {z : tq_S} {Q : tq_O → tq_S → Prop} {v : UInt64} (hd : decode M.2.1 pc = .ok (.dreturn, 1)) (hr : M.2.2.2.1 = some .double) (k : Q (.inl (some (.double v))) z) : tq_T K d x M pc L [.double v] z Q := by
  intro p l e R s m args below meth c ρ D dA A mc ms F H locs cells slots ls V
  obtain ⟨v1, v2, v3, v4, v5, v6⟩ := V
  refine W.widen (k := mc) (n := ms) (by omega) (by omega) (vx_ret ?_)
  exact W.dret F.1 F.2.1 (F.2.2.1.trans hr) (fun t ht hW => ⟨⟨_, z, rfl, k, by rw [ht]; exact v1, v2⟩, v3.F ht⟩) v3.2.2 hd F.2.2.2.2.2.2.1
theorem tq_ret_v {K : Nat × (Nat → Int32)} {d x : Nat} {M : tq_MD} {pc : Nat} {L st : List Value} {z : tq_S} {Q : tq_O → tq_S → Prop} (hd : decode M.2.1 pc = .ok (.return_, 1)) (hr : M.2.2.2.1 = none) (k : Q (.inl (none)) z) : tq_T K d x M pc L [] z Q := by
  intro p l e R s m args below meth c ρ D dA A mc ms F H locs cells slots ls V
  obtain ⟨v1, v2, v3, v4, v5, v6⟩ := V
  refine W.widen (k := mc) (n := ms) (by omega) (by omega) (vx_ret ?_)
  exact W.vret F.1 F.2.1 (F.2.2.1.trans hr) (fun t ht hW => ⟨⟨_, z, rfl, k, by rw [ht]; exact v1, v2⟩, v3.F ht⟩) v3.2.2 hd F.2.2.2.2.2.2.1
