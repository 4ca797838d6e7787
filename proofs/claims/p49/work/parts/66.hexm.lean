/-! ===== the hexagon: the matrix, evaluated ===== -/
def chl (n : Nat) : Nat → Nat
  | 0 => 1
  | i + 1 => chl n i * (n - i) / (i + 1)
theorem chl_b : ∀ n i : Fin 17, chl n.val i.val ≤ 12870 := by decide +kernel
def hM0 (b c r x : Nat) : Nat := if b + x < r then 0 else if b + c < b + x - r then 0 else chl (b + c) (b + x - r)
def hR (p b c : Nat) : Nat → Nat → Nat → Nat
  | 0 => hM0 b c
  | m + 1 => clr p (inv (hR p b c m m m) p) m (hR p b c m)
def hS (p b c : Nat) : Nat → Nat
  | 0 => 1
  | m + 1 => hS p b c m * hR p b c m m m % p
def pwt (p : Nat) : Nat → Nat → Nat → Nat → Nat
  | 0, _, _, r => r
  | f + 1, e, s, r => pwt p f (e / 2) (s * s % p) (if e % 2 = 1 then r * s % p else r)
theorem pwt_s (p : Nat) : ∀ f e s r, e < 2 ^ f → r < p → pwt p f e s r = r * s ^ e % p
  | 0, e, s, r, h, hr => by
    have : e = 0 := by rw [Nat.pow_zero] at h; omega
    rw [this, Nat.pow_zero, Nat.mul_one]
    exact (Nat.mod_eq_of_lt hr).symm
  | f + 1, e, s, r, h, hr => by
    have hf : e / 2 < 2 ^ f := by rw [Nat.pow_succ] at h; omega
    show pwt p f (e / 2) (s * s % p) (if e % 2 = 1 then r * s % p else r) = _
    have es : s ^ e = (s * s) ^ (e / 2) * s ^ (e % 2) := by
      have h1 : s * s = s ^ 2 := (Nat.pow_two s).symm
      rw [h1, ← Nat.pow_mul, ← Nat.pow_add, Nat.div_add_mod]
    by_cases q : e % 2 = 1
    · rw [if_pos q, pwt_s p f _ _ _ hf (Nat.mod_lt _ (by omega)), es, q, Nat.pow_one]
      rw [Nat.mul_mod, Nat.mod_mod, Nat.pow_mod, Nat.mod_mod, ← Nat.pow_mod, ← Nat.mul_mod]
      congr 1
      rw [Nat.mul_assoc, Nat.mul_comm s]
    · have q : e % 2 = 0 := by omega
      rw [if_neg (by omega), pwt_s p f _ _ _ hf hr, es, q, Nat.pow_zero, Nat.mul_one]
      rw [Nat.mul_mod, Nat.pow_mod, Nat.mod_mod, ← Nat.pow_mod, ← Nat.mul_mod]
theorem pwt_i {x p : Nat} (h1 : 1 < p) (h2 : p ≤ 2147483647) : pwt p 31 (p - 2) x 1 = inv x p := by
  rw [pwt_s p 31 (p - 2) x 1 (by omega) h1, Nat.one_mul]; rfl
def matL (F : Nat → Nat → Nat) (m k : Nat) : List (List Nat) := (List.range' m k).map (fun r => (List.range' m k).map (F r))
def stR (p v : Nat) (ts : List Nat) : List Nat → List Nat
  | [] => []
  | x :: xs => List.zipWith (fun y s => (y + (p - x * v % p * s % p)) % p) xs ts
def stp (p : Nat) : List (List Nat) → List (List Nat)
  | [] => []
  | [] :: _ => []
  | (t :: ts) :: rest => rest.map (stR p (pwt p 31 (p - 2) t 1) ts)
theorem zw_map {α β γ δ : Type} (f : β → γ → δ) (g : α → β) (h : α → γ) : ∀ l : List α, List.zipWith f (l.map g) (l.map h) = l.map (fun a => f (g a) (h a))
  | [] => rfl
  | a :: l => by
    show f (g a) (h a) :: List.zipWith f (l.map g) (l.map h) = f (g a) (h a) :: _
    rw [zw_map f g h l]
theorem stp_m {p b c m k : Nat} (h1 : 1 < p) (h2 : p ≤ 2147483647) : stp p (matL (hR p b c m) m (k + 1)) = matL (hR p b c (m + 1)) (m + 1) k := by
  unfold matL
  rw [List.range'_succ, List.map_cons, List.map_cons]
  show List.map (stR p (pwt p 31 (p - 2) (hR p b c m m m) 1) _) _ = _
  rw [pwt_i h1 h2, List.map_map]
  refine List.map_congr_left (fun r hr => ?_)
  show stR p (inv (hR p b c m m m) p) _ (hR p b c m r m :: List.map (hR p b c m r) (List.range' (m + 1) k)) = _
  show List.zipWith (fun y s => (y + (p - hR p b c m r m * inv (hR p b c m m m) p % p * s % p)) % p) (List.map (hR p b c m r) (List.range' (m + 1) k)) (List.map (hR p b c m m) (List.range' (m + 1) k)) = _
  rw [zw_map]
  refine List.map_congr_left (fun x hx => ?_)
  have hr' := List.mem_range'_1.mp hr
  have hx' := List.mem_range'_1.mp hx
  show _ = clr p (inv (hR p b c m m m) p) m (hR p b c m) r x
  unfold clr
  rw [if_pos (by omega)]
def hgo (p b c : Nat) : Nat → Nat → Nat → List (List Nat) → Bool
  | 0, _, _, _ => true
  | f + 1, m, res, rows => match rows with
    | (t :: _) :: _ => (t != 0) && ((res * t % p == hps (m + 1) b c % p) && hgo p b c f (m + 1) (res * t % p) (stp p rows))
    | _ => false
theorem hgo_s {p b c : Nat} (h1 : 1 < p) (h2 : p ≤ 2147483647) : ∀ k m, m + k = 8 → hgo p b c k m (hS p b c m) (matL (hR p b c m) m k) = true → ∀ j, m ≤ j → j < 8 → hR p b c j j j ≠ 0 ∧ hS p b c (j + 1) = hps (j + 1) b c % p
  | 0, m, hm, _ => fun j hj1 hj2 => by omega
  | k + 1, m, hm, h => by
    have e : matL (hR p b c m) m (k + 1) = (hR p b c m m m :: (List.range' (m + 1) k).map (hR p b c m m)) :: (List.range' (m + 1) k).map (fun r => (List.range' m (k + 1)).map (hR p b c m r)) := by
      unfold matL
      rw [List.range'_succ]; rfl
    have e2 : hgo p b c (k + 1) m (hS p b c m) (matL (hR p b c m) m (k + 1)) = ((hR p b c m m m != 0) && ((hS p b c m * hR p b c m m m % p == hps (m + 1) b c % p) && hgo p b c k (m + 1) (hS p b c m * hR p b c m m m % p) (stp p (matL (hR p b c m) m (k + 1))))) := by
      rw [e]; rfl
    rw [e2, stp_m h1 h2] at h
    simp only [Bool.and_eq_true, bne_iff_ne, ne_eq, beq_iff_eq] at h
    obtain ⟨a1, a2, a3⟩ := h
    intro j hj1 hj2
    by_cases q : j = m
    · subst q
      exact ⟨a1, a2⟩
    · exact hgo_s h1 h2 k (m + 1) (by omega) a3 j (by omega) hj2
def hxc (p b c : Nat) : Bool := hgo p b c 8 0 1 (matL (hM0 b c) 0 8)
theorem hxc_1 : ∀ b c : Fin 8, hxc 2147483647 (b.val + 1) (c.val + 1) = true := by decide +kernel
theorem hxc_2 : ∀ b c : Fin 8, hxc 2147483629 (b.val + 1) (c.val + 1) = true := by decide +kernel
theorem hxc_3 : ∀ b c : Fin 8, hxc 2147483587 (b.val + 1) (c.val + 1) = true := by decide +kernel
theorem hps_p : ∀ a b c : Fin 8, hps (a.val + 1) (b.val + 1) (c.val + 1) < 2147483647 * (2147483629 * 2147483587) := by decide +kernel
