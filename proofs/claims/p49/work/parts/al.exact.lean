section EXA
variable {w h : Nat} {r : Bool} {S : Nat → Bool} {z : tq_S} {Q : tq_O → tq_S → Prop} {K P : Nat} {C M Z : Nat → Nat} {A : Nat → Int64} {f : Nat → plc} {st : Nat → Nat} {g0 : Nat}
/-- how many exact covers there are -/
def exn (n P : Nat) (f : Nat → plc) (K : Nat) (M : Nat → Nat) : Nat := cnx n P f 8 0 (mst K M)
theorem bg_min (hM : ∀ j, j < K → M j ≤ 8) (hK : K ≤ 6) : ∀ k, k < K → min (dcl (bgE K M Z (fb_ct S 64)) k) (rmF Z (fb_ct S 64) (bgE K M Z (fb_ct S 64) % 2 ^ 24) k) = min (mst K M k) (rmF Z (fb_ct S 64) (bgE K M Z (fb_ct S 64) % 2 ^ 24) k) := fun k hk => by
  obtain ⟨b1, b2, b3, b4⟩ := bg_ok (w := 0) (h := 0) (S := S) (Z := Z) hM
  have b15 := bndl_15 (K := K) (Z := Z) (n := fb_ct S 64) (c := 0) (mst_15 hM)
  have dk : dcl (bgE K M Z (fb_ct S 64)) k = bndl K Z (fb_ct S 64) 0 (mst K M) k := encN_l (by omega) (by omega) b15 (by omega)
  rw [dk, b2]
  unfold bndl
  rw [if_pos hk]
  omega
theorem VV_bg (hpl : plg S Z P f) (hkK : ∀ p, p < P → (f p).2.1 < K) (hK : K ≤ 6) (hM : ∀ j, j < K → M j ≤ 8) (hn : fb_ct S 64 ≤ 24) : VV (fb_ct S 64) P f (TT w h S K Z P f) WW (bgE K M Z (fb_ct S 64)) = exn (fb_ct S 64) P f K M := by
  obtain ⟨b1, b2, b3, b4⟩ := bg_ok (w := w) (h := h) (S := S) (K := K) (Z := Z) hM
  have := cnx_sr (w := w) (h := h) hpl hkK hK hn 8 (bgE K M Z (fb_ct S 64)) (mst K M) b1 b4 b3 (bg_min hM hK)
  rw [b2] at this
  exact this
end EXA
