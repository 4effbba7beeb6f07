section UNPACK
variable {f n h c : Nat} {p : Nat → Nat} {P I O C Z w : Nat → Int32}
theorem sC_unpack (g : gok f n) (hs : sok h c p) (w : Nat → Int32) : pw (fX5_unpack (nI (pkd f n h c p)) P I O C Z w) (fun v => v.1 = nI f ∧ v.2.1 = nI n ∧ v.2.2.1 = nI (gz f n) ∧ CG f n v.2.2.2.1 v.2.2.2.2.1 v.2.2.2.2.2.1 v.2.2.2.2.2.2.1 v.2.2.2.2.2.2.2.1 ∧ v.2.2.2.2.2.2.2.2.1 = nI h ∧ v.2.2.2.2.2.2.2.2.2.1 = nI c ∧ (∀ i, i < c → v.2.2.2.2.2.2.2.2.2.2.1 i = nI (p i)) ∧ v.2.2.2.2.2.2.2.2.2.2.2 = (0, 0)) := by
  obtain ⟨l1, l2⟩ := cd_p_lt hs
  have f4 := g.1
  have n1 := g.2.1
  have n2 := g.2.2
  have gm := gmost_le f
  have h1 := hs.1
  have e1 : nI (pkd f n h c p) / (10000 : Int32) = nI (f * 100 + n * 10 + h) := by
    rw [show nI (pkd f n h c p) / (10000 : Int32) = nI (pkd f n h c p / 10000) from pk_div (d := 10000) (by unfold pkd; omega) (by decide) (by decide)]
    unfold pkd
    rw [show ((f * 100 + n * 10 + h) * 10000 + cd c p) / 10000 = f * 100 + n * 10 + h by omega]
  have e2 : nI (pkd f n h c p) - nI (f * 100 + n * 10 + h) * (10000 : Int32) = nI (cd c p) := by
    rw [← e1, show nI (pkd f n h c p) - nI (pkd f n h c p) / (10000 : Int32) * (10000 : Int32) = nI (pkd f n h c p % 10000) from pk_rem (d := 10000) (by unfold pkd; omega) (by decide) (by decide)]
    unfold pkd
    rw [show ((f * 100 + n * 10 + h) * 10000 + cd c p) % 10000 = cd c p by omega]
  have e3 : nI (f * 100 + n * 10 + h) / (100 : Int32) = nI f := by
    rw [show nI (f * 100 + n * 10 + h) / (100 : Int32) = nI ((f * 100 + n * 10 + h) / 100) from pk_div (d := 100) (by omega) (by decide) (by decide), show (f * 100 + n * 10 + h) / 100 = f by omega]
  unfold fX5_unpack fX5_forgetMaps
  rw [e1, e2, e3, bz_mod10 (by omega), bz_div10 (by omega), bz_mod10 (by omega), show (f * 100 + n * 10 + h) / 10 % 10 = n by omega, show (f * 100 + n * 10 + h) % 10 = h by omega]
  obtain ⟨v, hv, v1, v2, v3, v4⟩ := sC_become (P := P) (I := I) (O := O) (C := C) (Z := Z) g
  obtain ⟨t, ht, t1, t2, t3⟩ := sC_take hs (nI h) w
  exact pw_eq hv (pw_eq ht (pw_some ⟨v1, v2, v3, v4, t1, t2, t3, rfl⟩))
end UNPACK
