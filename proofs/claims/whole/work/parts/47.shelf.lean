/-! SHELVES: a signature and a group as one number -/
def pkd (f n h c : Nat) (p : Nat → Nat) : Nat := (f * 100 + n * 10 + h) * 10000 + cd c p
section SHELF
variable {f n h c : Nat} {p : Nat → Nat} {w : Nat → Int32}
theorem cd_p_lt (hs : sok h c p) : cd c p < 10 ^ c ∧ 10 ^ c ≤ 10000 := by
  obtain ⟨s1, s2, s3⟩ := hs
  exact ⟨cd_lt c (fun i hi => by have := s3 i hi; omega), pow4 (by omega)⟩
theorem sC_periodDigits (hs : sok h c p) (hw : ∀ i, i < c → w i = nI (p i)) : fX4_periodDigits (nI c) w = some (nI (cd c p)) := by
  obtain ⟨s1, s2, s3⟩ := hs
  unfold fX4_periodDigits
  refine pw_val (pw_bind (R := fun v => v = nI (cd c p)) ?_ (fun t ht => pw_some ht))
  refine pw_run (fun i σ => σ = (nI (cd i p), nI i)) 0 c (by omega) rfl (Nat.zero_le _) ?_
  rintro i _ hi rfl
  show pw (fX4_periodDigits_L4 (nI c) w (nI (cd i p)) (nI i)) _
  unfold fX4_periodDigits_L4
  refine pw_le (by omega) (by omega) (fun z => pw_out (by rw [show c = i by omega])) (fun z => pw_rd (by omega) (by decide) (pw_in ⟨z, ?_⟩))
  rw [hw i z, show (10 : Int32) = nI 10 from rfl, pk_mul, nI_add, show (nI i + (1 : Int32)) = nI (i + 1) from nI_add i 1]; rfl
theorem sC_packed (hs : sok h c p) (hw : ∀ i, i < c → w i = nI (p i)) : fX5_packed (nI f) (nI n) (nI h) (nI c) w = some (nI (pkd f n h c p)) := by
  unfold fX5_packed
  refine pw_val (pw_eq (sC_periodDigits hs hw) (pw_some ?_))
  rw [show (100 : Int32) = nI 100 from rfl, show (10 : Int32) = nI 10 from rfl, show (10000 : Int32) = nI 10000 from rfl, pk_mul, pk_mul, nI_add, nI_add, pk_mul, nI_add]; rfl
end SHELF
section TAKE
variable {f n h c : Nat} {p : Nat → Nat} {w : Nat → Int32}
theorem take_dg (hc : c ≤ 4) (hp : ∀ i, i < c → 2 ≤ p i ∧ p i ≤ 8) : ∀ i, i < 4 → dg 4 (cd c p) i = if i + c < 4 then 0 else p (i + c - 4) := by
  intro i hi
  have h0 := hp 0
  have h1 := hp 1
  have h2 := hp 2
  have h3 := hp 3
  rcases L_cases hc with rfl | rfl | rfl | rfl | rfl <;> rcases (show i = 0 ∨ i = 1 ∨ i = 2 ∨ i = 3 by omega) with rfl | rfl | rfl | rfl <;> simp [cd, dg] at * <;> omega
end TAKE
