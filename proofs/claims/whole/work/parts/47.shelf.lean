/-! SHELVES: a signature and a group as one number -/
def pkd (f n h c : Nat) (p : Nat → Nat) : Nat := (f * 100 + n * 10 + h) * 10000 + cd c p
section SHELF
variable {f n h c : Nat} {p : Nat → Nat} {w : Nat → Int32}
theorem cd_p_lt (hs : sok h c p) : cd c p < 10 ^ c ∧ 10 ^ c ≤ 10000 := by
  obtain ⟨s1, s2, s3⟩ := hs
  exact ⟨cd_lt c (fun i hi => by have := s3 i hi; omega), pow4 (by omega)⟩
theorem sC_periodDigits (hs : sok h c p) (hw : ∀ i, i < c → w i = nI (p i)) : fX4_periodDigits (nI c) w = some (nI (cd c p)) := by
  obtain ⟨s1, s2, s3⟩ := hs
  unfold fX4_periodDigits
  refine pw_val (pw_bind (R := fun v => v = nI (cd c p)) ?_ (fun t ht => pw_some ht))
  refine pw_run (fun i σ => σ = (nI (cd i p), nI i)) 0 c (by omega) rfl (Nat.zero_le _) ?_
  rintro i _ hi rfl
  show pw (fX4_periodDigits_L4 (nI c) w (nI (cd i p)) (nI i)) _
  unfold fX4_periodDigits_L4
  refine pw_le (by omega) (by omega) (fun z => pw_out (by rw [show c = i by omega])) (fun z => pw_rd (by omega) (by decide) (pw_in ⟨z, ?_⟩))
  rw [hw i z, show (10 : Int32) = nI 10 from rfl, pk_mul, nI_add, show (nI i + (1 : Int32)) = nI (i + 1) from nI_add i 1]; rfl
theorem sC_packed (hs : sok h c p) (hw : ∀ i, i < c → w i = nI (p i)) : fX5_packed (nI f) (nI n) (nI h) (nI c) w = some (nI (pkd f n h c p)) := by
  unfold fX5_packed
  refine pw_val (pw_eq (sC_periodDigits hs hw) (pw_some ?_))
  rw [show (100 : Int32) = nI 100 from rfl, show (10 : Int32) = nI 10 from rfl, show (10000 : Int32) = nI 10000 from rfl, pk_mul, pk_mul, nI_add, nI_add, pk_mul, nI_add]; rfl
end SHELF
section TAKE
variable {f n h c : Nat} {p : Nat → Nat} {w : Nat → Int32}
theorem take_dg (hc : c ≤ 4) (hp : ∀ i, i < c → 2 ≤ p i ∧ p i ≤ 8) : ∀ i, i < 4 → dg 4 (cd c p) i = if i + c < 4 then 0 else p (i + c - 4) := by
  intro i hi
  have h0 := hp 0
  have h1 := hp 1
  have h2 := hp 2
  have h3 := hp 3
  rcases L_cases hc with rfl | rfl | rfl | rfl | rfl <;> rcases (show i = 0 ∨ i = 1 ∨ i = 2 ∨ i = 3 by omega) with rfl | rfl | rfl | rfl <;> simp [cd, dg] at * <;> omega
def tn (i : Nat) : Nat := if i = 0 then 1000 else if i = 1 then 100 else if i = 2 then 10 else if i = 3 then 1 else 0
theorem tn_ok {i : Nat} (hi : i < 4) : tn i = 10 ^ (4 - 1 - i) ∧ tn i / 10 = tn (i + 1) ∧ 0 < tn i ∧ tn i ≤ 1000 := by
  rcases (show i = 0 ∨ i = 1 ∨ i = 2 ∨ i = 3 by omega) with rfl | rfl | rfl | rfl <;> decide
theorem sC_take (hs : sok h c p) (x : Int32) (w : Nat → Int32) : pw (fX4_take x (nI (cd c p)) w) (fun v => v.1 = x ∧ v.2.1 = nI c ∧ ∀ i, i < c → v.2.2 i = nI (p i)) := by
  obtain ⟨l1, l2⟩ := cd_p_lt hs
  obtain ⟨s1, s2, s3⟩ := hs
  unfold fX4_take
  refine pw_bind (R := fun v => v.1 = nI c ∧ ∀ i, i < c → v.2 i = nI (p i)) ?_ (fun t ht => pw_some ⟨rfl, ht⟩)
  refine pw_run (fun i σ => ∃ w', σ = (nI (tn i), nI (i + c - 4), w') ∧ ∀ j, j < i + c - 4 → w' j = nI (p j)) 0 4 (by decide) ⟨w, by rw [show 0 + c - 4 = 0 by omega]; rfl, fun j hj => by omega⟩ (Nat.zero_le _) ?_
  rintro i _ hi ⟨w', rfl, i1⟩
  show pw (fX4_take_L14 (nI (cd c p)) (nI (tn i)) (nI (i + c - 4)) w') _
  unfold fX4_take_L14 fX4_take_J38L14
  rcases Nat.lt_or_ge i 4 with q | q
  · obtain ⟨t1, t2, t3, t4⟩ := tn_ok q
    have dgi := take_dg (c := c) (p := p) (by omega) s3 i q
    unfold dg at dgi
    rw [← t1] at dgi
    refine pw_lt (b := 1) (by omega) (by decide) (fun z => by omega) (fun _ => pw_dv (by omega) t3 (by omega) ?_)
    have dl : cd c p / tn i ≤ cd c p := Nat.div_le_self _ _
    rw [bz_mod10 (by omega), dgi, bz_div10 (by omega), t2]
    by_cases z : i + c < 4
    · rw [if_pos z]
      refine pw_T rfl (pw_in ⟨q, w', by rw [show i + c - 4 = 0 by omega, show i + 1 + c - 4 = 0 by omega], fun j hj => by omega⟩)
    · rw [if_neg z]
      have pr := s3 (i + c - 4) (by omega)
      refine pw_eqn (b := 0) (by omega) (by decide) (fun y => by omega) (fun _ => ?_)
      refine pw_bind (R := fun t => t = (nI (i + c - 4 + 1), upd w' (i + c - 4) (nI (p (i + c - 4))))) ?_ (fun t ht => ?_)
      · unfold fX4_add
        exact pw_F (fun y => by have := (nI_leI (a := 4) (by decide) (by omega)).mp y; omega) (pw_wr (by omega) (by decide) (pw_some (congrArg (fun v => (v, upd w' (i + c - 4) (nI (p (i + c - 4))))) (nI_add _ 1))))
      · subst ht
        refine pw_in ⟨q, _, by rw [show i + 1 + c - 4 = i + c - 4 + 1 by omega], fun j hj => ?_⟩
        show upd w' (i + c - 4) (nI (p (i + c - 4))) j = nI (p j)
        by_cases y : j = i + c - 4
        · rw [y, upd_s]
        · rw [upd_n y]; exact i1 j (by omega)
  · have e : i = 4 := by omega
    subst e
    refine pw_T (by decide) (pw_out ⟨by rw [show 4 + c - 4 = c by omega], fun j hj => i1 j (by omega)⟩)
end TAKE
