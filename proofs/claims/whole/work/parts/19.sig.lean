/-! SIGNATURES -/
def sok (h c : Nat) (p : Nat → Nat) : Prop := h ≤ 1 ∧ 2 * h + c ≤ 4 ∧ ∀ i, i < c → 2 ≤ p i ∧ p i ≤ 8
/-- handles and periods, as either side holds them -/
def SG (h c : Nat) (p : Nat → Nat) (x y : Int32) (z : Nat → Int32) : Prop := x = nI h ∧ y = nI c ∧ ∀ i, i < c → z i = nI (p i)
def gnt (z h : Nat) (p : Nat → Nat) : Nat → Int32
  | 0 => (nI z * (((2 : Int32) * nI h) - (2 : Int32))) + (2 : Int32)
  | i + 1 => gnt z h p i + (nI z - nI (z / p i))
def gen (z h c : Nat) (p : Nat → Nat) : Int32 := if allB c (fun i => z % p i == 0) = true then (if gnt z h p c < 0 then -1 else if gnt z h p c - gnt z h p c / 2 * 2 = 0 then gnt z h p c / 2 else -1) else -1
theorem allB_succ {p : Nat → Bool} {n : Nat} (h1 : allB n p = true) (h2 : p n = true) : allB (n + 1) p = true := by rw [allB, h1, h2]; rfl
section GEN
variable {z h c : Nat} {p : Nat → Nat} {x y : Int32} {w : Nat → Int32}
theorem sC_genusOver (hz : z ≤ 8) (hs : sok h c p) (hS : SG h c p x y w) : fX4_genusOver (nI z) x y w = some (gen z h c p) := by
  obtain ⟨rfl, rfl, hw⟩ := hS
  obtain ⟨h1, h2, h3⟩ := hs
  unfold fX4_genusOver
  refine pw_val (pw_bind (R := fun v => v = if allB c (fun i => z % p i == 0) = true then Sum.inl (gnt z h p c) else Sum.inr (-1)) ?_ (fun t ht => ?_))
  · refine pw_run (fun i s => s = (gnt z h p i, nI i) ∧ allB i (fun i => z % p i == 0) = true) 0 c (by omega) ⟨rfl, rfl⟩ (Nat.zero_le _) ?_
    rintro i _ hi ⟨rfl, hI⟩
    show pw (fX4_genusOver_L15 (nI z) (nI c) w (gnt z h p i) (nI i)) _
    unfold fX4_genusOver_L15
    refine pw_le (by omega) (by omega) (fun q => pw_out ?_) (fun hi => ?_)
    · rw [show c = i by omega, if_pos hI]
    · have hp := h3 i hi
      refine pw_rd (by omega) (by decide) ?_
      rw [hw i hi]
      refine pw_lt (b := 2) (by omega) (by decide) (fun q => by omega) (fun _ => ?_)
      refine pw_rm (by omega) (by omega) (by omega) ?_
      have hm := Nat.mod_lt z (show 0 < p i by omega)
      refine pw_eqn (b := 0) (by omega) (by decide) (fun q => ?_) (fun q => pw_out ?_)
      · refine pw_dv (by omega) (by omega) (by omega) (pw_in ⟨hi, ?_, allB_succ hI (by simp [q])⟩)
        rw [show (nI i + (1 : Int32)) = nI (i + 1) from nI_add i 1]; rfl
      · rw [allB_not hi (by simp [q])]; rfl
  · subst ht
    unfold gen
    cases allB c (fun i => z % p i == 0) with
    | false => exact pw_some rfl
    | true =>
      rw [if_pos rfl, if_pos rfl]
      show pw (if gnt z h p c < 0 then fX4_genusOver_J71 else _) _
      refine pw_if (fun q => ?_) (fun q => ?_)
      · rw [if_pos q]; exact pw_some rfl
      · rw [if_neg q]
        refine pw_if (fun q2 => ?_) (fun q2 => ?_)
        · rw [if_pos q2]; exact pw_some rfl
        · rw [if_neg q2]; exact pw_some rfl
theorem sM_genusOf (hz : z ≤ 8) (hs : sok h c p) (hS : SG h c p x y w) : fX6_genusOf (nI z) x y w = some (gen z h c p) := by
  obtain ⟨rfl, rfl, hw⟩ := hS
  obtain ⟨h1, h2, h3⟩ := hs
  unfold fX6_genusOf
  refine pw_val (pw_bind (R := fun v => v = if allB c (fun i => z % p i == 0) = true then Sum.inl (gnt z h p c) else Sum.inr (-1)) ?_ (fun t ht => ?_))
  · refine pw_run (fun i s => s = (gnt z h p i, nI i) ∧ allB i (fun i => z % p i == 0) = true) 0 c (by omega) ⟨rfl, rfl⟩ (Nat.zero_le _) ?_
    rintro i _ hi ⟨rfl, hI⟩
    show pw (fX6_genusOf_L18 (nI z) (nI c) w (gnt z h p i) (nI i)) _
    unfold fX6_genusOf_L18
    refine pw_le (by omega) (by omega) (fun q => pw_out ?_) (fun hi => ?_)
    · rw [show c = i by omega, if_pos hI]
    · have hp := h3 i hi
      refine pw_rd (by omega) (by decide) ?_
      rw [hw i hi]
      refine pw_rm (by omega) (by omega) (by omega) ?_
      have hm := Nat.mod_lt z (show 0 < p i by omega)
      refine pw_eqn (b := 0) (by omega) (by decide) (fun q => ?_) (fun q => pw_out ?_)
      · refine pw_rd (by omega) (by decide) ?_
        rw [hw i hi]
        refine pw_dv (by omega) (by omega) (by omega) (pw_in ⟨hi, ?_, allB_succ hI (by simp [q])⟩)
        rw [show (nI i + (1 : Int32)) = nI (i + 1) from nI_add i 1]; rfl
      · rw [allB_not hi (by simp [q])]; rfl
  · subst ht
    unfold gen
    cases allB c (fun i => z % p i == 0) with
    | false => exact pw_some rfl
    | true =>
      rw [if_pos rfl, if_pos rfl]
      show pw (if gnt z h p c < 0 then fX6_genusOf_J77 else _) _
      refine pw_if (fun q => ?_) (fun q => ?_)
      · rw [if_pos q]; exact pw_some rfl
      · rw [if_neg q]
        refine pw_if (fun q2 => ?_) (fun q2 => ?_)
        · rw [if_pos q2]; exact pw_some rfl
        · rw [if_neg q2]; exact pw_some rfl
theorem sC_digits : fX4_digits (nI h) (nI c) = some (nI (2 * h + c)) := by
  unfold fX4_digits
  rw [show (2 : Int32) = nI 2 from rfl, pk_mul, nI_add]
theorem sM_length : fX6_length (nI h) (nI c) = some (nI (2 * h + c)) := by
  unfold fX6_length
  rw [show (2 : Int32) = nI 2 from rfl, pk_mul, nI_add]
theorem sC_hasPeriod (x : Int32) (hc : c < 2 ^ 31) : fX4_hasPeriod x (nI c) = some (if ie x c then 1 else 0) := sC_isElement x hc
theorem sM_inP (x : Int32) (hc : c < 2 ^ 30) : fX6_in x (0 : Int32) (nI c - (1 : Int32)) = some (if ie x c then 1 else 0) := by
  have e0 : (0 : Int32).toInt = 0 := by decide
  have e1 : (nI c - (1 : Int32)).toInt = (c : Int) - 1 := pk_sub_toInt (a := c) (b := 1) hc (by decide)
  rw [sM_in, e0, e1]
  by_cases q : ie x c
  · rw [if_pos q, if_pos (by unfold ie at q; omega)]
  · rw [if_neg q, if_neg (by unfold ie at q; omega)]
theorem rs_periodOf {x' y' : Int32} {w' : Nat → Int32} (hs : sok h c p) (hS : SG h c p x y w) (hM : SG h c p x' y' w') (x1 : Int32) : same (fX5_periodOf x1 y w) (fX6_periodOf x1 y' w') := by
  obtain ⟨rfl, rfl, hw⟩ := hS
  obtain ⟨rfl, rfl, hw'⟩ := hM
  have hc := hs.2.1
  unfold fX5_periodOf fX6_periodOf
  rw [sC_hasPeriod x1 (by omega), sM_inP x1 (by omega)]
  by_cases q : ie x1 c
  · simp only [if_pos q]
    obtain ⟨i, hi, rfl⟩ := ie_of q (by omega)
    refine same_of (r := nI (p i)) ?_ ?_
    · exact pw_val (pw_eq rfl (pw_F (by decide) (pw_rd (by omega) (by decide) (pw_some (hw i hi)))))
    · exact pw_val (pw_eq rfl (pw_F (by decide) (pw_rd (by omega) (by decide) (pw_some (hw' i hi)))))
  · simp only [if_neg q]
    exact ⟨_, rfl, rfl⟩
theorem rs_genus {x' y' : Int32} {w' : Nat → Int32} (hz : z ≤ 8) (hs : sok h c p) (hS : SG h c p x y w) (hM : SG h c p x' y' w') : same (fX5_genus (nI z) x y w) (fX6_genus (nI z) x' y' w') := by
  unfold fX5_genus fX6_genus
  rw [sC_genusOver hz hs hS, sM_genusOf hz hs hM]
  exact ⟨_, rfl, rfl⟩
end GEN
