/-! THE CALLS ON THE GROUP: both sides answer the same -/
def same (a b : Option Int32) : Prop := ∃ r, a = some r ∧ b = some r
theorem same_of {a b : Option Int32} {r : Int32} (ha : a = some r) (hb : b = some r) : same a b := ⟨r, ha, hb⟩
def scn (p : Nat → Bool) (val : Nat → Int32) (x : Int32) : Nat → Option Int32
  | 0 => none
  | N + 1 => (scn p val x N).orElse (fun _ => if p N = true ∧ nI (fb_ct p N) = x then some (val N) else none)
def scr (p : Nat → Bool) (val : Nat → Int32) (x : Int32) (N : Nat) : Int32 ⊕ Int32 := match scn p val x N with | some v => Sum.inr v | none => Sum.inl (nI (fb_ct p N))
theorem scn_some {p : Nat → Bool} {val : Nat → Int32} {x v : Int32} : ∀ {i N : Nat}, i ≤ N → scn p val x i = some v → scn p val x N = some v
  | i, 0, h, e => by rw [show i = 0 by omega] at e; exact e
  | i, N + 1, h, e => by
    rcases (show i = N + 1 ∨ i ≤ N by omega) with rfl | q
    · exact e
    · rw [scn, scn_some q e]; rfl
theorem pw_scan {b : Int32 × Int32 → Option ((Int32 × Int32) ⊕ (Int32 ⊕ Int32))} {s0 : Int32 × Int32} (p : Nat → Bool) (val : Nat → Int32) (x : Int32) (N : Nat) (hN : N < 1048576) (h0 : s0 = (nI 0, nI 0)) (hb : ∀ i, i < N → b (nI (fb_ct p i), nI i) = if p i = true then (if nI (fb_ct p i) = x then some (.inr (.inr (val i))) else some (.inl (nI (fb_ct p i + 1), nI (i + 1)))) else some (.inl (nI (fb_ct p i), nI (i + 1)))) (hE : b (nI (fb_ct p N), nI N) = some (.inr (.inl (nI (fb_ct p N))))) : pz_iter b pz_FUEL s0 = some (scr p val x N) := by
  refine pw_val (pw_run (fun i s => s = (nI (fb_ct p i), nI i) ∧ scn p val x i = none) 0 N hN ⟨h0, rfl⟩ (Nat.zero_le _) ?_)
  rintro i _ hi ⟨rfl, hs⟩
  rcases (show i = N ∨ i < N by omega) with rfl | hi
  · rw [hE]
    refine pw_out ?_
    unfold scr
    rw [hs]
  · rw [hb i hi]
    by_cases q : p i = true
    · rw [if_pos q]
      by_cases q2 : nI (fb_ct p i) = x
      · rw [if_pos q2]
        refine pw_out ?_
        have e : scn p val x (i + 1) = some (val i) := by
          rw [scn, hs]
          show (if p i = true ∧ nI (fb_ct p i) = x then some (val i) else none) = _
          rw [if_pos ⟨q, q2⟩]
        unfold scr
        rw [scn_some (show i + 1 ≤ N by omega) e]
      · rw [if_neg q2]
        refine pw_in ⟨hi, ?_, ?_⟩
        · rw [fb_ct_succ, if_pos q]
        · rw [scn, hs]
          show (if p i = true ∧ nI (fb_ct p i) = x then some (val i) else none) = _
          rw [if_neg (fun z => q2 z.2)]
    · rw [if_neg q]
      refine pw_in ⟨hi, ?_, ?_⟩
      · rw [fb_ct_succ, if_neg q]; rfl
      · rw [scn, hs]
        show (if p i = true ∧ nI (fb_ct p i) = x then some (val i) else none) = _
        rw [if_neg (fun z => q z.1)]
section CALLS
variable {f n : Nat} {T P I O C Z : Nat → Int32}
theorem rs_times (h : gok f n) (hT : MT f n T) (hG : CG f n P I O C Z) (x1 x2 : Int32) : same (fX5_times x1 x2 (nI (gz f n)) P) (fX6_times x1 x2 (nI (gz f n)) T) := by
  have hz := gz_le h
  unfold fX5_times fX6_times
  rw [sC_isElement x1 (by omega), sM_isElement x1 (gz_pos h) (by omega)]
  by_cases h1 : ie x1 (gz f n)
  · simp only [if_pos h1]
    obtain ⟨a, ha, rfl⟩ := ie_of h1 (by omega)
    rw [sC_isElement x2 (by omega), sM_isElement x2 (gz_pos h) (by omega)]
    by_cases h2 : ie x2 (gz f n)
    · simp only [if_pos h2]
      obtain ⟨b, hb, rfl⟩ := ie_of h2 (by omega)
      rw [sC_product h hG.1 ha hb, sM_product h hT ha hb]
      exact ⟨_, rfl, rfl⟩
    · simp only [if_neg h2]
      exact ⟨_, rfl, rfl⟩
  · simp only [if_neg h1]
    exact ⟨_, rfl, rfl⟩
theorem rs_conjugate (h : gok f n) (hT : MT f n T) (hG : CG f n P I O C Z) (x1 x2 : Int32) : same (fX5_conjugate x1 x2 (nI (gz f n)) C) (fX6_conjugate x1 x2 (nI (gz f n)) T) := by
  have hz := gz_le h
  unfold fX5_conjugate fX6_conjugate
  rw [sC_isElement x1 (by omega), sM_isElement x1 (gz_pos h) (by omega)]
  by_cases h1 : ie x1 (gz f n)
  · simp only [if_pos h1]
    obtain ⟨a, ha, rfl⟩ := ie_of h1 (by omega)
    rw [sC_isElement x2 (by omega), sM_isElement x2 (gz_pos h) (by omega)]
    by_cases h2 : ie x2 (gz f n)
    · simp only [if_pos h2]
      obtain ⟨b, hb, rfl⟩ := ie_of h2 (by omega)
      rw [sC_conjugated h hG.2.2.2.1 ha hb, sM_turned h hT ha hb]
      exact ⟨_, rfl, rfl⟩
    · simp only [if_neg h2]
      exact ⟨_, rfl, rfl⟩
  · simp only [if_neg h1]
    exact ⟨_, rfl, rfl⟩
theorem rs_span (h : gok f n) (hT : MT f n T) (hG : CG f n P I O C Z) (x1 : Int32) : same (fX5_span x1 (nI (gz f n)) Z) (fX6_span x1 (nI (gz f n)) T) := by
  have hz := gz_le h
  have hp := gz_pow h
  unfold fX5_span fX6_span
  rw [sC_isSet x1 hz, sM_isSet x1 hz]
  by_cases h1 : ie x1 (2 ^ gz f n)
  · simp only [if_pos h1]
    obtain ⟨S, hS, rfl⟩ := ie_of h1 (by omega)
    rw [sC_spanOf h hG.2.2.2.2 hS, sM_spanOf h hT hS]
    exact ⟨_, rfl, rfl⟩
  · simp only [if_neg h1]
    exact ⟨_, rfl, rfl⟩
theorem rs_normal (h : gok f n) (hT : MT f n T) (hG : CG f n P I O C Z) (x1 : Int32) : same (fX5_normal x1 (nI (gz f n)) C Z) (fX6_normal x1 (nI (gz f n)) T) := by
  have hz := gz_le h
  have hp := gz_pow h
  unfold fX5_normal fX6_normal
  rw [sC_isSubgroup h hG.2.2.2.2 x1, sM_isSubgroup h hT x1]
  by_cases h1 : ∃ S, S < 2 ^ gz f n ∧ x1 = nI S ∧ isub f n S = true
  · simp only [if_pos h1]
    obtain ⟨S, hS, rfl, hi⟩ := h1
    rw [sC_isNormal h hG.2.2.2.1 hS, sM_isNormal h hT (by omega)]
    cases inorm f n S <;> exact ⟨_, rfl, rfl⟩
  · simp only [if_neg h1]
    exact ⟨_, rfl, rfl⟩
theorem rs_power (h : gok f n) (hT : MT f n T) (hG : CG f n P I O C Z) (x1 x2 : Int32) : same (fX5_power x1 x2 (nI (gz f n)) P) (fX6_power x1 x2 (nI (gz f n)) T) := by
  have hz := gz_le h
  unfold fX5_power fX6_power
  rw [sC_isElement x1 (by omega), sM_isElement x1 (gz_pos h) (by omega)]
  by_cases h1 : ie x1 (gz f n)
  · simp only [if_pos h1]
    obtain ⟨a, ha, rfl⟩ := ie_of h1 (by omega)
    have e0 : (0 : Int32).toInt = 0 := by decide
    have e99 : (99 : Int32).toInt = 99 := by decide
    rw [sM_in, e0, e99]
    by_cases h2 : ie x2 100
    · obtain ⟨k, hk, rfl⟩ := ie_of h2 (by decide)
      refine same_of (r := nI (gpow f n a k)) ?_ ?_
      · refine pw_val (pw_eq rfl (pw_F (by decide) (pw_F (nI_pos (by omega)) (pw_F (fun q => ?_) (pw_eq (sC_powerOf h hG.1 ha (by omega)) (pw_some rfl))))))
        rw [fa_lt, e99, nI_toInt (by omega)] at q
        omega
      · rw [if_pos (c := (0 : Int) ≤ (nI k).toInt ∧ (nI k).toInt ≤ 99) (by unfold ie at h2; omega)]
        exact pw_val (pw_eq rfl (pw_F (by decide) (pw_eq rfl (pw_F (by decide) (pw_eq (sM_pow h hT ha (by omega)) (pw_some rfl))))))
    · rw [if_neg (c := (0 : Int) ≤ x2.toInt ∧ x2.toInt ≤ 99) (by unfold ie at h2; omega)]
      refine same_of (r := -2) ?_ rfl
      show (if (1 : Int32) = 0 then some (-2 : Int32) else if x2 < 0 then some (-2 : Int32) else if (99 : Int32) < x2 then some (-2 : Int32) else _) = _
      rw [if_neg (by decide)]
      by_cases q : x2 < 0
      · rw [if_pos q]
      · rw [if_neg q, if_pos]
        rw [fa_lt, e0] at q
        rw [fa_lt, e99]
        unfold ie at h2; omega
  · simp only [if_neg h1]
    exact ⟨_, rfl, rfl⟩
theorem rs_of (h : gok f n) (hT : MT f n T) (hG : CG f n P I O C Z) (x1 x2 : Int32) : same (fX5_of x1 x2 (nI (gz f n)) I O C) (fX6_of x1 x2 (nI (gz f n)) T) := by
  have hz := gz_le h
  have hp := gz_pow h
  unfold fX5_of fX6_of
  rw [sC_isElement x1 (by omega), sM_isElement x1 (gz_pos h) (by omega)]
  by_cases h1 : ie x1 (gz f n)
  · simp only [if_pos h1]
    obtain ⟨a, ha, rfl⟩ := ie_of h1 (by omega)
    have hc := cset_lt h ha
    by_cases q0 : x2 = 0
    · subst q0
      refine same_of (r := nI (go f n a)) ?_ ?_
      · exact pw_val (pw_eq rfl (pw_F (by decide) (pw_T rfl (pw_rd (by omega) (by decide) (pw_some (hG.2.2.1 a ha))))))
      · exact pw_val (pw_eq rfl (pw_F (by decide) (pw_eq (show fX6_in 0 0 2 = some 1 by decide) (pw_F (by decide) (pw_T rfl (pw_eq (sM_orderOf h hT ha) (pw_some rfl)))))))
    · by_cases q1 : x2 = 1
      · subst q1
        refine same_of (r := nI (gi f n a)) ?_ ?_
        · exact pw_val (pw_eq rfl (pw_F (by decide) (pw_F (by decide) (pw_T rfl (pw_rd (by omega) (by decide) (pw_some (hG.2.1 a ha)))))))
        · exact pw_val (pw_eq rfl (pw_F (by decide) (pw_eq (show fX6_in 1 0 2 = some 1 by decide) (pw_F (by decide) (pw_F (by decide) (pw_T rfl (pw_eq (sM_inverse h hT ha) (pw_some rfl))))))))
      · by_cases q2 : x2 = 2
        · subst q2
          refine same_of (r := nI (pc (cset f n a))) ?_ ?_
          · exact pw_val (pw_eq rfl (pw_F (by decide) (pw_F (by decide) (pw_F (by decide) (pw_T rfl (pw_eq (sC_conjugatesOf h hG.2.2.2.1 ha) (pw_eq (sC_bitCount (by omega)) (pw_some rfl))))))))
          · exact pw_val (pw_eq rfl (pw_F (by decide) (pw_eq (show fX6_in 2 0 2 = some 1 by decide) (pw_F (by decide) (pw_F (by decide) (pw_F (by decide) (pw_eq (sM_cset h hT ha) (pw_eq (sM_ones (by omega)) (pw_some rfl)))))))))
        · refine same_of (r := -2) ?_ ?_
          · exact pw_val (pw_eq rfl (pw_F (by decide) (pw_F q0 (pw_F q1 (pw_F q2 (pw_some rfl))))))
          · have e : fX6_in x2 0 2 = some 0 := by
              rw [sM_in, if_neg]
              rintro ⟨z1, z2⟩
              have e0 : (0 : Int32).toInt = 0 := by decide
              have e1 : (1 : Int32).toInt = 1 := by decide
              have e2 : (2 : Int32).toInt = 2 := by decide
              rw [fa_eq] at q0 q1 q2
              omega
            exact pw_val (pw_eq rfl (pw_F (by decide) (pw_eq e (pw_T rfl (pw_some rfl)))))
  · simp only [if_neg h1]
    exact ⟨_, rfl, rfl⟩
theorem rs_centre (h : gok f n) (hT : MT f n T) (hG : CG f n P I O C Z) (x1 : Int32) : same (fX5_centre x1 (nI (gz f n)) O C) (fX6_centre x1 (nI (gz f n)) T) := by
  have hz := gz_le h
  have e0 : (0 : Int32).toInt = 0 := by decide
  have e8 : (8 : Int32).toInt = 8 := by decide
  unfold fX5_centre fX6_centre
  rw [sM_in, e0, e8]
  by_cases h1 : ie x1 9
  · obtain ⟨w, hw, rfl⟩ := ie_of h1 (by decide)
    rw [if_pos (c := (0 : Int) ≤ (nI w).toInt ∧ (nI w).toInt ≤ 8) (by unfold ie at h1; omega)]
    have l0 : ¬ nI w < 0 := nI_pos (by omega)
    have l8 : nI w ≤ (8 : Int32) := (nI_leI (a := w) (b := 8) (by omega) (by decide)).mpr (by omega)
    rcases (show w = 0 ∨ 0 < w by omega) with rfl | hw0
    · refine same_of (r := nI (orf (gz f n) (fun a => if icent f n a then 2 ^ a else 0))) ?_ ?_
      · exact pw_val (pw_F l0 (pw_T l8 (pw_T rfl (pw_eq (sC_centreSet h hG.2.2.2.1) (pw_some rfl)))))
      · exact pw_val (pw_eq rfl (pw_F (by decide) (pw_eq (sM_centre_loop h hT (by decide)) (pw_T rfl (pw_some rfl)))))
    · have n0 : ¬ nI w = 0 := nI_ne0 hw0 (by omega)
      refine same_of (r := nI (fb_ct (fun a => go f n a == w) (gz f n))) ?_ ?_
      · exact pw_val (pw_F l0 (pw_T l8 (pw_F n0 (pw_eq (sC_countOfOrder h hG.2.2.1 (by omega)) (pw_some rfl)))))
      · exact pw_val (pw_eq rfl (pw_F (by decide) (pw_eq (sM_centre_loop h hT (by omega)) (pw_F n0 (pw_some rfl)))))
  · rw [if_neg (c := (0 : Int) ≤ x1.toInt ∧ x1.toInt ≤ 8) (by unfold ie at h1; omega)]
    refine same_of (r := -2) ?_ rfl
    by_cases q : x1 < 0
    · rw [if_pos q]
    · rw [if_neg q, if_neg]
      rw [fa_lt, e0] at q
      rw [fa_le, e8]
      unfold ie at h1; omega
theorem sC_subgroups (h : gok f n) (hZ : ∀ S, S < 2 ^ gz f n → Z S = nI (gs f n S)) (x1 : Int32) : pz_iter (fun (σ : Int32 × Int32) => fX5_subgroup_L4 x1 (nI (gz f n)) Z σ.1 σ.2) pz_FUEL ((0 : Int32), (0 : Int32)) = some (scr (isub f n) nI x1 (2 ^ gz f n)) := by
  have hz := gz_le h
  have hp := gz_pow h
  have hp1 : 1 ≤ 2 ^ gz f n := Nat.one_le_two_pow
  refine pw_scan (isub f n) nI x1 (2 ^ gz f n) (by omega) rfl (fun i hi => ?_) ?_
  · show fX5_subgroup_L4 x1 (nI (gz f n)) Z (nI (fb_ct (isub f n) i)) (nI i) = _
    unfold fX5_subgroup_L4
    rw [sC_whole hz]
    show (if nI (2 ^ gz f n - 1) < nI i then _ else _) = _
    rw [if_neg (nI_nlt (by omega) (by omega)), sC_isSubgroup h hZ]
    cases q : isub f n i with
    | true =>
      rw [if_pos (⟨i, hi, rfl, q⟩ : ∃ S, S < 2 ^ gz f n ∧ nI i = nI S ∧ isub f n S = true)]
      rw [Option.bind_some, if_neg (by decide : ¬ (1 : Int32) = 0), if_pos (rfl : true = true)]
      by_cases q2 : nI (fb_ct (isub f n) i) = x1
      · rw [if_pos q2, if_pos q2]
      · rw [if_neg q2, if_neg q2]
        unfold fX5_subgroup_J36L4
        rw [show (nI i + (1 : Int32)) = nI (i + 1) from nI_add i 1, show (nI (fb_ct (isub f n) i) + (1 : Int32)) = nI (fb_ct (isub f n) i + 1) from nI_add _ 1]
    | false =>
      rw [if_neg (c := ∃ S, S < 2 ^ gz f n ∧ nI i = nI S ∧ isub f n S = true)]
      · rw [Option.bind_some, if_pos (rfl : (0 : Int32) = 0), if_neg (by decide : ¬ false = true)]
        unfold fX5_subgroup_J36L4
        rw [show (nI i + (1 : Int32)) = nI (i + 1) from nI_add i 1]
      · rintro ⟨S, hS, e, hi2⟩
        have e := (nI_eq (by omega) (by omega)).mp e
        subst e
        rw [q] at hi2; cases hi2
  · show fX5_subgroup_L4 x1 (nI (gz f n)) Z (nI (fb_ct (isub f n) (2 ^ gz f n))) (nI (2 ^ gz f n)) = _
    unfold fX5_subgroup_L4
    rw [sC_whole hz]
    show (if nI (2 ^ gz f n - 1) < nI (2 ^ gz f n) then _ else _) = _
    rw [if_pos (nI_lt (by omega) (by omega))]
theorem sM_subgroups (h : gok f n) (hT : MT f n T) (x1 : Int32) : pz_iter (fun (σ : Int32 × Int32) => fX6_subgroup_L4 x1 (nI (gz f n)) T σ.1 σ.2) pz_FUEL ((0 : Int32), (0 : Int32)) = some (scr (isub f n) nI x1 (2 ^ gz f n)) := by
  have hz := gz_le h
  have hp := gz_pow h
  have hp1 : 1 ≤ 2 ^ gz f n := Nat.one_le_two_pow
  have e1 : (1 : Int32) <<< (nI (gz f n) &&& 31) = nI (2 ^ gz f n) := by rw [← Nat.one_shiftLeft]; exact bz_shl 1 (by omega)
  refine pw_scan (isub f n) nI x1 (2 ^ gz f n) (by omega) rfl (fun i hi => ?_) ?_
  · show fX6_subgroup_L4 x1 (nI (gz f n)) T (nI (fb_ct (isub f n) i)) (nI i) = _
    unfold fX6_subgroup_L4
    rw [e1, if_neg (nI_ge hi (by omega)), sM_isSubgroup h hT]
    cases q : isub f n i with
    | true =>
      rw [if_pos (⟨i, hi, rfl, q⟩ : ∃ S, S < 2 ^ gz f n ∧ nI i = nI S ∧ isub f n S = true)]
      rw [Option.bind_some, if_neg (by decide : ¬ (1 : Int32) = 0), if_pos (rfl : true = true)]
      by_cases q2 : nI (fb_ct (isub f n) i) = x1
      · rw [if_pos q2, if_pos q2]
      · rw [if_neg q2, if_neg q2]
        unfold fX6_subgroup_J32L4
        rw [show (nI i + (1 : Int32)) = nI (i + 1) from nI_add i 1, show (nI (fb_ct (isub f n) i) + (1 : Int32)) = nI (fb_ct (isub f n) i + 1) from nI_add _ 1]
    | false =>
      rw [if_neg (c := ∃ S, S < 2 ^ gz f n ∧ nI i = nI S ∧ isub f n S = true)]
      · rw [Option.bind_some, if_pos (rfl : (0 : Int32) = 0), if_neg (by decide : ¬ false = true)]
        unfold fX6_subgroup_J32L4
        rw [show (nI i + (1 : Int32)) = nI (i + 1) from nI_add i 1]
      · rintro ⟨S, hS, e, hi2⟩
        have e := (nI_eq (by omega) (by omega)).mp e
        subst e
        rw [q] at hi2; cases hi2
  · show fX6_subgroup_L4 x1 (nI (gz f n)) T (nI (fb_ct (isub f n) (2 ^ gz f n))) (nI (2 ^ gz f n)) = _
    unfold fX6_subgroup_L4
    rw [e1, if_pos (nI_le (Nat.le_refl _) (by omega))]
theorem rs_subgroup (h : gok f n) (hT : MT f n T) (hG : CG f n P I O C Z) (x1 : Int32) : same (fX5_subgroup x1 (nI (gz f n)) Z) (fX6_subgroup x1 (nI (gz f n)) T) := by
  unfold fX5_subgroup fX6_subgroup
  rw [sC_subgroups h hG.2.2.2.2 x1, sM_subgroups h hT x1]
  cases scr (isub f n) nI x1 (2 ^ gz f n) with
  | inl v =>
    show same (if x1 = -1 then some v else some (-1)) (if x1 = -1 then some v else some (-1))
    by_cases q : x1 = -1
    · rw [if_pos q]; exact ⟨_, rfl, rfl⟩
    · rw [if_neg q]; exact ⟨_, rfl, rfl⟩
  | inr v => exact ⟨_, rfl, rfl⟩
end CALLS
