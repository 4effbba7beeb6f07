/-! THE CALLS handles, period, drop, group -/
section SIGCALL
variable {h c : Nat} {p : Nat → Nat} {w w' : Nat → Int32} {mk ck al : Int32}
theorem rs_handles (hs : sok h c p) (x1 : Int32) : ∃ v u, fX5_handles x1 (nI h) (nI c) mk ck = some v ∧ fX6_handles x1 (nI h) (nI c) al = some u ∧ v.1 = u.1 ∧ ((v.2 = (nI h, mk, ck) ∧ u.2 = (nI h, al)) ∨ ∃ h', sok h' c p ∧ v.2 = (nI h', 0, 0) ∧ u.2 = (nI h', 0)) := by
  obtain ⟨s1, s2, s3⟩ := hs
  have hin : fX6_in x1 (0 : Int32) (1 : Int32) = some (if ie x1 2 then 1 else 0) := by
    have := sM_inP (c := 2) x1 (by decide)
    rwa [show nI 2 - (1 : Int32) = 1 from by decide] at this
  unfold fX5_handles fX6_handles fX5_forgetMaps
  rw [hin]
  by_cases q : ie x1 2
  · obtain ⟨k, k1, rfl⟩ := ie_of q (by decide)
    rw [if_pos q]
    have e1 : ((2 : Int32) * nI k) + nI c = nI (2 * k + c) := by rw [show (2 : Int32) = nI 2 from rfl, pk_mul, nI_add]
    have l1 : nI k ≤ (1 : Int32) := (nI_leI (b := 1) (by omega) (by decide)).mpr (by omega)
    rw [e1]
    by_cases r : 2 * k + c ≤ 4
    · have r2 : nI (2 * k + c) ≤ (4 : Int32) := (nI_leI (b := 4) (by omega) (by decide)).mpr r
      refine ⟨(nI h, nI k, 0, 0), (nI h, nI k, 0), ?_, ?_, rfl, Or.inr ⟨k, ⟨by omega, r, s3⟩, rfl, rfl⟩⟩
      · exact pw_val (pw_F (nI_pos (by omega)) (pw_T l1 (pw_T r2 (pw_some rfl))))
      · exact pw_val (pw_eq rfl (pw_F (by decide) (pw_T r2 (pw_some rfl))))
    · have r2 : ¬ nI (2 * k + c) ≤ (4 : Int32) := fun y => r ((nI_leI (b := 4) (by omega) (by decide)).mp y)
      refine ⟨((-4 : Int32), nI h, mk, ck), ((-4 : Int32), nI h, al), ?_, ?_, rfl, Or.inl ⟨rfl, rfl⟩⟩
      · exact pw_val (pw_F (nI_pos (by omega)) (pw_T l1 (pw_F r2 (pw_some rfl))))
      · exact pw_val (pw_eq rfl (pw_F (by decide) (pw_F r2 (pw_some rfl))))
  · rw [if_neg q]
    refine ⟨((-2 : Int32), nI h, mk, ck), ((-2 : Int32), nI h, al), ?_, pw_val (pw_eq rfl (pw_T rfl (pw_some rfl))), rfl, Or.inl ⟨rfl, rfl⟩⟩
    refine pw_val (pw_if (fun y => pw_some rfl) (fun y => pw_F (fun z => q ?_) (pw_some rfl)))
    obtain ⟨k, k1, rfl⟩ := nI_of y
    have := (nI_leI (b := 1) k1 (by decide)).mp z
    exact (ie_nI k1).mpr (by omega)
theorem rs_drop (hs : sok h c p) : ∃ v u, fX5_drop (nI c) mk ck = some v ∧ fX6_drop (nI c) al = some u ∧ v.1 = u.1 ∧ ((v.2 = (nI c, mk, ck) ∧ u.2 = (nI c, al)) ∨ ∃ c', c' ≤ c ∧ sok h c' p ∧ v.2 = (nI c', 0, 0) ∧ u.2 = (nI c', 0)) := by
  obtain ⟨s1, s2, s3⟩ := hs
  unfold fX5_drop fX6_drop fX5_forgetMaps
  rcases Nat.eq_zero_or_pos c with q | q
  · subst q
    exact ⟨((-3 : Int32), nI 0, mk, ck), ((-3 : Int32), nI 0, al), rfl, rfl, rfl, Or.inl ⟨rfl, rfl⟩⟩
  · have e1 : nI c - (1 : Int32) = nI (c - 1) := pk_sub (a := c) (b := 1) q
    rw [e1]
    refine ⟨(nI (c - 1), nI (c - 1), 0, 0), (nI (c - 1), nI (c - 1), 0), ?_, ?_, rfl, Or.inr ⟨c - 1, by omega, ⟨s1, by omega, fun i hi => s3 i (by omega)⟩, rfl, rfl⟩⟩
    · exact pw_val (pw_T ((nI_leI (a := 1) (by decide) (by omega)).mpr q) (pw_some rfl))
    · exact pw_val (pw_F (fun y => by have := (nI_eq (b := 0) (by omega) (by decide)).mp y; omega) (pw_some rfl))
theorem rs_period (hs : sok h c p) (hw : ∀ i, i < c → w i = nI (p i)) (hw' : ∀ i, i < c → w' i = nI (p i)) (x1 : Int32) : ∃ v u, fX5_period x1 (nI h) (nI c) w mk ck = some v ∧ fX6_period x1 (nI h) (nI c) w' al = some u ∧ v.1 = u.1 ∧ ((v.2 = (nI c, w, mk, ck) ∧ u.2 = (nI c, w', al)) ∨ ∃ c' p', sok h c' p' ∧ (∀ i, i < c' → v.2.2.1 i = nI (p' i)) ∧ (∀ i, i < c' → u.2.2.1 i = nI (p' i)) ∧ v.2.1 = nI c' ∧ v.2.2.2 = (0, 0) ∧ u.2.1 = nI c' ∧ u.2.2.2 = 0) := by
  obtain ⟨s1, s2, s3⟩ := hs
  have hin := sM_in x1 (2 : Int32) (8 : Int32)
  have l2 : (2 : Int32).toInt = 2 := by decide
  have l8 : (8 : Int32).toInt = 8 := by decide
  rw [l2, l8] at hin
  have rng := fb_rng x1
  unfold fX5_period fX6_period fX5_forgetMaps
  rw [hin]
  by_cases q : (2 : Int) ≤ x1.toInt ∧ x1.toInt ≤ 8
  · rw [if_pos q]
    obtain ⟨k, k1, k2, rfl⟩ : ∃ k, 2 ≤ k ∧ k ≤ 8 ∧ x1 = nI k := ⟨x1.toInt.toNat, by omega, by omega, of_rng (by omega) (by omega)⟩
    have a1 : ¬ nI k < (2 : Int32) := fun y => by have := (nI_ltI (b := 2) (by omega) (by decide)).mp y; omega
    have a2 : nI k ≤ (8 : Int32) := (nI_leI (b := 8) (by omega) (by decide)).mpr k2
    have e1 : (((2 : Int32) * nI h) + nI c) + (1 : Int32) = nI (2 * h + c + 1) := by rw [show (2 : Int32) = nI 2 from rfl, pk_mul, nI_add]; exact nI_add _ 1
    rw [e1]
    by_cases r : 2 * h + c < 4
    · refine ⟨(nI (c + 1), nI (c + 1), upd w c (nI k), 0, 0), (nI (c + 1), nI (c + 1), upd w' c (nI k), 0), ?_, ?_, rfl, Or.inr ⟨c + 1, fu p c k, ⟨s1, by omega, fun i hi => ?_⟩, fun i hi => ?_, fun i hi => ?_, rfl, rfl, rfl, rfl⟩⟩
      · refine pw_val (pw_F a1 (pw_T a2 (pw_eq sC_digits (pw_T ((nI_ltI (b := 4) (by omega) (by decide)).mpr r) ?_))))
        refine pw_bind (R := fun t => t = (nI (c + 1), upd w c (nI k))) ?_ (fun t ht => by subst ht; exact pw_some rfl)
        unfold fX4_add
        exact pw_F (fun y => by have := (nI_leI (a := 4) (by decide) (by omega)).mp y; omega) (pw_wr (by omega) (by decide) (pw_some (congrArg (fun v => (v, upd w c (nI k))) (nI_add c 1))))
      · refine pw_val (pw_eq rfl (pw_F (by decide) (pw_T ((nI_leI (b := 4) (by omega) (by decide)).mpr (by omega)) (pw_wr (by omega) (by decide) (pw_some ?_)))))
        rw [show (nI c + (1 : Int32)) = nI (c + 1) from nI_add c 1]
      · by_cases z : i = c
        · rw [z, fu_s]; exact ⟨k1, k2⟩
        · rw [fu_n z]; exact s3 i (by omega)
      · show upd w c (nI k) i = _
        by_cases z : i = c
        · rw [z, fu_s, upd_s]
        · rw [fu_n z, upd_n z]; exact hw i (by omega)
      · show upd w' c (nI k) i = _
        by_cases z : i = c
        · rw [z, fu_s, upd_s]
        · rw [fu_n z, upd_n z]; exact hw' i (by omega)
    · refine ⟨((-4 : Int32), nI c, w, mk, ck), ((-4 : Int32), nI c, w', al), ?_, ?_, rfl, Or.inl ⟨rfl, rfl⟩⟩
      · exact pw_val (pw_F a1 (pw_T a2 (pw_eq sC_digits (pw_F (fun y => r ((nI_ltI (b := 4) (by omega) (by decide)).mp y)) (pw_some rfl)))))
      · exact pw_val (pw_eq rfl (pw_F (by decide) (pw_F (fun y => by have := (nI_leI (b := 4) (by omega) (by decide)).mp y; omega) (pw_some rfl))))
  · rw [if_neg q]
    refine ⟨((-2 : Int32), nI c, w, mk, ck), ((-2 : Int32), nI c, w', al), ?_, pw_val (pw_eq rfl (pw_T rfl (pw_some rfl))), rfl, Or.inl ⟨rfl, rfl⟩⟩
    refine pw_val (pw_if (fun y => pw_some rfl) (fun y => pw_F (fun z => q ?_) (pw_some rfl)))
    rw [fa_lt, l2] at y
    rw [fa_le, l8] at z
    omega
end SIGCALL
