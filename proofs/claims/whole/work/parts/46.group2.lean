section GROUPCALL2
variable {P I O C Z T : Nat → Int32} {mk ck al fa nn zz Mf Mn Mz : Int32}
def GNew (f n : Nat) (v : Int32 × Int32 × Int32 × Int32 × (Nat → Int32) × (Nat → Int32) × (Nat → Int32) × (Nat → Int32) × (Nat → Int32) × Int32 × Int32) (u : Int32 × Int32 × Int32 × Int32 × (Nat → Int32) × Int32) : Prop := gok f n ∧ v.2.1 = nI f ∧ v.2.2.1 = nI n ∧ v.2.2.2.1 = nI (gz f n) ∧ CG f n v.2.2.2.2.1 v.2.2.2.2.2.1 v.2.2.2.2.2.2.1 v.2.2.2.2.2.2.2.1 v.2.2.2.2.2.2.2.2.1 ∧ v.2.2.2.2.2.2.2.2.2 = (0, 0) ∧ u.2.1 = nI f ∧ u.2.2.1 = nI n ∧ u.2.2.2.1 = nI (gz f n) ∧ MT f n u.2.2.2.2.1 ∧ u.2.2.2.2.2 = 0
theorem rs_group (x1 x2 : Int32) : ∃ v u, fX5_group x1 x2 fa nn zz P I O C Z mk ck = some v ∧ fX6_group x1 x2 Mf Mn Mz T al = some u ∧ v.1 = u.1 ∧ ((v.2 = (fa, nn, zz, P, I, O, C, Z, mk, ck) ∧ u.2 = (Mf, Mn, Mz, T, al)) ∨ ∃ f n, GNew f n v u) := by
  obtain ⟨b, hb, hbi⟩ := sC_exists x1 x2
  -- which greatest number the reference takes
  have J : ∃ k : Nat, fX6_group x1 x2 Mf Mn Mz T al = fX6_group_J28 x1 x2 (nI k) Mf Mn Mz T al ∧ k ≤ 8 ∧ ∀ f, f < 4 → x1 = nI f → k = gmost f := by
    unfold fX6_group
    by_cases q0 : x1 = (0 : Int32)
    · refine ⟨8, by rw [if_pos q0]; rfl, by decide, fun f hf e => ?_⟩
      have : f = 0 := (nI_eq (b := 0) (by omega) (by decide)).mp (by rw [← e]; exact q0)
      subst this; rfl
    · rw [if_neg q0]
      by_cases q1 : x1 = (1 : Int32)
      · refine ⟨4, by rw [if_pos q1]; rfl, by decide, fun f hf e => ?_⟩
        have : f = 1 := (nI_eq (b := 1) (by omega) (by decide)).mp (by rw [← e]; exact q1)
        subst this; rfl
      · rw [if_neg q1]
        by_cases q2 : x1 = (2 : Int32)
        · refine ⟨3, by rw [if_pos q2]; rfl, by decide, fun f hf e => ?_⟩
          have : f = 2 := (nI_eq (b := 2) (by omega) (by decide)).mp (by rw [← e]; exact q2)
          subst this; rfl
        · refine ⟨1, by rw [if_neg q2]; rfl, by decide, fun f hf e => ?_⟩
          rcases (show f = 0 ∨ f = 1 ∨ f = 2 ∨ f = 3 by omega) with rfl | rfl | rfl | rfl
          · exact absurd e q0
          · exact absurd e q1
          · exact absurd e q2
          · rfl
  obtain ⟨k, hJ, k8, hk⟩ := J
  obtain ⟨M1, M2⟩ := sM_groupJ (Mf := Mf) (Mn := Mn) (Mz := Mz) (T := T) (al := al) x1 x2 hk k8
  rw [hJ]
  unfold fX5_group fX5_forgetMaps
  rw [hb]
  cases b with
  | false =>
    have hno : ¬ ∃ f n, gok f n ∧ x1 = nI f ∧ x2 = nI n := fun z => nomatch hbi.mpr z
    exact ⟨((-2 : Int32), fa, nn, zz, P, I, O, C, Z, mk, ck), ((-2 : Int32), Mf, Mn, Mz, T, al), pw_val (pw_eq rfl (pw_T rfl (pw_some rfl))), M2 hno, rfl, Or.inl ⟨rfl, rfl⟩⟩
  | true =>
    obtain ⟨f, n, g, rfl, rfl⟩ := hbi.mp rfl
    obtain ⟨v, hv, v1, v2, v3, v4⟩ := sC_become (P := P) (I := I) (O := O) (C := C) (Z := Z) g
    obtain ⟨u, hu, u1, u2, u3, u4, u5, u6⟩ := M1 f n g rfl rfl
    exact ⟨(v.2.2.1, v.1, v.2.1, v.2.2.1, v.2.2.2.1, v.2.2.2.2.1, v.2.2.2.2.2.1, v.2.2.2.2.2.2.1, v.2.2.2.2.2.2.2, 0, 0), u, pw_val (pw_eq rfl (pw_F (by decide) (pw_eq hv (pw_some rfl)))), hu, by rw [u1]; exact v3, Or.inr ⟨f, n, g, v1, v2, v3, v4, rfl, u2, u3, u4, u5, u6⟩⟩
end GROUPCALL2
