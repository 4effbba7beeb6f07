/-! THE CALLS member, classes -/
def grt (sz : Nat → Nat) : Nat → Int32 × Nat | 0 => ((-1 : Int32), 0) | k + 1 => if sz k ≤ (grt sz k).2 then grt sz k else (nI k, sz k)
section MEMBER
variable {f n h c : Nat} {p d : Nat → Nat} {P I O C Z T e w a w' a' st nb sz ci far q q0 dist pl : Nat → Int32} {cnt mvn cc many maps al mk ck : Int32}
theorem NU_eq (g : gok f n) (hs : sok h c p) {k j : Nat} (hk : k < tot f n h c p) (ht : tot f n h c p ≤ 512) (hj : j < 2 ^ 30) : dn (NU f n h c p k) = nI j ↔ (NU f n h c p k == j + 1) = true := by
  obtain ⟨a, b, d⟩ := NU_ok (p := p) g hs
  have b := b k
  have d := d k hk
  rw [NU_dn g hs hk, nI_eq (by omega) (by omega)]
  simp only [beq_iff_eq]
  omega
theorem sC_sizeOf {s : Nat → Nat} {C : Nat} (hC : C ≤ 512) (hsz : ∀ j, j < C → sz j = nI (s j)) (x : Int32) : pw (fX0_sizeOf x sz (nI C)) (fun v => (∀ j, j < C → x = nI j → v = nI (s j)) ∧ (¬ ie x C → v = 0)) := by
  unfold fX0_sizeOf
  refine pw_if (fun z => pw_some ⟨fun j hj e => ?_, fun _ => rfl⟩) (fun z => ?_)
  · rw [e] at z; exact absurd z (nI_pos (by omega))
  · obtain ⟨k, k1, rfl⟩ := nI_of z
    refine pw_le (by omega) k1 (fun y => pw_some ⟨fun j hj e => ?_, fun _ => rfl⟩) (fun y => pw_rd (by omega) (by decide) (pw_some ⟨fun j hj e => ?_, fun e => absurd ((ie_nI k1).mpr y) e⟩))
    · have := (nI_eq k1 (by omega)).mp e; omega
    · have := (nI_eq k1 (by omega)).mp e
      rw [← this]; exact hsz k y
theorem grt_ok (s : Nat → Nat) : ∀ k, (grt s k = ((-1 : Int32), 0)) ∨ ∃ j, j < k ∧ grt s k = (nI j, s j)
  | 0 => Or.inl rfl
  | k + 1 => by
    rw [grt]
    by_cases z : s k ≤ (grt s k).2
    · rw [if_pos z]
      rcases grt_ok s k with q | ⟨j, j1, j2⟩
      · exact Or.inl q
      · exact Or.inr ⟨j, by omega, j2⟩
    · rw [if_neg z]; exact Or.inr ⟨k, by omega, rfl⟩
theorem sC_greatest {s : Nat → Nat} {C : Nat} (hC : C ≤ 512) (hsz : ∀ j, j < C → sz j = nI (s j)) (hs : ∀ j, j < C → s j ≤ 512) : fX0_greatest sz (nI C) = some (grt s C).1 := by
  unfold fX0_greatest
  refine pw_val (pw_bind (R := fun v => v = (grt s C).1) ?_ (fun t ht => pw_some ht))
  refine pw_run (fun i σ => σ = ((grt s i).1, nI i)) 0 C (by omega) rfl (Nat.zero_le _) ?_
  rintro i _ hi rfl
  show pw (fX0_greatest_L4 sz (nI C) (grt s i).1 (nI i)) _
  unfold fX0_greatest_L4
  refine pw_le (by omega) (by omega) (fun z => pw_out (by rw [show C = i by omega])) (fun z => ?_)
  obtain ⟨t1, e1, a1, _⟩ := sC_sizeOf hC hsz (nI i)
  have a1 := a1 i z rfl
  obtain ⟨t2, e2, b1, b2⟩ := sC_sizeOf hC hsz (grt s i).1
  have gl : (grt s i).2 ≤ 512 ∧ t2 = nI (grt s i).2 := by
    rcases grt_ok s i with q | ⟨j, j1, j2⟩
    · rw [q] at b2 ⊢
      exact ⟨Nat.zero_le _, b2 (by unfold ie; have : (-1 : Int32).toInt = -1 := by decide
                                   intro y; have y : (0 : Int) ≤ (-1 : Int32).toInt ∧ _ := y; omega)⟩
    · rw [j2] at b1 ⊢
      exact ⟨hs j (by omega), b1 j (by omega) rfl⟩
  refine pw_eq e1 (pw_eq e2 ?_)
  rw [a1, gl.2]
  have si := hs i z
  have gl1 := gl.1
  unfold fX0_greatest_J27L4
  rw [show (nI i + (1 : Int32)) = nI (i + 1) from nI_add i 1]
  refine pw_le (by omega) (by omega) (fun y => pw_in ⟨z, ?_⟩) (fun y => pw_in ⟨z, ?_⟩)
  · rw [grt, if_pos y]
  · rw [grt, if_neg (by omega)]
theorem sM_classSize (g : gok f n) (hs : sok h c p) (ht : tot f n h c p ≤ 512) (hci : ∀ j, j < tot f n h c p → ci j = dn (NU f n h c p j)) {j : Nat} (hj : j < 2 ^ 30) : fX6_classSize (nI j) (nI (tot f n h c p)) ci = some (nI (NZs f n h c p j)) := by
  unfold fX6_classSize NZs
  refine pw_val (pw_bind (R := fun v => v = nI (fb_ct (fun x => NU f n h c p x == j + 1) (tot f n h c p))) ?_ (fun t ht => pw_some ht))
  refine pw_run (fun i σ => σ = (nI (fb_ct (fun x => NU f n h c p x == j + 1) i), nI i)) 0 (tot f n h c p) (by omega) rfl (Nat.zero_le _) ?_
  rintro i _ hi rfl
  show pw (fX6_classSize_L4 (nI j) (nI (tot f n h c p)) ci (nI (fb_ct (fun x => NU f n h c p x == j + 1) i)) (nI i)) _
  unfold fX6_classSize_L4
  refine pw_le (by omega) (by omega) (fun z => pw_out (by rw [show tot f n h c p = i by omega])) (fun z => pw_rd (by omega) (by decide) ?_)
  rw [hci i z]
  unfold fX6_classSize_J28L4
  rw [show (nI i + (1 : Int32)) = nI (i + 1) from nI_add i 1]
  refine pw_if (fun y => pw_in ⟨z, ?_⟩) (fun y => pw_in ⟨z, ?_⟩)
  · have y := (NU_eq g hs z ht hj).mp y
    rw [fb_ct_succ, if_pos y]
    exact congrArg (fun v => (v, nI (i + 1))) (nI_add _ 1)
  · have y : ¬ (NU f n h c p i == j + 1) = true := fun x => y ((NU_eq g hs z ht hj).mpr x)
    rw [fb_ct_succ, if_neg y]
    exact congrArg (fun v => (v, nI (i + 1))) (nI_add _ 0)
theorem NZ_le {j : Nat} (ht : tot f n h c p ≤ 512) : NZs f n h c p j ≤ 512 := Nat.le_trans (fb_ct_le _ _) ht
theorem sM_greatest (g : gok f n) (hs : sok h c p) (ht : tot f n h c p ≤ 512) (hci : ∀ j, j < tot f n h c p → ci j = dn (NU f n h c p j)) {C : Nat} (hC : C ≤ 512) : pz_iter (fun (σ : Int32 × Int32 × Int32) => fX6_classes_L23 (nI (tot f n h c p)) ci (nI C) σ.1 σ.2.1 σ.2.2) pz_FUEL ((-1 : Int32), (0 : Int32), (0 : Int32)) = some ((grt (NZs f n h c p) C).1, nI (grt (NZs f n h c p) C).2) := by
  refine pw_val ?_
  refine pw_run (fun i σ => σ = ((grt (NZs f n h c p) i).1, nI (grt (NZs f n h c p) i).2, nI i)) 0 C (by omega) rfl (Nat.zero_le _) ?_
  rintro i _ hi rfl
  show pw (fX6_classes_L23 (nI (tot f n h c p)) ci (nI C) (grt (NZs f n h c p) i).1 (nI (grt (NZs f n h c p) i).2) (nI i)) _
  unfold fX6_classes_L23
  have zl := NZ_le (j := i) ht
  have gl : (grt (NZs f n h c p) i).2 ≤ 512 := by
    rcases grt_ok (NZs f n h c p) i with q | ⟨j, j1, j2⟩
    · rw [q]; exact Nat.zero_le _
    · rw [j2]; exact NZ_le ht
  refine pw_le (by omega) (by omega) (fun z => pw_out (by rw [show C = i by omega])) (fun z => pw_eq (sM_classSize g hs ht hci (by omega)) ?_)
  unfold fX6_classes_J52L23 fX6_classes_J65L23
  rw [show (nI i + (1 : Int32)) = nI (i + 1) from nI_add i 1]
  refine pw_le (by omega) (by omega) (fun y => ?_) (fun y => ?_)
  · exact pw_T ((nI_leI (by omega) (by omega)).mpr y) (pw_in ⟨z, by rw [grt, if_pos y]⟩)
  · exact pw_F (fun x => by have := (nI_leI (by omega) (by omega)).mp x; omega) (pw_in ⟨z, by rw [grt, if_neg (by omega)]⟩)
end MEMBER
