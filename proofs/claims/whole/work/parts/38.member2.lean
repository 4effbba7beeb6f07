section MEMBER2
variable {f n h c : Nat} {p d : Nat → Nat} {P I O C Z T e w a w' a' st nb sz ci far q q0 dist pl : Nat → Int32} {cnt mvn cc many maps al mk ck : Int32}
theorem rs_classes (g : gok f n) (hT : MT f n T) (hG : CG f n P I O C Z) (hs : sok h c p) (hw : ∀ i, i < c → w i = nI (p i)) (hw' : ∀ i, i < c → w' i = nI (p i)) (hk : mk = 0 ∨ mk = 1 ∧ MA f n h c p a cnt) (hc : ck = 0 ∨ ck = 1 ∧ MA f n h c p a cnt ∧ CA (nx f n h c p) (mvc f n h c) (tot f n h c p) st nb sz mvn cc) (hl : al = 0 ∨ al = 1 ∧ LD f n h c p maps a' ci pl many) (x1 : Int32) (e far q q0 dist e' : Nat → Int32) : ∃ v u, fX5_classes x1 512 (nI (gz f n)) P I O C Z (nI h) (nI c) w e a cnt mk st nb sz q0 dist mvn cc ck = some v ∧ fX6_classes x1 (nI (gz f n)) T (nI h) (nI c) w' al maps a' ci far q pl many e' = some u ∧ v.1 = u.1 ∧ CPo f n h c p v ∧ (u.2.1 = 0 ∨ u.2.1 = 1 ∧ LD f n h c p u.2.2.1 u.2.2.2.1 u.2.2.2.2.1 u.2.2.2.2.2.2.2.1 u.2.2.2.2.2.2.2.2.1) := by
  have t512 := tot_le (p := p) g hG hs
  obtain ⟨t, ht, hm, hk1, hca, hck⟩ := sC_prepareC (q := q0) (dist := dist) g hG hs hw e hk hc
  have kp : ∀ ans : Int32, CPo f n h c p (ans, t) := fun _ => ⟨hm, hk1, hca, hck⟩
  have ncl := (NU_ok (p := p) g hs).1
  have hin : fX6_in x1 (0 : Int32) (2 : Int32) = some (if ie x1 3 then 1 else 0) := by
    have := sM_inP (c := 3) x1 (by decide)
    rwa [show nI 3 - (1 : Int32) = 2 from by decide] at this
  have cc1 : t.2.2.2.2.2.2.2.2.2.2.1 = nI (NC f n h c p) := hca.2.2.1
  have hsz : ∀ j, j < NC f n h c p → t.2.2.2.2.2.2.1 j = nI (NZs f n h c p j) := hca.2.2.2.2
  have gre := sC_greatest (C := NC f n h c p) (by omega) hsz (fun j _ => NZ_le t512)
  unfold fX5_classes fX6_classes
  rw [ht]
  by_cases q3 : ie x1 3
  · obtain ⟨u, hu, hl1, hl2⟩ := sM_lay g hT hs hw' t512 hl far q e'
    have lp : ∀ ans : Int32, (fun w : Int32 × Int32 × Int32 × (Nat → Int32) × (Nat → Int32) × (Nat → Int32) × (Nat → Int32) × (Nat → Int32) × Int32 × (Nat → Int32) => (w.2.1 = 0 ∨ w.2.1 = 1 ∧ LD f n h c p w.2.2.1 w.2.2.2.1 w.2.2.2.2.1 w.2.2.2.2.2.2.2.1 w.2.2.2.2.2.2.2.2.1)) (ans, u) := fun _ => Or.inr ⟨hl1, hl2⟩
    have ci1 : ∀ j, j < tot f n h c p → u.2.2.2.1 j = dn (NU f n h c p j) := hl2.2.2.1
    have l1 : u.2.1 = nI (tot f n h c p) := hl2.1.1
    have mm : u.2.2.2.2.2.2.2.1 = nI (NC f n h c p) := hl2.2.2.2
    have gM := sM_greatest g hs t512 ci1 (C := NC f n h c p) (by omega)
    rw [← l1, ← mm] at gM
    rw [if_pos q3] at hin
    rw [hu]
    obtain ⟨k, k3, rfl⟩ := ie_of q3 (by decide)
    have k3 : k = 0 ∨ k = 1 ∨ k = 2 := by omega
    rcases k3 with rfl | rfl | rfl
    · exact pw_two (x := nI (NC f n h c p)) (pw_eq rfl (pw_T rfl (pw_some ⟨cc1, kp _⟩))) (pw_eq hin (pw_F (by decide) (pw_eq rfl (pw_eq gM (pw_T rfl (pw_some ⟨mm, lp _⟩))))))
    · refine pw_two (x := nI (grt (NZs f n h c p) (NC f n h c p)).2) (pw_eq rfl (pw_F (by decide) (pw_T rfl ?_))) (pw_eq hin (pw_F (by decide) (pw_eq rfl (pw_eq gM (pw_F (by decide) (pw_T rfl (pw_some ⟨rfl, lp _⟩)))))))
      rw [cc1]
      refine pw_eq gre ?_
      refine pw_bind (sC_sizeOf (C := NC f n h c p) (by omega) hsz _) (fun t3 h3 => pw_some ⟨?_, hm, hk1, by rw [← cc1]; exact hca, hck⟩)
      rcases grt_ok (NZs f n h c p) (NC f n h c p) with z | ⟨j, j1, j2⟩
      · rw [z] at h3 ⊢
        exact h3.2 (by unfold ie; have : (-1 : Int32).toInt = -1 := by decide
                       intro y; have y : (0 : Int) ≤ (-1 : Int32).toInt ∧ _ := y; omega)
      · rw [j2] at h3 ⊢
        exact h3.1 j j1 rfl
    · refine pw_two (x := (grt (NZs f n h c p) (NC f n h c p)).1) (pw_eq rfl (pw_F (by decide) (pw_F (by decide) (pw_T rfl ?_)))) (pw_eq hin (pw_F (by decide) (pw_eq rfl (pw_eq gM (pw_F (by decide) (pw_F (by decide) (pw_some ⟨rfl, lp _⟩)))))))
      rw [cc1]
      exact pw_eq gre (pw_some ⟨rfl, hm, hk1, by rw [← cc1]; exact hca, hck⟩)
  · rw [if_neg q3] at hin
    have n0 : ¬ x1 = (0 : Int32) := fun y => q3 (by rw [y]; exact (ie_nI (k := 0) (by decide)).mpr (by decide))
    have n1 : ¬ x1 = (1 : Int32) := fun y => q3 (by rw [y]; exact (ie_nI (k := 1) (by decide)).mpr (by decide))
    have n2 : ¬ x1 = (2 : Int32) := fun y => q3 (by rw [y]; exact (ie_nI (k := 2) (by decide)).mpr (by decide))
    exact pw_two (x := (-2 : Int32)) (pw_eq rfl (pw_F n0 (pw_F n1 (pw_F n2 (pw_some ⟨rfl, kp _⟩))))) (pw_eq hin (pw_T rfl (pw_some ⟨rfl, hl⟩)))
theorem sC_codeOf (g : gok f n) (hs : sok h c p) (hm : MA f n h c p a cnt) (hnb : ∀ j, j < tot f n h c p → nb j = dn (NU f n h c p j)) {j : Nat} (hj : j < 2 ^ 30) (x2 : Int32) : pw (fX0_codeOf (nI j) x2 512 a cnt nb) (fun v => (∃ k, k < tot f n h c p ∧ NU f n h c p k = j + 1 ∧ nI (fb_ct (fun x => NU f n h c p x == j + 1) k) = x2 ∧ v = nI (kc f n h c p k)) ∨ ((∀ k, k < tot f n h c p → NU f n h c p k = j + 1 → nI (fb_ct (fun x => NU f n h c p x == j + 1) k) ≠ x2) ∧ v = (-1 : Int32))) := by
  have t512 := hm.2.1
  rw [hm.1]
  unfold fX0_codeOf
  refine pw_bind (R := fun u => match u with | Sum.inl _ => ∀ k, k < tot f n h c p → NU f n h c p k = j + 1 → nI (fb_ct (fun x => NU f n h c p x == j + 1) k) ≠ x2 | Sum.inr v => ∃ k, k < tot f n h c p ∧ NU f n h c p k = j + 1 ∧ nI (fb_ct (fun x => NU f n h c p x == j + 1) k) = x2 ∧ v = nI (kc f n h c p k)) ?_ ?_
  · refine pw_run (fun i σ => σ = (nI (fb_ct (fun x => NU f n h c p x == j + 1) i), nI i) ∧ ∀ k, k < i → NU f n h c p k = j + 1 → nI (fb_ct (fun x => NU f n h c p x == j + 1) k) ≠ x2) 0 (tot f n h c p) (by omega) ⟨rfl, fun k hk => absurd hk (Nat.not_lt_zero k)⟩ (Nat.zero_le _) ?_
    rintro i _ hi ⟨rfl, i1⟩
    show pw (fX0_codeOf_L5 (nI j) x2 512 a (nI (tot f n h c p)) nb (nI (fb_ct (fun x => NU f n h c p x == j + 1) i)) (nI i)) _
    unfold fX0_codeOf_L5 fX0_codeOf_J47L5
    have nxt : (nI i + (1 : Int32)) = nI (i + 1) := nI_add i 1
    refine pw_le (by omega) (by omega) (fun z => pw_out (fun k hk => i1 k (by omega))) (fun z => pw_rd (by omega) (by decide) ?_)
    rw [hnb i z, nxt]
    refine pw_if (fun y => ?_) (fun y => pw_in ⟨z, ?_, fun k hk hN => ?_⟩)
    · have y1 := (NU_eq g hs z t512 hj).mp y
      have y2 : NU f n h c p i = j + 1 := by simpa using y1
      refine pw_if (fun x => pw_rd (by omega) (by decide) (pw_out ⟨i, z, y2, x, MA_at hm z⟩)) (fun x => pw_in ⟨z, ?_, fun k hk hN => ?_⟩)
      · rw [fb_ct_succ, if_pos y1]
        exact congrArg (fun v => (v, nI (i + 1))) (nI_add _ 1)
      · by_cases r : k = i
        · rw [r]; exact x
        · exact i1 k (by omega) hN
    · have y1 : ¬ (NU f n h c p i == j + 1) = true := fun x => y ((NU_eq g hs z t512 hj).mpr x)
      rw [fb_ct_succ, if_neg y1]; rfl
    · by_cases r : k = i
      · rw [r] at hN; exact absurd ((NU_eq g hs z t512 hj).mpr (by simp [hN])) y
      · exact i1 k (by omega) hN
  · rintro (u | v) hu
    · exact pw_some (Or.inr ⟨hu, rfl⟩)
    · exact pw_some (Or.inl hu)
theorem rs_member (g : gok f n) (hT : MT f n T) (hG : CG f n P I O C Z) (hs : sok h c p) (hw : ∀ i, i < c → w i = nI (p i)) (hw' : ∀ i, i < c → w' i = nI (p i)) (hk : mk = 0 ∨ mk = 1 ∧ MA f n h c p a cnt) (hc : ck = 0 ∨ ck = 1 ∧ MA f n h c p a cnt ∧ CA (nx f n h c p) (mvc f n h c) (tot f n h c p) st nb sz mvn cc) (hl : al = 0 ∨ al = 1 ∧ LD f n h c p maps a' ci pl many) (x1 x2 : Int32) (e far q q0 dist e' : Nat → Int32) : ∃ v u, fX5_member x1 x2 512 (nI (gz f n)) P I O C Z (nI h) (nI c) w e a cnt mk st nb sz q0 dist mvn cc ck = some v ∧ fX6_member x1 x2 (nI (gz f n)) T (nI h) (nI c) w' al maps a' ci far q pl many e' = some u ∧ v.1 = u.1 ∧ CPo f n h c p v ∧ LPo f n h c p u := by
  have t512 := tot_le (p := p) g hG hs
  obtain ⟨t, ht, hm, hk1, hca, hck⟩ := sC_prepareC (q := q0) (dist := dist) g hG hs hw e hk hc
  obtain ⟨u, hu, hl1, hl2⟩ := sM_lay g hT hs hw' t512 hl far q e'
  have kp : ∀ ans : Int32, CPo f n h c p (ans, t) := fun _ => ⟨hm, hk1, hca, hck⟩
  have lp : ∀ ans : Int32, LPo f n h c p (ans, u) := fun _ => ⟨hl1, hl2⟩
  have ncl := (NU_ok (p := p) g hs).1
  have cc1 : t.2.2.2.2.2.2.2.2.2.2.1 = nI (NC f n h c p) := hca.2.2.1
  have hnb : ∀ j, j < tot f n h c p → t.2.2.2.2.2.1 j = dn (NU f n h c p j) := hca.2.2.2.1
  have hsz : ∀ j, j < NC f n h c p → t.2.2.2.2.2.2.1 j = nI (NZs f n h c p j) := hca.2.2.2.2
  have ci1 : ∀ j, j < tot f n h c p → u.2.2.2.1 j = dn (NU f n h c p j) := hl2.2.2.1
  have l1 : u.2.1 = nI (tot f n h c p) := hl2.1.1
  have mm : u.2.2.2.2.2.2.2.1 = nI (NC f n h c p) := hl2.2.2.2
  have hin := sM_inP (c := NC f n h c p) x1 (by omega)
  unfold fX5_member fX6_member
  rw [ht, hu]
  by_cases q3 : ie x1 (NC f n h c p)
  · rw [if_pos q3] at hin
    obtain ⟨j, j1, rfl⟩ := ie_of q3 (by omega)
    -- the reference's walk
    have walk : pw (pz_iter (fun (σ : Int32 × Int32) => fX6_member_L26 (nI j) x2 u.1 u.2.1 u.2.2.1 u.2.2.2.1 u.2.2.2.2.1 u.2.2.2.2.2.1 u.2.2.2.2.2.2.1 u.2.2.2.2.2.2.2.1 u.2.2.2.2.2.2.2.2 σ.1 σ.2) pz_FUEL ((0 : Int32), (0 : Int32))) (fun r => match r with | Sum.inl v => (∀ k, k < tot f n h c p → NU f n h c p k = j + 1 → nI (fb_ct (fun x => NU f n h c p x == j + 1) k) ≠ x2) ∧ v = nI (NZs f n h c p j) | Sum.inr v => ∃ k, k < tot f n h c p ∧ NU f n h c p k = j + 1 ∧ nI (fb_ct (fun x => NU f n h c p x == j + 1) k) = x2 ∧ v = (nI (kc f n h c p k), u)) := by
      refine pw_run (fun i σ => σ = (nI (fb_ct (fun x => NU f n h c p x == j + 1) i), nI i) ∧ ∀ k, k < i → NU f n h c p k = j + 1 → nI (fb_ct (fun x => NU f n h c p x == j + 1) k) ≠ x2) 0 (tot f n h c p) (by omega) ⟨rfl, fun k hk => absurd hk (Nat.not_lt_zero k)⟩ (Nat.zero_le _) ?_
      rintro i _ hi ⟨rfl, i1⟩
      show pw (fX6_member_L26 (nI j) x2 u.1 u.2.1 u.2.2.1 u.2.2.2.1 u.2.2.2.2.1 u.2.2.2.2.2.1 u.2.2.2.2.2.2.1 u.2.2.2.2.2.2.2.1 u.2.2.2.2.2.2.2.2 (nI (fb_ct (fun x => NU f n h c p x == j + 1) i)) (nI i)) _
      unfold fX6_member_L26 fX6_member_J62L26
      have nxt : (nI i + (1 : Int32)) = nI (i + 1) := nI_add i 1
      refine pw_if (fun z => ?_) (fun z => ?_)
      · rw [l1] at z
        have z := (nI_leI (by omega) (by omega)).mp z
        have e : i = tot f n h c p := by omega
        exact pw_out ⟨fun k hk => i1 k (by omega), by rw [e]; rfl⟩
      rw [l1] at z
      have z : i < tot f n h c p := Nat.lt_of_not_le (fun y => z ((nI_leI (by omega) (by omega)).mpr y))
      refine pw_rd (by omega) (by decide) ?_
      rw [ci1 i z, nxt]
      refine pw_if (fun y => ?_) (fun y => pw_in ⟨z, ?_, fun k hk hN => ?_⟩)
      · have y1 := (NU_eq g hs z t512 (show j < 2 ^ 30 by omega)).mp y
        have y2 : NU f n h c p i = j + 1 := by simpa using y1
        refine pw_if (fun x => pw_rd (by omega) (by decide) (pw_out ⟨i, z, y2, x, ?_⟩)) (fun x => pw_in ⟨z, ?_, fun k hk hN => ?_⟩)
        · rw [MA_at hl2.1 z]
        · rw [fb_ct_succ, if_pos y1]
          exact congrArg (fun v => (v, nI (i + 1))) (nI_add _ 1)
        · by_cases r : k = i
          · rw [r]; exact x
          · exact i1 k (by omega) hN
      · have y1 : ¬ (NU f n h c p i == j + 1) = true := fun x => y ((NU_eq g hs z t512 (show j < 2 ^ 30 by omega)).mpr x)
        rw [fb_ct_succ, if_neg y1]; rfl
      · by_cases r : k = i
        · rw [r] at hN; exact absurd ((NU_eq g hs z t512 (show j < 2 ^ 30 by omega)).mpr (by simp [hN])) y
        · exact i1 k (by omega) hN
    obtain ⟨r, hr, hr2⟩ := walk
    obtain ⟨v1, e1, s1, s2⟩ := sC_sizeOf (C := NC f n h c p) (by omega) hsz (nI j)
    have s1 := s1 j j1 rfl
    obtain ⟨v2, e2, c2⟩ := sC_codeOf g hs hm hnb (show j < 2 ^ 30 by omega) x2
    have lt : nI j < t.2.2.2.2.2.2.2.2.2.2.1 := by rw [cc1]; exact (nI_ltI (by omega) (by omega)).mpr j1
    rw [← cc1] at e1
    rw [← mm] at hin
    have cls : pw ((some t).bind (fun t1 => if nI j < 0 then (some ((-2 : Int32), t1)) else (if nI j < t1.2.2.2.2.2.2.2.2.2.2.1 then (if x2 = (-1 : Int32) then ((fX0_sizeOf (nI j) t1.2.2.2.2.2.2.1 t1.2.2.2.2.2.2.2.2.2.2.1).bind (fun t2 => some (t2, t1))) else ((fX0_codeOf (nI j) x2 512 t1.2.1 t1.2.2.1 t1.2.2.2.2.2.1).bind (fun t3 => some (t3, t1)))) else (some ((-2 : Int32), t1))))) (fun v => v.1 = (if x2 = (-1 : Int32) then nI (NZs f n h c p j) else v2) ∧ CPo f n h c p v) := by
      refine pw_eq rfl (pw_F (nI_pos (by omega)) (pw_T lt ?_))
      refine pw_if (fun y => pw_eq e1 (pw_some ⟨by rw [if_pos y]; exact s1, kp _⟩)) (fun y => pw_eq e2 (pw_some ⟨by rw [if_neg y], kp _⟩))
    refine pw_two (x := if x2 = (-1 : Int32) then nI (NZs f n h c p j) else v2) cls (pw_eq rfl (pw_eq hin (pw_F (by decide) (pw_eq hr ?_))))
    rcases r with r | r
    · obtain ⟨r1, r2⟩ := hr2
      rw [Sum.elim_inl]
      refine pw_if (fun y => pw_some ⟨by rw [if_pos y]; exact r2, lp _⟩) (fun y => pw_some ⟨?_, lp _⟩)
      rw [if_neg y]
      rcases c2 with ⟨k, k1, k2, k3, k4⟩ | ⟨c3, c4⟩
      · exact absurd k3 (r1 k k1 k2)
      · exact c4.symm
    · obtain ⟨k, k1, k2, k3, rfl⟩ := hr2
      rw [Sum.elim_inr]
      have kb := fb_ct_le (fun x => NU f n h c p x == j + 1) k
      have ne : ¬ x2 = (-1 : Int32) := fun y => nI_m1 (v := fb_ct (fun x => NU f n h c p x == j + 1) k) (by omega) (by rw [k3, y])
      refine pw_some ⟨?_, lp _⟩
      rw [if_neg ne]
      rcases c2 with ⟨l, l1', l2, l3, l4⟩ | ⟨c3, c4⟩
      · have lb := fb_ct_le (fun x => NU f n h c p x == j + 1) l
        have : k = l := fb_ct_kth_one (p := fun x => NU f n h c p x == j + 1) (by simp [k2]) (by simp [l2]) ((nI_eq (by omega) (by omega)).mp (by rw [k3, l3]))
        rw [l4, this]
      · exact absurd k3 (c3 k k1 k2)
  · rw [if_neg q3] at hin
    rw [← mm] at hin
    refine pw_two (x := (-2 : Int32)) (pw_eq rfl ?_) (pw_eq rfl (pw_eq hin (pw_T rfl (pw_some ⟨rfl, lp _⟩))))
    refine pw_if (fun y => pw_some ⟨rfl, kp _⟩) (fun y => pw_F (fun z => q3 ?_) (pw_some ⟨rfl, kp _⟩))
    obtain ⟨k, k1, rfl⟩ := nI_of y
    rw [cc1] at z
    exact (ie_nI k1).mpr ((nI_ltI k1 (by omega)).mp z)
end MEMBER2
