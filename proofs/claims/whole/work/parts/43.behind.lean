section BEHIND
variable {f n h c : Nat} {p d : Nat → Nat} {P I O C Z T e w a w' a' ci far q dist pl : Nat → Int32} {cnt many maps al mk : Int32}
theorem rs_behind (g : gok f n) (hT : MT f n T) (hG : CG f n P I O C Z) (hs : sok h c p) (hw : ∀ i, i < c → w i = nI (p i)) (hw' : ∀ i, i < c → w' i = nI (p i)) (hk : mk = 0 ∨ mk = 1 ∧ MA f n h c p a cnt) (hl : al = 0 ∨ al = 1 ∧ LD f n h c p maps a' ci pl many) (x1 x2 x3 : Int32) (e far q e' : Nat → Int32) : ∃ v u, fX5_behind x1 x2 x3 512 (nI (gz f n)) P I O C Z (nI h) (nI c) w e a cnt mk = some v ∧ fX6_behind x1 x2 x3 (nI (gz f n)) T (nI h) (nI c) w' al maps a' ci far q pl many e' = some u ∧ v.1 = u.1 ∧ KPo f n h c p v ∧ LPo f n h c p u := by
  have hz := gz_le g
  have s2 := hs.2.1
  have t512 := tot_le (p := p) g hG hs
  obtain ⟨t, ht, hm, hk1⟩ := sC_prepare g hG hs hw e hk
  obtain ⟨u, hu, hl1, hl2⟩ := sM_lay g hT hs hw' t512 hl far q e'
  have kp : ∀ (ans : Int32) (e : Nat → Int32), KPo f n h c p (ans, e, t.2.1, t.2.2.1, t.2.2.2) := fun _ _ => ⟨hm, hk1⟩
  have lp : ∀ (ans : Int32) (e : Nat → Int32), LPo f n h c p (ans, u.1, u.2.1, u.2.2.1, u.2.2.2.1, u.2.2.2.2.1, u.2.2.2.2.2.1, u.2.2.2.2.2.2.1, u.2.2.2.2.2.2.2.1, e) := fun _ _ => ⟨hl1, hl2⟩
  have l1 := hl2.1.1
  have hin := sM_inP (c := tot f n h c p) x1 (by omega)
  rw [← l1] at hin
  have hin3 := sM_inP (c := c) x3 (by omega)
  have hp3 := sC_hasPeriod (c := c) x3 (by omega)
  have hsC := sC_isSubgroup g hG.2.2.2.2 x2
  have hsM := sM_isSubgroup g hT x2
  unfold fX5_behind fX6_behind
  rw [ht, hu]
  by_cases q1 : ie x1 (tot f n h c p)
  · rw [if_pos q1] at hin
    obtain ⟨k, k1, rfl⟩ := ie_of q1 (by omega)
    obtain ⟨v, hv, v1, v2⟩ := sC_readsMap g hs hm k1 t.1
    obtain ⟨r1, r2, r3⟩ := kc_ok k1
    obtain ⟨a1, a2⟩ := (iM_pM hs).mp r2
    by_cases q2 : ∃ S, S < 2 ^ gz f n ∧ x2 = nI S ∧ isub f n S = true
    · rw [if_pos q2] at hsC hsM
      obtain ⟨S, hS, rfl, iS⟩ := q2
      by_cases q3 : ie x3 c
      · rw [if_pos q3] at hin3 hp3
        obtain ⟨i, hi, rfl⟩ := ie_of q3 (by omega)
        have nC := sC_isNormal g hG.2.2.2.1 hS
        have nM := sM_isNormal g hT (z256 g hS)
        cases iN : inorm f n S with
        | false =>
          rw [iN] at nC nM
          exact pw_two (x := (-3 : Int32)) (pw_eq rfl (pw_eq hv (pw_F (by rw [v1]; decide) (pw_eq hsC (pw_F (by decide) (pw_eq hp3 (pw_F (by decide) (pw_eq nC (pw_T rfl (pw_some ⟨rfl, kp _ _⟩)))))))))) (pw_eq rfl (pw_eq hin (pw_F (by decide) (pw_eq hsM (pw_F (by decide) (pw_eq hin3 (pw_F (by decide) (pw_eq nM (pw_T rfl (pw_some ⟨rfl, lp _ _⟩))))))))))
        | true =>
          rw [iN] at nC nM
          have di := a2.1 (2 * h + i) (by omega)
          obtain ⟨o1, oe1, m1, om1, ol1⟩ := sC_orderBehind g hG.1 hS (isub_0 iS) di
          obtain ⟨o2, oe2, m2, om2, ol2⟩ := sM_orderBehind g hT hS (isub_0 iS) di
          have me := lpw_uniq ol1 ol2
          subst me
          refine pw_two (x := nI m1) (pw_eq rfl (pw_eq hv (pw_F (by rw [v1]; decide) (pw_eq hsC (pw_F (by decide) (pw_eq hp3 (pw_F (by decide) (pw_eq nC (pw_F (by decide) (pw_eq (sC_elementOfPeriod v2 s2 (by omega)) (pw_eq oe1 (pw_some ⟨om1, kp _ _⟩)))))))))))) (pw_eq rfl (pw_eq hin (pw_F (by decide) (pw_eq hsM (pw_F (by decide) (pw_eq hin3 (pw_F (by decide) (pw_eq nM (pw_F (by decide) (pw_rd (by omega) (by decide) ?_))))))))))
          rw [MA_at hl2.1 k1]
          obtain ⟨s, hs1, hs2⟩ := sM_read s2 (show kc f n h c p k < 2 ^ 31 by omega) u.2.2.2.2.2.2.2.2
          refine pw_eq hs1 ?_
          rw [show ((2 : Int32) * nI h) + nI i = nI (2 * h + i) from by rw [show (2 : Int32) = nI 2 from rfl, pk_mul, nI_add]]
          refine pw_rd (by omega) (by decide) ?_
          rw [hs2 _ (by omega)]
          exact pw_eq oe2 (pw_some ⟨om2, lp _ _⟩)
      · rw [if_neg q3] at hin3 hp3
        exact pw_two (x := (-2 : Int32)) (pw_eq rfl (pw_eq hv (pw_F (by rw [v1]; decide) (pw_eq hsC (pw_F (by decide) (pw_eq hp3 (pw_T rfl (pw_some ⟨rfl, kp _ _⟩)))))))) (pw_eq rfl (pw_eq hin (pw_F (by decide) (pw_eq hsM (pw_F (by decide) (pw_eq hin3 (pw_T rfl (pw_some ⟨rfl, lp _ _⟩))))))))
    · rw [if_neg q2] at hsC hsM
      exact pw_two (x := (-2 : Int32)) (pw_eq rfl (pw_eq hv (pw_F (by rw [v1]; decide) (pw_eq hsC (pw_T rfl (pw_some ⟨rfl, kp _ _⟩)))))) (pw_eq rfl (pw_eq hin (pw_F (by decide) (pw_eq hsM (pw_T rfl (pw_some ⟨rfl, lp _ _⟩))))))
  · rw [if_neg q1] at hin
    exact pw_two (x := (-2 : Int32)) (pw_eq rfl (pw_eq (sC_readsMap0 hm q1 _) (pw_T rfl (pw_some ⟨rfl, kp _ _⟩)))) (pw_eq rfl (pw_eq hin (pw_T rfl (pw_some ⟨rfl, lp _ _⟩))))
end BEHIND
