/-! THE CALLS OF CLASSES -/
def CPo (f n h c : Nat) (p : Nat → Nat) (v : Int32 × (Nat → Int32) × (Nat → Int32) × Int32 × Int32 × (Nat → Int32) × (Nat → Int32) × (Nat → Int32) × (Nat → Int32) × (Nat → Int32) × Int32 × Int32 × Int32) : Prop := MA f n h c p v.2.2.1 v.2.2.2.1 ∧ (v.2.2.2.2.1 = 0 ∨ v.2.2.2.2.1 = 1) ∧ CA (nx f n h c p) (mvc f n h c) (tot f n h c p) v.2.2.2.2.2.1 v.2.2.2.2.2.2.1 v.2.2.2.2.2.2.2.1 v.2.2.2.2.2.2.2.2.2.2.1 v.2.2.2.2.2.2.2.2.2.2.2.1 ∧ v.2.2.2.2.2.2.2.2.2.2.2.2 = 1
def NU (f n h c : Nat) (p : Nat → Nat) (k : Nat) : Nat := (nst (nx f n h c p) (mvc f n h c) (tot f n h c p) (tot f n h c p)).1 k
def NC (f n h c : Nat) (p : Nat → Nat) : Nat := (nst (nx f n h c p) (mvc f n h c) (tot f n h c p) (tot f n h c p)).2
def NZs (f n h c : Nat) (p : Nat → Nat) (j : Nat) : Nat := fb_ct (fun x => NU f n h c p x == j + 1) (tot f n h c p)
section CLSCALL
variable {f n h c : Nat} {p d : Nat → Nat} {P I O C Z T e w a w' a' st nb sz ci far q q0 dist pl : Nat → Int32} {cnt mvn cc many maps al mk ck : Int32}
theorem NU_ok (g : gok f n) (hs : sok h c p) : NC f n h c p ≤ tot f n h c p ∧ (∀ k, NU f n h c p k ≤ NC f n h c p) ∧ ∀ k, k < tot f n h c p → NU f n h c p k ≠ 0 := by
  obtain ⟨n1, n2, n3, n4⟩ := nst_I (nx_ok (p := p) g hs) (tot f n h c p) (Nat.le_refl _)
  exact ⟨n1, n2, n4⟩
theorem NU_dn (g : gok f n) (hs : sok h c p) {k : Nat} (hk : k < tot f n h c p) : dn (NU f n h c p k) = nI (NU f n h c p k - 1) := by
  have := (NU_ok (p := p) g hs).2.2 k hk
  obtain ⟨u, hu⟩ : ∃ u, NU f n h c p k = u + 1 := ⟨NU f n h c p k - 1, by omega⟩
  rw [hu, dn_succ]; rfl
theorem rs_classOf (g : gok f n) (hT : MT f n T) (hG : CG f n P I O C Z) (hs : sok h c p) (hw : ∀ i, i < c → w i = nI (p i)) (hw' : ∀ i, i < c → w' i = nI (p i)) (hk : mk = 0 ∨ mk = 1 ∧ MA f n h c p a cnt) (hc : ck = 0 ∨ ck = 1 ∧ MA f n h c p a cnt ∧ CA (nx f n h c p) (mvc f n h c) (tot f n h c p) st nb sz mvn cc) (hl : al = 0 ∨ al = 1 ∧ LD f n h c p maps a' ci pl many) (x1 : Int32) (e far q q0 dist e' : Nat → Int32) : ∃ v u, fX5_classOf x1 512 (nI (gz f n)) P I O C Z (nI h) (nI c) w e a cnt mk st nb sz q0 dist mvn cc ck = some v ∧ fX6_classOf x1 (nI (gz f n)) T (nI h) (nI c) w' al maps a' ci far q pl many e' = some u ∧ v.1 = u.1 ∧ CPo f n h c p v ∧ LPo f n h c p u := by
  have t512 := tot_le (p := p) g hG hs
  obtain ⟨t, ht, hm, hk1, hca, hck⟩ := sC_prepareC (q := q0) (dist := dist) g hG hs hw e hk hc
  obtain ⟨u, hu, hl1, hl2⟩ := sM_lay g hT hs hw' t512 hl far q e'
  have kp : ∀ ans : Int32, CPo f n h c p (ans, t) := fun _ => ⟨hm, hk1, hca, hck⟩
  have lp : ∀ ans : Int32, LPo f n h c p (ans, u) := fun _ => ⟨hl1, hl2⟩
  unfold fX5_classOf fX6_classOf
  rw [ht, hu]
  obtain ⟨i1, hi1, hx⟩ := sC_indexOf hs hm x1
  obtain ⟨i2, hi2, hy⟩ := sM_placeOf hs hl2.2.1 x1
  have := IX_uniq hs hx hy
  subst this
  have has := sC_has hm hx
  rcases id hx with ⟨y, y1, y2, y3, y4⟩ | ⟨y3, y4⟩
  · have il := ix_lt y2 y1
    have ne : i1 ≠ (-1 : Int32) := by rw [y4]; exact nI_m1 (by omega)
    rw [decide_eq_true ne] at has
    refine pw_two (x := dn (NU f n h c p (fb_ct (iM f n h c p) y))) (pw_eq rfl (pw_eq hi1 (pw_eq has (pw_F (by decide) ?_)))) (pw_eq rfl (pw_eq hi2 (pw_F ne ?_)))
    · rw [y4]
      exact pw_rd (by omega) (by decide) (pw_some ⟨hca.2.2.2.1 _ il, kp _⟩)
    · rw [y4]
      exact pw_rd (by omega) (by decide) (pw_some ⟨hl2.2.2.1 _ il, lp _⟩)
  · rw [y3] at has
    exact pw_two (x := (-1 : Int32)) (pw_eq rfl (pw_eq hi1 (pw_eq (by rw [y3]; exact has) (pw_T rfl (pw_some ⟨rfl, kp _⟩))))) (pw_eq rfl (pw_eq hi2 (pw_T y3 (pw_some ⟨rfl, lp _⟩))))
theorem rs_apart (g : gok f n) (hT : MT f n T) (hG : CG f n P I O C Z) (hs : sok h c p) (hw : ∀ i, i < c → w i = nI (p i)) (hw' : ∀ i, i < c → w' i = nI (p i)) (hk : mk = 0 ∨ mk = 1 ∧ MA f n h c p a cnt) (hc : ck = 0 ∨ ck = 1 ∧ MA f n h c p a cnt ∧ CA (nx f n h c p) (mvc f n h c) (tot f n h c p) st nb sz mvn cc) (hl : al = 0 ∨ al = 1 ∧ LD f n h c p maps a' ci pl many) (x1 x2 : Int32) (e far q q0 dist e' : Nat → Int32) : ∃ v u, fX5_apart x1 x2 512 (nI (gz f n)) P I O C Z (nI h) (nI c) w e a cnt mk st nb sz q0 dist mvn cc ck = some v ∧ fX6_apart x1 x2 (nI (gz f n)) T (nI h) (nI c) w' al maps a' ci far q pl many e' = some u ∧ v.1 = u.1 ∧ CPo f n h c p v ∧ LPo f n h c p u := by
  have t512 := tot_le (p := p) g hG hs
  have m11 := mvc_le g hs
  have ho := nx_ok (p := p) g hs
  obtain ⟨t, ht, hm, hk1, hca, hck⟩ := sC_prepareC (q := q0) (dist := dist) g hG hs hw e hk hc
  obtain ⟨u, hu, hl1, hl2⟩ := sM_lay g hT hs hw' t512 hl far q e'
  have kp : ∀ ans : Int32, CPo f n h c p (ans, t) := fun _ => ⟨hm, hk1, hca, hck⟩
  have lp : ∀ ans : Int32, LPo f n h c p (ans, u) := fun _ => ⟨hl1, hl2⟩
  unfold fX5_apart fX6_apart
  rw [ht, hu]
  obtain ⟨i1, hi1, hx1⟩ := sC_indexOf hs hm x1
  obtain ⟨j1, hj1, hy1⟩ := sM_placeOf hs hl2.2.1 x1
  have := IX_uniq hs hx1 hy1
  subst this
  obtain ⟨i2, hi2, hx2⟩ := sC_indexOf hs hm x2
  obtain ⟨j2, hj2, hy2⟩ := sM_placeOf hs hl2.2.1 x2
  have := IX_uniq hs hx2 hy2
  subst this
  have has1 := sC_has hm hx1
  have has2 := sC_has hm hx2
  rcases id hx1 with ⟨y, y1, y2, y3, y4⟩ | ⟨y3, y4⟩
  · have il := ix_lt y2 y1
    have ne : i1 ≠ (-1 : Int32) := by rw [y4]; exact nI_m1 (by omega)
    rw [decide_eq_true ne] at has1
    rcases id hx2 with ⟨z, z1, z2, z3, z4⟩ | ⟨z3, z4⟩
    · have jl := ix_lt z2 z1
      have ne2 : i2 ≠ (-1 : Int32) := by rw [z4]; exact nI_m1 (by omega)
      rw [decide_eq_true ne2] at has2
      refine pw_two (x := dn ((fin (nx f n h c p) (mvc f n h c) (tot f n h c p) (fb_ct (iM f n h c p) y)).1 (fb_ct (iM f n h c p) z))) (pw_eq rfl (pw_eq hi1 (pw_eq hi2 (pw_eq has1 (pw_F (by decide) (pw_eq has2 (pw_F (by decide) ?_))))))) (pw_eq rfl (pw_eq hj1 (pw_eq hj2 (pw_F ne (pw_F ne2 ?_)))))
      · rw [y4, z4, hca.2.1]
        refine pw_bind (R := fun v => v.1 = dn ((fin (nx f n h c p) (mvc f n h c) (tot f n h c p) (fb_ct (iM f n h c p) y)).1 (fb_ct (iM f n h c p) z))) ?_ (fun t6 h6 => pw_some ⟨h6, hm, hk1, by rw [← hca.2.1]; exact hca, hck⟩)
        unfold fX0_distance
        refine pw_bind (sC_fill (by decide) _) (fun d0 hd0 => ?_)
        refine pw_bind (sC_spread (U := fun _ => True) (D0 := fun _ => 0) t512 m11 ho (fun _ _ _ _ _ => trivial) hca.1 il trivial (fun _ _ => rfl) (fun k hk => by rw [hd0 k (by omega)]; exact (show (-1 : Int32) = dn 0 by decide)) _) ?_
        rintro ⟨r, q', d'⟩ ⟨r1, r2, r3⟩
        exact pw_rd (by omega) (by decide) (pw_some (r3 _ jl))
      · rw [y4, z4, hl2.1.1]
        refine pw_bind (sM_spread g hT hs hw' hl2.1 hl2.2.1 il _ _ _) ?_
        rintro ⟨f4, q4, e4⟩ h4
        exact pw_rd (by omega) (by decide) (pw_some ⟨h4 _ jl, hl1, by rw [← hl2.1.1]; exact hl2⟩)
    · rw [z3] at has2
      exact pw_two (x := (-2 : Int32)) (pw_eq rfl (pw_eq hi1 (pw_eq hi2 (pw_eq has1 (pw_F (by decide) (pw_eq (by rw [z3]; exact has2) (pw_T rfl (pw_some ⟨rfl, kp _⟩)))))))) (pw_eq rfl (pw_eq hj1 (pw_eq hj2 (pw_F ne (pw_T z3 (pw_some ⟨rfl, lp _⟩))))))
  · rw [y3] at has1
    exact pw_two (x := (-2 : Int32)) (pw_eq rfl (pw_eq hi1 (pw_eq hi2 (pw_eq (by rw [y3]; exact has1) (pw_T rfl (pw_some ⟨rfl, kp _⟩)))))) (pw_eq rfl (pw_eq hj1 (pw_eq hj2 (pw_T y3 (pw_some ⟨rfl, lp _⟩)))))
end CLSCALL
