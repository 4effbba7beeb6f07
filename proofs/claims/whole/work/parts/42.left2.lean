section LEFT2
variable {f n h c : Nat} {p d : Nat → Nat} {P I O C Z T e w a w' a' ci far q dist pl : Nat → Int32} {cnt many maps al mk : Int32}
theorem pc_pos {S : Nat} (h : S.testBit 0 = true) : 0 < pc S ∧ pc S ≤ 8 := ⟨fb_ct_pos.mpr ⟨0, by decide, h⟩, fb_ct_le _ _⟩
theorem isub_0 {S : Nat} (h : isub f n S = true) : S.testBit 0 = true := by
  have : gs f n S = S := by unfold isub at h; simpa using h
  rw [← this]; exact gs_one
theorem rs_left (g : gok f n) (hT : MT f n T) (hG : CG f n P I O C Z) (hs : sok h c p) (hw : ∀ i, i < c → w i = nI (p i)) (hw' : ∀ i, i < c → w' i = nI (p i)) (hk : mk = 0 ∨ mk = 1 ∧ MA f n h c p a cnt) (hl : al = 0 ∨ al = 1 ∧ LD f n h c p maps a' ci pl many) (x1 x2 : Int32) (e far q e' : Nat → Int32) : ∃ v u, fX5_left x1 x2 512 (nI (gz f n)) P I O Z (nI h) (nI c) w e a cnt mk = some v ∧ fX6_left x1 x2 (nI (gz f n)) T (nI h) (nI c) w' al maps a' ci far q pl many e' = some u ∧ v.1 = u.1 ∧ KPo f n h c p v ∧ LPo f n h c p u := by
  have hz := gz_le g
  have t512 := tot_le (p := p) g hG hs
  obtain ⟨t, ht, hm, hk1⟩ := sC_prepare g hG hs hw e hk
  obtain ⟨u, hu, hl1, hl2⟩ := sM_lay g hT hs hw' t512 hl far q e'
  have kp : ∀ (ans : Int32) (e : Nat → Int32), KPo f n h c p (ans, e, t.2.1, t.2.2.1, t.2.2.2) := fun _ _ => ⟨hm, hk1⟩
  have lp : ∀ (ans : Int32) (e : Nat → Int32), LPo f n h c p (ans, u.1, u.2.1, u.2.2.1, u.2.2.2.1, u.2.2.2.2.1, u.2.2.2.2.2.1, u.2.2.2.2.2.2.1, u.2.2.2.2.2.2.2.1, e) := fun _ _ => ⟨hl1, hl2⟩
  have l1 := hl2.1.1
  have hin := sM_inP (c := tot f n h c p) x1 (by omega)
  rw [← l1] at hin
  have hsC := sC_isSubgroup g hG.2.2.2.2 x2
  have hsM := sM_isSubgroup g hT x2
  unfold fX5_left fX6_left
  rw [ht, hu]
  by_cases q1 : ie x1 (tot f n h c p)
  · rw [if_pos q1] at hin
    obtain ⟨k, k1, rfl⟩ := ie_of q1 (by omega)
    obtain ⟨v, hv, v1, v2⟩ := sC_readsMap g hs hm k1 t.1
    obtain ⟨r1, r2, r3⟩ := kc_ok k1
    obtain ⟨a1, a2⟩ := (iM_pM hs).mp r2
    by_cases q2 : ∃ S, S < 2 ^ gz f n ∧ x2 = nI S ∧ isub f n S = true
    · rw [if_pos q2] at hsC hsM
      obtain ⟨S, hS, rfl, iS⟩ := q2
      have z2 := gz_pow g
      obtain ⟨p0, p8⟩ := pc_pos (isub_0 iS)
      have ix : fX1_indexOf (nI S) (nI (gz f n)) = some (nI (gz f n / pc S)) := by
        unfold fX1_indexOf
        exact pw_val (pw_eq (sC_bitCount (by omega)) (pw_F (fun y => by have := (nI_eq (b := 0) (by omega) (by decide)).mp y; omega) (pw_dv (by omega) p0 (by omega) (pw_some rfl))))
      refine pw_two (x := ((2 : Int32) - (nI (gz f n / pc S) * (((2 : Int32) - ((2 : Int32) * nI h)) - nI c) + nI (lfT f n h (dg (2 * h + c) (kc f n h c p k)) S c))) / (2 : Int32)) (pw_eq rfl (pw_eq hv (pw_F (by rw [v1]; decide) (pw_eq hsC (pw_F (by decide) (pw_eq ix (pw_eq (sC_leftLoop g hG hs.2.1 a2.1 v2 _ hS) (pw_some ⟨rfl, kp _ _⟩)))))))) (pw_eq rfl (pw_eq hin (pw_F (by decide) (pw_eq hsM (pw_F (by decide) (pw_rd (by omega) (by decide) ?_))))))
      rw [MA_at hl2.1 k1]
      obtain ⟨s, hs1, hs2⟩ := sM_read hs.2.1 (show kc f n h c p k < 2 ^ 31 by omega) u.2.2.2.2.2.2.2.2
      exact pw_eq hs1 (pw_eq (sM_ones (by omega)) (pw_dv (by omega) p0 (by omega) (pw_eq (sM_leftLoop g hT hs.2.1 a2.1 hs2 _ hS) (pw_some ⟨rfl, lp _ _⟩))))
    · rw [if_neg q2] at hsC hsM
      exact pw_two (x := (-2 : Int32)) (pw_eq rfl (pw_eq hv (pw_F (by rw [v1]; decide) (pw_eq hsC (pw_T rfl (pw_some ⟨rfl, kp _ _⟩)))))) (pw_eq rfl (pw_eq hin (pw_F (by decide) (pw_eq hsM (pw_T rfl (pw_some ⟨rfl, lp _ _⟩))))))
  · rw [if_neg q1] at hin
    exact pw_two (x := (-2 : Int32)) (pw_eq rfl (pw_eq (sC_readsMap0 hm q1 _) (pw_T rfl (pw_some ⟨rfl, kp _ _⟩)))) (pw_eq rfl (pw_eq hin (pw_T rfl (pw_some ⟨rfl, lp _ _⟩))))
/-- the least power that lies in a set -/
def lpw (f n S b m : Nat) : Prop := 1 ≤ m ∧ m ≤ 8 ∧ S.testBit (gpow f n b m) = true ∧ ∀ j, 1 ≤ j → j < m → S.testBit (gpow f n b j) = false
theorem lpw_uniq {S b m k : Nat} (h1 : lpw f n S b m) (h2 : lpw f n S b k) : m = k := by
  rcases Nat.lt_trichotomy m k with q | q | q
  · have := h2.2.2.2 m h1.1 q; rw [h1.2.2.1] at this; exact absurd this (by decide)
  · exact q
  · have := h1.2.2.2 k h2.1 q; rw [h2.2.2.1] at this; exact absurd this (by decide)
theorem go_pos {b : Nat} : 1 ≤ go f n b := by unfold go; omega
theorem sC_orderBehind (g : gok f n) (hP : MT f n P) {S b : Nat} (hS : S < 2 ^ gz f n) (h0 : S.testBit 0 = true) (hb : b < gz f n) : pw (fX1_orderBehind (nI S) (nI b) P) (fun v => ∃ m, v = nI m ∧ lpw f n S b m) := by
  have hz := gz_le g
  obtain ⟨o8, op⟩ := go_ok g hb
  unfold fX1_orderBehind
  refine pw_bind (R := fun v => ∃ m, v = nI m ∧ lpw f n S b m) ?_ (fun t ht => pw_some ht)
  refine pw_run (fun i σ => 1 ≤ i ∧ σ = (nI (gpow f n b i), nI i) ∧ ∀ j, 1 ≤ j → j < i → S.testBit (gpow f n b j) = false) 1 (go f n b) (by omega) ⟨Nat.le_refl _, by rw [show gpow f n b 1 = b from (gm_0 g hb).1]; rfl, fun j j1 j2 => by omega⟩ go_pos ?_
  rintro i _ hi ⟨i0, rfl, i1⟩
  show pw (fX1_orderBehind_L5 (nI S) (nI b) P (nI (gpow f n b i)) (nI i)) _
  unfold fX1_orderBehind_L5
  have gl := gpow_lt g hb i
  refine pw_bit0 (z256 g hS) (by omega) (fun y => ?_) (fun y => pw_out ⟨i, rfl, i0, by omega, y, i1⟩)
  have ne : i ≠ go f n b := fun x => by rw [x, op, h0] at y; exact absurd y (by decide)
  refine pw_le (a := 8) (by decide) (by omega) (fun x => by omega) (fun x => pw_eq (sC_product g hP gl hb) (pw_in ⟨by omega, by omega, by rw [show (nI i + (1 : Int32)) = nI (i + 1) from nI_add i 1]; rfl, fun j j1 j2 => ?_⟩))
  by_cases r : j = i
  · rw [r]; exact y
  · exact i1 j j1 (by omega)
theorem sM_orderBehind (g : gok f n) (hT : MT f n T) {S b : Nat} (hS : S < 2 ^ gz f n) (h0 : S.testBit 0 = true) (hb : b < gz f n) : pw (pz_iter (fun (σ : Int32 × Int32) => fX6_behind_L86 (nI S) (nI b) T σ.1 σ.2) pz_FUEL ((1 : Int32), nI b)) (fun v => ∃ m, v = nI m ∧ lpw f n S b m) := by
  have hz := gz_le g
  obtain ⟨o8, op⟩ := go_ok g hb
  refine pw_run (fun i σ => 1 ≤ i ∧ σ = (nI i, nI (gpow f n b i)) ∧ ∀ j, 1 ≤ j → j < i → S.testBit (gpow f n b j) = false) 1 (go f n b) (by omega) ⟨Nat.le_refl _, by rw [show gpow f n b 1 = b from (gm_0 g hb).1]; rfl, fun j j1 j2 => by omega⟩ go_pos ?_
  rintro i _ hi ⟨i0, rfl, i1⟩
  show pw (fX6_behind_L86 (nI S) (nI b) T (nI i) (nI (gpow f n b i))) _
  unfold fX6_behind_L86
  have gl := gpow_lt g hb i
  refine pw_bit0 (z256 g hS) (by omega) (fun y => ?_) (fun y => pw_out ⟨i, rfl, i0, by omega, y, i1⟩)
  have ne : i ≠ go f n b := fun x => by rw [x, op, h0] at y; exact absurd y (by decide)
  refine pw_eq (sM_product g hT gl hb) (pw_in ⟨by omega, by omega, by rw [show (nI i + (1 : Int32)) = nI (i + 1) from nI_add i 1]; rfl, fun j j1 j2 => ?_⟩)
  by_cases r : j = i
  · rw [r]; exact y
  · exact i1 j j1 (by omega)
end LEFT2
