theorem Int32_div_neg {k : Nat} (hk : 0 < k) (hk2 : k ≤ 2 ^ 31) {x : Int32} (hx : x.toInt = -(k : Int)) : (x / (10 : Int32)).toInt = -((k / 10 : Nat) : Int) ∧ (x - x / (10 : Int32) * (10 : Int32)).toInt = -((k % 10 : Nat) : Int) := by
  have e10 : (10 : Int32).toInt = 10 := by decide
  have h1 : (x / (10 : Int32)).toInt = -((k / 10 : Nat) : Int) := by
    rw [Int32.toInt_div, hx, e10, Int.neg_tdiv]
    have : ((k : Int).tdiv 10) = ((k / 10 : Nat) : Int) := by
      rw [Int.tdiv_eq_ediv_of_nonneg (by omega)]; rfl
    rw [this]
    exact fb_bmod (by omega) (by omega)
  refine ⟨h1, ?_⟩
  have h2 : ((x / (10 : Int32)) * (10 : Int32)).toInt = -((k / 10 * 10 : Nat) : Int) := by
    rw [fb_mulI, h1, e10]
    · push_cast; omega
    · rw [h1, e10]; omega
    · rw [h1, e10]; omega
  rw [fb_subI, hx, h2]
  · omega
  · rw [hx, h2]; omega
  · rw [hx, h2]; omega
theorem neg_of {x : Int32} (h : x < 0) : ∃ k : Nat, 0 < k ∧ k ≤ 2 ^ 31 ∧ x.toInt = -(k : Int) := by
  have e0 : (0 : Int32).toInt = 0 := by decide
  rw [fa_lt, e0] at h
  have := fb_rng x
  exact ⟨(-x.toInt).toNat, by omega, by omega, by omega⟩
theorem ten_pos : ∀ L : Nat, 0 < 10 ^ L
  | 0 => by decide
  | L + 1 => by
    have := ten_pos L
    rw [Nat.pow_succ]; omega
section ROWD
variable {f n h c : Nat} {p d : Nat → Nat} {P I O C Z T e w : Nat → Int32}
/-- a code below nothing: no row -/
theorem sC_read_neg (hz : gz f n ≤ 8) (h0 : 0 < gz f n) (hL : 2 * h + c ≤ 4) {x : Int32} (hx : x < 0) (e : Nat → Int32) : pw (fX3_read x (nI (gz f n)) (nI h) (nI c) e) (fun v => v.1 = 0) := by
  unfold fX3_read
  refine pw_eq sC_digits (pw_bind (R := fun v => v = Sum.inl (v.elim id (fun _ => (1, e))) ∧ (∀ u, v = Sum.inl u → u.1 ≠ 0) ∨ ∃ e', v = Sum.inr (0, e')) ?_ ?_)
  · generalize 2 * h + c = L at hL
    refine pw_run (fun j s => ∃ y e', s = (y, dn (L - j), e') ∧ y < 0) 0 L (by omega) ⟨x, e, rfl, hx⟩ (Nat.zero_le _) ?_
    rintro j _ hj ⟨y, e', rfl, hy⟩
    show pw (fX3_read_L12 (nI (gz f n)) y (dn (L - j)) e') _
    unfold fX3_read_L12
    rcases (show j = L ∨ j < L by omega) with rfl | hj
    · rw [Nat.sub_self]
      refine pw_T dn_neg (pw_out (Or.inl ⟨rfl, ?_⟩))
      rintro u q
      cases q
      intro q
      have q : y = 0 := q
      subst q
      exact absurd hy (by decide)
    · rw [show L - j = (L - (j + 1)) + 1 by omega, dn_succ]
      refine pw_F (nI_pos (by omega)) ?_
      obtain ⟨k, hk1, hk2, hk3⟩ := neg_of hy
      obtain ⟨q1, q2⟩ := Int32_div_neg hk1 hk2 hk3
      refine pw_eq (sC_isElement _ (by omega)) ?_
      by_cases q : ie (y - y / (10 : Int32) * (10 : Int32)) (gz f n)
      · rw [if_pos q]
        refine pw_F (by decide) ?_
        have hk10 : k % 10 = 0 := by
          unfold ie at q
          omega
        refine pw_wr (by omega) (by decide) (pw_in ⟨hj, _, _, by rw [dn_step], ?_⟩)
        have e0 : (0 : Int32).toInt = 0 := by decide
        rw [fa_lt, e0, q1]
        omega
      · rw [if_neg q]
        exact pw_T rfl (pw_out (Or.inr ⟨e', rfl⟩))
  · rintro t (⟨q1, q2⟩ | ⟨e', rfl⟩)
    · rw [q1]
      refine pw_F (q2 _ q1) (pw_some rfl)
    · exact pw_some rfl
theorem sC_read (hz : gz f n ≤ 8) (hL : 2 * h + c ≤ 4) {x : Nat} (hx : x < 2 ^ 31) (e : Nat → Int32) : pw (fX3_read (nI x) (nI (gz f n)) (nI h) (nI c) e) (fun v => (x < 10 ^ (2 * h + c) ∧ good f n (2 * h + c) (dg (2 * h + c) x) = true → v.1 = 1 ∧ DG (2 * h + c) (dg (2 * h + c) x) v.2) ∧ (¬ (x < 10 ^ (2 * h + c) ∧ good f n (2 * h + c) (dg (2 * h + c) x) = true) → v.1 = 0)) := by
  unfold fX3_read
  refine pw_eq sC_digits ?_
  generalize 2 * h + c = L at hL
  refine pw_bind (R := fun v => (∃ e', v = Sum.inl (nI (x / 10 ^ L), e') ∧ DG L (dg L x) e' ∧ good f n L (dg L x) = true) ∨ ∃ e', v = Sum.inr (0, e') ∧ good f n L (dg L x) = false) ?_ ?_
  · refine pw_run (fun j s => ∃ e', s = (nI (x / 10 ^ j), dn (L - j), e') ∧ (∀ i, i < L → L - j ≤ i → e' i = nI (dg L x i)) ∧ ∀ i, i < L → L - j ≤ i → dg L x i < gz f n) 0 L (by omega) ⟨e, by rw [Nat.pow_zero, Nat.div_one]; rfl, fun i h1 h2 => by omega, fun i h1 h2 => by omega⟩ (Nat.zero_le _) ?_
    rintro j _ hj ⟨e', rfl, hI, hI2⟩
    show pw (fX3_read_L12 (nI (gz f n)) (nI (x / 10 ^ j)) (dn (L - j)) e') _
    unfold fX3_read_L12
    have hb : x / 10 ^ j < 2 ^ 31 := Nat.lt_of_le_of_lt (Nat.div_le_self _ _) hx
    rcases (show j = L ∨ j < L by omega) with rfl | hj
    · rw [Nat.sub_self]
      exact pw_T dn_neg (pw_out (Or.inl ⟨e', rfl, fun i hi => hI i hi (by omega), allB_iff.mpr (fun i hi => by simpa using hI2 i hi (by omega))⟩))
    · rw [show L - j = (L - (j + 1)) + 1 by omega, dn_succ]
      refine pw_F (nI_pos (by omega)) ?_
      rw [bz_mod10 hb, bz_div10 hb]
      have hm := Nat.mod_lt (x / 10 ^ j) (show 0 < 10 by decide)
      have ed : dg L x (L - (j + 1)) = x / 10 ^ j % 10 := by
        unfold dg
        rw [show L - 1 - (L - (j + 1)) = j by omega]
      refine pw_eq (sC_isElement _ (by omega)) ?_
      by_cases q : x / 10 ^ j % 10 < gz f n
      · rw [if_pos ((ie_nI (by omega)).mpr q)]
        refine pw_F (by decide) (pw_wr (by omega) (by decide) (pw_in ⟨hj, _, ?_, read_step hj hI, ?_⟩))
        · rw [dn_step, Nat.div_div_eq_div_mul, Nat.pow_succ]
        · intro i hi hi2
          by_cases q3 : i = L - (j + 1)
          · rw [q3, ed]; exact q
          · exact hI2 i hi (by omega)
      · rw [if_neg (fun z => q ((ie_nI (by omega)).mp z))]
        refine pw_T rfl (pw_out (Or.inr ⟨e', rfl, allB_not (i := L - (j + 1)) (by omega) ?_⟩))
        rw [ed]; simpa using q
  · rintro t (⟨e', rfl, h1, h2⟩ | ⟨e', rfl, h2⟩)
    · show pw (if nI (x / 10 ^ L) = 0 then _ else _) _
      refine pw_eqn (b := 0) (Nat.lt_of_le_of_lt (Nat.div_le_self _ _) hx) (by decide) (fun q => pw_some ⟨fun _ => ⟨rfl, h1⟩, fun z => ?_⟩) (fun q => pw_some ⟨fun z => ?_, fun _ => rfl⟩)
      · exact absurd ⟨(Nat.div_eq_zero_iff_lt (ten_pos L)).mp q, h2⟩ z
      · exact absurd ((Nat.div_eq_zero_iff_lt (ten_pos L)).mpr z.1) q
    · exact pw_some ⟨fun z => (by rw [h2] at z; cases z.2), fun _ => rfl⟩
theorem rpr_alt (g : gok f n) (hd0 : d 0 < gz f n) (hd1 : d 1 < gz f n) : gm f n (gm f n (gm f n (d 0) (d 1)) (gi f n (d 0))) (gi f n (d 1)) = rpr f n 1 d 0 := by
  rw [rpr, if_pos rfl]
  exact gm_as g (gm_lt g hd0 hd1) (gi_ok g hd0).1 (gi_ok g hd1).1
theorem sM_whatIs (g : gok f n) (hT : MT f n T) (hs : sok h c p) (hw : ∀ i, i < c → w i = nI (p i)) (he : DG (2 * h + c) d e) (h10 : ∀ i, i < 2 * h + c → d i < 10) : fX6_whatIs (nI (gz f n)) T (nI h) (nI c) w e = some (nI (if good f n (2 * h + c) d = true then kd f n h c p d else 0)) := by
  obtain ⟨h1, h2, h3⟩ := hs
  have hz := gz_le g
  have hp2 := gz_pow g
  have hp1 : 1 ≤ 2 ^ gz f n := Nat.one_le_two_pow
  unfold fX6_whatIs
  refine pw_val (pw_bind (R := fun v => v = if good f n (2 * h + c) d = true then Sum.inl (nI (rset (2 * h + c) d)) else Sum.inr 0) ?_ (fun t ht => ?_))
  · refine pw_run (fun i s => s = (nI (orf i (fun i => 2 ^ d i)), nI i) ∧ good f n i d = true) 0 (2 * h + c) (by omega) ⟨rfl, rfl⟩ (Nat.zero_le _) ?_
    rintro i _ hi ⟨rfl, hI⟩
    show pw (fX6_whatIs_L6 (nI (gz f n)) (nI h) (nI c) e (nI (orf i _)) (nI i)) _
    unfold fX6_whatIs_L6
    refine pw_eq sM_length (pw_le (by omega) (by omega) (fun q => pw_out ?_) (fun hi => ?_))
    · rw [show 2 * h + c = i by omega, if_pos hI]; rfl
    · have hdi := h10 i hi
      refine pw_rd (by omega) (by decide) ?_
      rw [he i hi]
      refine pw_lt (by omega) (by omega) (fun q => ?_) (fun q => pw_out ?_)
      · refine pw_rd (by omega) (by decide) ?_
        rw [he i hi]
        refine pw_in ⟨hi, ?_, allB_succ hI (by simpa using q)⟩
        rw [show (1 : Int32) <<< (nI (d i) &&& 31) = nI (1 <<< d i) from bz_shl 1 (by omega), Nat.one_shiftLeft, fa_or, show (nI i + (1 : Int32)) = nI (i + 1) from nI_add i 1]; rfl
      · rw [show good f n (2 * h + c) d = false from allB_not hi (by simpa using q)]; rfl
  · subst ht
    cases gd : good f n (2 * h + c) d with
    | false => exact pw_some rfl
    | true =>
      rw [if_pos rfl, if_pos rfl]
      have hd : ∀ i, i < 2 * h + c → d i < gz f n := fun i hi => good_at gd hi
      have hr := rset_lt hd
      have main : pw (fX6_whatIs_J103 (nI (rpr f n h d 0)) (nI (rset (2 * h + c) d)) (nI (gz f n)) T (nI h) (nI c) w e) (fun v => v = nI (kd f n h c p d)) := by
        unfold fX6_whatIs_J103
        refine pw_bind (R := fun v => v = if rord f n h p d c = true then Sum.inl (nI (rpr f n h d c)) else Sum.inr 0) ?_ (fun t ht => ?_)
        · refine pw_run (fun i s => s = (nI (rpr f n h d i), nI i) ∧ rord f n h p d i = true) 0 c (by omega) ⟨rfl, rfl⟩ (Nat.zero_le _) ?_
          rintro i _ hi ⟨rfl, hI⟩
          show pw (fX6_whatIs_L105 T (nI h) (nI c) w e (nI (rpr f n h d i)) (nI i)) _
          unfold fX6_whatIs_L105
          refine pw_le (by omega) (by omega) (fun q => pw_out ?_) (fun hi => ?_)
          · rw [show c = i by omega, if_pos hI]
          · have hdi := hd (2 * h + i) (by omega)
            have hpi := h3 i hi
            rw [show ((2 : Int32) * nI h) + nI i = nI (2 * h + i) from by rw [show (2 : Int32) = nI 2 from rfl, pk_mul, nI_add]]
            refine pw_rd (by omega) (by decide) ?_
            rw [he _ (by omega)]
            have hg := (go_ok g hdi).1
            refine pw_eq (sM_orderOf g hT hdi) (pw_rd (by omega) (by decide) ?_)
            rw [hw i hi]
            refine pw_eqn (by omega) (by omega) (fun q => ?_) (fun q => pw_out ?_)
            · refine pw_eq (sM_product g hT (rpr_lt g hd h1 i (by omega)) hdi) (pw_in ⟨hi, ?_, allB_succ hI (by simp [q])⟩)
              rw [show (nI i + (1 : Int32)) = nI (i + 1) from nI_add i 1]; rfl
            · rw [show rord f n h p d c = false from allB_not hi (by simp [q])]; rfl
        · subst ht
          unfold kd
          cases q : rord f n h p d c with
          | false => exact pw_some rfl
          | true =>
            rw [if_pos rfl]
            have hr2 := rpr_lt g hd h1 c (Nat.le_refl _)
            show pw (if nI (rpr f n h d c) = 0 then _ else _) _
            refine pw_eqn (b := 0) (by omega) (by decide) (fun q2 => ?_) (fun q2 => pw_some ?_)
            · have g2 := (gs_at g hr).2
              refine pw_eq (sM_spanOf g hT hr) ?_
              rw [show ((1 : Int32) <<< (nI (gz f n) &&& 31)) - (1 : Int32) = nI (2 ^ gz f n - 1) from by
                rw [show (1 : Int32) <<< (nI (gz f n) &&& 31) = nI (1 <<< gz f n) from bz_shl 1 (by omega), Nat.one_shiftLeft]; exact pk_sub hp1]
              rw [show (true && (rpr f n h d c == 0)) = true by simp [q2], if_pos (rfl : true = true)]
              refine pw_eqn (by omega) (by omega) (fun q3 => pw_some ?_) (fun q3 => pw_some ?_)
              · rw [show rwh f n (2 * h + c) d = true by unfold rwh; simp [q3]]; rfl
              · rw [show rwh f n (2 * h + c) d = false by unfold rwh; simp [q3]]; rfl
            · rw [show (true && (rpr f n h d c == 0)) = false by simp [q2]]; rfl
      rcases (show h = 0 ∨ h = 1 by omega) with rfl | rfl
      · rw [Sum.elim_inl, if_neg (c := nI 0 = (1 : Int32)) (by decide)]
        exact main
      · rw [Sum.elim_inl, if_pos (c := nI 1 = (1 : Int32)) rfl]
        have d0 := hd 0 (by omega)
        have d1 := hd 1 (by omega)
        have i0 := (gi_ok g d0).1
        have i1 := (gi_ok g d1).1
        refine pw_rd (i := 0) (by decide) (by decide) (pw_rd (i := 1) (by decide) (by decide) ?_)
        rw [he 0 (by omega), he 1 (by omega)]
        refine pw_eq (sM_product g hT d0 d1) (pw_rd (i := 0) (by decide) (by decide) ?_)
        rw [he 0 (by omega)]
        refine pw_eq (sM_inverse g hT d0) (pw_eq (sM_product g hT (gm_lt g d0 d1) i0) (pw_rd (i := 1) (by decide) (by decide) ?_))
        rw [he 1 (by omega)]
        refine pw_eq (sM_inverse g hT d1) (pw_eq (sM_product g hT (gm_lt g (gm_lt g d0 d1) i0) i1) ?_)
        rw [rpr_alt g d0 d1]
        exact main
theorem sM_codeIs (g : gok f n) (hT : MT f n T) (hs : sok h c p) (hw : ∀ i, i < c → w i = nI (p i)) {x : Nat} (hx : x < 10 ^ (2 * h + c)) (e : Nat → Int32) : pw (fX6_codeIs (nI x) (nI (gz f n)) T (nI h) (nI c) w e) (fun v => v.1 = nI (kdx f n h c p x) ∧ DG (2 * h + c) (dg (2 * h + c) x) v.2) := by
  have h4 := pow4 hs.2.1
  have hp : 0 < 10 ^ (2 * h + c) := ten_pos _
  unfold fX6_codeIs
  refine pw_eq sM_length (pw_eq (sM_tens hs.2.1) (pw_eq (sM_inP (c := 10 ^ (2 * h + c)) (nI x) (by omega)) ?_))
  rw [if_pos ((ie_nI (by omega)).mpr hx)]
  refine pw_F (by decide) (pw_bind (sM_read hs.2.1 (by omega) e) (fun e' he' => ?_))
  refine pw_eq (sM_whatIs g hT hs hw he' (fun i _ => dg_lt _ _ _)) (pw_some ⟨rfl, he'⟩)
theorem sM_codeIs0 (hs : sok h c p) {x : Int32} (hx : ¬ ie x (10 ^ (2 * h + c))) (e : Nat → Int32) : fX6_codeIs x (nI (gz f n)) T (nI h) (nI c) w e = some (0, e) := by
  have h4 := pow4 hs.2.1
  have hp : 0 < 10 ^ (2 * h + c) := ten_pos _
  unfold fX6_codeIs
  refine pw_val (pw_eq sM_length (pw_eq (sM_tens hs.2.1) (pw_eq (sM_inP (c := 10 ^ (2 * h + c)) x (by omega)) ?_)))
  rw [if_neg hx]
  exact pw_T rfl (pw_some rfl)
theorem rs_row (g : gok f n) (hT : MT f n T) (hG : CG f n P I O C Z) (hs : sok h c p) {w' : Nat → Int32} (hw : ∀ i, i < c → w i = nI (p i)) (hw' : ∀ i, i < c → w' i = nI (p i)) (x1 : Int32) (e e' : Nat → Int32) : ∃ (v u : Int32 × (Nat → Int32)), fX5_row x1 (nI (gz f n)) P I O Z (nI h) (nI c) w e = some v ∧ fX6_row x1 (nI (gz f n)) T (nI h) (nI c) w' e' = some u ∧ v.1 = u.1 := by
  have h4 := pow4 hs.2.1
  by_cases hx : ie x1 (10 ^ (2 * h + c))
  · obtain ⟨x, hxl, rfl⟩ := ie_of hx (by omega)
    have hx := hxl
    obtain ⟨u, hu, hu1, hu2⟩ := sM_codeIs g hT hs hw' hx e'
    obtain ⟨v, hv, hv1, hv2⟩ := sC_read (f := f) (n := n) (gz_le g) hs.2.1 (show x < 2 ^ 31 by omega) e
    have e6 : fX6_row (nI x) (nI (gz f n)) T (nI h) (nI c) w' e' = some (u.1, u.2) := by
      unfold fX6_row
      rw [hu]; rfl
    by_cases q : good f n (2 * h + c) (dg (2 * h + c) x) = true
    · obtain ⟨a1, a2⟩ := hv1 ⟨hx, q⟩
      refine ⟨(nI (kd f n h c p (dg (2 * h + c) x)), v.2), _, ?_, e6, ?_⟩
      · unfold fX5_row
        rw [hv]
        refine pw_val (pw_eq rfl (pw_F (by rw [a1]; decide) (pw_eq (sC_kind g hG hs hw a2 (fun i hi => good_at q hi)) (pw_some rfl))))
      · show _ = u.1
        rw [hu1]
        unfold kdx
        rw [if_pos q]
    · have a1 := hv2 (fun z => q z.2)
      refine ⟨(0, v.2), _, ?_, e6, ?_⟩
      · unfold fX5_row
        rw [hv]
        exact pw_val (pw_eq rfl (pw_T a1 (pw_some rfl)))
      · show _ = u.1
        rw [hu1]
        unfold kdx
        rw [if_neg q]; rfl
  · have e6 : fX6_row x1 (nI (gz f n)) T (nI h) (nI c) w' e' = some (0, e') := by
      unfold fX6_row
      rw [sM_codeIs0 hs hx]; rfl
    have key : pw (fX3_read x1 (nI (gz f n)) (nI h) (nI c) e) (fun v => v.1 = 0) := by
      by_cases hn : x1 < 0
      · exact sC_read_neg (gz_le g) (gz_pos g) hs.2.1 hn e
      · obtain ⟨x, hx2, rfl⟩ := nI_of hn
        refine pw_mono (sC_read (f := f) (n := n) (gz_le g) hs.2.1 hx2 e) (fun v hv => hv.2 (fun z => hx ((ie_nI hx2).mpr z.1)))
    obtain ⟨v, hv, a1⟩ := key
    refine ⟨(0, v.2), _, ?_, e6, rfl⟩
    unfold fX5_row
    rw [hv]
    exact pw_val (pw_eq rfl (pw_T a1 (pw_some rfl)))
end ROWD
