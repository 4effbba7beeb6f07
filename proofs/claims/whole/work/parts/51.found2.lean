section FOUND2
variable {f n h c : Nat} {p : Nat → Nat} {P I O C Z T e w a : Nat → Int32} {g k : Int32}
/-- one map is enough to know that there are any -/
theorem sC_find1 (g0 : gok f n) (hG : CG f n P I O C Z) (hs : sok h c p) (hw : ∀ i, i < c → w i = nI (p i)) (e a : Nat → Int32) : pw (fX2_find 1 (nI (gz f n)) P I O Z (nI h) (nI c) w e a) (fun v => v.2.2 = if 0 < tot f n h c p then 1 else 0) := by
  refine pw_mono (sC_find g0 hG hs hw (R := 1) (by decide) (by decide) e a) ?_
  rintro ⟨e2, a2, n2⟩ ⟨k, B, k1, k2, k3, k4, k5⟩
  have k1 : n2 = nI k := k1
  have te := tot_eq (f := f) (n := n) hs
  have mono : B ≤ 10 ^ (2 * h + c) → fb_ct (iM f n h c p) B ≤ tot f n h c p := fun hB => by
    rw [← te]; exact fb_ct_mono _ hB
  show n2 = _
  rw [k1]
  rcases k5 with r | ⟨r1, r2, r3⟩
  · rw [r, te] at k2
    by_cases z : 0 < tot f n h c p
    · rw [if_pos z, show k = 1 by omega]; rfl
    · rw [if_neg z, show k = 0 by omega]; rfl
  · have := mono r1
    rw [if_pos (by omega), show k = 1 by omega]; rfl
def fdI (f n h c : Nat) (g k : Int32) (j : Nat) (s : Int32 × Int32 × Int32 × (Nat → Int32) × (Nat → Int32) × (Nat → Int32) × Int32) : Prop := ∃ w e a cnt, s = (nI (fb_ct (hit f n h c g) j), (if j ≤ pE c then 1 else 0), nI j, w, e, a, cnt) ∧ FA f n h c g k j = -1 ∧ (j ≤ pE c → ∀ i, i < c → w i = nI (prw c j i))
def fdP (f n h c : Nat) (g k : Int32) (v : (Int32 × (Nat → Int32) × (Nat → Int32) × (Nat → Int32) × Int32) ⊕ (Int32 × Int32 × Int32 × (Nat → Int32) × (Nat → Int32) × (Nat → Int32) × Int32)) : Prop := (∃ u, v = Sum.inl u ∧ u.1 = nI (fb_ct (hit f n h c g) (pE c + 1)) ∧ FA f n h c g k (pE c + 1) = -1) ∨ ∃ u, v = Sum.inr u ∧ u.1 = FA f n h c g k (pE c + 1) ∧ k ≠ -1
theorem sC_foundNext {j : Nat} (c4 : c ≤ 4) (jl : j ≤ pE c) (hw : ∀ i, i < c → w i = nI (prw c j i)) (hf : FA f n h c g k (j + 1) = -1) (e a : Nat → Int32) (cnt : Int32) : pw (fX5_found_J129L53 (nI (fb_ct (hit f n h c g) (j + 1))) (nI j) (nI c) w e a cnt) (Sum.elim (fun s' => j < pE c + 1 ∧ fdI f n h c g k (j + 1) s') (fdP f n h c g k)) := by
  unfold fX5_found_J129L53
  refine pw_bind (sC_adv c4 (prw_ok c j) hw) ?_
  rw [show (nI j + (1 : Int32)) = nI (j + 1) from nI_add j 1]
  rintro ⟨t, w2⟩ (⟨l0, t0⟩ | ⟨l1, t1, hw2⟩)
  · have t0 : t = 0 := t0
    subst t0
    have : j = pE c := by
      rcases Nat.lt_or_ge j (pE c) with y | y
      · exact absurd l0 (pE_no y)
      · omega
    refine pw_in ⟨by omega, w2, e, a, cnt, by rw [if_neg (by omega)], hf, fun z => by omega⟩
  · have t1 : t = 1 := t1
    subst t1
    have jl : j < pE c := by
      rcases Nat.lt_or_ge j (pE c) with y | y
      · exact y
      · exact absurd (by rw [show j = pE c by omega]; exact pE_at c4) l1
    exact pw_in ⟨by omega, w2, e, a, cnt, by rw [if_pos (show j + 1 ≤ pE c by omega)], hf, fun _ => hw2⟩
theorem sC_foundLoop (g0 : gok f n) (hG : CG f n P I O C Z) (h1 : h ≤ 1) (h2 : 2 * h + c ≤ 4) (hw : ∀ i, i < c → w i = nI (prw c 0 i)) (e a : Nat → Int32) (cnt : Int32) : pw (pz_iter (fun (σ : Int32 × Int32 × Int32 × (Nat → Int32) × (Nat → Int32) × (Nat → Int32) × Int32) => fX5_found_L53 g k 1 (nI (gz f n)) P I O Z (nI h) (nI c) σ.1 σ.2.1 σ.2.2.1 σ.2.2.2.1 σ.2.2.2.2.1 σ.2.2.2.2.2.1 σ.2.2.2.2.2.2) pz_FUEL ((0 : Int32), (1 : Int32), (0 : Int32), w, e, a, cnt)) (fdP f n h c g k) := by
  have c4 : c ≤ 4 := by omega
  have el := pE_lt c4
  have hz := gz_le g0
  refine pw_run (fdI f n h c g k) 0 (pE c + 1) (by omega) ⟨w, e, a, cnt, by rw [if_pos (Nat.zero_le _)]; rfl, rfl, fun _ => hw⟩ (Nat.zero_le _) ?_
  rintro j _ hj ⟨w, e, a, cnt, rfl, i1, i2⟩
  show pw (fX5_found_L53 g k 1 (nI (gz f n)) P I O Z (nI h) (nI c) (nI (fb_ct (hit f n h c g) j)) (if j ≤ pE c then 1 else 0) (nI j) w e a cnt) _
  unfold fX5_found_L53
  by_cases jl : j ≤ pE c
  · have hw := i2 jl
    have hs := sok_prw h1 h2 j
    have cl := fb_ct_le (hit f n h c g) j
    rw [if_pos jl]
    refine pw_F (c := (1 : Int32) = 0) (by decide) (pw_le (a := 10000) (by decide) (by omega) (fun z => absurd z (by omega)) (fun _ => ?_))
    refine pw_eq (sC_genusOver hz hs ⟨rfl, rfl, hw⟩) (pw_if (fun y => ?_) (fun y => ?_))
    · refine pw_bind (sC_find1 g0 hG hs hw e a) ?_
      rintro ⟨e2, a2, n2⟩ hn
      have hn : n2 = _ := hn
      by_cases z : 0 < tot f n h c (prw c j)
      · rw [if_pos z] at hn
        subst hn
        have ht : hit f n h c g j = true := decide_eq_true ⟨y, z⟩
        refine pw_eq (show fX2_has (0 : Int32) (1 : Int32) = some 1 by decide) (pw_F (c := (1 : Int32) = 0) (by decide) (pw_if (fun x => ?_) (fun x => ?_)))
        · refine pw_eq (sC_periodDigits hs hw) (pw_out (Or.inr ⟨_, rfl, ?_, ?_⟩))
          · have := FA_stay ht x (pE c - j) (by omega)
            rw [show j + 1 + (pE c - j) = pE c + 1 by omega] at this
            exact this.symm
          · rw [← x]
            exact nI_m1 (by omega)
        · unfold fX5_found_J117L53
          have := sC_foundNext (g := g) (k := k) (f := f) (n := n) (h := h) c4 jl hw (by rw [FA, if_neg (fun v => x v.2)]; exact i1) e2 a2 1
          rw [fb_ct_succ, ht, if_pos rfl] at this
          rw [show (nI (fb_ct (hit f n h c g) j) + (1 : Int32)) = nI (fb_ct (hit f n h c g) j + 1) from nI_add _ 1]
          exact this
      · rw [if_neg z] at hn
        subst hn
        have ht : hit f n h c g j = false := decide_eq_false (fun v => z v.2)
        refine pw_eq (show fX2_has (0 : Int32) (0 : Int32) = some 0 by decide) (pw_T rfl ?_)
        unfold fX5_found_J117L53
        have := sC_foundNext (g := g) (k := k) (f := f) (n := n) (h := h) c4 jl hw (by rw [FA, ht, if_neg (fun v => nomatch v.1)]; exact i1) e2 a2 0
        rw [fb_ct_succ, ht, if_neg (by decide)] at this
        rw [show (nI (fb_ct (hit f n h c g) j) + (0 : Int32)) = nI (fb_ct (hit f n h c g) j + 0) from nI_add _ 0]
        exact this
    · have ht : hit f n h c g j = false := decide_eq_false (fun v => y v.1)
      have := sC_foundNext (g := g) (k := k) (f := f) (n := n) (h := h) c4 jl hw (by rw [FA, ht, if_neg (fun v => nomatch v.1)]; exact i1) e a cnt
      rw [fb_ct_succ, ht, if_neg (by decide)] at this
      exact this
  · rw [if_neg jl]
    have : j = pE c + 1 := by omega
    exact pw_T rfl (pw_out (Or.inl ⟨_, rfl, by rw [this], by rw [← this]; exact i1⟩))
theorem rs_found (g0 : gok f n) (hT : MT f n T) (hG : CG f n P I O C Z) (x1 x2 x3 x4 sh sc mc hh cc fm fa : Int32) (sp r2 m2 w' dgt : Nat → Int32) : ∃ v u, fX5_found x1 x2 x3 x4 1 (nI (gz f n)) P I O Z sh sc sp r2 m2 mc = some v ∧ fX6_found x1 x2 x3 x4 (nI (gz f n)) T hh cc w' dgt fm fa = some u ∧ v.1 = u.1 ∧ u.2.1 = hh ∧ u.2.2.1 = cc ∧ ∀ i, i < 4 → u.2.2.2.1 i = w' i := by
  have hin1 : fX6_in x1 (0 : Int32) (1 : Int32) = some (if ie x1 2 then 1 else 0) := by
    have := sM_inP (c := 2) x1 (by decide)
    rwa [show nI 2 - (1 : Int32) = 1 from by decide] at this
  have hin2 : fX6_in x2 (0 : Int32) (4 : Int32) = some (if ie x2 5 then 1 else 0) := by
    have := sM_inP (c := 5) x2 (by decide)
    rwa [show nI 5 - (1 : Int32) = 4 from by decide] at this
  have hin3 : fX6_in x3 (0 : Int32) (9 : Int32) = some (if ie x3 10 then 1 else 0) := by
    have := sM_inP (c := 10) x3 (by decide)
    rwa [show nI 10 - (1 : Int32) = 9 from by decide] at this
  have badC : fX5_found x1 x2 x3 x4 1 (nI (gz f n)) P I O Z sh sc sp r2 m2 mc = some ((-2 : Int32), sh, sc, sp, r2, m2, mc) → fX6_found x1 x2 x3 x4 (nI (gz f n)) T hh cc w' dgt fm fa = some ((-2 : Int32), hh, cc, w', dgt, fm, fa) → ∃ v u, fX5_found x1 x2 x3 x4 1 (nI (gz f n)) P I O Z sh sc sp r2 m2 mc = some v ∧ fX6_found x1 x2 x3 x4 (nI (gz f n)) T hh cc w' dgt fm fa = some u ∧ v.1 = u.1 ∧ u.2.1 = hh ∧ u.2.2.1 = cc ∧ ∀ i, i < 4 → u.2.2.2.1 i = w' i := fun q1 q2 => ⟨_, _, q1, q2, rfl, rfl, rfl, fun _ _ => rfl⟩
  have four : ∀ a b : Nat, a < 2 → b < 2 ^ 31 → ((4 : Int32) - nI b < (2 : Int32) * nI a ↔ 4 < 2 * a + b) := fun a b ha hb => by
    have e4 : (4 : Int32).toInt = 4 := by decide
    have e1 : ((2 : Int32) * nI a) = nI (2 * a) := pk_mul 2 a
    rw [e1, fa_lt, nI_toInt (by omega), fb_subI, e4, nI_toInt hb]
    · omega
    · rw [e4, nI_toInt hb]; omega
    · rw [e4, nI_toInt hb]; omega
  by_cases q1 : ie x1 2
  · obtain ⟨h, hl, rfl⟩ := ie_of q1 (by decide)
    have a1 : ¬ (1 : Int32) < nI h := fun y => by have := (nI_ltI (a := 1) (by decide) (by omega)).mp y; omega
    by_cases q2 : ie x2 5
    · obtain ⟨c, cl, rfl⟩ := ie_of q2 (by decide)
      have e2 : ((2 : Int32) * nI h) + nI c = nI (2 * h + c) := by rw [show (2 : Int32) = nI 2 from rfl, pk_mul, nI_add]
      have r4 := four h c (by omega) (by omega)
      have r5 : (4 : Int32) < nI (2 * h + c) ↔ 4 < 2 * h + c := nI_ltI (a := 4) (by decide) (by omega)
      by_cases q3 : 4 < 2 * h + c
      · refine badC ?_ ?_
        · unfold fX5_found
          exact pw_val (pw_F (nI_pos (by omega)) (pw_F a1 (pw_F (nI_pos (by omega)) (pw_T (r4.mpr q3) (pw_some rfl)))))
        · unfold fX6_found
          rw [hin1, hin2, if_pos q1, if_pos q2, e2]
          exact pw_val (pw_eq rfl (pw_F (by decide) (pw_eq rfl (pw_F (by decide) (pw_T (r5.mpr q3) (pw_some rfl))))))
      · by_cases q4 : ie x3 10
        · obtain ⟨gn, gl, rfl⟩ := ie_of q4 (by decide)
          have a3 : nI gn ≤ (9 : Int32) := (nI_leI (b := 9) (by omega) (by decide)).mpr (by omega)
          obtain ⟨s, hs, s1, s2, s3⟩ := sC_start (h := h) (c := c) (by omega) sp
          obtain ⟨v, hv, hvP⟩ := sC_foundLoop (g := nI gn) (k := x4) g0 hG (show h ≤ 1 by omega) (show 2 * h + c ≤ 4 by omega) s3 r2 m2 mc
          obtain ⟨u, hu, huP⟩ := sM_find (g := nI gn) (k := x4) g0 hT (show h ≤ 1 by omega) (show 2 * h + c ≤ 4 by omega) (nI_pos (show gn < 2 ^ 31 by omega)) w' dgt
          have u1 : u.2.2.2.1 = _ := congrArg Prod.fst huP
          have u2 : u.2.2.2.2 = _ := congrArg Prod.snd huP
          have hM : pw (fX6_found (nI h) (nI c) (nI gn) x4 (nI (gz f n)) T hh cc w' dgt fm fa) (fun u => u.1 = (if x4 = -1 then nI (fb_ct (hit f n h c (nI gn)) (pE c + 1)) else FA f n h c (nI gn) x4 (pE c + 1)) ∧ u.2.1 = hh ∧ u.2.2.1 = cc ∧ ∀ i, i < 4 → u.2.2.2.1 i = w' i) := by
            unfold fX6_found
            rw [hin1, hin2, hin3, if_pos q1, if_pos q2, if_pos q4, e2]
            refine pw_eq rfl (pw_F (by decide) (pw_eq rfl (pw_F (by decide) (pw_F (fun y => q3 (r5.mp y)) (pw_eq rfl (pw_F (by decide) (pw_rd (i := 0) (by decide) (by decide) (pw_rd (i := 1) (by decide) (by decide) (pw_rd (i := 2) (by decide) (by decide) (pw_rd (i := 3) (by decide) (by decide) (pw_eq hu (pw_wr (i := 0) (by decide) (by decide) (pw_wr (i := 1) (by decide) (by decide) (pw_wr (i := 2) (by decide) (by decide) (pw_wr (i := 3) (by decide) (by decide) ?_)))))))))))))))
            have back : ∀ i, i < 4 → upd (upd (upd (upd u.2.1 0 (w' 0)) 1 (w' 1)) 2 (w' 2)) 3 (w' 3) i = w' i := fun i hi => by
              rcases (show i = 0 ∨ i = 1 ∨ i = 2 ∨ i = 3 by omega) with rfl | rfl | rfl | rfl <;> simp [upd]
            refine pw_if (fun y => pw_some ⟨?_, rfl, rfl, back⟩) (fun y => pw_some ⟨?_, rfl, rfl, back⟩)
            · rw [if_pos y]; exact u1
            · rw [if_neg y]; exact u2
          have hC : pw (fX5_found (nI h) (nI c) (nI gn) x4 1 (nI (gz f n)) P I O Z sh sc sp r2 m2 mc) (fun v => v.1 = (if x4 = -1 then nI (fb_ct (hit f n h c (nI gn)) (pE c + 1)) else FA f n h c (nI gn) x4 (pE c + 1))) := by
            unfold fX5_found
            refine pw_F (nI_pos (by omega)) (pw_F a1 (pw_F (nI_pos (by omega)) (pw_F (fun y => q3 (r4.mp y)) (pw_F (nI_pos (by omega)) (pw_T a3 (pw_eq hs ?_))))))
            rw [s1, s2]
            refine pw_eq hv ?_
            rcases hvP with ⟨t, rfl, t1, t2⟩ | ⟨t, rfl, t1, t2⟩
            · refine pw_if (fun y => pw_some ?_) (fun y => pw_some ?_)
              · rw [if_pos y]; exact t1
              · rw [if_neg y, t2]
            · refine pw_some ?_
              rw [if_neg t2]; exact t1
          obtain ⟨v', hv', v1⟩ := hC
          obtain ⟨u', hu', w1, w2, w3, w4⟩ := hM
          exact ⟨v', u', hv', hu', by rw [v1, w1], w2, w3, w4⟩
        · refine badC ?_ ?_
          · unfold fX5_found
            refine pw_val (pw_F (nI_pos (by omega)) (pw_F a1 (pw_F (nI_pos (by omega)) (pw_F (fun y => q3 (r4.mp y)) (pw_if (fun y => pw_some rfl) (fun y => pw_F (fun z => q4 ?_) (pw_some rfl)))))))
            obtain ⟨b, b1, rfl⟩ := nI_of y
            have := (nI_leI (b := 9) b1 (by decide)).mp z
            exact (ie_nI b1).mpr (by omega)
          · unfold fX6_found
            rw [hin1, hin2, hin3, if_pos q1, if_pos q2, if_neg q4, e2]
            exact pw_val (pw_eq rfl (pw_F (by decide) (pw_eq rfl (pw_F (by decide) (pw_F (fun y => q3 (r5.mp y)) (pw_eq rfl (pw_T rfl (pw_some rfl))))))))
    · refine badC ?_ ?_
      · unfold fX5_found
        refine pw_val (pw_F (nI_pos (by omega)) (pw_F a1 (pw_if (fun y => pw_some rfl) (fun y => ?_))))
        obtain ⟨b, b1, rfl⟩ := nI_of y
        have : ¬ b < 5 := fun z => q2 ((ie_nI b1).mpr z)
        exact pw_T ((four h b (by omega) b1).mpr (by omega)) (pw_some rfl)
      · unfold fX6_found
        rw [hin1, hin2, if_pos q1, if_neg q2]
        exact pw_val (pw_eq rfl (pw_F (by decide) (pw_eq rfl (pw_T rfl (pw_some rfl)))))
  · refine badC ?_ ?_
    · unfold fX5_found
      refine pw_val (pw_if (fun y => pw_some rfl) (fun y => pw_if (fun z => pw_some rfl) (fun z => ?_)))
      obtain ⟨b, b1, rfl⟩ := nI_of y
      have : ¬ 1 < b := fun v => z ((nI_ltI (a := 1) (by decide) b1).mpr v)
      exact absurd ((ie_nI b1).mpr (by omega)) q1
    · unfold fX6_found
      rw [hin1, if_neg q1]
      exact pw_val (pw_eq rfl (pw_T rfl (pw_some rfl)))
end FOUND2
