/-! A MOVE KEEPS WHAT A MAP IS -/
def pM (f n h c : Nat) (p d : Nat → Nat) : Prop := (∀ i, i < 2 * h + c → d i < gz f n) ∧ (∀ i, i < c → go f n (d (2 * h + i)) = p i) ∧ rpr f n h d c = 0 ∧ rwh f n (2 * h + c) d = true
def ps (p : Nat → Nat) (m : Nat) : Nat → Nat := fun i => if i = m - 1 then p m else if i = m then p (m - 1) else p i
section KEEP
variable {f n h c m : Nat} {p d e : Nat → Nat}
theorem rord_iff : rord f n h p d c = true ↔ ∀ i, i < c → go f n (d (2 * h + i)) = p i := by
  unfold rord
  rw [allB_iff]
  constructor
  · intro q i hi; simpa using q i hi
  · intro q i hi; simpa using q i hi
theorem swp_l (hm : 1 ≤ m) : swp f n (2 * h + m) d (2 * h + m - 1) = d (2 * h + m) := by
  unfold swp; rw [fu_n (by omega), fu_s]
theorem swp_r : swp f n (2 * h + m) d (2 * h + m) = gc f n (d (2 * h + m - 1)) (d (2 * h + m)) := by
  unfold swp; rw [fu_s]
theorem swp_o {i : Nat} (h1 : i ≠ 2 * h + m - 1) (h2 : i ≠ 2 * h + m) : swp f n (2 * h + m) d i = d i := by
  unfold swp; rw [fu_n h2, fu_n h1]
theorem swp_rpr (g : gok f n) (h1 : h ≤ 1) (hm : 1 ≤ m) (hmc : m < c) (hd : ∀ i, i < 2 * h + c → d i < gz f n) : ∀ k, m + 1 + k ≤ c → rpr f n h (swp f n (2 * h + m) d) (m + 1 + k) = rpr f n h d (m + 1 + k)
  | 0, hk => by
    obtain ⟨j, rfl⟩ : ∃ j, m = j + 1 := ⟨m - 1, by omega⟩
    have e1 : rpr f n h (swp f n (2 * h + (j + 1)) d) j = rpr f n h d j := rpr_cong h1 j (fun i hi => swp_o (by omega) (by omega))
    have l := swp_l (f := f) (n := n) (h := h) (d := d) hm
    rw [show 2 * h + (j + 1) - 1 = 2 * h + j by omega] at l
    have r := swp_r (f := f) (n := n) (h := h) (d := d) (m := j + 1)
    rw [show 2 * h + (j + 1) - 1 = 2 * h + j by omega] at r
    have da := hd (2 * h + j) (by omega)
    have db := hd (2 * h + (j + 1)) (by omega)
    have rl := rpr_lt g hd h1 j (by omega)
    show rpr f n h (swp f n (2 * h + (j + 1)) d) (j + 1 + 1) = rpr f n h d (j + 1 + 1)
    rw [rpr, rpr, rpr, rpr, e1, l, r, gm_as g rl db (gc_lt g da db), (gc_ok g da db).1, gm_as g rl da db]
  | k + 1, hk => by
    show rpr f n h (swp f n (2 * h + m) d) ((m + 1 + k) + 1) = rpr f n h d ((m + 1 + k) + 1)
    rw [rpr, rpr, swp_rpr g h1 hm hmc hd k (by omega), swp_o (by omega) (by omega)]
theorem swp_pM (g : gok f n) (h1 : h ≤ 1) (hm : 1 ≤ m) (hmc : m < c) (hp : pM f n h c p d) : pM f n h c (ps p m) (swp f n (2 * h + m) d) := by
  obtain ⟨hd, ho, hr, hw⟩ := hp
  have hd' := swp_lt g (show 2 * h + m < 2 * h + c by omega) hd
  have da := hd (2 * h + m - 1) (by omega)
  have db := hd (2 * h + m) (by omega)
  refine ⟨hd', fun i hi => ?_, ?_, ?_⟩
  · unfold ps
    by_cases q : i = m - 1
    · rw [if_pos q, show 2 * h + i = 2 * h + m - 1 by omega, swp_l hm]; exact ho m hmc
    · rw [if_neg q]
      by_cases q2 : i = m
      · rw [if_pos q2, q2, swp_r, (gc_ok g da db).2, show 2 * h + m - 1 = 2 * h + (m - 1) by omega]; exact ho (m - 1) (by omega)
      · rw [if_neg q2, swp_o (by omega) (by omega)]; exact ho i hi
  · have := swp_rpr g h1 hm hmc hd (c - (m + 1)) (by omega)
    rw [show m + 1 + (c - (m + 1)) = c by omega] at this
    rw [this]; exact hr
  · refine rwh_of g hd hd' (fun i hi => ?_) hw
    have mem : ∀ j, j < 2 * h + c → (gs f n (rset (2 * h + c) (swp f n (2 * h + m) d))).testBit (swp f n (2 * h + m) d j) = true := fun j hj => gs_mem (rset_bit.mpr ⟨j, hj, rfl⟩)
    by_cases q2 : i = 2 * h + m
    · have := mem (2 * h + m - 1) (by omega)
      rw [swp_l hm] at this
      rw [q2]; exact this
    · by_cases q : i = 2 * h + m - 1
      · have b := mem (2 * h + m - 1) (by omega)
        have x := mem (2 * h + m) (by omega)
        rw [swp_l hm] at b
        rw [swp_r] at x
        have y := gs_mul g (rset_lt hd') db (gc_lt g da db) b x
        rw [(gc_ok g da db).1] at y
        have z := gs_mul g (rset_lt hd') (gm_lt g da db) (gi_ok g db).1 y (gs_inv g (rset_lt hd') db b)
        rw [gm_as g da db (gi_ok g db).1, (gi_ok g db).2.1, (gm_0 g da).2] at z
        rw [q]; exact z
      · have := mem i hi
        rw [swp_o q q2] at this
        exact this
theorem pM_p {p' : Nat → Nat} (hp : pM f n h c p d) (e : ∀ i, i < c → p i = p' i) : pM f n h c p' d := ⟨hp.1, fun i hi => by rw [← e i hi]; exact hp.2.1 i hi, hp.2.2⟩
theorem gi_hom (g : gok f n) {a x : Nat} (ha : a < gz f n) (hx : x < gz f n) : gc f n (gi f n a) x = gi f n (gc f n a x) := by
  have i1 := (gi_ok g ha).1
  refine gi_uniq g (gc_lt g ha hx) (gc_lt g i1 hx) ?_
  rw [← (gc_hom g ha i1 hx).1, (gi_ok g ha).2.1]
  exact (gc_hom g ha i1 hx).2
theorem cj_rpr (g : gok f n) (h1 : h ≤ 1) {x : Nat} (hx : x < gz f n) (hd : ∀ i, i < 2 * h + c → d i < gz f n) : ∀ k, k ≤ c → rpr f n h (fun i => gc f n (d i) x) k = gc f n (rpr f n h d k) x
  | 0, _ => by
    rw [rpr, rpr]
    by_cases q : h = 1
    · rw [if_pos q, if_pos q]
      have d0 := hd 0 (by omega)
      have d1 := hd 1 (by omega)
      have i0 := (gi_ok g d0).1
      have i1 := (gi_ok g d1).1
      rw [(gc_hom g (gm_lt g d0 d1) (gm_lt g i0 i1) hx).1, (gc_hom g d0 d1 hx).1, (gc_hom g i0 i1 hx).1, gi_hom g d0 hx, gi_hom g d1 hx]
    · rw [if_neg q, if_neg q]
      exact (gc_hom g hx hx hx).2.symm
  | k + 1, hk => by
    rw [rpr, rpr, cj_rpr g h1 hx hd k (by omega), (gc_hom g (rpr_lt g hd h1 k (by omega)) (hd _ (by omega)) hx).1]
theorem g20 (g : gok f n) {a b : Nat} (ha : a < gz f n) (hb : b < gz f n) : gm f n (gm f n (gm f n a b) b) (gm f n (gi f n (gm f n a b)) (gi f n b)) = gm f n (gm f n a b) (gm f n (gi f n a) (gi f n b)) ∧ gm f n (gm f n a (gm f n b a)) (gm f n (gi f n a) (gi f n (gm f n b a))) = gm f n (gm f n a b) (gm f n (gi f n a) (gi f n b)) := by
  have : allE2 (fun f n a b => decide (gm f n (gm f n (gm f n a b) b) (gm f n (gi f n (gm f n a b)) (gi f n b)) = gm f n (gm f n a b) (gm f n (gi f n a) (gi f n b)) ∧ gm f n (gm f n a (gm f n b a)) (gm f n (gi f n a) (gi f n (gm f n b a))) = gm f n (gm f n a b) (gm f n (gi f n a) (gi f n b)))) = true := by decide +kernel
  simpa using allE2_at this g ha hb
theorem rpr_tail {d' : Nat → Nat} (h0 : rpr f n h d' 0 = rpr f n h d 0) (e : ∀ i, 2 * h ≤ i → d' i = d i) : ∀ k, rpr f n h d' k = rpr f n h d k
  | 0 => h0
  | k + 1 => by rw [rpr, rpr, rpr_tail h0 e k, e _ (by omega)]
theorem mvd_pM (g : gok f n) (hs : sok h c p) (hm : imv h c (gz f n) m) (hp : pM f n h c p d) : pM f n h c p (mvd f n h p m d) := by
  obtain ⟨s1, s2, s3⟩ := hs
  have hz := gz_le g
  have hd' := mvd_lt (p := p) (d := d) g hm hp.1 (by omega)
  obtain ⟨hd, ho, hr, hw⟩ := id hp
  unfold mvd at hd' ⊢
  by_cases q : m < 10
  · have m1 : 1 ≤ m ∧ m < c := by unfold imv at hm; omega
    rw [if_pos q] at hd' ⊢
    have a1 := swp_pM g s1 m1.1 m1.2 hp
    by_cases q2 : p (m - 1) = p m
    · rw [if_pos q2]
      refine pM_p a1 (fun i hi => ?_)
      unfold ps
      by_cases r : i = m - 1
      · rw [if_pos r, r, q2]
      · rw [if_neg r]
        by_cases r2 : i = m
        · rw [if_pos r2, r2, q2]
        · rw [if_neg r2]
    · rw [if_neg q2]
      refine pM_p (swp_pM g s1 m1.1 m1.2 a1) (fun i hi => ?_)
      unfold ps
      by_cases r : i = m - 1
      · rw [if_pos r, if_neg (show ¬ m = m - 1 by omega), if_pos rfl, r]
      · rw [if_neg r]
        by_cases r2 : i = m
        · rw [if_pos r2, if_pos rfl, r2]
        · rw [if_neg r2, if_neg r, if_neg r2]
  · rw [if_neg q] at hd' ⊢
    by_cases q2 : m < 20
    · rw [if_pos q2] at hd' ⊢
      have hx : m - 10 < gz f n := by unfold imv at hm; omega
      refine ⟨hd', fun i hi => ?_, ?_, rwh_cj g hd hx hw⟩
      · show go f n (gc f n (d (2 * h + i)) (m - 10)) = p i
        rw [(gc_ok g (hd _ (by omega)) hx).2]; exact ho i hi
      · rw [cj_rpr g s1 hx hd c (Nat.le_refl _), hr]
        exact (gc_hom g hx hx hx).2
    · rw [if_neg q2] at hd' ⊢
      have h1 : h = 1 := by unfold imv at hm; omega
      subst h1
      have d0 := hd 0 (by omega)
      have d1 := hd 1 (by omega)
      have g2 := g20 g d0 d1
      by_cases q3 : m = 20
      · rw [if_pos q3] at hd' ⊢
        refine ⟨hd', fun i hi => by rw [fu_n (by omega)]; exact ho i hi, ?_, ?_⟩
        · rw [rpr_tail (d := d) ?_ (fun i hi => fu_n (by omega)) c]; · exact hr
          rw [rpr, rpr, if_pos rfl, if_pos rfl, fu_s, fu_n (by decide)]; exact g2.1
        · refine rwh_of g hd hd' (fun i hi => ?_) hw
          have mem : ∀ j, j < 2 * 1 + c → (gs f n (rset (2 * 1 + c) (fu d 0 (gm f n (d 0) (d 1))))).testBit (fu d 0 (gm f n (d 0) (d 1)) j) = true := fun j hj => gs_mem (rset_bit.mpr ⟨j, hj, rfl⟩)
          by_cases r : i = 0
          · have a := mem 0 (by omega)
            have b := mem 1 (by omega)
            rw [fu_s] at a
            rw [fu_n (by decide)] at b
            have y := gs_mul g (rset_lt hd') (gm_lt g d0 d1) (gi_ok g d1).1 a (gs_inv g (rset_lt hd') d1 b)
            rw [gm_as g d0 d1 (gi_ok g d1).1, (gi_ok g d1).2.1, (gm_0 g d0).2] at y
            rw [r]; exact y
          · have := mem i hi
            rw [fu_n r] at this
            exact this
      · rw [if_neg q3] at hd' ⊢
        refine ⟨hd', fun i hi => by rw [fu_n (by omega)]; exact ho i hi, ?_, ?_⟩
        · rw [rpr_tail (d := d) ?_ (fun i hi => fu_n (by omega)) c]; · exact hr
          rw [rpr, rpr, if_pos rfl, if_pos rfl, fu_s, fu_n (by decide)]; exact g2.2
        · refine rwh_of g hd hd' (fun i hi => ?_) hw
          have mem : ∀ j, j < 2 * 1 + c → (gs f n (rset (2 * 1 + c) (fu d 1 (gm f n (d 1) (d 0))))).testBit (fu d 1 (gm f n (d 1) (d 0)) j) = true := fun j hj => gs_mem (rset_bit.mpr ⟨j, hj, rfl⟩)
          by_cases r : i = 1
          · have a := mem 1 (by omega)
            have b := mem 0 (by omega)
            rw [fu_s] at a
            rw [fu_n (by decide)] at b
            have y := gs_mul g (rset_lt hd') (gm_lt g d1 d0) (gi_ok g d0).1 a (gs_inv g (rset_lt hd') d0 b)
            rw [gm_as g d1 d0 (gi_ok g d0).1, (gi_ok g d0).2.1, (gm_0 g d1).2] at y
            rw [r]; exact y
          · have := mem i hi
            rw [fu_n r] at this
            exact this
theorem swp_inj (g : gok f n) {L : Nat} (hm : 1 ≤ m) (hmL : 2 * h + m < L) (hd : ∀ i, i < L → d i < gz f n) (he : ∀ i, i < L → e i < gz f n) (q : ∀ i, i < L → swp f n (2 * h + m) d i = swp f n (2 * h + m) e i) : ∀ i, i < L → d i = e i := by
  have a := q (2 * h + m - 1) (by omega)
  rw [swp_l hm, swp_l hm] at a
  have b := q (2 * h + m) hmL
  rw [swp_r, swp_r, a] at b
  intro i hi
  by_cases r2 : i = 2 * h + m
  · rw [r2]; exact a
  · by_cases r : i = 2 * h + m - 1
    · rw [r]; exact gc_inj g (hd _ (by omega)) (he _ (by omega)) (he _ hmL) b
    · have := q i hi
      rw [swp_o r r2, swp_o r r2] at this
      exact this
theorem mvd_inj (g : gok f n) (hs : sok h c p) (hm : imv h c (gz f n) m) (hd : ∀ i, i < 2 * h + c → d i < gz f n) (he : ∀ i, i < 2 * h + c → e i < gz f n) (q : ∀ i, i < 2 * h + c → mvd f n h p m d i = mvd f n h p m e i) : ∀ i, i < 2 * h + c → d i = e i := by
  obtain ⟨s1, s2, s3⟩ := hs
  have hz := gz_le g
  unfold mvd at q
  by_cases r : m < 10
  · have m1 : 1 ≤ m ∧ m < c := by unfold imv at hm; omega
    rw [if_pos r, if_pos r] at q
    have hL : 2 * h + m < 2 * h + c := by omega
    by_cases r2 : p (m - 1) = p m
    · rw [if_pos r2, if_pos r2] at q
      exact swp_inj g m1.1 hL hd he q
    · rw [if_neg r2, if_neg r2] at q
      exact swp_inj g m1.1 hL hd he (swp_inj g m1.1 hL (swp_lt g hL hd) (swp_lt g hL he) q)
  · rw [if_neg r, if_neg r] at q
    by_cases r2 : m < 20
    · rw [if_pos r2, if_pos r2] at q
      exact fun i hi => gc_inj g (hd i hi) (he i hi) (by unfold imv at hm; omega) (q i hi)
    · rw [if_neg r2, if_neg r2] at q
      have h1 : h = 1 := by unfold imv at hm; omega
      subst h1
      by_cases r3 : m = 20
      · rw [if_pos r3, if_pos r3] at q
        intro i hi
        have a := q 1 (by omega)
        rw [fu_n (by decide), fu_n (by decide)] at a
        by_cases r4 : i = 0
        · have b := q 0 (by omega)
          rw [fu_s, fu_s, a] at b
          rw [r4]; exact gm_injR g (hd 0 (by omega)) (he 0 (by omega)) (he 1 (by omega)) b
        · have b := q i hi
          rw [fu_n r4, fu_n r4] at b; exact b
      · rw [if_neg r3, if_neg r3] at q
        intro i hi
        have a := q 0 (by omega)
        rw [fu_n (by decide), fu_n (by decide)] at a
        by_cases r4 : i = 1
        · have b := q 1 (by omega)
          rw [fu_s, fu_s, a] at b
          rw [r4]; exact gm_injR g (hd 1 (by omega)) (he 1 (by omega)) (he 0 (by omega)) b
        · have b := q i hi
          rw [fu_n r4, fu_n r4] at b; exact b
end KEEP
