/-! WHAT COMPLETES A PREFIX; the search -/
def cmp (f n h c : Nat) (d : Nat → Nat) : Nat := if c = 0 then cd (2 * h) d else cd (2 * h + c) (fu d (2 * h + c - 1) (gi f n (rpr f n h d (c - 1))))
def iM (f n h c : Nat) (p : Nat → Nat) (x : Nat) : Bool := decide (x < 10 ^ (2 * h + c)) && isM f n h c p x
section CMP
variable {f n h c : Nat} {p d : Nat → Nat} {P I O C Z T e w : Nat → Int32}
theorem cmp_dg (g : gok f n) (hs : sok h c p) (hd : ∀ i, i < fr h c → d i < gz f n) : cmp f n h c d < 10 ^ (2 * h + c) ∧ (∀ i, i < 2 * h + c → dg (2 * h + c) (cmp f n h c d) i < gz f n) ∧ (∀ i, i < fr h c → dg (2 * h + c) (cmp f n h c d) i = d i) ∧ (0 < c → dg (2 * h + c) (cmp f n h c d) (2 * h + c - 1) = gi f n (rpr f n h d (c - 1))) := by
  obtain ⟨q1, q2, q3, q4⟩ := fr_le hs
  obtain ⟨s1, s2, s3⟩ := id hs
  have hz := gz_le g
  unfold cmp
  by_cases q : c = 0
  · subst q
    rw [if_pos rfl]
    rw [q3 rfl] at hd ⊢
    have t : ∀ i, i < 2 * h → d i < 10 := fun i hi => by have := hd i hi; omega
    exact ⟨cd_lt (2 * h) t, fun i hi => by rw [show dg (2 * h + 0) (cd (2 * h) d) i = d i from dg_cd (2 * h) t i hi]; exact hd i hi, fun i hi => dg_cd (2 * h) t i hi, fun z => absurd z (Nat.lt_irrefl 0)⟩
  · rw [if_neg q]
    have q5 := q4 (by omega)
    have rl : rpr f n h d (c - 1) < gz f n := rpr_lt g hd s1 (c - 1) (by omega)
    have gl := (gi_ok g rl).1
    have t0 : ∀ i, i < 2 * h + c → fu d (2 * h + c - 1) (gi f n (rpr f n h d (c - 1))) i < gz f n := by
      intro i hi
      by_cases r : i = 2 * h + c - 1
      · rw [r, fu_s]; exact gl
      · rw [fu_n r]; exact hd i (by omega)
    have t : ∀ i, i < 2 * h + c → fu d (2 * h + c - 1) (gi f n (rpr f n h d (c - 1))) i < 10 := fun i hi => by have := t0 i hi; omega
    refine ⟨cd_lt _ t, fun i hi => by rw [dg_cd _ t i hi]; exact t0 i hi, fun i hi => ?_, fun _ => ?_⟩
    · rw [dg_cd _ t i (by omega), fu_n (by omega)]
    · rw [dg_cd _ t _ (by omega), fu_s]
theorem good_of {L : Nat} {d : Nat → Nat} (h : ∀ i, i < L → d i < gz f n) : good f n L d = true := allB_iff.mpr (fun i hi => by simpa using h i hi)
theorem isM_good {x : Nat} (hd : ∀ i, i < 2 * h + c → dg (2 * h + c) x i < gz f n) : isM f n h c p x = (rord f n h p (dg (2 * h + c) x) c && (rpr f n h (dg (2 * h + c) x) c == 0) && rwh f n (2 * h + c) (dg (2 * h + c) x)) := by
  unfold isM kdx kd
  rw [if_pos (good_of hd)]
  cases rord f n h p (dg (2 * h + c) x) c && (rpr f n h (dg (2 * h + c) x) c == 0) with
  | false => rfl
  | true =>
    rw [if_pos rfl]
    cases rwh f n (2 * h + c) (dg (2 * h + c) x) with
    | false => rfl
    | true => rfl
theorem isM_at {x : Nat} (hx : isM f n h c p x = true) : (∀ i, i < 2 * h + c → dg (2 * h + c) x i < gz f n) ∧ rord f n h p (dg (2 * h + c) x) c = true ∧ rpr f n h (dg (2 * h + c) x) c = 0 ∧ rwh f n (2 * h + c) (dg (2 * h + c) x) = true := by
  have hg : good f n (2 * h + c) (dg (2 * h + c) x) = true := by
    cases q : good f n (2 * h + c) (dg (2 * h + c) x) with
    | true => rfl
    | false =>
      unfold isM kdx at hx
      rw [q, if_neg (by decide)] at hx
      exact absurd hx (by decide)
  have hd := fun i hi => good_at hg (i := i) hi
  rw [isM_good hd, Bool.and_eq_true, Bool.and_eq_true] at hx
  exact ⟨hd, hx.1.1, by simpa using hx.1.2, hx.2⟩
theorem gi_uniq (g : gok f n) {a b : Nat} (ha : a < gz f n) (hb : b < gz f n) (h : gm f n a b = 0) : b = gi f n a := by
  obtain ⟨i1, i2, i3⟩ := gi_ok g ha
  have : gm f n (gi f n a) (gm f n a b) = b := by rw [← gm_as g i1 ha hb, i3, (gm_0 g hb).1]
  rw [← this, h, (gm_0 g i1).2]
theorem cmp_uniq (g : gok f n) (hs : sok h c p) {x : Nat} (hx : x < 10 ^ (2 * h + c)) (hm : isM f n h c p x = true) (hp : ∀ i, i < fr h c → dg (2 * h + c) x i = d i) : x = cmp f n h c d := by
  obtain ⟨q1, q2, q3, q4⟩ := fr_le hs
  obtain ⟨s1, s2, s3⟩ := id hs
  obtain ⟨m1, m2, m3, m4⟩ := isM_at hm
  rw [← cd_dg s2 hx]
  unfold cmp
  by_cases q : c = 0
  · subst q
    rw [if_pos rfl]
    exact cd_cong (2 * h) (fun i hi => hp i (by rw [q3 rfl]; exact hi))
  · rw [if_neg q]
    have q5 := q4 (by omega)
    refine cd_cong _ (fun i hi => ?_)
    by_cases r : i = 2 * h + c - 1
    · rw [r, fu_s, ← rpr_cong s1 (c - 1) (fun i hi => hp i (by omega))]
      have rl := rpr_lt g m1 s1 (c - 1) (by omega)
      refine gi_uniq g rl (m1 _ (by omega)) ?_
      have : rpr f n h (dg (2 * h + c) x) ((c - 1) + 1) = 0 := by rw [show c - 1 + 1 = c by omega]; exact m3
      rw [rpr, show 2 * h + (c - 1) = 2 * h + c - 1 by omega] at this
      exact this
    · rw [fu_n r]; exact hp i (by omega)
theorem sC_completes (g : gok f n) (hG : CG f n P I O C Z) (hs : sok h c p) (hw : ∀ i, i < c → w i = nI (p i)) (he : DG (fr h c) d e) (hd : ∀ i, i < fr h c → d i < gz f n) : pw (fX3_completesMap (nI (gz f n)) P I O Z (nI h) (nI c) w e) (fun v => v.1 = bi (isM f n h c p (cmp f n h c d)) ∧ DG (fr h c) d v.2 ∧ (isM f n h c p (cmp f n h c d) = true → DG (2 * h + c) (dg (2 * h + c) (cmp f n h c d)) v.2)) := by
  obtain ⟨q1, q2, q3, q4⟩ := fr_le hs
  obtain ⟨s1, s2, s3⟩ := id hs
  obtain ⟨c0, c1, c2, c3⟩ := cmp_dg (d := d) g hs hd
  generalize cmp f n h c d = x at c0 c1 c2 c3
  have hz := gz_le g
  have hp8 : ∀ i, i < c → p i ≤ 8 := fun i hi => (s3 i hi).2
  rw [isM_good c1]
  unfold fX3_completesMap
  by_cases q : c = 0
  · subst q
    rw [q3 rfl] at he hd c2 ⊢
    refine pw_F (c := (0 : Int32) ≤ nI 0 - (1 : Int32)) (by decide) ?_
    have he2 : DG (2 * h + 0) (dg (2 * h + 0) x) e := DG_cong he (fun i hi => (c2 i hi).symm)
    have ro : rord f n h p (dg (2 * h + 0) x) 0 = true := rfl
    refine pw_eq (sC_productOfFirst g hG.1 hG.2.1 s1 he2 s2 c1 (k := 0) (Nat.le_refl _)) ?_
    have rl := rpr_lt g c1 s1 0 (Nat.le_refl _)
    refine pw_eqn (b := 0) (by omega) (by decide) (fun r => ?_) (fun r => pw_some ?_)
    · refine pw_eq (sC_isWhole g hG.2.2.2.2 he2 s2 c1) ?_
      rw [ro, r]
      cases rwh f n (2 * h + 0) (dg (2 * h + 0) x) with
      | false => exact pw_T rfl (pw_some ⟨rfl, he, fun z => absurd z (by decide)⟩)
      | true => exact pw_F (by decide) (pw_some ⟨rfl, he, fun _ => he2⟩)
    · rw [ro, show (rpr f n h (dg (2 * h + 0) x) 0 == 0) = false by simpa using r]
      exact ⟨rfl, he, fun z => absurd z (by simp)⟩
  · have q5 := q4 (by omega)
    have e1 : nI c - (1 : Int32) = nI (c - 1) := pk_sub (a := c) (b := 1) (by omega)
    rw [e1]
    refine pw_le (a := 0) (by decide) (by omega) (fun _ => ?_) (fun r => absurd r (Nat.not_lt_zero _))
    refine pw_eq (sC_hasOrders g hG.2.2.1 hw hp8 he (by omega) hd (k := c - 1) (by omega) (by omega)) ?_
    have ro : rord f n h p d (c - 1) = rord f n h p (dg (2 * h + c) x) (c - 1) := rord_cong (fun i hi => (c2 i (by omega)).symm)
    have rp : rpr f n h d (c - 1) = rpr f n h (dg (2 * h + c) x) (c - 1) := rpr_cong s1 (c - 1) (fun i hi => (c2 i (by omega)).symm)
    rw [ro]
    cases r1 : rord f n h p (dg (2 * h + c) x) (c - 1) with
    | false =>
      have : rord f n h p (dg (2 * h + c) x) c = false := by
        unfold rord at r1 ⊢
        cases r2 : allB c (fun i => go f n (dg (2 * h + c) x (2 * h + i)) == p i) with
        | false => rfl
        | true => rw [← r1]; exact (allB_iff.mpr (fun i hi => allB_at r2 i (by omega))).symm
      rw [this]
      exact pw_T rfl (pw_some ⟨rfl, he, fun z => absurd z (by simp)⟩)
    | true =>
      refine pw_F (by decide) (pw_eq (sC_productOfFirst g hG.1 hG.2.1 s1 he (by omega) hd (k := c - 1) (by omega)) ?_)
      have rl : rpr f n h d (c - 1) < gz f n := rpr_lt g hd s1 (c - 1) (by omega)
      refine pw_rd (by omega) (by decide) ?_
      rw [hG.2.1 _ rl]
      rw [show ((2 : Int32) * nI h) + nI (c - 1) = nI (2 * h + c - 1) from by rw [show (2 : Int32) = nI 2 from rfl, pk_mul, nI_add, show 2 * h + (c - 1) = 2 * h + c - 1 by omega]]
      refine pw_wr (by omega) (by decide) ?_
      have heF : DG (fr h c) d (upd e (2 * h + c - 1) (nI (gi f n (rpr f n h d (c - 1))))) := fun i hi => by rw [upd_n (by omega)]; exact he i hi
      have he2 : DG (2 * h + c) (dg (2 * h + c) x) (upd e (2 * h + c - 1) (nI (gi f n (rpr f n h d (c - 1))))) := by
        intro i hi
        by_cases r : i = 2 * h + c - 1
        · rw [r, upd_s, c3 (by omega)]
        · rw [upd_n r, c2 i (by omega)]; exact he i (by omega)
      have pz : rpr f n h (dg (2 * h + c) x) c = 0 := by
        have : rpr f n h (dg (2 * h + c) x) ((c - 1) + 1) = 0 := by
          rw [rpr, show 2 * h + (c - 1) = 2 * h + c - 1 by omega, c3 (by omega), ← rp]
          exact (gi_ok g rl).2.1
        rwa [show c - 1 + 1 = c by omega] at this
      refine pw_eq (sC_hasOrders g hG.2.2.1 hw hp8 he2 s2 c1 (k := c) (Nat.le_refl _) (Nat.le_refl _)) ?_
      rw [pz]
      cases r2 : rord f n h p (dg (2 * h + c) x) c with
      | false => exact pw_T rfl (pw_some ⟨rfl, heF, fun z => absurd z (by simp)⟩)
      | true =>
        refine pw_F (by decide) (pw_eq (sC_isWhole g hG.2.2.2.2 he2 s2 c1) ?_)
        cases r3 : rwh f n (2 * h + c) (dg (2 * h + c) x) with
        | false => exact pw_T rfl (pw_some ⟨rfl, heF, fun z => absurd z (by decide)⟩)
        | true => exact pw_F (by decide) (pw_some ⟨rfl, heF, fun _ => he2⟩)
end CMP
