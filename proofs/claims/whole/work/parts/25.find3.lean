/-! THE SEARCH FOR MAPS, in the class -/
def BB (f n h c j : Nat) : Nat := if c = 0 then bnd (gz f n) (fr h c) j else 10 * bnd (gz f n) (fr h c) j
section FIND3
variable {f n h c : Nat} {p d : Nat → Nat} {P I O C Z T e w : Nat → Int32}
theorem bnd_end {z F j : Nat} (h : ¬ j < z ^ F) : bnd z F j = 10 ^ F := if_neg h
theorem bnd_le {z F j : Nat} (hz : z ≤ 8) (h0 : 0 < z) : bnd z F j ≤ 10 ^ F := by
  unfold bnd
  split
  · exact Nat.le_of_lt (cd_lt F (fun i hi => by have := pd_lt (F := F) (j := j) (i := i) h0; omega))
  · exact Nat.le_refl _
theorem BB_le (g : gok f n) (hs : sok h c p) (j : Nat) : BB f n h c j ≤ 10 ^ (2 * h + c) := by
  obtain ⟨q1, q2, q3, q4⟩ := fr_le hs
  have b := bnd_le (F := fr h c) (j := j) (gz_le g) (gz_pos g)
  unfold BB
  by_cases q : c = 0
  · rw [if_pos q, show 2 * h + c = fr h c by rw [q3 q, q]; rfl]; exact b
  · rw [if_neg q, show 2 * h + c = fr h c + 1 by have := q4 (by omega); omega, Nat.pow_succ]; omega
theorem BB_end (hs : sok h c p) {j : Nat} (hj : ¬ j < gz f n ^ fr h c) : BB f n h c j = 10 ^ (2 * h + c) := by
  obtain ⟨q1, q2, q3, q4⟩ := fr_le hs
  unfold BB
  rw [bnd_end hj]
  by_cases q : c = 0
  · rw [if_pos q, show 2 * h + c = fr h c by rw [q3 q, q]; rfl]
  · rw [if_neg q, show 2 * h + c = fr h c + 1 by have := q4 (by omega); omega, Nat.pow_succ]; omega
theorem BB_gap (g : gok f n) (hs : sok h c p) {j : Nat} (hj : j < gz f n ^ fr h c) : BB f n h c j ≤ cmp f n h c (pd (gz f n) (fr h c) j) ∧ cmp f n h c (pd (gz f n) (fr h c) j) < BB f n h c (j + 1) ∧ ∀ x, BB f n h c j ≤ x → x < BB f n h c (j + 1) → iM f n h c p x = true → x = cmp f n h c (pd (gz f n) (fr h c) j) := by
  obtain ⟨q1, q2, q3, q4⟩ := fr_le hs
  have hz := gz_le g
  have h0 := gz_pos g
  obtain ⟨g1, g2⟩ := gap_at h0 hz q1 hj
  have hd : ∀ i, i < fr h c → pd (gz f n) (fr h c) j i < gz f n := fun i _ => pd_lt h0
  have hb : bnd (gz f n) (fr h c) j = cd (fr h c) (pd (gz f n) (fr h c) j) := if_pos hj
  have dgc := dg_cd (d := pd (gz f n) (fr h c) j) (fr h c) (fun i hi => by have := hd i hi; omega)
  by_cases q : c = 0
  · have qq : 2 * h + c = fr h c := by rw [q3 q, q]; rfl
    have e0 : cmp f n h c (pd (gz f n) (fr h c) j) = bnd (gz f n) (fr h c) j := by
      rw [hb]; unfold cmp; rw [if_pos q, ← q3 q]
    rw [e0]
    unfold BB
    rw [if_pos q, if_pos q]
    refine ⟨Nat.le_refl _, g1, fun x x1 x2 x3 => g2 x x1 x2 (fun i hi => ?_)⟩
    unfold iM at x3
    rw [Bool.and_eq_true] at x3
    have := (isM_at x3.2).1
    rw [qq] at this
    exact this i hi
  · have qq : 2 * h + c = fr h c + 1 := by have := q4 (by omega); omega
    have rl : rpr f n h (pd (gz f n) (fr h c) j) (c - 1) < gz f n := rpr_lt g hd hs.1 (c - 1) (by omega)
    have gl := (gi_ok g rl).1
    have e0 : cmp f n h c (pd (gz f n) (fr h c) j) = bnd (gz f n) (fr h c) j * 10 + gi f n (rpr f n h (pd (gz f n) (fr h c) j) (c - 1)) := by
      rw [hb]; unfold cmp
      rw [if_neg q, show 2 * h + c - 1 = fr h c by omega, qq, cd, fu_s, cd_cong (d := fu _ _ _) (fr h c) (fun i hi => fu_n (by omega))]
    have lo : BB f n h c j = 10 * bnd (gz f n) (fr h c) j := if_neg q
    have hi : BB f n h c (j + 1) = 10 * bnd (gz f n) (fr h c) (j + 1) := if_neg q
    rw [lo, hi]
    refine ⟨by omega, by omega, fun x x1 x2 x3 => ?_⟩
    unfold iM at x3
    rw [Bool.and_eq_true] at x3
    have m1 := (isM_at x3.2).1
    have hx : x < 10 ^ (2 * h + c) := by simpa using x3.1
    have up : ∀ i, i < fr h c → dg (2 * h + c) x i = dg (fr h c) (x / 10) i := fun i hi => by rw [qq]; exact dg_up _ _ _ hi
    have y := g2 (x / 10) (by omega) (by omega) (fun i hi => by rw [← up i hi]; exact m1 i (by omega))
    refine cmp_uniq g hs hx x3.2 (fun i hi => ?_)
    rw [up i hi, y, hb, dgc i hi]
theorem sC_find (g : gok f n) (hG : CG f n P I O C Z) (hs : sok h c p) (hw : ∀ i, i < c → w i = nI (p i)) {R : Nat} (hR0 : 0 < R) (hR : R ≤ 512) (e a : Nat → Int32) : pw (fX2_find R (nI (gz f n)) P I O Z (nI h) (nI c) w e a) (fun v => ∃ k B, v.2.2 = nI k ∧ k = fb_ct (iM f n h c p) B ∧ k ≤ R ∧ (∀ x, x < B → iM f n h c p x = true → v.2.1 (fb_ct (iM f n h c p) x) = nI x) ∧ (B = 10 ^ (2 * h + c) ∨ B ≤ 10 ^ (2 * h + c) ∧ R ≤ k ∧ k < 512)) := by
  obtain ⟨q1, q2, q3, q4⟩ := fr_le hs
  have hz := gz_le g
  have h0 := gz_pos g
  have s2 := hs.2.1
  obtain ⟨b0, b1, b2⟩ := bnd0 h0 hz q1
  have B0 : BB f n h c 0 = 0 := by
    unfold BB
    rw [b0]; split <;> rfl
  have zp : 0 < gz f n ^ fr h c := Nat.pos_of_ne_zero (fun z => by have := Nat.pow_eq_zero.mp z; omega)
  unfold fX2_find
  refine pw_bind (sC_startFree e) (fun t1 ht1 => ?_)
  refine pw_bind (R := fun v => ∃ k B, v.2.2 = nI k ∧ k = fb_ct (iM f n h c p) B ∧ k ≤ R ∧ (∀ x, x < B → iM f n h c p x = true → v.2.1 (fb_ct (iM f n h c p) x) = nI x) ∧ (B = 10 ^ (2 * h + c) ∨ B ≤ 10 ^ (2 * h + c) ∧ R ≤ k ∧ k < 512)) ?_ (fun u hu => pw_some hu)
  refine pw_run (fun j s => ∃ (e' a' : Nat → Int32) (k : Nat), s = ((if j < gz f n ^ fr h c then 1 else 0), nI j, e', a', nI k) ∧ (j < gz f n ^ fr h c → DG (fr h c) (pd (gz f n) (fr h c) j) e') ∧ k = fb_ct (iM f n h c p) (BB f n h c j) ∧ (k ≤ j ∧ k ≤ R) ∧ (∀ x, x < BB f n h c j → iM f n h c p x = true → a' (fb_ct (iM f n h c p) x) = nI x)) 0 (gz f n ^ fr h c) (by omega) ⟨t1, a, 0, by rw [if_pos zp]; rfl, fun _ i hi => by rw [b2 i hi]; exact ht1 i (by omega), by rw [B0]; rfl, ⟨Nat.le_refl _, Nat.zero_le _⟩, fun x hx => by rw [B0] at hx; exact absurd hx (Nat.not_lt_zero x)⟩ (Nat.zero_le _) ?_
  rintro j _ hj ⟨e', a', k, rfl, i1, i2, i3, i4⟩
  show pw (fX2_find_L16 R (nI (gz f n)) P I O Z (nI h) (nI c) w (if j < gz f n ^ fr h c then 1 else 0) (nI j) e' a' (nI k)) _
  unfold fX2_find_L16
  by_cases hl : j < gz f n ^ fr h c
  · rw [if_pos hl]
    refine pw_F (c := (1 : Int32) = 0) (by decide) (pw_le (a := 512) (by decide) (by omega) (fun r => absurd r (by omega)) (fun _ => pw_le (by omega) (by omega) (fun r => pw_out ⟨k, BB f n h c j, rfl, i2, by omega, i4, Or.inr ⟨BB_le g hs j, r, by omega⟩⟩) (fun r => ?_)))
    have hd : ∀ i, i < fr h c → pd (gz f n) (fr h c) j i < gz f n := fun i _ => pd_lt h0
    obtain ⟨g1, g2, g3⟩ := BB_gap (p := p) g hs hl
    obtain ⟨c0, _, _, _⟩ := cmp_dg (d := pd (gz f n) (fr h c) j) g hs hd
    obtain ⟨f1, f2⟩ := fb_ct_gap g1 g2 g3
    refine pw_bind (sC_completes g hG hs hw (i1 hl) hd) ?_
    rintro ⟨y, e2⟩ ⟨y1, y2, y3⟩
    have y1 : y = bi (isM f n h c p (cmp f n h c (pd (gz f n) (fr h c) j))) := y1
    subst y1
    have im : iM f n h c p (cmp f n h c (pd (gz f n) (fr h c) j)) = isM f n h c p (cmp f n h c (pd (gz f n) (fr h c) j)) := by
      unfold iM; simp [c0]
    have fin : ∀ (a2 : Nat → Int32) (k2 : Nat), k2 ≤ j + 1 ∧ k2 ≤ R → k2 = fb_ct (iM f n h c p) (BB f n h c (j + 1)) → (∀ x, x < BB f n h c (j + 1) → iM f n h c p x = true → a2 (fb_ct (iM f n h c p) x) = nI x) → pw (fX2_find_J75L16 (nI j) (nI (gz f n)) (nI h) (nI c) e2 a2 (nI k2)) (Sum.elim (fun s' => j < gz f n ^ fr h c ∧ ∃ (e' a' : Nat → Int32) (k : Nat), s' = ((if j + 1 < gz f n ^ fr h c then 1 else 0), nI (j + 1), e', a', nI k) ∧ (j + 1 < gz f n ^ fr h c → DG (fr h c) (pd (gz f n) (fr h c) (j + 1)) e') ∧ k = fb_ct (iM f n h c p) (BB f n h c (j + 1)) ∧ (k ≤ j + 1 ∧ k ≤ R) ∧ (∀ x, x < BB f n h c (j + 1) → iM f n h c p x = true → a' (fb_ct (iM f n h c p) x) = nI x)) (fun v => ∃ k B, v.2.2 = nI k ∧ k = fb_ct (iM f n h c p) B ∧ k ≤ R ∧ (∀ x, x < B → iM f n h c p x = true → v.2.1 (fb_ct (iM f n h c p) x) = nI x) ∧ (B = 10 ^ (2 * h + c) ∨ B ≤ 10 ^ (2 * h + c) ∧ R ≤ k ∧ k < 512))) := by
      intro a2 k2 w1 w2 w3
      unfold fX2_find_J75L16
      refine pw_bind (sC_advance hs h0 hz hl y2) ?_
      rintro ⟨x, e3⟩ ⟨v1, v2⟩
      have v1 : x = _ := v1
      subst v1
      exact pw_in ⟨hl, e3, a2, k2, by rw [show (nI j + (1 : Int32)) = nI (j + 1) from nI_add j 1], v2, w2, w1, w3⟩
    have old : ∀ x, x < BB f n h c (j + 1) → iM f n h c p x = true → x < BB f n h c j ∨ x = cmp f n h c (pd (gz f n) (fr h c) j) := fun x x1 x2 => by
      rcases Nat.lt_or_ge x (BB f n h c j) with r | r
      · exact Or.inl r
      · exact Or.inr (g3 x r x1 x2)
    cases r2 : isM f n h c p (cmp f n h c (pd (gz f n) (fr h c) j)) with
    | false =>
      rw [r2] at im
      rw [im, if_neg (by decide)] at f2
      refine pw_T rfl (fin a' k (by omega) (by omega) (fun x x1 x2 => ?_))
      rcases old x x1 x2 with r3 | r3
      · exact i4 x r3 x2
      · rw [r3, im] at x2; exact absurd x2 (by decide)
    | true =>
      rw [r2] at im
      rw [im, if_pos rfl] at f2
      refine pw_F (c := bi true = 0) (by decide) (pw_eq (sC_code s2 (y3 r2)) ?_)
      rw [cd_dg s2 c0]
      refine pw_wr r (by omega) ?_
      rw [show (nI k + (1 : Int32)) = nI (k + 1) from nI_add k 1]
      refine fin _ (k + 1) (by omega) (by omega) (fun x x1 x2 => ?_)
      rcases old x x1 x2 with r3 | r3
      · have lt : fb_ct (iM f n h c p) x < k := by
          have := fb_ct_mono (iM f n h c p) (show x + 1 ≤ BB f n h c j from r3)
          rw [fb_ct_succ, x2, if_pos rfl] at this
          omega
        rw [upd_n (by omega)]
        exact i4 x r3 x2
      · rw [r3, f1, ← i2, upd_s]
  · rw [if_neg hl]
    refine pw_T rfl (pw_out ⟨k, BB f n h c j, rfl, i2, by omega, i4, Or.inl (BB_end hs hl)⟩)
end FIND3
