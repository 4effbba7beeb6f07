theorem two_bits (S a b : Nat) : ((S >>> a) &&& (S >>> b)) &&& 1 = 1 ↔ (S.testBit a && S.testBit b) = true := by
  have h : (((S >>> a) &&& (S >>> b)) >>> 0) &&& 1 = 1 ↔ ((S >>> a) &&& (S >>> b)).testBit 0 = true := bz_bit _ 0
  rw [Nat.shiftRight_zero] at h
  rw [h, Nat.testBit_and, Nat.testBit_shiftRight, Nat.testBit_shiftRight, Nat.add_zero, Nat.add_zero]
theorem orf_false {n : Nat} : ∀ {m : Nat}, orf m (fun _ => 0) = 0 ∨ n = n
  | _ => Or.inr rfl
theorem orf_zero : ∀ {m : Nat} {g : Nat → Nat}, (∀ k, k < m → g k = 0) → orf m g = 0
  | 0, _, _ => rfl
  | m + 1, g, h => by rw [orf, orf_zero (fun k hk => h k (by omega)), h m (by omega)]; rfl
theorem two_pow_lt {a z : Nat} (h : a < z) : 2 ^ a < 2 ^ z := Nat.pow_lt_pow_right (by decide) h
theorem pws_lt {f n : Nat} (h : gok f n) {a S : Nat} (ha : a < gz f n) : pws f n a S < 2 ^ gz f n := by
  unfold pws
  refine orf_lt (fun k hk => ?_)
  by_cases q : S.testBit k = true
  · rw [if_pos q]; exact two_pow_lt (gm_lt h ha hk)
  · rw [if_neg q]; exact Nat.two_pow_pos _
theorem pss_lt {f n : Nat} (h : gok f n) {S T : Nat} : pss f n S T < 2 ^ gz f n := by
  unfold pss
  refine orf_lt (fun k hk => ?_)
  by_cases q : S.testBit k = true
  · rw [if_pos q]; exact pws_lt h hk
  · rw [if_neg q]; exact Nat.two_pow_pos _
theorem gz_pow {f n : Nat} (h : gok f n) : 2 ^ gz f n ≤ 256 := by
  have : 2 ^ gz f n ≤ 2 ^ 8 := Nat.pow_le_pow_right (by decide) (gz_le h)
  omega
theorem gs_at {f n : Nat} (h : gok f n) {S : Nat} (hS : S < 2 ^ gz f n) : (gs f n S ||| pss f n (gs f n S) (gs f n S)) = gs f n S ∧ gs f n S < 2 ^ gz f n := by
  have := allB_at (allG_at gs_chk h) S hS
  simp only [Bool.and_eq_true, beq_iff_eq, decide_eq_true_eq] at this
  exact this
section MG2
variable {f n : Nat} {T : Nat → Int32}
theorem sM_span_row (h : gok f n) (hT : MT f n T) {a S X : Nat} (ha : a < gz f n) (hS : S < 2 ^ 31) : pz_iter (fun (σ : Int32 × Int32) => fX6_spanOf_L28 (nI S) (nI a) (nI (gz f n)) T σ.1 σ.2) pz_FUEL (nI X, (0 : Int32)) = some (nI (X ||| if S.testBit a then pws f n a S else 0)) := by
  have hz := gz_le h
  refine pw_val (pw_run (fun i s => s = (nI (X ||| orf i (fun b => if (S.testBit a && S.testBit b) = true then 2 ^ gm f n a b else 0)), nI i)) 0 (gz f n) (by omega) (by rw [orf, Nat.or_zero]; rfl) (Nat.zero_le _) ?_)
  rintro i _ hi rfl
  show pw (fX6_spanOf_L28 (nI S) (nI a) (nI (gz f n)) T (nI (X ||| orf i _)) (nI i)) _
  unfold fX6_spanOf_L28
  refine pw_le (by omega) (by omega) (fun q => pw_out ?_) (fun hi => ?_)
  · rw [show i = gz f n by omega]
    congr 2
    by_cases q : S.testBit a = true
    · rw [if_pos q]; simp only [q, Bool.true_and]; rfl
    · rw [if_neg q]
      refine orf_zero (fun k hk => ?_)
      simp [q]
  · rw [show (nI S >>> (nI a &&& 31)) = nI (S >>> a) from bz_shr hS (by omega), show (nI S >>> (nI i &&& 31)) = nI (S >>> i) from bz_shr hS (by omega), fa_and, show (1 : Int32) = nI 1 from rfl, fa_and]
    refine pw_eqn (by rw [Nat.and_one_is_mod]; omega) (by decide) (fun q => ?_) (fun q => ?_)
    · rw [two_bits] at q
      refine pw_eq (sM_product h hT ha hi) ?_
      unfold fX6_spanOf_J67L28
      have hl := gm_lt h ha hi
      refine pw_in ⟨hi, ?_⟩
      rw [show nI 1 <<< (nI (gm f n a i) &&& 31) = nI (1 <<< gm f n a i) from bz_shl 1 (by omega), Nat.one_shiftLeft, fa_or, show (nI i + (1 : Int32)) = nI (i + 1) from nI_add i 1, orf, if_pos q, Nat.or_assoc]
    · rw [two_bits] at q
      unfold fX6_spanOf_J67L28
      refine pw_in ⟨hi, ?_⟩
      rw [show (0 : Int32) = nI 0 from rfl, fa_or, show (nI i + (1 : Int32)) = nI (i + 1) from nI_add i 1, orf, if_neg q, Nat.or_zero, Nat.or_zero]
theorem sM_span_step (h : gok f n) (hT : MT f n T) {S : Nat} (hS : S < 2 ^ 31) : pz_iter (fun (σ : Int32 × Int32) => fX6_spanOf_L16 (nI S) (nI (gz f n)) T σ.1 σ.2) pz_FUEL (nI S, (0 : Int32)) = some (nI (S ||| pss f n S S)) := by
  have hz := gz_le h
  refine pw_val (pw_run (fun i s => s = (nI (S ||| orf i (fun a => if S.testBit a then pws f n a S else 0)), nI i)) 0 (gz f n) (by omega) (by rw [orf, Nat.or_zero]; rfl) (Nat.zero_le _) ?_)
  rintro i _ hi rfl
  show pw (fX6_spanOf_L16 (nI S) (nI (gz f n)) T (nI (S ||| orf i _)) (nI i)) _
  unfold fX6_spanOf_L16
  refine pw_le (by omega) (by omega) (fun q => pw_out ?_) (fun hi => ?_)
  · rw [show i = gz f n by omega]; rfl
  · refine pw_eq (sM_span_row h hT hi hS) (pw_in ⟨hi, ?_⟩)
    rw [show (nI i + (1 : Int32)) = nI (i + 1) from nI_add i 1, orf, Nat.or_assoc]
theorem msp_fix {S : Nat} (hS : (S ||| pss f n S S) = S) : ∀ k, msp f n k S = S
  | 0 => rfl
  | k + 1 => by rw [msp, if_pos hS]
theorem sM_spanOf (h : gok f n) (hT : MT f n T) {S : Nat} (hS : S < 2 ^ gz f n) : fX6_spanOf (nI S) (nI (gz f n)) T = some (nI (gs f n S)) := by
  have hz := gz_le h
  have hp := gz_pow h
  have hz0 := gz_pos h
  obtain ⟨g1, g2⟩ := gs_at h hS
  unfold fX6_spanOf
  refine pw_val (pw_bind (R := fun v => v = nI (gs f n S)) ?_ (fun t ht => pw_some ht))
  have h1 : (S ||| 1) < 2 ^ gz f n := Nat.or_lt_two_pow hS (Nat.one_lt_two_pow (by omega))
  have e1 : (nI S ||| (1 : Int32)) = nI (S ||| 1) := fa_or S 1
  rw [e1]
  refine pw_run (fun k s => ∃ now had : Nat, s = (nI now, nI had) ∧ now < 2 ^ gz f n ∧ had < 2 ^ gz f n ∧ now ≠ 0 ∧ msp f n (4 - k) now = gs f n S ∧ (k = 0 → had = 0) ∧ (0 < k → now = (had ||| pss f n had had)) ∧ (k = 5 → now = had)) 0 5 (by decide) ⟨S ||| 1, 0, rfl, h1, Nat.two_pow_pos _, ?_, rfl, fun _ => rfl, fun q => absurd q (by decide), fun q => absurd q (by decide)⟩ (by decide) ?_
  · intro q
    have := congrArg (fun x => x.testBit 0) q
    simp at this
  · rintro k _ hk ⟨now, had, rfl, hn, hh, hn0, hm, hk0, hk1, hk5⟩
    show pw (fX6_spanOf_L6 (nI (gz f n)) T (nI now) (nI had)) _
    unfold fX6_spanOf_L6
    refine pw_eqn (by omega) (by omega) (fun q => pw_out ?_) (fun q => ?_)
    · subst q
      have hkp : 0 < k := by
        rcases Nat.eq_zero_or_pos k with z | z
        · exact absurd (hk0 z) hn0
        · exact z
      rw [← hm, msp_fix (hk1 hkp).symm]
    · refine pw_eq (sM_span_step h hT (by omega)) (pw_in ?_)
      have hk4 : k < 5 := by
        rcases Nat.lt_or_ge k 5 with z | z
        · exact z
        · exact absurd (hk5 (by omega)) q
      refine ⟨hk4, _, now, rfl, Nat.or_lt_two_pow hn (pss_lt h), hn, ?_, ?_, fun z => by omega, fun _ => rfl, fun z => ?_⟩
      · intro z
        apply hn0
        have w : now ≤ (now ||| pss f n now now) := Nat.left_le_or
        rw [z] at w; omega
      · rcases (show k = 4 ∨ k < 4 by omega) with rfl | z
        · have hm : now = gs f n S := hm
          rw [hm, g1]; rfl
        · rw [show 4 - k = (4 - (k + 1)) + 1 by omega, msp] at hm
          by_cases z2 : (now ||| pss f n now now) = now
          · rw [if_pos z2] at hm
            rw [z2, msp_fix z2, hm]
          · rw [if_neg z2] at hm; exact hm
      · have hm : msp f n (4 - k) now = gs f n S := hm
        rw [show 4 - k = 0 by omega] at hm
        have hm : now = gs f n S := hm
        rw [hm]; exact g1
def isub (f n S : Nat) : Bool := gs f n S == S
theorem sM_isSubgroup (h : gok f n) (hT : MT f n T) (x : Int32) : fX6_isSubgroup x (nI (gz f n)) T = some (if ∃ S, S < 2 ^ gz f n ∧ x = nI S ∧ isub f n S = true then 1 else 0) := by
  unfold fX6_isSubgroup
  have hp := gz_pow h
  by_cases hx : ie x (2 ^ gz f n)
  · obtain ⟨S, hS, rfl⟩ := ie_of hx (by omega)
    have g2 := (gs_at h hS).2
    refine pw_val (pw_eq (sM_isSet _ (gz_le h)) ?_)
    rw [if_pos hx]
    refine pw_F (by decide) (pw_eq (sM_spanOf h hT hS) (pw_eqn (by omega) (by omega) (fun q => pw_some ?_) (fun q => pw_some ?_)))
    · rw [if_pos ⟨S, hS, rfl, by simp [isub, q]⟩]
    · rw [if_neg]
      rintro ⟨S', hS', e, hi⟩
      have e := (nI_eq (by omega) (by omega)).mp e
      subst e
      exact q (by simpa [isub] using hi)
  · refine pw_val (pw_eq (sM_isSet _ (gz_le h)) ?_)
    rw [if_neg hx]
    refine pw_T rfl (pw_some ?_)
    rw [if_neg]
    rintro ⟨S, hS, rfl, -⟩
    exact hx ((ie_nI (by omega)).mpr hS)
def inorm (f n S : Nat) : Bool := allB (gz f n) (fun a => !S.testBit a || allB (gz f n) (fun b => S.testBit (gc f n a b)))
theorem allB_iff {p : Nat → Bool} : ∀ {n : Nat}, allB n p = true ↔ ∀ i, i < n → p i = true
  | 0 => ⟨fun _ i hi => absurd hi (Nat.not_lt_zero i), fun _ => rfl⟩
  | n + 1 => ⟨fun h i hi => allB_at h i hi, fun h => by rw [allB, Bool.and_eq_true]; exact ⟨h n (by omega), allB_iff.mpr (fun i hi => h i (by omega))⟩⟩
theorem allB_not {p : Nat → Bool} {n i : Nat} (hi : i < n) (h : p i = false) : allB n p = false := by
  cases e : allB n p with
  | false => rfl
  | true => rw [allB_at e i hi] at h; cases h
theorem sM_isNormal (h : gok f n) (hT : MT f n T) {S : Nat} (hS : S < 2 ^ 31) : fX6_isNormal (nI S) (nI (gz f n)) T = some (bi (inorm f n S)) := by
  have hz := gz_le h
  unfold fX6_isNormal
  refine pw_val (pw_bind (R := fun v => v = if inorm f n S then Sum.inl () else Sum.inr 0) ?_ (fun t ht => ?_))
  · refine pw_run (fun i s => s = nI i ∧ ∀ a, a < i → (!S.testBit a || allB (gz f n) (fun b => S.testBit (gc f n a b))) = true) 0 (gz f n) (by omega) ⟨rfl, fun a ha => absurd ha (Nat.not_lt_zero a)⟩ (Nat.zero_le _) ?_
    rintro i _ hi ⟨rfl, hI⟩
    show pw (fX6_isNormal_L2 (nI S) (nI (gz f n)) T (nI i)) _
    unfold fX6_isNormal_L2
    refine pw_le (by omega) (by omega) (fun q => pw_out ?_) (fun hi => ?_)
    · have e : inorm f n S = true := allB_iff.mpr (fun a ha => hI a (by omega))
      rw [e]; rfl
    · refine pw_bind (R := fun v => v = if (!S.testBit i || allB (gz f n) (fun b => S.testBit (gc f n i b))) then Sum.inl () else Sum.inr (Sum.inr (Sum.inr 0))) ?_ ?_
      · refine pw_run (fun j s => s = nI j ∧ ∀ b, b < j → S.testBit i = true → S.testBit (gc f n i b) = true) 0 (gz f n) (by omega) ⟨rfl, fun a ha => absurd ha (Nat.not_lt_zero a)⟩ (Nat.zero_le _) ?_
        rintro j _ hj ⟨rfl, hJ⟩
        show pw (fX6_isNormal_L12 (nI S) (nI i) (nI (gz f n)) T (nI j)) _
        unfold fX6_isNormal_L12
        refine pw_le (by omega) (by omega) (fun q => pw_out ?_) (fun hj => ?_)
        · rw [if_pos]
          cases hb : S.testBit i with
          | false => rfl
          | true => exact allB_iff.mpr (fun b hb2 => hJ b (by omega) hb)
        · refine pw_bit hS (by omega) (fun q => ?_) (fun q => ?_)
          · refine pw_eq (sM_turned h hT hi hj) ?_
            have hl := gc_lt h hi hj
            refine pw_bit0 hS (by omega) (fun q2 => pw_out ?_) (fun q2 => ?_)
            · rw [if_neg]
              rw [q, allB_not hj q2]
              simp
            · unfold fX6_isNormal_J44L12
              refine pw_in ⟨hj, nI_add j 1, fun b hb hq => ?_⟩
              rcases (show b < j ∨ b = j by omega) with z | rfl
              · exact hJ b z hq
              · exact q2
          · unfold fX6_isNormal_J44L12
            refine pw_in ⟨hj, nI_add j 1, fun b hb hq => ?_⟩
            rw [q] at hq; cases hq
      · rintro t rfl
        cases e : (!S.testBit i || allB (gz f n) (fun b => S.testBit (gc f n i b))) with
        | true =>
          refine pw_in ⟨hi, nI_add i 1, fun a ha => ?_⟩
          rcases (show a < i ∨ a = i by omega) with z | rfl
          · exact hI a z
          · exact e
        | false =>
          refine pw_out ?_
          have e2 : inorm f n S = false := allB_not hi e
          rw [e2]; rfl
  · subst ht
    cases inorm f n S with
    | true => exact pw_some rfl
    | false => exact pw_some rfl
def pc (S : Nat) : Nat := fb_ct (fun i => S.testBit i) 8
theorem sM_ones {S : Nat} (hS : S < 256) : fX6_ones (nI S) = some (nI (pc S)) := by
  have : allB 256 (fun S => decide (fX6_ones (nI S) = some (nI (pc S)))) = true := by decide +kernel
  simpa using allB_at this S hS
theorem sC_bitCount {S : Nat} (hS : S < 256) : fJ6_bitCount_0f7a4 (nI S) = some (nI (pc S)) := by
  have : allB 256 (fun S => decide (fJ6_bitCount_0f7a4 (nI S) = some (nI (pc S)))) = true := by decide +kernel
  simpa using allB_at this S hS
end MG2
