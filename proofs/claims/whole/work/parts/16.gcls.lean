/-! THE CLASS'S GROUP -/
def CG (f n : Nat) (P I O C Z : Nat → Int32) : Prop := MT f n P ∧ (∀ a, a < gz f n → I a = nI (gi f n a)) ∧ (∀ a, a < gz f n → O a = nI (go f n a)) ∧ (∀ a b, a < gz f n → b < gz f n → C (8 * a + b) = nI (gc f n a b)) ∧ (∀ S, S < 2 ^ gz f n → Z S = nI (gs f n S))
def cset (f n a : Nat) : Nat := orf (gz f n) (fun b => 2 ^ gc f n a b)
theorem cset_lt {f n : Nat} (h : gok f n) {a : Nat} (ha : a < gz f n) : cset f n a < 2 ^ gz f n := orf_lt (fun k hk => two_pow_lt (gc_lt h ha hk))
theorem or_two {a o : Nat} (ho : o < 2 ^ a) : 2 ^ a ||| o = 2 ^ a + o := by
  have := Nat.two_pow_add_eq_or_of_lt ho 1
  rw [Nat.mul_one] at this
  exact this.symm
section CGS
variable {f n : Nat} {P I O C Z : Nat → Int32}
theorem sC_product (h : gok f n) (hT : MT f n P) {a b : Nat} (ha : a < gz f n) (hb : b < gz f n) : fX1_product (nI a) (nI b) P = some (nI (gm f n a b)) := by
  have hz := gz_le h
  unfold fX1_product
  simp only [fa_lit, nI_add, pk_mul, fa_and, fa_or, fb_xorI]
  exact pw_val (pw_rd (by omega) (by decide) (pw_some (by rw [Nat.mul_comm]; exact hT a b ha hb)))
theorem sC_sizeByFamily (h : gok f n) : fX1_sizeByFamily (nI f) (nI n) = some (nI (gz f n)) := by
  have : allG (fun f n => decide (fX1_sizeByFamily (nI f) (nI n) = some (nI (gz f n)))) = true := by decide +kernel
  simpa using allG_at this h
theorem sC_multiplied (h : gok f n) {a b : Nat} (ha : a < gz f n) (hb : b < gz f n) : fX1_multiplied (nI a) (nI b) (nI f) (nI n) = some (nI (gm f n a b)) := by
  have : allE2 (fun f n a b => decide (fX1_multiplied (nI a) (nI b) (nI f) (nI n) = some (nI (gm f n a b)))) = true := by decide +kernel
  simpa using allE2_at this h ha hb
theorem sC_isElement (x : Int32) {z : Nat} (hz : z < 2 ^ 31) : fX1_isElement x (nI z) = some (if ie x z then 1 else 0) := by
  unfold fX1_isElement
  have e0 : (0 : Int32).toInt = 0 := by decide
  by_cases h1 : x < 0
  · rw [if_pos h1, if_neg]
    rw [fa_lt, e0] at h1
    unfold ie; omega
  · rw [if_neg h1]
    rw [fa_lt, e0] at h1
    by_cases h2 : nI z ≤ x
    · rw [if_pos h2, if_neg]
      rw [fa_le, nI_toInt hz] at h2
      unfold ie; omega
    · rw [if_neg h2, if_pos]
      rw [fa_le, nI_toInt hz] at h2
      unfold ie; omega
theorem sC_whole {z : Nat} (hz : z ≤ 8) : fX1_whole (nI z) = some (nI (2 ^ z - 1)) := by
  have : allB 9 (fun z => decide (fX1_whole (nI z) = some (nI (2 ^ z - 1)))) = true := by decide +kernel
  simpa using allB_at this z (by omega)
theorem sC_isSet (x : Int32) {z : Nat} (hz : z ≤ 8) : fX1_isSet x (nI z) = some (if ie x (2 ^ z) then 1 else 0) := by
  unfold fX1_isSet
  have hp : 2 ^ z ≤ 2 ^ 8 := Nat.pow_le_pow_right (by decide) hz
  have hp1 : 1 ≤ 2 ^ z := Nat.one_le_two_pow
  have e0 : (0 : Int32).toInt = 0 := by decide
  by_cases h1 : x < 0
  · rw [if_pos h1, if_neg]
    rw [fa_lt, e0] at h1
    unfold ie; omega
  · rw [if_neg h1, sC_whole hz]
    rw [fa_lt, e0] at h1
    show (if nI (2 ^ z - 1) < x then some (0 : Int32) else some 1) = _
    by_cases h2 : nI (2 ^ z - 1) < x
    · rw [if_pos h2, if_neg]
      rw [fa_lt, nI_toInt (by omega)] at h2
      unfold ie; omega
    · rw [if_neg h2, if_pos]
      rw [fa_lt, nI_toInt (by omega)] at h2
      unfold ie; omega
theorem sC_productWithSet (h : gok f n) (hT : MT f n P) {a S : Nat} (ha : a < gz f n) (hS : S < 2 ^ 31) : fX1_productWithSet (nI a) (nI S) (nI (gz f n)) P = some (nI (pws f n a S)) := by
  have hz := gz_le h
  unfold fX1_productWithSet
  refine pw_val (pw_bind (R := fun v => v = nI (pws f n a S)) ?_ (fun t ht => pw_some ht))
  refine pw_run (fun i s => s = (nI (orf i (fun b => if S.testBit b then 2 ^ gm f n a b else 0)), nI i)) 0 (gz f n) (by omega) rfl (Nat.zero_le _) ?_
  rintro i _ hi rfl
  show pw (fX1_productWithSet_L5 (nI a) (nI S) (nI (gz f n)) P (nI (orf i _)) (nI i)) _
  unfold fX1_productWithSet_L5
  refine pw_le (by omega) (by omega) (fun q => pw_out ?_) (fun hi => ?_)
  · rw [show i = gz f n by omega]; rfl
  · refine pw_bit hS (by omega) (fun q => ?_) (fun q => ?_)
    · rw [show (nI a * (8 : Int32)) + nI i = nI (a * 8 + i) from by rw [show (8 : Int32) = nI 8 from rfl, pk_mul, nI_add]]
      refine pw_rd (by omega) (by decide) ?_
      rw [Nat.mul_comm a 8, hT a i ha hi]
      unfold fX1_productWithSet_J41L5
      have hl := gm_lt h ha hi
      refine pw_in ⟨hi, ?_⟩
      rw [show (1 : Int32) <<< (nI (gm f n a i) &&& 31) = nI (1 <<< gm f n a i) from bz_shl 1 (by omega), Nat.one_shiftLeft, fa_or, show (nI i + (1 : Int32)) = nI (i + 1) from nI_add i 1, orf, if_pos q]
    · unfold fX1_productWithSet_J41L5
      refine pw_in ⟨hi, ?_⟩
      rw [show (nI i + (1 : Int32)) = nI (i + 1) from nI_add i 1, orf, q]
      simp
theorem sC_productOfSets (h : gok f n) (hT : MT f n P) {S T : Nat} (hS : S < 2 ^ 31) (hT2 : T < 2 ^ 31) : fX1_productOfSets (nI S) (nI T) (nI (gz f n)) P = some (nI (pss f n S T)) := by
  have hz := gz_le h
  unfold fX1_productOfSets
  refine pw_val (pw_bind (R := fun v => v = nI (pss f n S T)) ?_ (fun t ht => pw_some ht))
  refine pw_run (fun i s => s = (nI (orf i (fun a => if S.testBit a then pws f n a T else 0)), nI i)) 0 (gz f n) (by omega) rfl (Nat.zero_le _) ?_
  rintro i _ hi rfl
  show pw (fX1_productOfSets_L5 (nI S) (nI T) (nI (gz f n)) P (nI (orf i _)) (nI i)) _
  unfold fX1_productOfSets_L5
  refine pw_le (by omega) (by omega) (fun q => pw_out ?_) (fun hi => ?_)
  · rw [show i = gz f n by omega]; rfl
  · refine pw_bit hS (by omega) (fun q => ?_) (fun q => ?_)
    · refine pw_eq (sC_productWithSet h hT hi hT2) ?_
      unfold fX1_productOfSets_J34L5
      refine pw_in ⟨hi, ?_⟩
      rw [fa_or, show (nI i + (1 : Int32)) = nI (i + 1) from nI_add i 1, orf, if_pos q]
    · unfold fX1_productOfSets_J34L5
      refine pw_in ⟨hi, ?_⟩
      rw [show (nI i + (1 : Int32)) = nI (i + 1) from nI_add i 1, orf, q]
      simp
theorem sC_grownToSpan (h : gok f n) (hT : MT f n P) {S : Nat} (hS : S < 2 ^ gz f n) : fX1_grownToSpan (nI S) (nI (gz f n)) P = some (nI (grow f n 8 S)) := by
  have hz := gz_le h
  have hp := gz_pow h
  unfold fX1_grownToSpan
  refine pw_val (pw_bind (R := fun v => v = Sum.inl (nI (grow f n 8 S))) ?_ (fun t ht => by subst ht; exact pw_some rfl))
  refine pw_run (fun k s => ∃ X : Nat, s = (nI X, nI k) ∧ X < 2 ^ gz f n ∧ grow f n (8 - k) X = grow f n 8 S) 0 8 (by decide) ⟨S, rfl, hS, rfl⟩ (by decide) ?_
  rintro k _ hk ⟨X, rfl, hX, hg⟩
  show pw (fX1_grownToSpan_L4 (nI (gz f n)) P (nI X) (nI k)) _
  unfold fX1_grownToSpan_L4
  refine pw_le (a := 8) (by decide) (by omega) (fun q => pw_out ?_) (fun q => ?_)
  · rw [show 8 - k = 0 by omega] at hg
    rw [← hg]; rfl
  · refine pw_eq (sC_productOfSets h hT (by omega) (by omega)) ?_
    have hl := pss_lt h (S := X) (T := X)
    rw [show 8 - k = (8 - (k + 1)) + 1 by omega, grow] at hg
    refine pw_eqn (by omega) (by omega) (fun q2 => pw_out ?_) (fun q2 => pw_in ⟨q, _, ?_, hl, ?_⟩)
    · rw [if_pos q2] at hg
      rw [← hg]
    · rw [show (nI k + (1 : Int32)) = nI (k + 1) from nI_add k 1]
    · rw [if_neg q2] at hg; exact hg
theorem sC_findInverseAndOrder (h : gok f n) (hT : MT f n P) {a : Nat} (ha : a < gz f n) : pw (fX1_findInverseAndOrder (nI a) P I O) (fun v => v.1 a = nI (gi f n a) ∧ v.2 a = nI (go f n a) ∧ ∀ k, k ≠ a → v.1 k = I k ∧ v.2 k = O k) := by
  have hz := gz_le h
  have hg := go_ok h ha
  have hp : 1 ≤ go f n a := by unfold go; omega
  unfold fX1_findInverseAndOrder
  refine pw_wr (by omega) (by decide) ?_
  refine pw_bind (R := fun u => u.1 = nI (go f n a) ∧ u.2 a = nI (gi f n a) ∧ ∀ k, k ≠ a → u.2 k = I k) ?_ ?_
  · refine pw_run (fun i s => ∃ V : Nat → Int32, s = (nI (gpow f n a (i + 1)), nI (i + 1), V) ∧ V a = nI (gpow f n a i) ∧ (∀ k, k ≠ a → V k = I k) ∧ ∀ j, j < i → gpow f n a (j + 1) ≠ 0) 0 (go f n a - 1) (by omega) ⟨upd I a 0, by rw [gpow_1 h ha]; rfl, upd_s _ _ _, fun k hk => upd_n hk, fun j hj => by omega⟩ (Nat.zero_le _) ?_
    rintro i _ hi ⟨V, rfl, hV, hV2, hI⟩
    show pw (fX1_findInverseAndOrder_L11 (nI a) P (nI (gpow f n a (i + 1))) (nI (i + 1)) V) _
    unfold fX1_findInverseAndOrder_L11
    have hl := gpow_lt h ha (i + 1)
    have fin : gpow f n a (i + 1) = 0 → i + 1 = go f n a := fun q => by
      unfold go
      rw [fa_first_eq (i := i) (by omega) (by simp [q]) (fun j hj => by simp [hI j hj])]
    refine pw_eqn (b := 0) (by omega) (by decide) (fun q => pw_out ?_) (fun q => ?_)
    · have e := fin q
      refine ⟨by rw [e], ?_, hV2⟩
      show V a = _
      rw [hV, ← gi_pow h ha, ← e]; rfl
    · have hi2 : i < go f n a - 1 := by
        rcases Nat.lt_or_ge i (go f n a - 1) with z | z
        · exact z
        · exact absurd (by rw [show i + 1 = go f n a by omega]; exact hg.2) q
      refine pw_le (a := 8) (by decide) (by omega) (fun z => by omega) (fun z => ?_)
      refine pw_wr (by omega) (by decide) (pw_eq (sC_product h hT hl ha) (pw_in ⟨hi2, upd V a (nI (gpow f n a (i + 1))), ?_, upd_s _ _ _, fun k hk => (upd_n hk).trans (hV2 k hk), fun j hj => ?_⟩))
      · rw [show (nI (i + 1) + (1 : Int32)) = nI (i + 1 + 1) from nI_add (i + 1) 1]; rfl
      · rcases (show j < i ∨ j = i by omega) with w | rfl
        · exact hI j w
        · exact q
  · rintro ⟨u1, u2⟩ ⟨h1, h2, h3⟩
    refine pw_wr (by omega) (by decide) (pw_some ⟨h2, ?_, fun k hk => ⟨h3 k hk, upd_n hk⟩⟩)
    show upd O a u1 a = _
    rw [upd_s]; exact h1
theorem sC_findConjugates (h : gok f n) (hT : MT f n P) (hI : ∀ a, a < gz f n → I a = nI (gi f n a)) : pw (fX1_findConjugates (nI (gz f n)) P I C) (fun C' => ∀ a b, a < gz f n → b < gz f n → C' (8 * a + b) = nI (gc f n a b)) := by
  have hz := gz_le h
  unfold fX1_findConjugates
  refine pw_bind (R := fun C' => ∀ a b, a < gz f n → b < gz f n → C' (8 * a + b) = nI (gc f n a b)) ?_ (fun t ht => pw_some ht)
  refine pw_run (fun a s => ∃ C', s = (nI a, C') ∧ ∀ a' b', a' < gz f n → b' < gz f n → a' < a → C' (8 * a' + b') = nI (gc f n a' b')) 0 (gz f n) (by omega) ⟨C, rfl, fun a' b' h1 h2 h3 => by omega⟩ (Nat.zero_le _) ?_
  rintro a _ ha ⟨C', rfl, hC⟩
  show pw (fX1_findConjugates_L2 (nI (gz f n)) P I (nI a) C') _
  unfold fX1_findConjugates_L2
  refine pw_le (by omega) (by omega) (fun q => pw_out (fun a' b' h1 h2 => hC a' b' h1 h2 (by omega))) (fun ha => ?_)
  refine pw_bind (R := fun C2 => ∀ a' b', a' < gz f n → b' < gz f n → a' < a + 1 → C2 (8 * a' + b') = nI (gc f n a' b')) ?_ (fun C2 h2 => pw_in ⟨ha, C2, by rw [show (nI a + (1 : Int32)) = nI (a + 1) from nI_add a 1], h2⟩)
  refine pw_run (fun b s => ∃ C2, s = (nI b, C2) ∧ ∀ a' b', a' < gz f n → b' < gz f n → a' < a ∨ (a' = a ∧ b' < b) → C2 (8 * a' + b') = nI (gc f n a' b')) 0 (gz f n) (by omega) ⟨C', rfl, fun a' b' h1 h2 h3 => hC a' b' h1 h2 (by omega)⟩ (Nat.zero_le _) ?_
  rintro b _ hb ⟨C2, rfl, hC2⟩
  show pw (fX1_findConjugates_L12 (nI a) (nI (gz f n)) P I (nI b) C2) _
  unfold fX1_findConjugates_L12
  refine pw_le (by omega) (by omega) (fun q => pw_out (fun a' b' h1 h2 h3 => hC2 a' b' h1 h2 (by omega))) (fun hb => ?_)
  refine pw_rd (by omega) (by decide) ?_
  rw [hI b hb]
  have hi := (gi_ok h hb).1
  refine pw_eq (sC_product h hT hi ha) (pw_eq (sC_product h hT (gm_lt h hi ha) hb) ?_)
  rw [show (nI a * (8 : Int32)) + nI b = nI (a * 8 + b) from by rw [show (8 : Int32) = nI 8 from rfl, pk_mul, nI_add]]
  refine pw_wr (by omega) (by decide) (pw_in ⟨hb, _, by rw [show (nI b + (1 : Int32)) = nI (b + 1) from nI_add b 1], fun a' b' h1 h2 h3 => ?_⟩)
  by_cases e : 8 * a' + b' = a * 8 + b
  · obtain ⟨rfl, rfl⟩ : a' = a ∧ b' = b := by omega
    rw [e, upd_s]; rfl
  · rw [upd_n e]
    exact hC2 a' b' h1 h2 (by omega)
theorem sC_spans_put (h : gok f n) {a o : Nat} (ha : a < gz f n) (ho : o < 2 ^ a) {x : Int32} {Z2 : Nat → Int32} (hx : x = nI (gs f n (2 ^ a + o))) (hZ2 : ∀ S, S < 2 ^ a + o → Z2 S = nI (gs f n S)) : pw (fX1_findSpans_J63L23 (nI o) (nI (2 ^ a + o)) x Z2) (Sum.elim (fun s' => o < 2 ^ a ∧ ∃ Z2, s' = (nI (o + 1), Z2) ∧ ∀ S, S < 2 ^ a + (o + 1) → Z2 S = nI (gs f n S)) (fun Z2 => ∀ S, S < 2 ^ (a + 1) → Z2 S = nI (gs f n S))) := by
  have hp := gz_pow h
  have ha2 : 2 ^ a * 2 ≤ 2 ^ gz f n := by rw [← Nat.pow_succ]; exact Nat.pow_le_pow_right (by decide) ha
  generalize 2 ^ gz f n = G at hp ha2
  subst hx
  unfold fX1_findSpans_J63L23
  have hb : 2 ^ a + o < 256 := by omega
  refine pw_wr hb (by decide) (pw_in ⟨ho, _, by rw [show (nI o + (1 : Int32)) = nI (o + 1) from nI_add o 1], fun S hS => ?_⟩)
  by_cases e : S = 2 ^ a + o
  · rw [e, upd_s]
  · rw [upd_n e]; exact hZ2 S (by omega)
theorem sC_spans_row (h : gok f n) (hT : MT f n P) {a : Nat} (ha : a < gz f n) {Z' : Nat → Int32} (hZ : ∀ S, S < 2 ^ a → Z' S = nI (gs f n S)) : pw (pz_iter (fun (σ : Int32 × (Nat → Int32)) => fX1_findSpans_L23 (nI (2 ^ a)) (nI (gz f n)) P σ.1 σ.2) pz_FUEL ((0 : Int32), Z')) (fun Z2 => ∀ S, S < 2 ^ (a + 1) → Z2 S = nI (gs f n S)) := by
  have hp := gz_pow h
  have ha2 : 2 ^ a * 2 ≤ 2 ^ gz f n := by rw [← Nat.pow_succ]; exact Nat.pow_le_pow_right (by decide) ha
  have hA : 2 ^ a ≤ 128 := by omega
  refine pw_run (fun o s => ∃ Z2, s = (nI o, Z2) ∧ ∀ S, S < 2 ^ a + o → Z2 S = nI (gs f n S)) 0 (2 ^ a) (by omega) ⟨Z', rfl, fun S hS => hZ S hS⟩ (Nat.zero_le _) ?_
  rintro o _ ho ⟨Z2, rfl, hZ2⟩
  show pw (fX1_findSpans_L23 (nI (2 ^ a)) (nI (gz f n)) P (nI o) Z2) _
  unfold fX1_findSpans_L23
  refine pw_le (by omega) (by omega) (fun q => pw_out (fun S hS => hZ2 S (by rw [Nat.pow_succ] at hS; omega))) (fun ho => ?_)
  refine pw_rd (by omega) (by decide) ?_
  rw [hZ2 o (by omega), fa_and]
  have dp := allB_at (allB_at (allG_at gs_dp h) a ha) o ho
  rw [beq_iff_eq] at dp
  have gl := (gs_at h (S := o) (by omega)).2
  have e1 : (nI o ||| nI (2 ^ a)) = nI (2 ^ a + o) := by rw [fa_or, Nat.or_comm, or_two ho]
  rw [e1]
  refine pw_eqn (b := 0) (Nat.lt_of_le_of_lt Nat.and_le_left (by omega)) (by decide) (fun q => ?_) (fun q => ?_)
  · rw [fb_bit_nat] at q
    rw [fa_or]
    refine pw_eq (sC_grownToSpan h hT (Nat.or_lt_two_pow gl (two_pow_lt ha))) (sC_spans_put h ha ho ?_ hZ2)
    rw [dp, if_neg (by rw [q]; decide)]
  · refine sC_spans_put h ha ho ?_ hZ2
    have q2 : (gs f n o).testBit a = true := by
      cases hh : (gs f n o).testBit a with
      | true => rfl
      | false => exact absurd ((fb_bit_nat _ _).mpr hh) q
    rw [dp, if_pos q2]
theorem sC_findSpans (h : gok f n) (hT : MT f n P) : pw (fX1_findSpans (nI (gz f n)) P Z) (fun Z' => ∀ S, S < 2 ^ gz f n → Z' S = nI (gs f n S)) := by
  have hz := gz_le h
  have hp := gz_pow h
  unfold fX1_findSpans
  refine pw_wr (i := 0) (by omega) (by decide) ?_
  refine pw_bind (R := fun Z' => ∀ S, S < 2 ^ gz f n → Z' S = nI (gs f n S)) ?_ (fun t ht => pw_some ht)
  refine pw_run (fun a s => ∃ Z', s = (nI a, Z') ∧ ∀ S, S < 2 ^ a → Z' S = nI (gs f n S)) 0 (gz f n) (by omega) ⟨_, rfl, fun S hS => ?_⟩ (Nat.zero_le _) ?_
  · have e : S = 0 := Nat.lt_one_iff.mp hS
    rw [e, upd_s, gs_0 h]; rfl
  rintro a _ ha ⟨Z', rfl, hZ⟩
  show pw (fX1_findSpans_L9 (nI (gz f n)) P (nI a) Z') _
  unfold fX1_findSpans_L9
  refine pw_le (by omega) (by omega) (fun q => pw_out (fun S hS => hZ S (by rw [show a = gz f n by omega]; exact hS))) (fun ha => ?_)
  rw [show (1 : Int32) <<< (nI a &&& 31) = nI (2 ^ a) from by rw [← Nat.one_shiftLeft]; exact bz_shl 1 (by omega)]
  exact pw_bind (sC_spans_row h hT ha hZ) (fun Z2 h2 => pw_in ⟨ha, Z2, by rw [show (nI a + (1 : Int32)) = nI (a + 1) from nI_add a 1], h2⟩)
end CGS
theorem sC_become {f n : Nat} {P I O C Z : Nat → Int32} (h : gok f n) : pw (fX1_become (nI f) (nI n) P I O C Z) (fun v => v.1 = nI f ∧ v.2.1 = nI n ∧ v.2.2.1 = nI (gz f n) ∧ CG f n v.2.2.2.1 v.2.2.2.2.1 v.2.2.2.2.2.1 v.2.2.2.2.2.2.1 v.2.2.2.2.2.2.2) := by
  have hz := gz_le h
  unfold fX1_become
  refine pw_eq (sC_sizeByFamily h) ?_
  refine pw_bind (R := MT f n) ?_ (fun P' hP => ?_)
  · refine pw_run (fun a s => ∃ P', s = (nI a, P') ∧ ∀ a' b', a' < gz f n → b' < gz f n → a' < a → P' (8 * a' + b') = nI (gm f n a' b')) 0 (gz f n) (by omega) ⟨P, rfl, fun a' b' h1 h2 h3 => by omega⟩ (Nat.zero_le _) ?_
    rintro a _ ha ⟨C', rfl, hC⟩
    show pw (fX1_become_L20 (nI f) (nI n) (nI (gz f n)) (nI a) C') _
    unfold fX1_become_L20
    refine pw_le (by omega) (by omega) (fun q => pw_out (fun a' b' h1 h2 => hC a' b' h1 h2 (by omega))) (fun ha => ?_)
    refine pw_bind (R := fun C2 => ∀ a' b', a' < gz f n → b' < gz f n → a' < a + 1 → C2 (8 * a' + b') = nI (gm f n a' b')) ?_ (fun C2 h2 => pw_in ⟨ha, C2, by rw [show (nI a + (1 : Int32)) = nI (a + 1) from nI_add a 1], h2⟩)
    refine pw_run (fun b s => ∃ C2, s = (nI b, C2) ∧ ∀ a' b', a' < gz f n → b' < gz f n → a' < a ∨ (a' = a ∧ b' < b) → C2 (8 * a' + b') = nI (gm f n a' b')) 0 (gz f n) (by omega) ⟨C', rfl, fun a' b' h1 h2 h3 => hC a' b' h1 h2 (by omega)⟩ (Nat.zero_le _) ?_
    rintro b _ hb ⟨C2, rfl, hC2⟩
    show pw (fX1_become_L31 (nI a) (nI f) (nI n) (nI (gz f n)) (nI b) C2) _
    unfold fX1_become_L31
    refine pw_le (by omega) (by omega) (fun q => pw_out (fun a' b' h1 h2 h3 => hC2 a' b' h1 h2 (by omega))) (fun hb => ?_)
    refine pw_eq (sC_multiplied h ha hb) ?_
    rw [show (nI a * (8 : Int32)) + nI b = nI (a * 8 + b) from by rw [show (8 : Int32) = nI 8 from rfl, pk_mul, nI_add]]
    refine pw_wr (by omega) (by decide) (pw_in ⟨hb, _, by rw [show (nI b + (1 : Int32)) = nI (b + 1) from nI_add b 1], fun a' b' h1 h2 h3 => ?_⟩)
    by_cases e : 8 * a' + b' = a * 8 + b
    · obtain ⟨rfl, rfl⟩ : a' = a ∧ b' = b := by omega
      rw [e, upd_s]
    · rw [upd_n e]
      exact hC2 a' b' h1 h2 (by omega)
  refine pw_bind (R := fun u => (∀ a, a < gz f n → u.1 a = nI (gi f n a)) ∧ (∀ a, a < gz f n → u.2 a = nI (go f n a))) ?_ ?_
  · refine pw_run (fun a s => ∃ I' O', s = (nI a, I', O') ∧ (∀ k, k < a → I' k = nI (gi f n k) ∧ O' k = nI (go f n k))) 0 (gz f n) (by omega) ⟨I, O, rfl, fun k hk => absurd hk (Nat.not_lt_zero k)⟩ (Nat.zero_le _) ?_
    rintro a _ ha ⟨I', O', rfl, hI⟩
    show pw (fX1_become_L73 (nI (gz f n)) P' (nI a) I' O') _
    unfold fX1_become_L73
    refine pw_le (by omega) (by omega) (fun q => pw_out ⟨fun k hk => (hI k (by omega)).1, fun k hk => (hI k (by omega)).2⟩) (fun ha => ?_)
    refine pw_bind (sC_findInverseAndOrder h hP ha) ?_
    rintro ⟨v1, v2⟩ ⟨h1, h2, h3⟩
    refine pw_in ⟨ha, v1, v2, by rw [show (nI a + (1 : Int32)) = nI (a + 1) from nI_add a 1], fun k hk => ?_⟩
    rcases (show k < a ∨ k = a by omega) with w | rfl
    · obtain ⟨e1, e2⟩ := h3 k (by omega)
      have e1 : v1 k = I' k := e1
      have e2 : v2 k = O' k := e2
      rw [e1, e2]; exact hI k w
    · exact ⟨h1, h2⟩
  · rintro ⟨I', O'⟩ ⟨hI, hO⟩
    refine pw_bind (sC_findConjugates h hP hI) (fun C' hC => ?_)
    refine pw_bind (sC_findSpans h hP) (fun Z' hZ => ?_)
    exact pw_some ⟨rfl, rfl, rfl, hP, hI, hO, hC, hZ⟩
