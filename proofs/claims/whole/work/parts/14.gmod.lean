/-! THE REFERENCE'S GROUP -/
abbrev ie (x : Int32) (z : Nat) : Prop := 0 ≤ x.toInt ∧ x.toInt < (z : Int)
theorem ie_of {x : Int32} {z : Nat} (h : ie x z) (hz : z < 2 ^ 31) : ∃ k : Nat, k < z ∧ x = nI k := vp_in_of (vp_in_iff.mpr h) hz
theorem ie_nI {k z : Nat} (hk : k < 2 ^ 31) : ie (nI k) z ↔ k < z := by
  unfold ie
  rw [nI_toInt hk]
  omega
theorem ie_n {x : Int32} {z k : Nat} (h : ¬ ie x z) (hk : k < z) (hz : z < 2 ^ 31) : x ≠ nI k := by
  rintro rfl
  exact h ((ie_nI (by omega)).mpr hk)
theorem fa_first_eq {p : Nat → Bool} {n i : Nat} (hi : i < n) (h1 : p i = true) (h2 : ∀ j, j < i → p j = false) : fa_first p n = i := by
  have a : ¬ i < fa_first p n := fun q => by
    have := fa_first_no p n i q
    rw [h1] at this; cases this
  rcases Nat.lt_or_ge (fa_first p n) i with q | q
  · have h3 := fa_first_yes p n (by omega)
    rw [h2 _ q] at h3; cases h3
  · omega
theorem sM_in (x lo hi : Int32) : fX6_in x lo hi = some (if lo.toInt ≤ x.toInt ∧ x.toInt ≤ hi.toInt then 1 else 0) := by
  unfold fX6_in
  by_cases h1 : x < lo
  · rw [if_pos h1, if_neg (fun q => by rw [fa_lt] at h1; omega)]
  · rw [if_neg h1]
    by_cases h2 : hi < x
    · rw [if_pos h2, if_neg (fun q => by rw [fa_lt] at h2; omega)]
    · rw [if_neg h2, if_pos]
      rw [fa_lt] at h1 h2
      omega
theorem sM_inN (x : Int32) (a b : Nat) (ha : a < 2 ^ 31) (hb : b < 2 ^ 31) : fX6_in x (nI a) (nI b) = some (if (a : Int) ≤ x.toInt ∧ x.toInt ≤ (b : Int) then 1 else 0) := by
  rw [sM_in, nI_toInt ha, nI_toInt hb]
theorem sM_isElement (x : Int32) {z : Nat} (h0 : 0 < z) (hz : z < 2 ^ 30) : fX6_isElement x (nI z) = some (if ie x z then 1 else 0) := by
  unfold fX6_isElement
  have e : nI z - (1 : Int32) = nI (z - 1) := pk_sub h0
  have e0 : (0 : Int32) = nI 0 := rfl
  rw [e, e0, sM_inN x 0 (z - 1) (by omega) (by omega)]
  by_cases hx : ie x z
  · rw [if_pos hx, if_pos (by unfold ie at hx; omega)]; rfl
  · rw [if_neg hx, if_neg (by unfold ie at hx; omega)]; rfl
theorem sM_isSet (x : Int32) {z : Nat} (hz : z ≤ 8) : fX6_isSet x (nI z) = some (if ie x (2 ^ z) then 1 else 0) := by
  unfold fX6_isSet
  have e : ((1 : Int32) <<< (nI z &&& 31)) - (1 : Int32) = nI (2 ^ z - 1) := by
    have h1 : (1 : Int32) <<< (nI z &&& 31) = nI (1 <<< z) := bz_shl 1 (by omega)
    rw [h1, Nat.one_shiftLeft]
    exact pk_sub (Nat.one_le_two_pow)
  have hp : 2 ^ z ≤ 2 ^ 8 := Nat.pow_le_pow_right (by decide) hz
  have hp1 : 1 ≤ 2 ^ z := Nat.one_le_two_pow
  have e0 : (0 : Int32) = nI 0 := rfl
  rw [e, e0, sM_inN x 0 (2 ^ z - 1) (by omega) (by omega)]
  by_cases hx : ie x (2 ^ z)
  · rw [if_pos hx, if_pos (by unfold ie at hx; omega)]; rfl
  · rw [if_neg hx, if_neg (by unfold ie at hx; omega)]; rfl
theorem sM_sizeBy {f n : Nat} (h : gok f n) : fX6_sizeBy (nI f) (nI n) = some (nI (gz f n)) := by
  have : allG (fun f n => decide (fX6_sizeBy (nI f) (nI n) = some (nI (gz f n)))) = true := by decide +kernel
  simpa using allG_at this h
theorem sM_mirrored {n a b : Nat} (h : gok 1 n) (ha : a < gz 1 n) (hb : b < gz 1 n) : fX6_mirrored (nI a) (nI b) (nI n) = some (nI (gm 1 n a b)) := by
  have : allE2 (fun f n a b => f != 1 || decide (fX6_mirrored (nI a) (nI b) (nI n) = some (nI (gm f n a b)))) = true := by decide +kernel
  simpa using allE2_at this h ha hb
theorem sM_crossed {n a b : Nat} (h : gok 3 n) (ha : a < gz 3 n) (hb : b < gz 3 n) : fX6_crossed (nI a) (nI b) = some (nI (gm 3 n a b)) := by
  have : allE2 (fun f n a b => f != 3 || decide (fX6_crossed (nI a) (nI b) = some (nI (gm f n a b)))) = true := by decide +kernel
  simpa using allE2_at this h ha hb
/-- a table of products -/
def MT (f n : Nat) (T : Nat → Int32) : Prop := ∀ a b, a < gz f n → b < gz f n → T (8 * a + b) = nI (gm f n a b)
theorem sM_lay_row {f n a : Nat} (h : gok f n) (ha : a < gz f n) (T : Nat → Int32) (hT : ∀ a' b', a' < gz f n → b' < gz f n → a' < a → T (8 * a' + b') = nI (gm f n a' b')) : pw (pz_iter (fun (σ : Int32 × (Nat → Int32)) => fX6_layTable_L27 (nI a) (nI f) (nI n) (nI (gz f n)) σ.1 σ.2) pz_FUEL ((0 : Int32), T)) (fun T' => ∀ a' b', a' < gz f n → b' < gz f n → a' < a + 1 → T' (8 * a' + b') = nI (gm f n a' b')) := by
  have hz := gz_le h
  refine pw_run (fun b s => ∃ T', s = (nI b, T') ∧ ∀ a' b', a' < gz f n → b' < gz f n → a' < a ∨ (a' = a ∧ b' < b) → T' (8 * a' + b') = nI (gm f n a' b')) 0 (gz f n) (by omega) ⟨T, rfl, fun a' b' h1 h2 h3 => hT a' b' h1 h2 (by omega)⟩ (Nat.zero_le _) ?_
  rintro b _ hb ⟨T', rfl, hI⟩
  show pw (fX6_layTable_L27 (nI a) (nI f) (nI n) (nI (gz f n)) (nI b) T') _
  unfold fX6_layTable_L27
  refine pw_le (by omega) (by omega) (fun q => pw_out (fun a' b' h1 h2 h3 => hI a' b' h1 h2 (by omega))) (fun hb => ?_)
  have key : ∀ x : Int32, x = nI (gm f n a b) → pw (fX6_layTable_J103L27 (nI a) (nI b) x T') (Sum.elim (fun s' => b < gz f n ∧ ∃ T', s' = (nI (b + 1), T') ∧ ∀ a' b', a' < gz f n → b' < gz f n → a' < a ∨ (a' = a ∧ b' < b + 1) → T' (8 * a' + b') = nI (gm f n a' b')) (fun T' => ∀ a' b', a' < gz f n → b' < gz f n → a' < a + 1 → T' (8 * a' + b') = nI (gm f n a' b'))) := by
    rintro x rfl
    unfold fX6_layTable_J103L27
    simp only [fa_lit, nI_add, pk_mul, fa_and, fa_or, fb_xorI]
    refine pw_wr (by omega) (by decide) (pw_in ⟨hb, _, rfl, fun a' b' h1 h2 h3 => ?_⟩)
    by_cases e : 8 * a' + b' = 8 * a + b
    · obtain ⟨rfl, rfl⟩ : a' = a ∧ b' = b := by omega
      exact upd_s _ _ _
    · rw [upd_n e]
      exact hI a' b' h1 h2 (by omega)
  have h4 := h.1
  rcases (show f = 0 ∨ f = 1 ∨ f = 2 ∨ f = 3 by omega) with rfl | rfl | rfl | rfl
  · refine pw_T rfl ?_
    rw [nI_add]
    have hn := h.2
    refine pw_rm (by omega) (by omega) (by unfold gmost at hn; simp at hn; omega) ?_
    unfold fX6_layTable_J68L27
    exact pw_F (by decide) (pw_F (by decide) (key _ rfl))
  · refine pw_F (by decide) (pw_F (by decide) ?_)
    unfold fX6_layTable_J68L27
    exact pw_T rfl (pw_eq (sM_mirrored h ha hb) (key _ rfl))
  · refine pw_F (by decide) (pw_T rfl ?_)
    unfold fX6_layTable_J68L27
    exact pw_F (by decide) (pw_F (by decide) (key _ (fb_xorI a b)))
  · refine pw_F (by decide) (pw_F (by decide) ?_)
    unfold fX6_layTable_J68L27
    exact pw_F (by decide) (pw_T rfl (pw_eq (sM_crossed h ha hb) (key _ rfl)))
theorem sM_layTable {f n : Nat} (h : gok f n) (T : Nat → Int32) : pw (fX6_layTable (nI f) (nI n) T) (fun v => v.1 = nI (gz f n) ∧ MT f n v.2.1 ∧ v.2.2 = 0) := by
  unfold fX6_layTable
  have hz := gz_le h
  refine pw_eq (sM_sizeBy h) ?_
  refine pw_bind (R := fun T' => MT f n T') ?_ (fun T' hT' => pw_some ⟨rfl, hT', rfl⟩)
  refine pw_run (fun a s => ∃ T', s = (nI a, T') ∧ ∀ a' b', a' < gz f n → b' < gz f n → a' < a → T' (8 * a' + b') = nI (gm f n a' b')) 0 (gz f n) (by omega) ⟨T, rfl, fun a' b' h1 h2 h3 => by omega⟩ (Nat.zero_le _) ?_
  rintro a _ ha ⟨T', rfl, hI⟩
  show pw (fX6_layTable_L17 (nI f) (nI n) (nI (gz f n)) (nI a) T') _
  unfold fX6_layTable_L17
  refine pw_le (by omega) (by omega) (fun q => pw_out (fun a' b' h1 h2 => hI a' b' h1 h2 (by omega))) (fun ha => ?_)
  refine pw_bind (sM_lay_row h ha T' hI) (fun T2 h2 => pw_in ⟨ha, T2, ?_, h2⟩)
  rw [show (nI a + (1 : Int32)) = nI (a + 1) from nI_add a 1]
section MG
variable {f n : Nat} {T : Nat → Int32}
theorem sM_product (h : gok f n) (hT : MT f n T) {a b : Nat} (ha : a < gz f n) (hb : b < gz f n) : fX6_product (nI a) (nI b) T = some (nI (gm f n a b)) := by
  have hz := gz_le h
  unfold fX6_product
  simp only [fa_lit, nI_add, pk_mul, fa_and, fa_or, fb_xorI]
  exact pw_val (pw_rd (by omega) (by decide) (pw_some (hT a b ha hb)))
theorem sM_inverse (h : gok f n) (hT : MT f n T) {a : Nat} (ha : a < gz f n) : fX6_inverse (nI a) T = some (nI (gi f n a)) := by
  have hz := gz_le h
  have hg := gi_ok h ha
  unfold fX6_inverse
  refine pw_val (pw_bind (R := fun v => v = nI (gi f n a)) ?_ (fun t ht => pw_some ht))
  refine pw_run (fun i s => s = nI i ∧ ∀ j, j < i → gm f n a j ≠ 0) 0 (gi f n a) (by omega) ⟨rfl, fun j hj => by omega⟩ (Nat.zero_le _) ?_
  rintro i _ hi ⟨rfl, hI⟩
  show pw (fX6_inverse_L2 (nI a) T (nI i)) _
  unfold fX6_inverse_L2
  refine pw_eq (sM_product h hT ha (by omega)) ?_
  have hl := gm_lt h ha (show i < gz f n by omega)
  refine pw_eqn (b := 0) (by omega) (by decide) (fun q => pw_out ?_) (fun q => pw_in ⟨?_, nI_add i 1, fun j hj => ?_⟩)
  · congr 1
    exact (fa_first_eq (by omega) (by simp [q]) (fun j hj => by simp [hI j hj])).symm
  · rcases Nat.lt_or_ge i (gi f n a) with z | z
    · exact z
    · exact absurd (by rw [show i = gi f n a by omega]; exact hg.2.1) q
  · rcases (show j < i ∨ j = i by omega) with z | rfl
    · exact hI j z
    · exact q
theorem gpow_1 (h : gok f n) {a : Nat} (ha : a < gz f n) : gpow f n a 1 = a := (gm_0 h ha).1
theorem sM_orderOf (h : gok f n) (hT : MT f n T) {a : Nat} (ha : a < gz f n) : fX6_orderOf (nI a) T = some (nI (go f n a)) := by
  have hz := gz_le h
  have hg := go_ok h ha
  have hp : 1 ≤ go f n a := by unfold go; omega
  unfold fX6_orderOf
  refine pw_val (pw_bind (R := fun v => v = nI (go f n a)) ?_ (fun t ht => pw_some ht))
  refine pw_run (fun i s => s = (nI (i + 1), nI (gpow f n a (i + 1))) ∧ ∀ j, j < i → gpow f n a (j + 1) ≠ 0) 0 (go f n a - 1) (by omega) ⟨by rw [gpow_1 h ha]; rfl, fun j hj => by omega⟩ (Nat.zero_le _) ?_
  rintro i _ hi ⟨rfl, hI⟩
  show pw (fX6_orderOf_L4 (nI a) T (nI (i + 1)) (nI (gpow f n a (i + 1)))) _
  unfold fX6_orderOf_L4
  have hl := gpow_lt h ha (i + 1)
  refine pw_eqn (b := 0) (by omega) (by decide) (fun q => pw_out ?_) (fun q => ?_)
  · congr 1
    unfold go
    rw [fa_first_eq (i := i) (by omega) (by simp [q]) (fun j hj => by simp [hI j hj])]
  · refine pw_eq (sM_product h hT hl ha) (pw_in ⟨?_, ?_, fun j hj => ?_⟩)
    · rcases Nat.lt_or_ge i (go f n a - 1) with z | z
      · exact z
      · exact absurd (by rw [show i + 1 = go f n a by omega]; exact hg.2) q
    · rw [show (nI (i + 1) + (1 : Int32)) = nI (i + 1 + 1) from nI_add (i + 1) 1]; rfl
    · rcases (show j < i ∨ j = i by omega) with z | rfl
      · exact hI j z
      · exact q
theorem sM_turned (h : gok f n) (hT : MT f n T) {a b : Nat} (ha : a < gz f n) (hb : b < gz f n) : fX6_turned (nI a) (nI b) T = some (nI (gc f n a b)) := by
  unfold fX6_turned
  have h1 := (gi_ok h hb).1
  exact pw_val (pw_eq (sM_inverse h hT hb) (pw_eq (sM_product h hT h1 ha) (pw_eq (sM_product h hT (gm_lt h h1 ha) hb) (pw_some rfl))))
theorem sM_leftOf (h : gok f n) (hT : MT f n T) {a S : Nat} (ha : a < gz f n) (hS : S < 2 ^ 31) : fX6_leftOf (nI a) (nI S) (nI (gz f n)) T = some (nI (pws f n a S)) := by
  have hz := gz_le h
  unfold fX6_leftOf
  refine pw_val (pw_bind (R := fun v => v = nI (pws f n a S)) ?_ (fun t ht => pw_some ht))
  refine pw_run (fun i s => s = (nI (orf i (fun b => if S.testBit b then 2 ^ gm f n a b else 0)), nI i)) 0 (gz f n) (by omega) rfl (Nat.zero_le _) ?_
  rintro i _ hi rfl
  show pw (fX6_leftOf_L5 (nI a) (nI S) (nI (gz f n)) T (nI (orf i _)) (nI i)) _
  unfold fX6_leftOf_L5
  refine pw_le (by omega) (by omega) (fun q => pw_out ?_) (fun hi => ?_)
  · rw [show i = gz f n by omega]; rfl
  · refine pw_bit hS (by omega) (fun q => ?_) (fun q => ?_)
    · refine pw_eq (sM_product h hT ha hi) ?_
      unfold fX6_leftOf_J38L5
      have hl := gm_lt h ha hi
      refine pw_in ⟨hi, ?_⟩
      rw [show (1 : Int32) <<< (nI (gm f n a i) &&& 31) = nI (1 <<< gm f n a i) from bz_shl 1 (by omega), Nat.one_shiftLeft, fa_or, show (nI i + (1 : Int32)) = nI (i + 1) from nI_add i 1, orf, if_pos q]
    · unfold fX6_leftOf_J38L5
      refine pw_in ⟨hi, ?_⟩
      rw [show (0 : Int32) = nI 0 from rfl, fa_or, show (nI i + (1 : Int32)) = nI (i + 1) from nI_add i 1, orf, q]
      rfl
end MG
