theorem gpow_cong {f n a : Nat} (k : Nat) : gpow f n a (k + 1) = gm f n (gpow f n a k) a := rfl
def icent (f n a : Nat) : Bool := allB (gz f n) (fun b => gm f n a b == gm f n b a)
theorem cen_chk : allE (fun f n a => (cset f n a == 2 ^ a) == icent f n a) = true := by decide +kernel
theorem nor_chk : allE (fun f n a => allB (2 ^ gz f n) (fun S => ((cset f n a &&& S) == cset f n a) == allB (gz f n) (fun b => S.testBit (gc f n a b)))) = true := by decide +kernel
theorem not_chk : allB 256 (fun C => allB 256 (fun S => decide ((nI C &&& (nI S ^^^ (-1 : Int32))) = 0) == ((C &&& S) == C))) = true := by decide +kernel
theorem g0_chk : allG (fun f n => allB (2 ^ gz f n) (fun S => (gs f n S).testBit 0)) = true := by decide +kernel
section GRD
variable {f n : Nat} {T P I O C Z : Nat → Int32}
theorem sM_pow (h : gok f n) (hT : MT f n T) {a k : Nat} (ha : a < gz f n) (hk : k < 1048576) : pz_iter (fun (σ : Int32 × Int32) => fX6_power_L26 (nI a) (nI k) T σ.1 σ.2) pz_FUEL ((0 : Int32), (0 : Int32)) = some (nI (gpow f n a k)) := by
  refine pw_val (pw_run (fun i s => s = (nI (gpow f n a i), nI i)) 0 k hk rfl (Nat.zero_le _) ?_)
  rintro i _ hi rfl
  show pw (fX6_power_L26 (nI a) (nI k) T (nI (gpow f n a i)) (nI i)) _
  unfold fX6_power_L26
  refine pw_le (by omega) (by omega) (fun q => pw_out (by rw [show i = k by omega])) (fun q => ?_)
  exact pw_eq (sM_product h hT (gpow_lt h ha i) ha) (pw_in ⟨q, by rw [show (nI i + (1 : Int32)) = nI (i + 1) from nI_add i 1]; rfl⟩)
theorem sC_powerOf (h : gok f n) (hT : MT f n P) {a k : Nat} (ha : a < gz f n) (hk : k < 1048576) : fX1_powerOf (nI a) (nI k) P = some (nI (gpow f n a k)) := by
  unfold fX1_powerOf
  refine pw_val (pw_bind (R := fun v => v = nI (gpow f n a k)) ?_ (fun t ht => pw_some ht))
  refine pw_run (fun i s => s = (nI (gpow f n a i), nI i)) 0 k hk rfl (Nat.zero_le _) ?_
  rintro i _ hi rfl
  show pw (fX1_powerOf_L5 (nI a) (nI k) P (nI (gpow f n a i)) (nI i)) _
  unfold fX1_powerOf_L5
  refine pw_le (by omega) (by omega) (fun q => pw_out (by rw [show i = k by omega])) (fun q => ?_)
  exact pw_eq (sC_product h hT (gpow_lt h ha i) ha) (pw_in ⟨q, by rw [show (nI i + (1 : Int32)) = nI (i + 1) from nI_add i 1]; rfl⟩)
theorem sC_conjugated (h : gok f n) (hC : ∀ a b, a < gz f n → b < gz f n → C (8 * a + b) = nI (gc f n a b)) {a b : Nat} (ha : a < gz f n) (hb : b < gz f n) : fX1_conjugated (nI a) (nI b) C = some (nI (gc f n a b)) := by
  have hz := gz_le h
  unfold fX1_conjugated
  simp only [fa_lit, nI_add, pk_mul, fa_and, fa_or, fb_xorI]
  exact pw_val (pw_rd (by omega) (by decide) (pw_some (by rw [Nat.mul_comm]; exact hC a b ha hb)))
theorem sC_conjugatesOf (h : gok f n) (hC : ∀ a b, a < gz f n → b < gz f n → C (8 * a + b) = nI (gc f n a b)) {a : Nat} (ha : a < gz f n) : fX1_conjugatesOf (nI a) (nI (gz f n)) C = some (nI (cset f n a)) := by
  have hz := gz_le h
  unfold fX1_conjugatesOf
  refine pw_val (pw_bind (R := fun v => v = nI (cset f n a)) ?_ (fun t ht => pw_some ht))
  refine pw_run (fun i s => s = (nI (orf i (fun b => 2 ^ gc f n a b)), nI i)) 0 (gz f n) (by omega) rfl (Nat.zero_le _) ?_
  rintro i _ hi rfl
  show pw (fX1_conjugatesOf_L4 (nI a) (nI (gz f n)) C (nI (orf i _)) (nI i)) _
  unfold fX1_conjugatesOf_L4
  refine pw_le (by omega) (by omega) (fun q => pw_out (by rw [show i = gz f n by omega]; rfl)) (fun q => ?_)
  refine pw_eq (sC_conjugated h hC ha q) (pw_in ⟨q, ?_⟩)
  have hl := gc_lt h ha q
  rw [show (1 : Int32) <<< (nI (gc f n a i) &&& 31) = nI (1 <<< gc f n a i) from bz_shl 1 (by omega), Nat.one_shiftLeft, fa_or, show (nI i + (1 : Int32)) = nI (i + 1) from nI_add i 1, orf]
theorem sM_cset (h : gok f n) (hT : MT f n T) {a : Nat} (ha : a < gz f n) : pz_iter (fun (σ : Int32 × Int32) => fX6_of_L46 (nI a) (nI (gz f n)) T σ.1 σ.2) pz_FUEL ((0 : Int32), (0 : Int32)) = some (nI (cset f n a)) := by
  have hz := gz_le h
  refine pw_val (pw_run (fun i s => s = (nI (orf i (fun b => 2 ^ gc f n a b)), nI i)) 0 (gz f n) (by omega) rfl (Nat.zero_le _) ?_)
  rintro i _ hi rfl
  show pw (fX6_of_L46 (nI a) (nI (gz f n)) T (nI (orf i _)) (nI i)) _
  unfold fX6_of_L46
  refine pw_le (by omega) (by omega) (fun q => pw_out (by rw [show i = gz f n by omega]; rfl)) (fun q => ?_)
  refine pw_eq (sM_turned h hT ha q) (pw_in ⟨q, ?_⟩)
  have hl := gc_lt h ha q
  rw [show (1 : Int32) <<< (nI (gc f n a i) &&& 31) = nI (1 <<< gc f n a i) from bz_shl 1 (by omega), Nat.one_shiftLeft, fa_or, show (nI i + (1 : Int32)) = nI (i + 1) from nI_add i 1, orf]
theorem sC_centreSet (h : gok f n) (hC : ∀ a b, a < gz f n → b < gz f n → C (8 * a + b) = nI (gc f n a b)) : fX1_centreSet (nI (gz f n)) C = some (nI (orf (gz f n) (fun a => if icent f n a then 2 ^ a else 0))) := by
  have hz := gz_le h
  have hp := gz_pow h
  unfold fX1_centreSet
  refine pw_val (pw_bind (R := fun v => v = nI (orf (gz f n) (fun a => if icent f n a then 2 ^ a else 0))) ?_ (fun t ht => pw_some ht))
  refine pw_run (fun i s => s = (nI (orf i (fun a => if icent f n a then 2 ^ a else 0)), nI i)) 0 (gz f n) (by omega) rfl (Nat.zero_le _) ?_
  rintro i _ hi rfl
  show pw (fX1_centreSet_L4 (nI (gz f n)) C (nI (orf i _)) (nI i)) _
  unfold fX1_centreSet_L4
  refine pw_le (by omega) (by omega) (fun q => pw_out (by rw [show i = gz f n by omega])) (fun q => ?_)
  refine pw_eq (sC_conjugatesOf h hC q) ?_
  have hl := cset_lt h q
  have e1 : (1 : Int32) <<< (nI i &&& 31) = nI (2 ^ i) := by rw [← Nat.one_shiftLeft]; exact bz_shl 1 (by omega)
  have hi2 := two_pow_lt q
  have ck := allE_at cen_chk h q
  rw [beq_iff_eq] at ck
  rw [e1]
  refine pw_eqn (by omega) (by omega) (fun z => ?_) (fun z => ?_)
  · unfold fX1_centreSet_J29L4
    refine pw_in ⟨q, ?_⟩
    rw [fa_or, show (nI i + (1 : Int32)) = nI (i + 1) from nI_add i 1, orf, if_pos (by rw [← ck]; simp [z])]
  · unfold fX1_centreSet_J29L4
    refine pw_in ⟨q, ?_⟩
    rw [show (nI i + (1 : Int32)) = nI (i + 1) from nI_add i 1, orf, if_neg (by rw [← ck]; simp [z]), Nat.or_zero]
theorem sC_countOfOrder (h : gok f n) (hO : ∀ a, a < gz f n → O a = nI (go f n a)) {w : Nat} (hw : w < 2 ^ 31) : fX1_countOfOrder (nI w) (nI (gz f n)) O = some (nI (fb_ct (fun a => go f n a == w) (gz f n))) := by
  have hz := gz_le h
  unfold fX1_countOfOrder
  refine pw_val (pw_bind (R := fun v => v = nI (fb_ct (fun a => go f n a == w) (gz f n))) ?_ (fun t ht => pw_some ht))
  refine pw_run (fun i s => s = (nI (fb_ct (fun a => go f n a == w) i), nI i)) 0 (gz f n) (by omega) rfl (Nat.zero_le _) ?_
  rintro i _ hi rfl
  show pw (fX1_countOfOrder_L4 (nI w) (nI (gz f n)) O (nI (fb_ct _ i)) (nI i)) _
  unfold fX1_countOfOrder_L4
  refine pw_le (by omega) (by omega) (fun q => pw_out (by rw [show i = gz f n by omega])) (fun q => ?_)
  refine pw_rd (by omega) (by decide) ?_
  rw [hO i q]
  have hg := (go_ok h q).1
  refine pw_eqn (by omega) hw (fun z => ?_) (fun z => ?_)
  · unfold fX1_countOfOrder_J25L4
    refine pw_in ⟨q, ?_⟩
    rw [show (nI i + (1 : Int32)) = nI (i + 1) from nI_add i 1, show (nI (fb_ct (fun a => go f n a == w) i) + (1 : Int32)) = nI (fb_ct (fun a => go f n a == w) i + 1) from nI_add _ 1, fb_ct_succ, if_pos (by simp [z])]
  · unfold fX1_countOfOrder_J25L4
    refine pw_in ⟨q, ?_⟩
    rw [show (nI i + (1 : Int32)) = nI (i + 1) from nI_add i 1, fb_ct_succ, if_neg (by simp [z])]; rfl
theorem sM_centre_row (h : gok f n) (hT : MT f n T) {a : Nat} (ha : a < gz f n) : pz_iter (fun (σ : Int32 × Int32) => fX6_centre_L35 (nI a) (nI (gz f n)) T σ.1 σ.2) pz_FUEL ((1 : Int32), (0 : Int32)) = some (bi (icent f n a)) := by
  have hz := gz_le h
  refine pw_val (pw_run (fun i s => s = (bi (allB i (fun b => gm f n a b == gm f n b a)), nI i)) 0 (gz f n) (by omega) rfl (Nat.zero_le _) ?_)
  rintro i _ hi rfl
  show pw (fX6_centre_L35 (nI a) (nI (gz f n)) T (bi (allB i _)) (nI i)) _
  unfold fX6_centre_L35
  refine pw_le (by omega) (by omega) (fun q => pw_out (by rw [show i = gz f n by omega]; rfl)) (fun q => ?_)
  have l1 := gm_lt h ha q
  have l2 := gm_lt h q ha
  cases e : allB i (fun b => gm f n a b == gm f n b a) with
  | false =>
    refine pw_T rfl ?_
    unfold fX6_centre_J72L35 fX6_centre_J73L35
    refine pw_in ⟨q, ?_⟩
    rw [show (nI i + (1 : Int32)) = nI (i + 1) from nI_add i 1, allB, e, Bool.and_false]; rfl
  | true =>
    refine pw_F (by decide) (pw_eq (sM_product h hT ha q) (pw_eq (sM_product h hT q ha) (pw_eqn (by omega) (by omega) (fun z => ?_) (fun z => ?_))))
    · unfold fX6_centre_J73L35
      refine pw_in ⟨q, ?_⟩
      rw [show (nI i + (1 : Int32)) = nI (i + 1) from nI_add i 1, allB, e, Bool.and_true, show (gm f n a i == gm f n i a) = true by simp [z]]; rfl
    · unfold fX6_centre_J72L35 fX6_centre_J73L35
      refine pw_in ⟨q, ?_⟩
      rw [show (nI i + (1 : Int32)) = nI (i + 1) from nI_add i 1, allB, e, Bool.and_true, show (gm f n a i == gm f n i a) = false by simp [z]]; rfl
theorem sM_centre_loop (h : gok f n) (hT : MT f n T) {w : Nat} (hw : w < 2 ^ 31) : pz_iter (fun (σ : Int32 × Int32 × Int32) => fX6_centre_L20 (nI w) (nI (gz f n)) T σ.1 σ.2.1 σ.2.2) pz_FUEL ((0 : Int32), (0 : Int32), (0 : Int32)) = some (nI (orf (gz f n) (fun a => if icent f n a then 2 ^ a else 0)), nI (fb_ct (fun a => go f n a == w) (gz f n))) := by
  have hz := gz_le h
  refine pw_val (pw_run (fun i s => s = (nI (orf i (fun a => if icent f n a then 2 ^ a else 0)), nI (fb_ct (fun a => go f n a == w) i), nI i)) 0 (gz f n) (by omega) rfl (Nat.zero_le _) ?_)
  rintro i _ hi rfl
  show pw (fX6_centre_L20 (nI w) (nI (gz f n)) T (nI (orf i _)) (nI (fb_ct _ i)) (nI i)) _
  unfold fX6_centre_L20
  refine pw_le (by omega) (by omega) (fun q => pw_out (by rw [show i = gz f n by omega])) (fun q => ?_)
  refine pw_eq (sM_centre_row h hT q) ?_
  have key : ∀ k1 : Int32, k1 = nI (if icent f n i then 2 ^ i else 0) → pw (fX6_centre_J95L20 (nI w) (nI (fb_ct (fun a => go f n a == w) i)) (nI i) (nI (orf i (fun a => if icent f n a then 2 ^ a else 0))) k1 T) (Sum.elim (fun s' => i < gz f n ∧ s' = (nI (orf (i + 1) (fun a => if icent f n a then 2 ^ a else 0)), nI (fb_ct (fun a => go f n a == w) (i + 1)), nI (i + 1))) (fun v => v = (nI (orf (gz f n) (fun a => if icent f n a then 2 ^ a else 0)), nI (fb_ct (fun a => go f n a == w) (gz f n))))) := by
    rintro k1 rfl
    unfold fX6_centre_J95L20
    have hg := (go_ok h q).1
    refine pw_eq (sM_orderOf h hT q) (pw_eqn (by omega) hw (fun z => ?_) (fun z => ?_))
    · unfold fX6_centre_J113L20
      refine pw_in ⟨q, ?_⟩
      rw [fa_or, show (nI i + (1 : Int32)) = nI (i + 1) from nI_add i 1, show (nI (fb_ct (fun a => go f n a == w) i) + (1 : Int32)) = nI (fb_ct (fun a => go f n a == w) i + 1) from nI_add _ 1, fb_ct_succ, show (if (go f n i == w) = true then 1 else 0) = 1 from if_pos (by simp [z]), orf]
    · unfold fX6_centre_J113L20
      refine pw_in ⟨q, ?_⟩
      rw [fa_or, show (nI i + (1 : Int32)) = nI (i + 1) from nI_add i 1, show (nI (fb_ct (fun a => go f n a == w) i) + (0 : Int32)) = nI (fb_ct (fun a => go f n a == w) i + 0) from nI_add _ 0, fb_ct_succ, show (if (go f n i == w) = true then 1 else 0) = 0 from if_neg (by simp [z]), orf]
  cases e : icent f n i with
  | false =>
    refine pw_T rfl (key _ (by rw [e]; rfl))
  | true =>
    refine pw_F (by decide) (key _ ?_)
    rw [e, show (1 : Int32) <<< (nI i &&& 31) = nI (1 <<< i) from bz_shl 1 (by omega), Nat.one_shiftLeft]; rfl
theorem sC_spanOf (h : gok f n) (hZ : ∀ S, S < 2 ^ gz f n → Z S = nI (gs f n S)) {S : Nat} (hS : S < 2 ^ gz f n) : fX1_spanOf (nI S) Z = some (nI (gs f n S)) := by
  have hp := gz_pow h
  unfold fX1_spanOf
  exact pw_val (pw_rd (by omega) (by decide) (pw_some (hZ S hS)))
theorem sC_isSubgroup (h : gok f n) (hZ : ∀ S, S < 2 ^ gz f n → Z S = nI (gs f n S)) (x : Int32) : fX1_isSubgroup x (nI (gz f n)) Z = some (if ∃ S, S < 2 ^ gz f n ∧ x = nI S ∧ isub f n S = true then 1 else 0) := by
  unfold fX1_isSubgroup
  have hp := gz_pow h
  by_cases hx : ie x (2 ^ gz f n)
  · obtain ⟨S, hS, rfl⟩ := ie_of hx (by omega)
    have g2 := (gs_at h hS).2
    refine pw_val (pw_eq (sC_isSet _ (gz_le h)) ?_)
    rw [if_pos hx]
    refine pw_F (by decide) (pw_eq (sC_spanOf h hZ hS) (pw_eqn (by omega) (by omega) (fun q => pw_some ?_) (fun q => pw_some ?_)))
    · rw [if_pos ⟨S, hS, rfl, by simp [isub, q]⟩]
    · rw [if_neg]
      rintro ⟨S', hS', e, hi⟩
      have e := (nI_eq (by omega) (by omega)).mp e
      subst e
      exact q (by simpa [isub] using hi)
  · refine pw_val (pw_eq (sC_isSet _ (gz_le h)) ?_)
    rw [if_neg hx]
    refine pw_T rfl (pw_some ?_)
    rw [if_neg]
    rintro ⟨S, hS, rfl, -⟩
    exact hx ((ie_nI (by omega)).mpr hS)
theorem sC_isNormal (h : gok f n) (hC : ∀ a b, a < gz f n → b < gz f n → C (8 * a + b) = nI (gc f n a b)) {S : Nat} (hS : S < 2 ^ gz f n) : fX1_isNormal (nI S) (nI (gz f n)) C = some (bi (inorm f n S)) := by
  have hz := gz_le h
  have hp := gz_pow h
  unfold fX1_isNormal
  refine pw_val (pw_bind (R := fun v => v = if inorm f n S then Sum.inl () else Sum.inr 0) ?_ (fun t ht => ?_))
  · refine pw_run (fun i s => s = nI i ∧ ∀ a, a < i → (!S.testBit a || allB (gz f n) (fun b => S.testBit (gc f n a b))) = true) 0 (gz f n) (by omega) ⟨rfl, fun a ha => absurd ha (Nat.not_lt_zero a)⟩ (Nat.zero_le _) ?_
    rintro i _ hi ⟨rfl, hI⟩
    show pw (fX1_isNormal_L2 (nI S) (nI (gz f n)) C (nI i)) _
    unfold fX1_isNormal_L2
    refine pw_le (by omega) (by omega) (fun q => pw_out ?_) (fun hi => ?_)
    · have e : inorm f n S = true := allB_iff.mpr (fun a ha => hI a (by omega))
      rw [e]; rfl
    · refine pw_bit (by omega) (by omega) (fun q => ?_) (fun q => ?_)
      · refine pw_eq (sC_conjugatesOf h hC hi) ?_
        have hl := cset_lt h hi
        have c1 := allB_at (allB_at not_chk (cset f n i) (by omega)) S (by omega)
        have c2 := allB_at (allE_at nor_chk h hi) S hS
        rw [beq_iff_eq] at c1 c2
        rw [c2] at c1
        refine pw_if (fun z => ?_) (fun z => ?_)
        · have e : allB (gz f n) (fun b => S.testBit (gc f n i b)) = true := by rw [← c1]; exact decide_eq_true z
          unfold fX1_isNormal_J33L2
          refine pw_in ⟨hi, nI_add i 1, fun a ha => ?_⟩
          rcases (show a < i ∨ a = i by omega) with w | w
          · exact hI a w
          · rw [w, e, Bool.or_true]
        · refine pw_out ?_
          have e : allB (gz f n) (fun b => S.testBit (gc f n i b)) = false := by rw [← c1]; exact decide_eq_false z
          have e2 : inorm f n S = false := allB_not hi (by rw [e, q]; rfl)
          rw [e2]; rfl
      · unfold fX1_isNormal_J33L2
        refine pw_in ⟨hi, nI_add i 1, fun a ha => ?_⟩
        rcases (show a < i ∨ a = i by omega) with w | rfl
        · exact hI a w
        · rw [q]; rfl
  · subst ht
    cases inorm f n S with
    | true => exact pw_some rfl
    | false => exact pw_some rfl
end GRD
