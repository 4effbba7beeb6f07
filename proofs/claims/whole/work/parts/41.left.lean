section LEFT
variable {f n h c : Nat} {p d : Nat → Nat} {P I O C Z T e w a w' a' ci far q dist pl : Nat → Int32} {cnt many maps al mk : Int32}
theorem sC_setsBetween (g : gok f n) (hP : MT f n P) {H S : Nat} (hH : H < 2 ^ gz f n) (hS : S < 2 ^ gz f n) : fX1_setsBetween (nI H) (nI S) (nI (gz f n)) P = some (nI (lf f n H S (gz f n)).2) := by
  have hz := gz_le g
  unfold fX1_setsBetween
  refine pw_val (pw_bind (R := fun v => v = nI (lf f n H S (gz f n)).2) ?_ (fun t ht => pw_some ht))
  refine pw_run (fun i σ => σ = (nI (lf f n H S i).1, nI (lf f n H S i).2, nI i)) 0 (gz f n) (by omega) rfl (Nat.zero_le _) ?_
  rintro i _ hi rfl
  show pw (fX1_setsBetween_L8 (nI H) (nI S) (nI (gz f n)) P (nI (lf f n H S i).1) (nI (lf f n H S i).2) (nI i)) _
  unfold fX1_setsBetween_L8 fX1_setsBetween_J44L8
  obtain ⟨k1, k2⟩ := lf_ok g (H := H) (S := S) i hi
  rw [show (nI i + (1 : Int32)) = nI (i + 1) from nI_add i 1]
  refine pw_le (by omega) (by omega) (fun z => pw_out (by rw [show gz f n = i by omega])) (fun z => ?_)
  have tl := pws_lt g (a := i) (S := S) z
  refine pw_bit0 (z256 g k1) (by omega) (fun y => pw_eq (sC_productWithSet g hP z (z256 g hS)) (pw_eq (sC_productOfSets g hP (z256 g hH) (z256 g tl)) (pw_in ⟨z, ?_⟩))) (fun y => pw_in ⟨z, ?_⟩)
  · rw [lf, if_pos y, fa_or, show (nI (lf f n H S i).2 + (1 : Int32)) = nI ((lf f n H S i).2 + 1) from nI_add _ 1]
  · rw [lf, if_neg (by rw [y]; decide)]
theorem or_zero' (a : Nat) : a ||| 0 = a := Nat.or_zero a
theorem sM_leftRow (g : gok f n) (hT : MT f n T) {H S X : Nat} (hH : H < 2 ^ gz f n) (hS : S < 2 ^ gz f n) : pz_iter (fun (σ : Int32 × Int32) => fX6_left_L135 (nI H) (nI S) (nI (gz f n)) T σ.1 σ.2) pz_FUEL (nI X, (0 : Int32)) = some (nI (X ||| pss f n H S)) := by
  have hz := gz_le g
  refine pw_val (pw_run (fun i σ => σ = (nI (X ||| orf i (fun a => if H.testBit a then pws f n a S else 0)), nI i)) 0 (gz f n) (by omega) (by show _ = (nI (X ||| 0), _); rw [or_zero']; rfl) (Nat.zero_le _) ?_)
  rintro i _ hi rfl
  show pw (fX6_left_L135 (nI H) (nI S) (nI (gz f n)) T (nI (X ||| orf i (fun a => if H.testBit a then pws f n a S else 0))) (nI i)) _
  unfold fX6_left_L135 fX6_left_J168L135
  rw [show (nI i + (1 : Int32)) = nI (i + 1) from nI_add i 1]
  refine pw_le (by omega) (by omega) (fun z => pw_out (by unfold pss; rw [show gz f n = i by omega])) (fun z => ?_)
  refine pw_bit (z256 g hH) (by omega) (fun y => pw_eq (sM_leftOf g hT z (z256 g hS)) (pw_in ⟨z, ?_⟩)) (fun y => pw_in ⟨z, ?_⟩)
  · rw [fa_or, orf, if_pos y, Nat.or_assoc]
  · rw [show (0 : Int32) = nI 0 from rfl, fa_or, orf, if_neg (by rw [y]; decide), or_zero', or_zero']
theorem sM_leftIn (g : gok f n) (hT : MT f n T) {H S : Nat} (A : Int32) (hH : H < 2 ^ gz f n) (hS : S < 2 ^ gz f n) : pz_iter (fun (σ : Int32 × Int32 × Int32) => fX6_left_L103 (nI H) (nI S) (nI (gz f n)) T σ.1 σ.2.1 σ.2.2) pz_FUEL (A, (0 : Int32), (0 : Int32)) = some (A + nI (lf f n H S (gz f n)).2) := by
  have hz := gz_le g
  have a0 : A = A + nI (lf f n H S 0).2 := (Int32.add_zero A).symm
  refine pw_val (pw_run (fun i σ => σ = (A + nI (lf f n H S i).2, nI (lf f n H S i).1, nI i)) 0 (gz f n) (by omega) (by rw [← a0]; rfl) (Nat.zero_le _) ?_)
  rintro i _ hi rfl
  show pw (fX6_left_L103 (nI H) (nI S) (nI (gz f n)) T (A + nI (lf f n H S i).2) (nI (lf f n H S i).1) (nI i)) _
  unfold fX6_left_L103 fX6_left_J180L103
  obtain ⟨k1, k2⟩ := lf_ok g (H := H) (S := S) i hi
  rw [show (nI i + (1 : Int32)) = nI (i + 1) from nI_add i 1]
  refine pw_le (by omega) (by omega) (fun z => pw_out (by rw [show gz f n = i by omega])) (fun z => ?_)
  have tl := pws_lt g (a := i) (S := S) z
  refine pw_bit0 (z256 g k1) (by omega) (fun y => pw_eq (sM_leftOf g hT z (z256 g hS)) (pw_eq (sM_leftRow g hT hH tl) (pw_in ⟨z, ?_⟩))) (fun y => pw_in ⟨z, ?_⟩)
  · rw [lf, if_pos y, Int32.add_assoc, show (nI (lf f n H S i).2 + (1 : Int32)) = nI ((lf f n H S i).2 + 1) from nI_add _ 1]
  · rw [lf, if_neg (by rw [y]; decide)]
def lfT (f n h : Nat) (d : Nat → Nat) (H k : Nat) : Nat := fb_sm (fun i => (lf f n H (gs f n (2 ^ d (2 * h + i))) (gz f n)).2) k
theorem sC_leftLoop (g : gok f n) (hG : CG f n P I O C Z) (hL : 2 * h + c ≤ 4) (hd : ∀ i, i < 2 * h + c → d i < gz f n) (he : DG (2 * h + c) d e) {H : Nat} (A : Int32) (hH : H < 2 ^ gz f n) : pz_iter (fun (σ : Int32 × Int32) => fX5_left_L61 (nI H) (nI (gz f n)) P Z (nI h) (nI c) e σ.1 σ.2) pz_FUEL (A, (0 : Int32)) = some (A + nI (lfT f n h d H c)) := by
  have hz := gz_le g
  have a0 : A = A + nI (lfT f n h d H 0) := (Int32.add_zero A).symm
  refine pw_val (pw_run (fun i σ => σ = (A + nI (lfT f n h d H i), nI i)) 0 c (by omega) (by rw [← a0]; rfl) (Nat.zero_le _) ?_)
  rintro i _ hi rfl
  show pw (fX5_left_L61 (nI H) (nI (gz f n)) P Z (nI h) (nI c) e (A + nI (lfT f n h d H i)) (nI i)) _
  unfold fX5_left_L61
  refine pw_le (by omega) (by omega) (fun z => pw_out (by rw [show c = i by omega])) (fun z => pw_eq (sC_elementOfPeriod he hL (by omega)) ?_)
  have di := hd (2 * h + i) (by omega)
  rw [one_shl (by omega)]
  have p2 : 2 ^ d (2 * h + i) < 2 ^ gz f n := two_pow_lt di
  refine pw_eq (sC_spanOf g hG.2.2.2.2 p2) (pw_eq (sC_setsBetween g hG.1 hH (gs_at g p2).2) (pw_in ⟨z, ?_⟩))
  rw [Int32.add_assoc, nI_add, show (nI i + (1 : Int32)) = nI (i + 1) from nI_add i 1]; rfl
theorem sM_leftLoop (g : gok f n) (hT : MT f n T) (hL : 2 * h + c ≤ 4) (hd : ∀ i, i < 2 * h + c → d i < gz f n) (he : DG (2 * h + c) d e) {H : Nat} (A : Int32) (hH : H < 2 ^ gz f n) : pz_iter (fun (σ : Int32 × Int32) => fX6_left_L66 (nI H) (nI (gz f n)) T (nI h) (nI c) e σ.1 σ.2) pz_FUEL (A, (0 : Int32)) = some (A + nI (lfT f n h d H c)) := by
  have hz := gz_le g
  have a0 : A = A + nI (lfT f n h d H 0) := (Int32.add_zero A).symm
  refine pw_val (pw_run (fun i σ => σ = (A + nI (lfT f n h d H i), nI i)) 0 c (by omega) (by rw [← a0]; rfl) (Nat.zero_le _) ?_)
  rintro i _ hi rfl
  show pw (fX6_left_L66 (nI H) (nI (gz f n)) T (nI h) (nI c) e (A + nI (lfT f n h d H i)) (nI i)) _
  unfold fX6_left_L66
  refine pw_le (by omega) (by omega) (fun z => pw_out (by rw [show c = i by omega])) (fun z => ?_)
  rw [show ((2 : Int32) * nI h) + nI i = nI (2 * h + i) from by rw [show (2 : Int32) = nI 2 from rfl, pk_mul, nI_add]]
  refine pw_rd (by omega) (by decide) ?_
  rw [he _ (by omega)]
  have di := hd (2 * h + i) (by omega)
  rw [one_shl (by omega)]
  have p2 : 2 ^ d (2 * h + i) < 2 ^ gz f n := two_pow_lt di
  refine pw_eq (sM_spanOf g hT p2) (pw_eq (sM_leftIn g hT _ hH (gs_at g p2).2) (pw_in ⟨z, ?_⟩))
  rw [Int32.add_assoc, nI_add, show (nI i + (1 : Int32)) = nI (i + 1) from nI_add i 1]; rfl
end LEFT
