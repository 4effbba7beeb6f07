/-! THE CALLS fixed, left, behind -/
def fxC (f n S b : Nat) : Nat → Nat × Nat | 0 => (0, 0) | k + 1 => ((fxC f n S b k).1 ||| pws f n k S, if (fxC f n S b k).1.testBit k = false then (if pws f n b (pws f n k S) = pws f n k S then (fxC f n S b k).2 + 1 else (fxC f n S b k).2) else (fxC f n S b k).2)
def fxM (f n S b : Nat) : Nat → Nat × Nat | 0 => (0, 0) | k + 1 => if (fxM f n S b k).1.testBit k = false then ((fxM f n S b k).1 ||| pws f n k S, if pws f n b (pws f n k S) = pws f n k S then (fxM f n S b k).2 + 1 else (fxM f n S b k).2) else fxM f n S b k
theorem fx_chk : allE2 (fun f n a b => (fxC f n (gs f n (2 ^ a)) b (gz f n)).2 == (fxM f n (gs f n (2 ^ a)) b (gz f n)).2) = true := by decide +kernel
def lf (f n H S : Nat) : Nat → Nat × Nat | 0 => (0, 0) | k + 1 => if (lf f n H S k).1.testBit k = false then ((lf f n H S k).1 ||| pss f n H (pws f n k S), (lf f n H S k).2 + 1) else lf f n H S k
section FIXED
variable {f n h c : Nat} {p d : Nat → Nat} {P I O C Z T e w a w' a' ci far q dist pl : Nat → Int32} {cnt many maps al mk : Int32}
theorem fxC_ok (g : gok f n) {S b : Nat} : ∀ k, k ≤ gz f n → (fxC f n S b k).1 < 2 ^ gz f n ∧ (fxC f n S b k).2 ≤ k
  | 0, _ => ⟨Nat.two_pow_pos _, Nat.le_refl _⟩
  | k + 1, hk => by
    obtain ⟨a, q⟩ := fxC_ok g (S := S) (b := b) k (by omega)
    rw [fxC]
    refine ⟨Nat.or_lt_two_pow a (pws_lt g (by omega)), ?_⟩
    show (if _ then _ else _) ≤ _
    split
    · split
      · exact Nat.succ_le_succ q
      · exact Nat.le_succ_of_le q
    · exact Nat.le_succ_of_le q
theorem fxM_ok (g : gok f n) {S b : Nat} : ∀ k, k ≤ gz f n → (fxM f n S b k).1 < 2 ^ gz f n ∧ (fxM f n S b k).2 ≤ k
  | 0, _ => ⟨Nat.two_pow_pos _, Nat.le_refl _⟩
  | k + 1, hk => by
    obtain ⟨a, q⟩ := fxM_ok g (S := S) (b := b) k (by omega)
    rw [fxM]
    split
    · refine ⟨Nat.or_lt_two_pow a (pws_lt g (by omega)), ?_⟩
      show (if _ then _ else _) ≤ _
      split
      · exact Nat.succ_le_succ q
      · exact Nat.le_succ_of_le q
    · exact ⟨a, Nat.le_succ_of_le q⟩
theorem lf_ok (g : gok f n) {H S : Nat} : ∀ k, k ≤ gz f n → (lf f n H S k).1 < 2 ^ gz f n ∧ (lf f n H S k).2 ≤ k
  | 0, _ => ⟨Nat.two_pow_pos _, Nat.le_refl _⟩
  | k + 1, hk => by
    obtain ⟨a, b⟩ := lf_ok g (H := H) (S := S) k (by omega)
    rw [lf]
    split
    · exact ⟨Nat.or_lt_two_pow a (pss_lt g), by omega⟩
    · exact ⟨a, by omega⟩
theorem z256 (g : gok f n) {S : Nat} (hS : S < 2 ^ gz f n) : S < 2 ^ 31 := by
  have := gz_pow g; omega
theorem sC_fixedPlaces (g : gok f n) (hP : MT f n P) {S b : Nat} (hS : S < 2 ^ gz f n) (hb : b < gz f n) : fX1_fixedPlaces (nI S) (nI b) (nI (gz f n)) P = some (nI (fxC f n S b (gz f n)).2) := by
  have hz := gz_le g
  unfold fX1_fixedPlaces
  refine pw_val (pw_bind (R := fun v => v = nI (fxC f n S b (gz f n)).2) ?_ (fun t ht => pw_some ht))
  refine pw_run (fun i σ => σ = (nI (fxC f n S b i).1, nI (fxC f n S b i).2, nI i)) 0 (gz f n) (by omega) rfl (Nat.zero_le _) ?_
  rintro i _ hi rfl
  show pw (fX1_fixedPlaces_L8 (nI S) (nI b) (nI (gz f n)) P (nI (fxC f n S b i).1) (nI (fxC f n S b i).2) (nI i)) _
  unfold fX1_fixedPlaces_L8 fX1_fixedPlaces_J50L8
  obtain ⟨k1, k2⟩ := fxC_ok g (S := S) (b := b) i hi
  refine pw_le (by omega) (by omega) (fun z => pw_out (by rw [show gz f n = i by omega])) (fun z => pw_eq (sC_productWithSet g hP z (z256 g hS)) ?_)
  have tl := pws_lt g (a := i) (S := S) z
  have tl2 := pws_lt g (a := b) (S := pws f n i S) hb
  rw [show (nI i + (1 : Int32)) = nI (i + 1) from nI_add i 1, fa_or]
  refine pw_bit0 (z256 g k1) (by omega) (fun y => pw_eq (sC_productWithSet g hP hb (z256 g tl)) ?_) (fun y => pw_in ⟨z, ?_⟩)
  · refine pw_eqn (z256 g tl2) (z256 g tl) (fun x => pw_in ⟨z, ?_⟩) (fun x => pw_in ⟨z, ?_⟩)
    · rw [fxC, if_pos y, if_pos x, show (nI (fxC f n S b i).2 + (1 : Int32)) = nI ((fxC f n S b i).2 + 1) from nI_add _ 1]
    · rw [fxC, if_pos y, if_neg x]
  · rw [fxC, if_neg (by rw [y]; decide)]
theorem sM_fixedIn (g : gok f n) (hT : MT f n T) {S b A : Nat} (hS : S < 2 ^ gz f n) (hb : b < gz f n) : pz_iter (fun (σ : Int32 × Int32 × Int32) => fX6_fixed_L87 (nI b) (nI S) (nI (gz f n)) T σ.1 σ.2.1 σ.2.2) pz_FUEL (nI A, (0 : Int32), (0 : Int32)) = some (nI (A + (fxM f n S b (gz f n)).2)) := by
  have hz := gz_le g
  refine pw_val (pw_run (fun i σ => σ = (nI (A + (fxM f n S b i).2), nI (fxM f n S b i).1, nI i)) 0 (gz f n) (by omega) rfl (Nat.zero_le _) ?_)
  rintro i _ hi rfl
  show pw (fX6_fixed_L87 (nI b) (nI S) (nI (gz f n)) T (nI (A + (fxM f n S b i).2)) (nI (fxM f n S b i).1) (nI i)) _
  unfold fX6_fixed_L87 fX6_fixed_J141L87 fX6_fixed_J143L87
  obtain ⟨k1, k2⟩ := fxM_ok g (S := S) (b := b) i hi
  rw [show (nI i + (1 : Int32)) = nI (i + 1) from nI_add i 1]
  refine pw_le (by omega) (by omega) (fun z => pw_out (by rw [show gz f n = i by omega])) (fun z => ?_)
  have tl := pws_lt g (a := i) (S := S) z
  have tl2 := pws_lt g (a := b) (S := pws f n i S) hb
  refine pw_bit0 (z256 g k1) (by omega) (fun y => pw_eq (sM_leftOf g hT z (z256 g hS)) (pw_eq (sM_leftOf g hT hb (z256 g tl)) ?_)) (fun y => pw_in ⟨z, ?_⟩)
  · rw [fa_or]
    refine pw_eqn (z256 g tl2) (z256 g tl) (fun x => pw_in ⟨z, ?_⟩) (fun x => pw_in ⟨z, ?_⟩)
    · rw [fxM, if_pos y, if_pos x, show (nI (A + (fxM f n S b i).2) + (1 : Int32)) = nI (A + (fxM f n S b i).2 + 1) from nI_add _ 1]; rfl
    · rw [fxM, if_pos y, if_neg x, show (nI (A + (fxM f n S b i).2) + (0 : Int32)) = nI (A + (fxM f n S b i).2 + 0) from nI_add _ 0]; rfl
  · rw [fxM, if_neg (by rw [y]; decide)]
theorem sC_readsMap (g : gok f n) (hs : sok h c p) (hm : MA f n h c p a cnt) {k : Nat} (hk : k < tot f n h c p) (e : Nat → Int32) : pw (fX5_readsMap (nI k) 512 (nI (gz f n)) (nI h) (nI c) e a cnt) (fun v => v.1 = 1 ∧ DG (2 * h + c) (dg (2 * h + c) (kc f n h c p k)) v.2) := by
  have t512 := hm.2.1
  obtain ⟨k1, k2, k3⟩ := kc_ok hk
  obtain ⟨a1, a2⟩ := (iM_pM hs).mp k2
  unfold fX5_readsMap
  have has := sC_hasN (k := nI k) hm
  rw [if_pos ((ie_nI (by omega)).mpr hk)] at has
  refine pw_eq has (pw_F (by decide) (pw_rd (by omega) (by decide) ?_))
  rw [MA_at hm hk]
  obtain ⟨v, hv, hv1, hv2⟩ := sC_read (f := f) (n := n) (gz_le g) hs.2.1 (show kc f n h c p k < 2 ^ 31 by omega) e
  obtain ⟨b1, b2⟩ := hv1 ⟨a1, good_of a2.1⟩
  exact pw_eq hv (pw_F (by rw [b1]; decide) (pw_some ⟨rfl, b2⟩))
theorem sC_readsMap0 (hm : MA f n h c p a cnt) {x : Int32} (hx : ¬ ie x (tot f n h c p)) (e : Nat → Int32) : fX5_readsMap x 512 (nI (gz f n)) (nI h) (nI c) e a cnt = some (0, e) := by
  unfold fX5_readsMap
  have has := sC_hasN (k := x) hm
  rw [if_neg hx] at has
  exact pw_val (pw_eq has (pw_T rfl (pw_some rfl)))
end FIXED
