section FIXED2
variable {f n h c : Nat} {p d : Nat → Nat} {P I O C Z T e w a w' a' ci far q dist pl : Nat → Int32} {cnt many maps al mk : Int32}
def fxT (f n h : Nat) (d : Nat → Nat) (b k : Nat) : Nat := fb_sm (fun i => (fxM f n (gs f n (2 ^ d (2 * h + i))) b (gz f n)).2) k
theorem one_shl {a : Nat} (ha : a < 32) : (1 : Int32) <<< (nI a &&& 31) = nI (2 ^ a) := by
  rw [show (1 : Int32) <<< (nI a &&& 31) = nI (1 <<< a) from bz_shl 1 ha, Nat.one_shiftLeft]
theorem fxT_le (g : gok f n) {b k : Nat} : fxT f n h d b k ≤ k * 8 := fb_sm_bound (fun i _ => by have := (fxM_ok g (S := gs f n (2 ^ d (2 * h + i))) (b := b) (gz f n) (Nat.le_refl _)).2; have := gz_le g; omega)
theorem sC_fixedLoop (g : gok f n) (hG : CG f n P I O C Z) (hL : 2 * h + c ≤ 4) (hd : ∀ i, i < 2 * h + c → d i < gz f n) (he : DG (2 * h + c) d e) {b : Nat} (hb : b < gz f n) : pz_iter (fun (σ : Int32 × Int32) => fX5_fixed_L39 (nI b) (nI (gz f n)) P Z (nI h) (nI c) e σ.1 σ.2) pz_FUEL ((0 : Int32), (0 : Int32)) = some (nI (fxT f n h d b c)) := by
  have hz := gz_le g
  refine pw_val (pw_run (fun i σ => σ = (nI (fxT f n h d b i), nI i)) 0 c (by omega) rfl (Nat.zero_le _) ?_)
  rintro i _ hi rfl
  show pw (fX5_fixed_L39 (nI b) (nI (gz f n)) P Z (nI h) (nI c) e (nI (fxT f n h d b i)) (nI i)) _
  unfold fX5_fixed_L39
  refine pw_le (by omega) (by omega) (fun z => pw_out (by rw [show c = i by omega])) (fun z => pw_eq (sC_elementOfPeriod he hL (by omega)) ?_)
  have di := hd (2 * h + i) (by omega)
  rw [one_shl (by omega)]
  have p2 : 2 ^ d (2 * h + i) < 2 ^ gz f n := two_pow_lt di
  refine pw_eq (sC_spanOf g hG.2.2.2.2 p2) (pw_eq (sC_fixedPlaces g hG.1 (gs_at g p2).2 hb) (pw_in ⟨z, ?_⟩))
  have e1 : (fxC f n (gs f n (2 ^ d (2 * h + i))) b (gz f n)).2 = (fxM f n (gs f n (2 ^ d (2 * h + i))) b (gz f n)).2 := by
    have := allE2_at fx_chk g di hb
    simpa using this
  rw [e1, nI_add, show (nI i + (1 : Int32)) = nI (i + 1) from nI_add i 1]; rfl
theorem sM_fixedLoop (g : gok f n) (hT : MT f n T) (hL : 2 * h + c ≤ 4) (hd : ∀ i, i < 2 * h + c → d i < gz f n) (he : DG (2 * h + c) d e) {b : Nat} (hb : b < gz f n) : pz_iter (fun (σ : Int32 × Int32) => fX6_fixed_L50 (nI b) (nI (gz f n)) T (nI h) (nI c) e σ.1 σ.2) pz_FUEL ((0 : Int32), (0 : Int32)) = some (nI (fxT f n h d b c)) := by
  have hz := gz_le g
  refine pw_val (pw_run (fun i σ => σ = (nI (fxT f n h d b i), nI i)) 0 c (by omega) rfl (Nat.zero_le _) ?_)
  rintro i _ hi rfl
  show pw (fX6_fixed_L50 (nI b) (nI (gz f n)) T (nI h) (nI c) e (nI (fxT f n h d b i)) (nI i)) _
  unfold fX6_fixed_L50
  refine pw_le (by omega) (by omega) (fun z => pw_out (by rw [show c = i by omega])) (fun z => ?_)
  rw [show ((2 : Int32) * nI h) + nI i = nI (2 * h + i) from by rw [show (2 : Int32) = nI 2 from rfl, pk_mul, nI_add]]
  refine pw_rd (by omega) (by decide) ?_
  rw [he _ (by omega)]
  have di := hd (2 * h + i) (by omega)
  rw [one_shl (by omega)]
  have p2 : 2 ^ d (2 * h + i) < 2 ^ gz f n := two_pow_lt di
  refine pw_eq (sM_spanOf g hT p2) (pw_eq (sM_fixedIn g hT (gs_at g p2).2 hb) (pw_in ⟨z, ?_⟩))
  rw [show (nI i + (1 : Int32)) = nI (i + 1) from nI_add i 1]; rfl
theorem rs_fixed (g : gok f n) (hT : MT f n T) (hG : CG f n P I O C Z) (hs : sok h c p) (hw : ∀ i, i < c → w i = nI (p i)) (hw' : ∀ i, i < c → w' i = nI (p i)) (hk : mk = 0 ∨ mk = 1 ∧ MA f n h c p a cnt) (hl : al = 0 ∨ al = 1 ∧ LD f n h c p maps a' ci pl many) (x1 x2 : Int32) (e far q e' : Nat → Int32) : ∃ v u, fX5_fixed x1 x2 512 (nI (gz f n)) P I O Z (nI h) (nI c) w e a cnt mk = some v ∧ fX6_fixed x1 x2 (nI (gz f n)) T (nI h) (nI c) w' al maps a' ci far q pl many e' = some u ∧ v.1 = u.1 ∧ KPo f n h c p v ∧ LPo f n h c p u := by
  have hz := gz_le g
  have t512 := tot_le (p := p) g hG hs
  obtain ⟨t, ht, hm, hk1⟩ := sC_prepare g hG hs hw e hk
  obtain ⟨u, hu, hl1, hl2⟩ := sM_lay g hT hs hw' t512 hl far q e'
  have kp : ∀ (ans : Int32) (e : Nat → Int32), KPo f n h c p (ans, e, t.2.1, t.2.2.1, t.2.2.2) := fun _ _ => ⟨hm, hk1⟩
  have lp : ∀ (ans : Int32) (e : Nat → Int32), LPo f n h c p (ans, u.1, u.2.1, u.2.2.1, u.2.2.2.1, u.2.2.2.2.1, u.2.2.2.2.2.1, u.2.2.2.2.2.2.1, u.2.2.2.2.2.2.2.1, e) := fun _ _ => ⟨hl1, hl2⟩
  have l1 := hl2.1.1
  have hin := sM_inP (c := tot f n h c p) x1 (by omega)
  rw [← l1] at hin
  have ez : (nI (gz f n) - (1 : Int32)).toInt = (gz f n : Int) - 1 := pk_sub_toInt (a := gz f n) (b := 1) (by omega) (by decide)
  have hin2 := sM_in x2 (1 : Int32) (nI (gz f n) - (1 : Int32))
  obtain ⟨_, lit1, _⟩ := toInt_lits
  rw [ez, lit1] at hin2
  unfold fX5_fixed fX6_fixed
  rw [ht, hu]
  by_cases q1 : ie x1 (tot f n h c p)
  · rw [if_pos q1] at hin
    obtain ⟨k, k1, rfl⟩ := ie_of q1 (by omega)
    obtain ⟨v, hv, v1, v2⟩ := sC_readsMap g hs hm k1 t.1
    obtain ⟨r1, r2, r3⟩ := kc_ok k1
    obtain ⟨a1, a2⟩ := (iM_pM hs).mp r2
    by_cases q2 : (1 : Int) ≤ x2.toInt ∧ x2.toInt ≤ (gz f n : Int) - 1
    · rw [if_pos q2] at hin2
      obtain ⟨b, hb, rfl⟩ : ∃ b, b < gz f n ∧ x2 = nI b := ⟨x2.toInt.toNat, by omega, of_rng (by omega) (by omega)⟩
      have lt1 : ¬ nI b < (1 : Int32) := fun y => by rw [fa_lt, lit1] at y; omega
      refine pw_two (x := nI (fxT f n h (dg (2 * h + c) (kc f n h c p k)) b c)) (pw_eq rfl (pw_eq hv (pw_F (by rw [v1]; decide) (pw_F lt1 (pw_eq (sC_isElement _ (by omega)) ?_))))) (pw_eq rfl (pw_eq hin (pw_F (by decide) (pw_eq hin2 (pw_F (by decide) (pw_rd (by omega) (by decide) ?_))))))
      · rw [if_pos ((ie_nI (by omega)).mpr hb)]
        exact pw_F (by decide) (pw_eq (sC_fixedLoop g hG hs.2.1 a2.1 v2 hb) (pw_some ⟨rfl, kp _ _⟩))
      · rw [MA_at hl2.1 k1]
        obtain ⟨s, hs1, hs2⟩ := sM_read hs.2.1 (show kc f n h c p k < 2 ^ 31 by omega) u.2.2.2.2.2.2.2.2
        exact pw_eq hs1 (pw_eq (sM_fixedLoop g hT hs.2.1 a2.1 hs2 hb) (pw_some ⟨rfl, lp _ _⟩))
    · rw [if_neg q2] at hin2
      refine pw_two (x := (-2 : Int32)) (pw_eq rfl (pw_eq hv (pw_F (by rw [v1]; decide) ?_))) (pw_eq rfl (pw_eq hin (pw_F (by decide) (pw_eq hin2 (pw_T rfl (pw_some ⟨rfl, lp _ _⟩))))))
      refine pw_if (fun y => pw_some ⟨rfl, kp _ _⟩) (fun y => pw_eq (sC_isElement _ (by omega)) ?_)
      rw [fa_lt, lit1] at y
      have ni : ¬ ie x2 (gz f n) := fun x => q2 ⟨by omega, by have x2 : x2.toInt < (gz f n : Int) := x.2; omega⟩
      rw [if_neg ni]
      exact pw_T rfl (pw_some ⟨rfl, kp _ _⟩)
  · rw [if_neg q1] at hin
    exact pw_two (x := (-2 : Int32)) (pw_eq rfl (pw_eq (sC_readsMap0 hm q1 _) (pw_T rfl (pw_some ⟨rfl, kp _ _⟩)))) (pw_eq rfl (pw_eq hin (pw_T rfl (pw_some ⟨rfl, lp _ _⟩))))
end FIXED2
