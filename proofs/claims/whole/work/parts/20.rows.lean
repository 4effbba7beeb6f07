/-! ROWS: digits, codes, what a code is -/
def dg (L x i : Nat) : Nat := x / 10 ^ (L - 1 - i) % 10
def cd : Nat → (Nat → Nat) → Nat | 0, _ => 0 | k + 1, d => cd k d * 10 + d k
def rpr (f n h : Nat) (d : Nat → Nat) : Nat → Nat
  | 0 => if h = 1 then gm f n (gm f n (d 0) (d 1)) (gm f n (gi f n (d 0)) (gi f n (d 1))) else 0
  | k + 1 => gm f n (rpr f n h d k) (d (2 * h + k))
def rset (L : Nat) (d : Nat → Nat) : Nat := orf L (fun i => 2 ^ d i)
def rord (f n h : Nat) (p d : Nat → Nat) (k : Nat) : Bool := allB k (fun i => go f n (d (2 * h + i)) == p i)
def rwh (f n L : Nat) (d : Nat → Nat) : Bool := gs f n (rset L d) == 2 ^ gz f n - 1
def good (f n L : Nat) (d : Nat → Nat) : Bool := allB L (fun i => decide (d i < gz f n))
def kd (f n h c : Nat) (p d : Nat → Nat) : Nat := if (rord f n h p d c && (rpr f n h d c == 0)) = true then (if rwh f n (2 * h + c) d = true then 2 else 1) else 0
def kdx (f n h c : Nat) (p : Nat → Nat) (x : Nat) : Nat := if good f n (2 * h + c) (dg (2 * h + c) x) = true then kd f n h c p (dg (2 * h + c) x) else 0
def isM (f n h c : Nat) (p : Nat → Nat) (x : Nat) : Bool := kdx f n h c p x == 2
def DG (L : Nat) (d : Nat → Nat) (e : Nat → Int32) : Prop := ∀ i, i < L → e i = nI (d i)
theorem kd_le {f n h c : Nat} {p d : Nat → Nat} : kd f n h c p d ≤ 2 := by
  unfold kd
  split
  · split <;> omega
  · omega
theorem good_at {f n L : Nat} {d : Nat → Nat} (h : good f n L d = true) {i : Nat} (hi : i < L) : d i < gz f n := by
  have := allB_at h i hi
  simpa using this
theorem rset_lt {f n L : Nat} {d : Nat → Nat} (hd : ∀ i, i < L → d i < gz f n) : rset L d < 2 ^ gz f n := orf_lt (fun k hk => two_pow_lt (hd k hk))
theorem rpr_lt {f n h : Nat} {d : Nat → Nat} (g : gok f n) {L : Nat} (hd : ∀ i, i < L → d i < gz f n) (h1 : h ≤ 1) : ∀ k, 2 * h + k ≤ L → rpr f n h d k < gz f n
  | 0, hk => by
    rw [rpr]
    by_cases q : h = 1
    · rw [if_pos q]
      have d0 := hd 0 (by omega)
      have d1 := hd 1 (by omega)
      exact gm_lt g (gm_lt g d0 d1) (gm_lt g (gi_ok g d0).1 (gi_ok g d1).1)
    · rw [if_neg q]; exact gz_pos g
  | k + 1, hk => gm_lt g (rpr_lt g hd h1 k (by omega)) (hd _ (by omega))
def dn (m : Nat) : Int32 := nI m - 1
theorem dn_succ (m : Nat) : dn (m + 1) = nI m := nI_pred m
theorem dn_step (m : Nat) : nI m + (-1 : Int32) = dn m := by
  unfold dn
  rw [Int32.sub_eq_add_neg]
theorem dn_neg : dn 0 < 0 := by decide
section ROWC
variable {f n h c L : Nat} {p d : Nat → Nat} {P I O C Z e w : Nat → Int32}
theorem sC_elementOfPeriod (he : DG L d e) (hL : L ≤ 4) {i : Nat} (hi : 2 * h + i < L) : fX3_elementOfPeriod (nI i) (nI h) e = some (nI (d (2 * h + i))) := by
  unfold fX3_elementOfPeriod
  simp only [fa_lit, nI_add, pk_mul, fa_and, fa_or, fb_xorI]
  exact pw_val (pw_rd (by omega) (by decide) (pw_some (he _ hi)))
theorem sC_hasOrders (g : gok f n) (hO : ∀ a, a < gz f n → O a = nI (go f n a)) (hw : ∀ i, i < c → w i = nI (p i)) (hp : ∀ i, i < c → p i ≤ 8) (he : DG L d e) (hL : L ≤ 4) (hd : ∀ i, i < L → d i < gz f n) {k : Nat} (hk : 2 * h + k ≤ L) (hkc : k ≤ c) : fX3_hasOrders (nI k) O (nI h) w e = some (bi (rord f n h p d k)) := by
  have hz := gz_le g
  unfold fX3_hasOrders
  refine pw_val (pw_bind (R := fun v => v = if rord f n h p d k = true then Sum.inl () else Sum.inr 0) ?_ (fun t ht => ?_))
  · refine pw_run (fun i s => s = nI i ∧ rord f n h p d i = true) 0 k (by omega) ⟨rfl, rfl⟩ (Nat.zero_le _) ?_
    rintro i _ hi ⟨rfl, hI⟩
    show pw (fX3_hasOrders_L2 (nI k) O (nI h) w e (nI i)) _
    unfold fX3_hasOrders_L2
    refine pw_le (by omega) (by omega) (fun q => pw_out ?_) (fun hi => ?_)
    · rw [show k = i by omega, if_pos hI]
    · have hdi := hd (2 * h + i) (by omega)
      have hg := (go_ok g hdi).1
      have hpi := hp i (by omega)
      refine pw_eq (sC_elementOfPeriod he hL (by omega)) (pw_rd (by omega) (by decide) ?_)
      rw [hO _ hdi]
      refine pw_rd (by omega) (by decide) ?_
      rw [hw i (by omega)]
      refine pw_eqn (by omega) (by omega) (fun q => pw_in ⟨hi, nI_add i 1, allB_succ hI (by simp [q])⟩) (fun q => pw_out ?_)
      rw [show rord f n h p d k = false from allB_not hi (by simp [q])]; rfl
  · subst ht
    cases rord f n h p d k with
    | true => exact pw_some rfl
    | false => exact pw_some rfl
theorem sC_productOfFirst (g : gok f n) (hP : MT f n P) (hI : ∀ a, a < gz f n → I a = nI (gi f n a)) (h1 : h ≤ 1) (he : DG L d e) (hL : L ≤ 4) (hd : ∀ i, i < L → d i < gz f n) {k : Nat} (hk : 2 * h + k ≤ L) : fX3_productOfFirst (nI k) P I (nI h) e = some (nI (rpr f n h d k)) := by
  have hz := gz_le g
  have rest : fX3_productOfFirst_J77 (nI k) (nI (rpr f n h d 0)) P (nI h) e = some (nI (rpr f n h d k)) := by
    unfold fX3_productOfFirst_J77
    refine pw_val (pw_bind (R := fun v => v = nI (rpr f n h d k)) ?_ (fun t ht => pw_some ht))
    refine pw_run (fun i s => s = (nI (rpr f n h d i), nI i)) 0 k (by omega) rfl (Nat.zero_le _) ?_
    rintro i _ hi rfl
    show pw (fX3_productOfFirst_L79 (nI k) P (nI h) e (nI (rpr f n h d i)) (nI i)) _
    unfold fX3_productOfFirst_L79
    refine pw_le (by omega) (by omega) (fun q => pw_out (by rw [show k = i by omega])) (fun hi => ?_)
    have hdi := hd (2 * h + i) (by omega)
    refine pw_eq (sC_elementOfPeriod he hL (by omega)) (pw_eq (sC_product g hP (rpr_lt g hd h1 i (by omega)) hdi) (pw_in ⟨hi, ?_⟩))
    rw [show (nI i + (1 : Int32)) = nI (i + 1) from nI_add i 1]; rfl
  unfold fX3_productOfFirst
  rcases (show h = 0 ∨ h = 1 by omega) with rfl | rfl
  · rw [if_neg (by decide)]
    exact rest
  · rw [if_pos (c := nI 1 = (1 : Int32)) rfl]
    have d0 := hd 0 (by omega)
    have d1 := hd 1 (by omega)
    have i0 := (gi_ok g d0).1
    have i1 := (gi_ok g d1).1
    refine pw_val (pw_rd (i := 0) (by decide) (by decide) (pw_rd (i := 1) (by decide) (by decide) ?_))
    rw [he 0 (by omega), he 1 (by omega)]
    refine pw_eq (sC_product g hP d0 d1) (pw_rd (i := 0) (by decide) (by decide) ?_)
    rw [he 0 (by omega)]
    refine pw_rd (by omega) (by decide) ?_
    rw [hI _ d0]
    refine pw_rd (i := 1) (by decide) (by decide) ?_
    rw [he 1 (by omega)]
    refine pw_rd (by omega) (by decide) ?_
    rw [hI _ d1]
    refine pw_eq (sC_product g hP i0 i1) (pw_eq (sC_product g hP (gm_lt g d0 d1) (gm_lt g i0 i1)) ?_)
    exact pw_is rest rfl
theorem sC_isWhole (g : gok f n) (hZ : ∀ S, S < 2 ^ gz f n → Z S = nI (gs f n S)) (he : DG (2 * h + c) d e) (hL : 2 * h + c ≤ 4) (hd : ∀ i, i < 2 * h + c → d i < gz f n) : fX3_isWhole (nI (gz f n)) Z (nI h) (nI c) e = some (bi (rwh f n (2 * h + c) d)) := by
  have hz := gz_le g
  have hp := gz_pow g
  have hp1 : 1 ≤ 2 ^ gz f n := Nat.one_le_two_pow
  unfold fX3_isWhole
  have hr := rset_lt hd
  refine pw_val (pw_bind (R := fun v => v = nI (rset (2 * h + c) d)) ?_ ?_)
  · refine pw_run (fun i s => s = (nI (orf i (fun i => 2 ^ d i)), nI i)) 0 (2 * h + c) (by omega) rfl (Nat.zero_le _) ?_
    rintro i _ hi rfl
    show pw (fX3_isWhole_L4 (nI h) (nI c) e (nI (orf i _)) (nI i)) _
    unfold fX3_isWhole_L4
    refine pw_eq sC_digits (pw_le (by omega) (by omega) (fun q => pw_out (by rw [show 2 * h + c = i by omega]; rfl)) (fun hi => ?_))
    have hdi := hd i hi
    refine pw_rd (by omega) (by decide) ?_
    rw [he i hi]
    refine pw_in ⟨hi, ?_⟩
    rw [show (1 : Int32) <<< (nI (d i) &&& 31) = nI (1 <<< d i) from bz_shl 1 (by omega), Nat.one_shiftLeft, fa_or, show (nI i + (1 : Int32)) = nI (i + 1) from nI_add i 1]; rfl
  · rintro t rfl
    have g2 := (gs_at g hr).2
    refine pw_eq (sC_spanOf g hZ hr) (pw_eq (sC_whole hz) (pw_eqn (by omega) (by omega) (fun q => pw_some ?_) (fun q => pw_some ?_)))
    · rw [show rwh f n (2 * h + c) d = true by unfold rwh; simp [q]]; rfl
    · rw [show rwh f n (2 * h + c) d = false by unfold rwh; simp [q]]; rfl
theorem sC_kind (g : gok f n) (hG : CG f n P I O C Z) (hs : sok h c p) (hw : ∀ i, i < c → w i = nI (p i)) (he : DG (2 * h + c) d e) (hd : ∀ i, i < 2 * h + c → d i < gz f n) : fX3_kind (nI (gz f n)) P I O Z (nI h) (nI c) w e = some (nI (kd f n h c p d)) := by
  obtain ⟨h1, h2, h3⟩ := hs
  have hz := gz_le g
  unfold fX3_kind
  refine pw_val (pw_eq (sC_hasOrders g hG.2.2.1 hw (fun i hi => (h3 i hi).2) he h2 hd (Nat.le_refl _) (Nat.le_refl _)) ?_)
  have hr := rpr_lt g hd h1 c (Nat.le_refl _)
  unfold kd
  cases q : rord f n h p d c with
  | false => exact pw_T rfl (pw_some rfl)
  | true =>
    refine pw_F (by decide) (pw_eq (sC_productOfFirst g hG.1 hG.2.1 h1 he h2 hd (Nat.le_refl _)) ?_)
    refine pw_eqn (b := 0) (by omega) (by decide) (fun q2 => ?_) (fun q2 => pw_some ?_)
    · refine pw_eq (sC_isWhole g hG.2.2.2.2 he h2 hd) ?_
      rw [show (true && (rpr f n h d c == 0)) = true by simp [q2], if_pos (rfl : true = true)]
      cases rwh f n (2 * h + c) d with
      | false => exact pw_T rfl (pw_some rfl)
      | true => exact pw_F (by decide) (pw_some rfl)
    · rw [show (true && (rpr f n h d c == 0)) = false by simp [q2]]; rfl
theorem cd_lt {d : Nat → Nat} : ∀ k, (∀ i, i < k → d i < 10) → cd k d < 10 ^ k
  | 0, _ => Nat.one_pos
  | k + 1, hd => by
    have := cd_lt k (fun i hi => hd i (by omega))
    have := hd k (by omega)
    rw [cd, Nat.pow_succ]; omega
theorem pow4 {L : Nat} (hL : L ≤ 4) : 10 ^ L ≤ 10000 := by
  have : 10 ^ L ≤ 10 ^ 4 := Nat.pow_le_pow_right (by decide) hL
  omega
theorem sC_code (hL : 2 * h + c ≤ 4) (he : DG (2 * h + c) d e) : fX3_code (nI h) (nI c) e = some (nI (cd (2 * h + c) d)) := by
  unfold fX3_code
  refine pw_val (pw_bind (R := fun v => v = nI (cd (2 * h + c) d)) ?_ (fun t ht => pw_some ht))
  refine pw_run (fun i s => s = (nI (cd i d), nI i)) 0 (2 * h + c) (by omega) rfl (Nat.zero_le _) ?_
  rintro i _ hi rfl
  show pw (fX3_code_L4 (nI h) (nI c) e (nI (cd i d)) (nI i)) _
  unfold fX3_code_L4
  refine pw_eq sC_digits (pw_le (by omega) (by omega) (fun q => pw_out (by rw [show 2 * h + c = i by omega])) (fun hi => ?_))
  refine pw_rd (by omega) (by decide) ?_
  rw [he i hi]
  refine pw_in ⟨hi, ?_⟩
  rw [show (10 : Int32) = nI 10 from rfl, pk_mul, nI_add, show (nI i + (1 : Int32)) = nI (i + 1) from nI_add i 1]; rfl
theorem sM_written (hL : 2 * h + c ≤ 4) (he : DG (2 * h + c) d e) : fX6_written (nI h) (nI c) e = some (nI (cd (2 * h + c) d)) := by
  unfold fX6_written
  refine pw_val (pw_bind (R := fun v => v = nI (cd (2 * h + c) d)) ?_ (fun t ht => pw_some ht))
  refine pw_run (fun i s => s = (nI (cd i d), nI i)) 0 (2 * h + c) (by omega) rfl (Nat.zero_le _) ?_
  rintro i _ hi rfl
  show pw (fX6_written_L4 (nI h) (nI c) e (nI (cd i d)) (nI i)) _
  unfold fX6_written_L4
  refine pw_eq sM_length (pw_le (by omega) (by omega) (fun q => pw_out (by rw [show 2 * h + c = i by omega])) (fun hi => ?_))
  refine pw_rd (by omega) (by decide) ?_
  rw [he i hi]
  refine pw_in ⟨hi, ?_⟩
  rw [show (10 : Int32) = nI 10 from rfl, pk_mul, nI_add, show (nI i + (1 : Int32)) = nI (i + 1) from nI_add i 1, Nat.mul_comm]; rfl
theorem dg_lt (L x i : Nat) : dg L x i < 10 := Nat.mod_lt _ (by decide)
theorem bz_div10 {a : Nat} (ha : a < 2 ^ 31) : nI a / (10 : Int32) = nI (a / 10) := pk_div ha (by decide) (by decide)
theorem bz_mod10 {a : Nat} (ha : a < 2 ^ 31) : nI a - nI a / (10 : Int32) * (10 : Int32) = nI (a % 10) := pk_rem ha (by decide) (by decide)
/-- digits that have been read: the last j of L -/
theorem read_step {L j x : Nat} (hj : j < L) {e : Nat → Int32} (he : ∀ i, i < L → L - j ≤ i → e i = nI (dg L x i)) : ∀ i, i < L → L - (j + 1) ≤ i → upd e (L - (j + 1)) (nI (x / 10 ^ j % 10)) i = nI (dg L x i) := by
  intro i hi hi2
  by_cases q : i = L - (j + 1)
  · subst q
    rw [upd_s]
    unfold dg
    rw [show L - 1 - (L - (j + 1)) = j by omega]
  · rw [upd_n q]; exact he i hi (by omega)
theorem sM_read (hL : 2 * h + c ≤ 4) {x : Nat} (hx : x < 2 ^ 31) (e : Nat → Int32) : pw (fX6_read (nI x) (nI h) (nI c) e) (DG (2 * h + c) (dg (2 * h + c) x)) := by
  unfold fX6_read
  refine pw_eq sM_length (pw_bind (R := DG (2 * h + c) (dg (2 * h + c) x)) ?_ (fun t ht => pw_some ht))
  generalize 2 * h + c = L at hL
  refine pw_run (fun j s => ∃ e', s = (nI (x / 10 ^ j), dn (L - j), e') ∧ ∀ i, i < L → L - j ≤ i → e' i = nI (dg L x i)) 0 L (by omega) ⟨e, by rw [Nat.pow_zero, Nat.div_one]; rfl, fun i h1 h2 => by omega⟩ (Nat.zero_le _) ?_
  rintro j _ hj ⟨e', rfl, hI⟩
  show pw (fX6_read_L9 (nI (x / 10 ^ j)) (dn (L - j)) e') _
  unfold fX6_read_L9
  have hb : x / 10 ^ j < 2 ^ 31 := Nat.lt_of_le_of_lt (Nat.div_le_self _ _) hx
  rcases (show j = L ∨ j < L by omega) with rfl | hj
  · rw [Nat.sub_self]
    exact pw_T dn_neg (pw_out (fun i hi => hI i hi (by omega)))
  · rw [show L - j = (L - (j + 1)) + 1 by omega, dn_succ]
    refine pw_F (nI_pos (by omega)) ?_
    rw [bz_mod10 hb, bz_div10 hb]
    refine pw_wr (by omega) (by decide) (pw_in ⟨hj, _, ?_, read_step hj hI⟩)
    rw [dn_step, Nat.div_div_eq_div_mul, Nat.pow_succ]
theorem sM_tens (hL : L ≤ 4) : fX6_tens (nI L) = some (nI (10 ^ L)) := by
  have : allB 5 (fun L => decide (fX6_tens (nI L) = some (nI (10 ^ L)))) = true := by decide +kernel
  simpa using allB_at this L (by omega)
end ROWC
