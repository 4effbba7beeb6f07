/-! STEPS from map to map -/
def kc (f n h c : Nat) (p : Nat → Nat) (k : Nat) : Nat := fa_first (fun x => iM f n h c p x && fb_ct (iM f n h c p) x == k) 10000
def nxc (f n h c : Nat) (p : Nat → Nat) (x m : Nat) : Nat := cd (2 * h + c) (mvd f n h p m (dg (2 * h + c) x))
def mvs (f n c i : Nat) : Nat := if i < c - 1 then i + 1 else if i < c - 1 + gz f n then 10 + (i - (c - 1)) else 20 + (i - (c - 1) - gz f n)
def mvc (f n h c : Nat) : Nat := c - 1 + gz f n + 2 * h
def rk (f n h c m : Nat) : Nat := min (m - 1) (c - 1) + min (m - 10) (gz f n) + min (m - 20) (2 * h)
def nx (f n h c : Nat) (p : Nat → Nat) (k i : Nat) : Nat := fb_ct (iM f n h c p) (nxc f n h c p (kc f n h c p k) (mvs f n c i))
def STP (t mc : Nat) (nx : Nat → Nat → Nat) (a : Nat → Int32) : Prop := ∀ k i, k < t → i < mc → a (k * 11 + i) = nI (nx k i)
section STEPS
variable {f n h c : Nat} {p d : Nat → Nat} {P I O C Z T e w a : Nat → Int32} {cnt : Int32}
theorem kc_ok {k : Nat} (hk : k < tot f n h c p) : kc f n h c p k < 10000 ∧ iM f n h c p (kc f n h c p k) = true ∧ fb_ct (iM f n h c p) (kc f n h c p k) = k := by
  obtain ⟨x, x1, x2, x3⟩ := fb_ct_kth hk
  have le := fa_first_le (fun x => iM f n h c p x && fb_ct (iM f n h c p) x == k) 10000
  have no := fa_first_no (fun x => iM f n h c p x && fb_ct (iM f n h c p) x == k) 10000
  have yes := fa_first_yes (fun x => iM f n h c p x && fb_ct (iM f n h c p) x == k) 10000
  have lt : kc f n h c p k < 10000 := by
    unfold kc
    rcases Nat.lt_or_ge (fa_first (fun x => iM f n h c p x && fb_ct (iM f n h c p) x == k) 10000) 10000 with q | q
    · exact q
    · have := no x (by omega)
      simp [x2, x3] at this
  have := yes lt
  rw [Bool.and_eq_true] at this
  have e : (fb_ct (iM f n h c p) (kc f n h c p k) == k) = true := this.2
  exact ⟨lt, this.1, by simpa using e⟩
theorem kc_ix (hs : sok h c p) {x : Nat} (hx : iM f n h c p x = true) : kc f n h c p (fb_ct (iM f n h c p) x) = x := by
  have hl := (iM_lt hs hx).2
  obtain ⟨k1, k2, k3⟩ := kc_ok (ix_lt hx hl)
  exact fb_ct_kth_one k2 hx k3
theorem iM_pM (hs : sok h c p) {x : Nat} : iM f n h c p x = true ↔ x < 10 ^ (2 * h + c) ∧ pM f n h c p (dg (2 * h + c) x) := by
  unfold iM
  rw [Bool.and_eq_true]
  constructor
  · rintro ⟨a, b⟩
    obtain ⟨b1, b2, b3, b4⟩ := isM_at b
    exact ⟨by simpa using a, b1, rord_iff.mp b2, b3, b4⟩
  · rintro ⟨a, b1, b2, b3, b4⟩
    refine ⟨by simpa using a, ?_⟩
    rw [isM_good b1, rord_iff.mpr b2, b3, b4]; rfl
theorem nxc_ok (g : gok f n) (hs : sok h c p) {x m : Nat} (hm : imv h c (gz f n) m) (hx : iM f n h c p x = true) : iM f n h c p (nxc f n h c p x m) = true ∧ ∀ i, i < 2 * h + c → dg (2 * h + c) (nxc f n h c p x m) i = mvd f n h p m (dg (2 * h + c) x) i := by
  have hz := gz_le g
  obtain ⟨a, b⟩ := (iM_pM hs).mp hx
  have b' := mvd_pM g hs hm b
  have t : ∀ i, i < 2 * h + c → mvd f n h p m (dg (2 * h + c) x) i < 10 := fun i hi => by have := b'.1 i hi; omega
  have e : ∀ i, i < 2 * h + c → dg (2 * h + c) (nxc f n h c p x m) i = mvd f n h p m (dg (2 * h + c) x) i := fun i hi => dg_cd _ t i hi
  refine ⟨(iM_pM hs).mpr ⟨cd_lt _ t, ?_⟩, e⟩
  obtain ⟨b1, b2, b3, b4⟩ := b'
  refine ⟨fun i hi => by rw [e i hi]; exact b1 i hi, fun i hi => by rw [e _ (by omega)]; exact b2 i hi, by rw [rpr_cong hs.1 c e]; exact b3, ?_⟩
  unfold rwh rset at b4 ⊢
  rw [orf_cong (fun k hk => by rw [e k hk])]
  exact b4
theorem nxc_inj (g : gok f n) (hs : sok h c p) {x y m : Nat} (hm : imv h c (gz f n) m) (hx : iM f n h c p x = true) (hy : iM f n h c p y = true) (q : nxc f n h c p x m = nxc f n h c p y m) : x = y := by
  obtain ⟨a, b⟩ := (iM_pM hs).mp hx
  obtain ⟨a', b'⟩ := (iM_pM hs).mp hy
  have e := (nxc_ok g hs hm hx).2
  have e' := (nxc_ok g hs hm hy).2
  rw [← cd_dg hs.2.1 a, ← cd_dg hs.2.1 a']
  refine cd_cong _ (mvd_inj g hs hm b.1 b'.1 (fun i hi => ?_))
  rw [← e i hi, ← e' i hi, q]
theorem mvs_ok (g : gok f n) (hs : sok h c p) {i : Nat} (hi : i < mvc f n h c) : imv h c (gz f n) (mvs f n c i) := by
  have hz := gz_le g
  have h1 := hs.1
  unfold mvc at hi
  unfold imv mvs
  by_cases q : i < c - 1
  · rw [if_pos q]; omega
  · rw [if_neg q]
    by_cases q2 : i < c - 1 + gz f n
    · rw [if_pos q2]; omega
    · rw [if_neg q2]; omega
theorem mvc_le (g : gok f n) (hs : sok h c p) : mvc f n h c ≤ 11 := by
  have hz := gz_le g
  have h1 := hs.1
  have h2 := hs.2.1
  unfold mvc; omega
theorem nx_kc (g : gok f n) (hs : sok h c p) {k i : Nat} (hk : k < tot f n h c p) (hi : i < mvc f n h c) : kc f n h c p (nx f n h c p k i) = nxc f n h c p (kc f n h c p k) (mvs f n c i) := kc_ix hs (nxc_ok g hs (mvs_ok g hs hi) (kc_ok hk).2.1).1
theorem nx_ok (g : gok f n) (hs : sok h c p) : nxok (tot f n h c p) (mvc f n h c) (nx f n h c p) := by
  refine ⟨fun k i hk hi => ?_, fun k l i hk hl hi e => ?_⟩
  · have := (nxc_ok g hs (mvs_ok g hs hi) (kc_ok hk).2.1).1
    exact ix_lt this (iM_lt hs this).2
  · have e1 := nx_kc g hs hk hi
    have e2 := nx_kc g hs hl hi
    rw [e, e2] at e1
    have := nxc_inj g hs (mvs_ok g hs hi) (kc_ok hl).2.1 (kc_ok hk).2.1 e1
    rw [← (kc_ok hk).2.2, ← (kc_ok hl).2.2, this]
theorem sC_movesN (hs : sok h c p) : fX3_movesOfNeighbours (nI c) = some (nI (c - 1)) := by
  have h2 := hs.2.1
  unfold fX3_movesOfNeighbours
  rcases Nat.eq_zero_or_pos c with q | q
  · subst q; rfl
  · rw [show nI c - (1 : Int32) = nI (c - 1) from pk_sub (a := c) (b := 1) q]
    by_cases r : 0 < c - 1
    · rw [if_pos (show (0 : Int32) < nI (c - 1) from (nI_ltI (a := 0) (by decide) (by omega)).mpr r)]
    · rw [show c - 1 = 0 by omega]; rfl
theorem sC_moveCount (g : gok f n) (hs : sok h c p) : fX3_moveCount (nI (gz f n)) (nI h) (nI c) = some (nI (mvc f n h c)) := by
  unfold fX3_moveCount
  refine pw_val (pw_eq (sC_movesN hs) (pw_some ?_))
  rw [show (2 : Int32) = nI 2 from rfl, pk_mul, nI_add, nI_add]; rfl
theorem sC_moveAt (g : gok f n) (hs : sok h c p) {i : Nat} (hi : i < mvc f n h c) : fX3_moveAt (nI i) (nI (gz f n)) (nI c) = some (nI (mvs f n c i)) := by
  have hz := gz_le g
  have h2 := hs.2.1
  have h11 := mvc_le g hs
  unfold fX3_moveAt mvs
  refine pw_val (pw_eq (sC_movesN hs) ?_)
  by_cases q : i < c - 1
  · rw [if_pos q]
    refine pw_F (fun z => ?_) (pw_some ?_)
    · rw [fa_le, pk_sub_toInt (by omega) (by omega), toInt_lits.1] at z; omega
    · exact nI_add i 1
  · rw [if_neg q, show nI i - nI (c - 1) = nI (i - (c - 1)) from pk_sub (by omega)]
    refine pw_le (a := 0) (by decide) (by omega) (fun _ => pw_le (by omega) (by omega) (fun r => pw_some ?_) (fun r => pw_some ?_)) (fun r => absurd r (Nat.not_lt_zero _))
    · rw [if_neg (by omega), show (20 : Int32) = nI 20 from rfl, nI_add]
      rw [show nI (20 + (i - (c - 1))) - nI (gz f n) = nI (20 + (i - (c - 1)) - gz f n) from pk_sub (by omega), show 20 + (i - (c - 1)) - gz f n = 20 + (i - (c - 1) - gz f n) by omega]
    · rw [if_pos (by omega), show (10 : Int32) = nI 10 from rfl, nI_add]
theorem sC_findSteps (g : gok f n) (hG : CG f n P I O C Z) (hs : sok h c p) (hw : ∀ i, i < c → w i = nI (p i)) (hm : MA f n h c p a cnt) {k : Nat} (hk : k < tot f n h c p) (e st : Nat → Int32) : pw (fX0_findSteps (nI k) 512 (nI (gz f n)) P C (nI h) (nI c) w e a cnt st (nI (mvc f n h c))) (fun v => (∀ i, i < mvc f n h c → v.2 (k * 11 + i) = nI (nx f n h c p k i)) ∧ ∀ j, (j < k * 11 ∨ k * 11 + 11 ≤ j) → v.2 j = st j) := by
  have hz := gz_le g
  have h4 := pow4 hs.2.1
  have h11 := mvc_le g hs
  have t512 := hm.2.1
  obtain ⟨k1, k2, k3⟩ := kc_ok hk
  have kl := (iM_lt hs k2).1
  unfold fX0_findSteps
  refine pw_bind (R := fun v => (∀ i, i < mvc f n h c → v.2 (k * 11 + i) = nI (nx f n h c p k i)) ∧ ∀ j, (j < k * 11 ∨ k * 11 + 11 ≤ j) → v.2 j = st j) ?_ (fun t ht => pw_some ht)
  refine pw_run (fun i s => ∃ e' st', s = (nI i, e', st') ∧ (∀ j, j < i → st' (k * 11 + j) = nI (nx f n h c p k j)) ∧ ∀ j, (j < k * 11 ∨ k * 11 + 11 ≤ j) → st' j = st j) 0 (mvc f n h c) (by omega) ⟨e, st, rfl, fun j hj => absurd hj (Nat.not_lt_zero j), fun _ _ => rfl⟩ (Nat.zero_le _) ?_
  rintro i _ hi ⟨e', st', rfl, i1, i2⟩
  show pw (fX0_findSteps_L2 (nI k) 512 (nI (gz f n)) P C (nI h) (nI c) w a cnt (nI (mvc f n h c)) (nI i) e' st') _
  unfold fX0_findSteps_L2
  refine pw_le (by omega) (by omega) (fun q => pw_out ⟨fun j hj => i1 j (by omega), i2⟩) (fun q => pw_rd (by omega) (by decide) ?_)
  have ak : a k = nI (kc f n h c p k) := by
    have := hm.2.2 _ k1 k2
    rwa [k3] at this
  rw [ak]
  obtain ⟨a1, a2⟩ := (iM_pM hs).mp k2
  obtain ⟨v, hv, hv1, hv2⟩ := sC_read (f := f) (n := n) hz hs.2.1 (show kc f n h c p k < 2 ^ 31 by omega) e'
  obtain ⟨b1, b2⟩ := hv1 ⟨kl, good_of a2.1⟩
  refine pw_eq hv (pw_F (by rw [b1]; decide) (pw_eq (sC_moveAt g hs q) ?_))
  obtain ⟨v2, e2, c1, c2⟩ := sC_moveBy g hG hs hw (mvs_ok g hs q) b2 a2.1
  refine pw_eq e2 (pw_F (by rw [c1]; decide) ?_)
  unfold fX0_findSteps_J52L2
  refine pw_F (c := (1 : Int32) = 0) (by decide) (pw_eq (sC_code hs.2.1 c2) ?_)
  obtain ⟨n1, n2⟩ := nxc_ok g hs (mvs_ok g hs q) k2
  refine pw_bind (sC_indexOf hs hm (nI (nxc f n h c p (kc f n h c p k) (mvs f n c i)))) (fun t ht => ?_)
  have te : t = nI (nx f n h c p k i) := IX_uniq hs ht (Or.inl ⟨_, (iM_lt hs n1).2, n1, rfl, rfl⟩)
  subst te
  unfold fX0_findSteps_J85L2
  rw [show ((nI k) * (11 : Int32)) + nI i = nI (k * 11 + i) from by rw [show (11 : Int32) = nI 11 from rfl, pk_mul, nI_add]]
  refine pw_wr (by omega) (by decide) (pw_in ⟨q, v2.2, _, by rw [show (nI i + (1 : Int32)) = nI (i + 1) from nI_add i 1], fun j hj => ?_, fun j hj => ?_⟩)
  · by_cases r : j = i
    · rw [r, upd_s]
    · rw [upd_n (by omega)]; exact i1 j (by omega)
  · rw [upd_n (by omega)]; exact i2 j hj
end STEPS
