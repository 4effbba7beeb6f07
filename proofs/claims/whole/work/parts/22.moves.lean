/-! MOVES -/
def fu (d : Nat → Nat) (i v : Nat) : Nat → Nat := fun j => if j = i then v else d j
theorem fu_s (d : Nat → Nat) (i v : Nat) : fu d i v i = v := by simp [fu]
theorem fu_n {d : Nat → Nat} {i j v : Nat} (h : j ≠ i) : fu d i v j = d j := by simp [fu, h]
theorem DG_upd {L : Nat} {d : Nat → Nat} {e : Nat → Int32} (he : DG L d e) (i v : Nat) : DG L (fu d i v) (upd e i (nI v)) := by
  intro j hj
  by_cases q : j = i
  · rw [q, fu_s, upd_s]
  · rw [fu_n q, upd_n q]; exact he j hj
def swp (f n a : Nat) (d : Nat → Nat) : Nat → Nat := fu (fu d (a - 1) (d a)) a (gc f n (d (a - 1)) (d a))
def mvd (f n h : Nat) (p : Nat → Nat) (m : Nat) (d : Nat → Nat) : Nat → Nat := if m < 10 then (if p (m - 1) = p m then swp f n (2 * h + m) d else swp f n (2 * h + m) (swp f n (2 * h + m) d)) else if m < 20 then (fun i => gc f n (d i) (m - 10)) else if m = 20 then fu d 0 (gm f n (d 0) (d 1)) else fu d 1 (gm f n (d 1) (d 0))
def imv (h c z m : Nat) : Prop := (1 ≤ m ∧ m < c) ∨ (10 ≤ m ∧ m < 10 + z) ∨ (h = 1 ∧ 20 ≤ m ∧ m ≤ 21)
theorem fu_lt {z L i v : Nat} {d : Nat → Nat} (hd : ∀ j, j < L → d j < z) (hv : v < z) : ∀ j, j < L → fu d i v j < z := by
  intro j hj
  by_cases q : j = i
  · rw [q, fu_s]; exact hv
  · rw [fu_n q]; exact hd j hj
theorem swp_lt {f n L a : Nat} {d : Nat → Nat} (g : gok f n) (ha : a < L) (hd : ∀ j, j < L → d j < gz f n) : ∀ j, j < L → swp f n a d j < gz f n :=
  fu_lt (fu_lt hd (hd a ha)) (gc_lt g (hd _ (by omega)) (hd a ha))
theorem mvd_lt {f n h c m : Nat} {p d : Nat → Nat} (g : gok f n) (hm : imv h c (gz f n) m) (hd : ∀ j, j < 2 * h + c → d j < gz f n) (hc : c ≤ 4) : ∀ j, j < 2 * h + c → mvd f n h p m d j < gz f n := by
  have hz := gz_le g
  unfold mvd
  by_cases q : m < 10
  · rw [if_pos q]
    have ha : 2 * h + m < 2 * h + c := by unfold imv at hm; omega
    by_cases q2 : p (m - 1) = p m
    · rw [if_pos q2]; exact swp_lt g ha hd
    · rw [if_neg q2]; exact swp_lt g ha (swp_lt g ha hd)
  · rw [if_neg q]
    by_cases q2 : m < 20
    · rw [if_pos q2]
      intro j hj
      exact gc_lt g (hd j hj) (by unfold imv at hm; omega)
    · rw [if_neg q2]
      have h1 : h = 1 := by unfold imv at hm; omega
      have d0 := hd 0 (by omega)
      have d1 := hd 1 (by omega)
      by_cases q3 : m = 20
      · rw [if_pos q3]; exact fu_lt hd (gm_lt g d0 d1)
      · rw [if_neg q3]; exact fu_lt hd (gm_lt g d1 d0)
section MOVE
variable {f n h c : Nat} {p d : Nat → Nat} {P I O C Z T e w : Nat → Int32}
theorem sC_swap (g : gok f n) (hC : ∀ a b, a < gz f n → b < gz f n → C (8 * a + b) = nI (gc f n a b)) {L a : Nat} (hL : L ≤ 4) (ha : a < L) (ha1 : 1 ≤ a) (he : DG L d e) (hd : ∀ i, i < L → d i < gz f n) : pw (fX3_swapNeighbours (nI a) C e) (DG L (swp f n a d)) := by
  unfold fX3_swapNeighbours
  rw [show nI a - (1 : Int32) = nI (a - 1) from pk_sub ha1]
  refine pw_rd (by omega) (by decide) (pw_rd (by omega) (by decide) (pw_wr (by omega) (by decide) (pw_rd (by omega) (by decide) ?_)))
  rw [upd_n (show a ≠ a - 1 by omega), he a ha, he (a - 1) (by omega)]
  refine pw_eq (sC_conjugated g hC (hd _ (by omega)) (hd a ha)) (pw_wr (by omega) (by decide) (pw_some ?_))
  exact DG_upd (DG_upd he _ _) _ _
theorem sM_swap (g : gok f n) (hT : MT f n T) {i L : Nat} (hL : L ≤ 4) (ha : 2 * h + i < L) (ha1 : 1 ≤ i) (he : DG L d e) (hd : ∀ i, i < L → d i < gz f n) : pw (fX6_swap (nI i) T (nI h) e) (DG L (swp f n (2 * h + i) d)) := by
  unfold fX6_swap
  rw [show (((2 : Int32) * nI h) + nI i) - (1 : Int32) = nI (2 * h + i - 1) from by
    rw [show (2 : Int32) = nI 2 from rfl, pk_mul, nI_add]; exact pk_sub (a := 2 * h + i) (b := 1) (show 1 ≤ 2 * h + i by omega)]
  rw [show nI (2 * h + i - 1) + (1 : Int32) = nI (2 * h + i) from by
    rw [show (1 : Int32) = nI 1 from rfl, nI_add, show 2 * h + i - 1 + 1 = 2 * h + i by omega]]
  refine pw_rd (by omega) (by decide) (pw_rd (by omega) (by decide) (pw_wr (by omega) (by decide) (pw_rd (by omega) (by decide) ?_)))
  rw [upd_n (show 2 * h + i ≠ 2 * h + i - 1 by omega), he _ ha, he (2 * h + i - 1) (by omega)]
  refine pw_eq (sM_turned g hT (hd _ (by omega)) (hd _ ha)) (pw_wr (by omega) (by decide) (pw_some ?_))
  exact DG_upd (DG_upd he _ _) _ _
theorem DG_turn {L i a : Nat} {e' : Nat → Int32} (hi : i < L) (hI : ∀ j, j < L → e' j = nI (if j < i then gc f n (d j) a else d j)) : ∀ j, j < L → upd e' i (nI (gc f n (d i) a)) j = nI (if j < i + 1 then gc f n (d j) a else d j) := by
  intro j hj
  by_cases q : j = i
  · rw [q, upd_s, if_pos (by omega)]
  · rw [upd_n q, hI j hj]
    by_cases q2 : j < i
    · rw [if_pos q2, if_pos (by omega)]
    · rw [if_neg q2, if_neg (by omega)]
theorem sC_moveByElement (g : gok f n) (hC : ∀ a b, a < gz f n → b < gz f n → C (8 * a + b) = nI (gc f n a b)) (hL : 2 * h + c ≤ 4) {a : Nat} (ha : a < gz f n) (he : DG (2 * h + c) d e) (hd : ∀ i, i < 2 * h + c → d i < gz f n) : pw (fX3_moveByElement (nI a) C (nI h) (nI c) e) (DG (2 * h + c) (fun i => gc f n (d i) a)) := by
  unfold fX3_moveByElement
  refine pw_bind (R := DG (2 * h + c) (fun i => gc f n (d i) a)) ?_ (fun t ht => pw_some ht)
  refine pw_run (fun i s => ∃ e', s = (nI i, e') ∧ ∀ j, j < 2 * h + c → e' j = nI (if j < i then gc f n (d j) a else d j)) 0 (2 * h + c) (by omega) ⟨e, rfl, fun j hj => by rw [if_neg (Nat.not_lt_zero j)]; exact he j hj⟩ (Nat.zero_le _) ?_
  rintro i _ hi ⟨e', rfl, hI⟩
  show pw (fX3_moveByElement_L2 (nI a) C (nI h) (nI c) (nI i) e') _
  unfold fX3_moveByElement_L2
  refine pw_eq sC_digits (pw_le (by omega) (by omega) (fun q => pw_out (fun j hj => by rw [hI j hj, if_pos (by omega)])) (fun hi => ?_))
  refine pw_rd (by omega) (by decide) ?_
  rw [hI i hi, if_neg (Nat.lt_irrefl i)]
  refine pw_eq (sC_conjugated g hC (hd i hi) ha) (pw_wr (by omega) (by decide) (pw_in ⟨hi, _, by rw [show (nI i + (1 : Int32)) = nI (i + 1) from nI_add i 1], DG_turn hi hI⟩))
theorem sM_moveByElement (g : gok f n) (hT : MT f n T) (hL : 2 * h + c ≤ 4) {m : Nat} (hm : 10 ≤ m) (ha : m - 10 < gz f n) (he : DG (2 * h + c) d e) (hd : ∀ i, i < 2 * h + c → d i < gz f n) : pw (pz_iter (fun (σ : Int32 × (Nat → Int32)) => fX6_moved_L49 (nI m) T (nI h) (nI c) σ.1 σ.2) pz_FUEL ((0 : Int32), e)) (DG (2 * h + c) (fun i => gc f n (d i) (m - 10))) := by
  refine pw_run (fun i s => ∃ e', s = (nI i, e') ∧ ∀ j, j < 2 * h + c → e' j = nI (if j < i then gc f n (d j) (m - 10) else d j)) 0 (2 * h + c) (by omega) ⟨e, rfl, fun j hj => by rw [if_neg (Nat.not_lt_zero j)]; exact he j hj⟩ (Nat.zero_le _) ?_
  rintro i _ hi ⟨e', rfl, hI⟩
  show pw (fX6_moved_L49 (nI m) T (nI h) (nI c) (nI i) e') _
  unfold fX6_moved_L49
  refine pw_eq sM_length (pw_le (by omega) (by omega) (fun q => pw_out (fun j hj => by rw [hI j hj, if_pos (by omega)])) (fun hi => ?_))
  refine pw_rd (by omega) (by decide) ?_
  rw [hI i hi, if_neg (Nat.lt_irrefl i), show nI m - (10 : Int32) = nI (m - 10) from pk_sub hm]
  refine pw_eq (sM_turned g hT (hd i hi) ha) (pw_wr (by omega) (by decide) (pw_in ⟨hi, _, by rw [show (nI i + (1 : Int32)) = nI (i + 1) from nI_add i 1], DG_turn hi hI⟩))
theorem sC_moveNeighbours (g : gok f n) (hC : ∀ a b, a < gz f n → b < gz f n → C (8 * a + b) = nI (gc f n a b)) (hs : sok h c p) (hw : ∀ i, i < c → w i = nI (p i)) {m : Nat} (h1 : 1 ≤ m) (hm : m < c) (he : DG (2 * h + c) d e) (hd : ∀ i, i < 2 * h + c → d i < gz f n) : pw (fX3_moveNeighbours (nI m) C (nI h) w e) (DG (2 * h + c) (mvd f n h p m d)) := by
  obtain ⟨s1, s2, s3⟩ := hs
  unfold fX3_moveNeighbours
  rw [show ((2 : Int32) * nI h) + nI m = nI (2 * h + m) from by rw [show (2 : Int32) = nI 2 from rfl, pk_mul, nI_add], show nI m - (1 : Int32) = nI (m - 1) from pk_sub h1]
  refine pw_bind (sC_swap g hC s2 (show 2 * h + m < 2 * h + c by omega) (by omega) he hd) (fun e1 he1 => ?_)
  refine pw_rd (by omega) (by decide) (pw_rd (by omega) (by decide) ?_)
  rw [hw (m - 1) (by omega), hw m hm]
  have b1 := s3 (m - 1) (by omega)
  have b2 := s3 m hm
  unfold mvd
  rw [if_pos (show m < 10 by omega)]
  refine pw_eqn (by omega) (by omega) (fun q => pw_some ?_) (fun q => ?_)
  · rw [if_pos q]; exact he1
  · rw [if_neg q]
    exact pw_bind (sC_swap g hC s2 (show 2 * h + m < 2 * h + c by omega) (by omega) he1 (swp_lt g (by omega) hd)) (fun e2 he2 => pw_some he2)
theorem sC_moveBy (g : gok f n) (hG : CG f n P I O C Z) (hs : sok h c p) (hw : ∀ i, i < c → w i = nI (p i)) {m : Nat} (hm : imv h c (gz f n) m) (he : DG (2 * h + c) d e) (hd : ∀ i, i < 2 * h + c → d i < gz f n) : pw (fX3_moveBy (nI m) (nI (gz f n)) P C (nI h) (nI c) w e) (fun v => v.1 = 1 ∧ DG (2 * h + c) (mvd f n h p m d) v.2) := by
  obtain ⟨s1, s2, s3⟩ := id hs
  have hz := gz_le g
  have m22 : m < 22 := by unfold imv at hm; omega
  have m1 : 1 ≤ m := by unfold imv at hm; omega
  unfold fX3_moveBy
  refine pw_lt (b := 1) (by omega) (by decide) (fun q => by omega) (fun _ => ?_)
  refine pw_le (by omega) (by omega) (fun q => ?_) (fun q => ?_)
  · unfold fX3_moveBy_J24
    have m10 : 10 ≤ m := by unfold imv at hm; omega
    refine pw_lt (b := 10) (by omega) (by decide) (fun q => by omega) (fun _ => ?_)
    rw [show nI m - (10 : Int32) = nI (m - 10) from pk_sub m10]
    refine pw_eq (sC_isElement _ (by omega)) ?_
    by_cases q2 : m - 10 < gz f n
    · rw [if_pos ((ie_nI (by omega)).mpr q2)]
      refine pw_F (by decide) (pw_bind (sC_moveByElement g hG.2.2.2.1 s2 q2 he hd) (fun e1 he1 => pw_some ⟨rfl, ?_⟩))
      unfold mvd
      rw [if_neg (show ¬ m < 10 by omega), if_pos (show m < 20 by omega)]
      exact he1
    · rw [if_neg (fun z => q2 ((ie_nI (by omega)).mp z))]
      refine pw_T rfl ?_
      have h1 : h = 1 := by unfold imv at hm; omega
      subst h1
      have d0 := hd 0 (by omega)
      have d1 := hd 1 (by omega)
      rcases (show m = 20 ∨ m = 21 by unfold imv at hm; omega) with rfl | rfl
      · unfold fX3_moveBy_J55
        refine pw_T rfl (pw_T rfl (pw_rd (i := 0) (by decide) (by decide) (pw_rd (i := 1) (by decide) (by decide) ?_)))
        rw [he 0 (by omega), he 1 (by omega)]
        refine pw_eq (sC_product g hG.1 d0 d1) (pw_wr (i := 0) (by decide) (by decide) (pw_some ⟨rfl, ?_⟩))
        exact DG_upd he 0 _
      · unfold fX3_moveBy_J55
        refine pw_F (by decide) ?_
        unfold fX3_moveBy_J100
        refine pw_T rfl (pw_T rfl (pw_rd (i := 1) (by decide) (by decide) (pw_rd (i := 0) (by decide) (by decide) ?_)))
        rw [he 0 (by omega), he 1 (by omega)]
        refine pw_eq (sC_product g hG.1 d1 d0) (pw_wr (i := 1) (by decide) (by decide) (pw_some ⟨rfl, ?_⟩))
        exact DG_upd he 1 _
  · exact pw_bind (sC_moveNeighbours g hG.2.2.2.1 hs hw m1 q he hd) (fun e1 he1 => pw_some ⟨rfl, he1⟩)
theorem toInt_lits : (0 : Int32).toInt = 0 ∧ (1 : Int32).toInt = 1 ∧ (10 : Int32).toInt = 10 ∧ (20 : Int32).toInt = 20 ∧ (21 : Int32).toInt = 21 := by decide
theorem of_rng {x : Int32} {k : Nat} (h : x.toInt = (k : Int)) (hk : k < 2 ^ 31) : x = nI k := by
  rw [fa_eq, nI_toInt hk]; exact h
theorem sC_moveBy0 (g : gok f n) (hs : sok h c p) {x : Int32} (hx : ¬ ∃ m, imv h c (gz f n) m ∧ x = nI m) (e : Nat → Int32) : fX3_moveBy x (nI (gz f n)) P C (nI h) (nI c) w e = some (0, e) := by
  obtain ⟨s1, s2, s3⟩ := hs
  have hz := gz_le g
  obtain ⟨l0, l1, l10, l20, l21⟩ := toInt_lits
  have rng := fb_rng x
  have J100 : fX3_moveBy_J100 x P (nI h) e = some (0, e) := by
    unfold fX3_moveBy_J100
    refine pw_val (pw_if (fun q => ?_) (fun q => pw_some rfl))
    refine pw_if (fun q2 => ?_) (fun q2 => pw_some rfl)
    have h1 : h = 1 := (nI_eq (a := h) (b := 1) (by omega) (by decide)).mp q2
    exact absurd ⟨21, Or.inr (Or.inr ⟨h1, by decide, by decide⟩), q⟩ hx
  have J55 : fX3_moveBy_J55 x P (nI h) e = some (0, e) := by
    unfold fX3_moveBy_J55
    refine pw_val (pw_if (fun q => ?_) (fun q => pw_is J100 rfl))
    refine pw_if (fun q2 => ?_) (fun q2 => pw_is J100 rfl)
    have h1 : h = 1 := (nI_eq (a := h) (b := 1) (by omega) (by decide)).mp q2
    exact absurd ⟨20, Or.inr (Or.inr ⟨h1, by decide, by decide⟩), q⟩ hx
  have J24 : fX3_moveBy_J24 x (nI (gz f n)) P C (nI h) (nI c) e = some (0, e) := by
    unfold fX3_moveBy_J24
    refine pw_val (pw_if (fun q => pw_is J55 rfl) (fun q => ?_))
    rw [fa_lt, l10] at q
    refine pw_eq (sC_isElement _ (by omega)) ?_
    have hs1 : (x - (10 : Int32)).toInt = x.toInt - 10 := by
      rw [fb_subI, l10]
      · rw [l10]; omega
      · rw [l10]; omega
    have hne : ¬ ie (x - (10 : Int32)) (gz f n) := by
      unfold ie
      rw [hs1]
      intro z
      apply hx
      refine ⟨x.toInt.toNat, Or.inr (Or.inl ⟨by omega, by omega⟩), of_rng (by omega) (by omega)⟩
    rw [if_neg hne]
    exact pw_T (c := (0 : Int32) = 0) rfl (pw_is J55 rfl)
  unfold fX3_moveBy
  refine pw_val (pw_if (fun q => pw_is J24 rfl) (fun q => pw_if (fun q2 => pw_is J24 rfl) (fun q2 => ?_)))
  rw [fa_lt, l1] at q
  rw [fa_le, nI_toInt (by omega)] at q2
  exfalso
  apply hx
  exact ⟨x.toInt.toNat, Or.inl ⟨by omega, by omega⟩, of_rng (by omega) (by omega)⟩
theorem sM_isMove (g : gok f n) (hs : sok h c p) (x : Int32) : ∃ b : Bool, fX6_isMove x (nI (gz f n)) (nI h) (nI c) = some (bi b) ∧ (b = true ↔ ∃ m, imv h c (gz f n) m ∧ x = nI m) := by
  obtain ⟨s1, s2, s3⟩ := hs
  have hz := gz_le g
  obtain ⟨l0, l1, l10, l20, l21⟩ := toInt_lits
  have rng := fb_rng x
  have ec : (nI c - (1 : Int32)).toInt = (c : Int) - 1 := pk_sub_toInt (a := c) (b := 1) (by omega) (by decide)
  have ez : ((9 : Int32) + nI (gz f n)).toInt = 9 + (gz f n : Int) := by
    rw [show ((9 : Int32) + nI (gz f n)) = nI (9 + gz f n) from nI_add 9 _, nI_toInt (by omega)]; omega
  have yes : ∀ k : Nat, imv h c (gz f n) k → x.toInt = (k : Int) → k < 2 ^ 31 → pw (some (1 : Int32)) (fun v => ∃ b : Bool, v = bi b ∧ (b = true ↔ ∃ m, imv h c (gz f n) m ∧ x = nI m)) := fun k hk hx h31 => pw_some ⟨true, rfl, fun _ => ⟨k, hk, of_rng hx h31⟩, fun _ => rfl⟩
  have no : (∀ k : Nat, imv h c (gz f n) k → x.toInt = (k : Int) → False) → pw (some (0 : Int32)) (fun v => ∃ b : Bool, v = bi b ∧ (b = true ↔ ∃ m, imv h c (gz f n) m ∧ x = nI m)) := fun hn => pw_some ⟨false, rfl, fun z => (nomatch z), fun ⟨m, hm, hx⟩ => (hn m hm (by rw [hx]; exact nI_toInt (by unfold imv at hm; omega))).elim⟩
  have main : pw (fX6_isMove x (nI (gz f n)) (nI h) (nI c)) (fun v => ∃ b : Bool, v = bi b ∧ (b = true ↔ ∃ m, imv h c (gz f n) m ∧ x = nI m)) := by
    unfold fX6_isMove
    refine pw_eq (sM_in _ _ _) ?_
    rw [ec, l1]
    by_cases q1 : (1 : Int) ≤ x.toInt ∧ x.toInt ≤ (c : Int) - 1
    · rw [if_pos q1]
      refine pw_F (by decide) ?_
      unfold fX6_isMove_J49
      exact yes x.toInt.toNat (Or.inl ⟨by omega, by omega⟩) (by omega) (by omega)
    · rw [if_neg q1]
      refine pw_T rfl (pw_eq (sM_in _ _ _) ?_)
      rw [ez, l10]
      by_cases q2 : (10 : Int) ≤ x.toInt ∧ x.toInt ≤ 9 + (gz f n : Int)
      · rw [if_pos q2]
        refine pw_F (by decide) ?_
        unfold fX6_isMove_J49
        exact yes x.toInt.toNat (Or.inr (Or.inl ⟨by omega, by omega⟩)) (by omega) (by omega)
      · rw [if_neg q2]
        refine pw_T rfl ?_
        refine pw_if (fun q3 => ?_) (fun q3 => ?_)
        · have h1 : h = 1 := (nI_eq (a := h) (b := 1) (by omega) (by decide)).mp q3
          refine pw_eq (sM_in _ _ _) ?_
          rw [l20, l21]
          by_cases q4 : (20 : Int) ≤ x.toInt ∧ x.toInt ≤ 21
          · rw [if_pos q4]
            refine pw_F (by decide) ?_
            unfold fX6_isMove_J49
            exact yes x.toInt.toNat (Or.inr (Or.inr ⟨h1, by omega, by omega⟩)) (by omega) (by omega)
          · rw [if_neg q4]
            refine pw_T rfl (no (fun k hk hx => ?_))
            unfold imv at hk; omega
        · have h1 : ¬ h = 1 := fun z => q3 (by rw [z]; rfl)
          refine no (fun k hk hx => ?_)
          unfold imv at hk; omega
  obtain ⟨v, hv, b, rfl, hb⟩ := main
  exact ⟨b, hv, hb⟩
theorem sM_moved (g : gok f n) (hT : MT f n T) (hs : sok h c p) (hw : ∀ i, i < c → w i = nI (p i)) {m x : Nat} (hm : imv h c (gz f n) m) (hx : x < 2 ^ 31) (hd : ∀ i, i < 2 * h + c → dg (2 * h + c) x i < gz f n) (e : Nat → Int32) : pw (fX6_moved (nI x) (nI m) T (nI h) (nI c) w e) (fun v => v.1 = nI (cd (2 * h + c) (mvd f n h p m (dg (2 * h + c) x)))) := by
  obtain ⟨s1, s2, s3⟩ := id hs
  have hz := gz_le g
  have m22 : m < 22 := by unfold imv at hm; omega
  have m1 : 1 ≤ m := by unfold imv at hm; omega
  unfold fX6_moved
  refine pw_bind (sM_read s2 hx e) (fun t1 he => ?_)
  generalize dg (2 * h + c) x = d at hd he
  have fin : ∀ (d' : Nat → Nat) (e' : Nat → Int32), DG (2 * h + c) d' e' → d' = mvd f n h p m d → pw (fX6_moved_J139 (nI h) (nI c) e') (fun v => v.1 = nI (cd (2 * h + c) (mvd f n h p m d))) := by
    rintro d' e' he' rfl
    unfold fX6_moved_J139
    exact pw_eq (sM_written s2 he') (pw_some rfl)
  refine pw_le (a := 10) (by decide) (by omega) (fun m10 => ?_) (fun m10 => ?_)
  · refine pw_le (a := 20) (by decide) (by omega) (fun m20 => ?_) (fun m20 => ?_)
    · have h1 : h = 1 := by unfold imv at hm; omega
      subst h1
      have d0 := hd 0 (by omega)
      have d1 := hd 1 (by omega)
      refine pw_eqn (b := 20) (by omega) (by decide) (fun q => ?_) (fun q => ?_)
      · subst q
        refine pw_rd (i := 0) (by decide) (by decide) (pw_rd (i := 1) (by decide) (by decide) ?_)
        rw [he 0 (by omega), he 1 (by omega)]
        exact pw_eq (sM_product g hT d0 d1) (pw_wr (i := 0) (by decide) (by decide) (fin _ _ (DG_upd he 0 _) rfl))
      · have q : m = 21 := by unfold imv at hm; omega
        subst q
        refine pw_rd (i := 1) (by decide) (by decide) (pw_rd (i := 0) (by decide) (by decide) ?_)
        rw [he 0 (by omega), he 1 (by omega)]
        exact pw_eq (sM_product g hT d1 d0) (pw_wr (i := 1) (by decide) (by decide) (fin _ _ (DG_upd he 1 _) rfl))
    · refine pw_bind (sM_moveByElement g hT s2 m10 (by unfold imv at hm; omega) he hd) (fun e1 he1 => fin _ _ he1 ?_)
      unfold mvd
      rw [if_neg (show ¬ m < 10 by omega), if_pos m20]
  · have hmc : m < c := by unfold imv at hm; omega
    have b1 := s3 (m - 1) (by omega)
    have b2 := s3 m hmc
    refine pw_bind (sM_swap g hT s2 (show 2 * h + m < 2 * h + c by omega) m1 he hd) (fun e1 he1 => ?_)
    rw [show nI m - (1 : Int32) = nI (m - 1) from pk_sub m1]
    refine pw_rd (by omega) (by decide) (pw_rd (by omega) (by decide) ?_)
    rw [hw (m - 1) (by omega), hw m hmc]
    refine pw_eqn (by omega) (by omega) (fun q => fin _ _ he1 ?_) (fun q => ?_)
    · unfold mvd
      rw [if_pos m10, if_pos q]
    · refine pw_bind (sM_swap g hT s2 (show 2 * h + m < 2 * h + c by omega) m1 he1 (swp_lt g (by omega) hd)) (fun e2 he2 => fin _ _ he2 ?_)
      unfold mvd
      rw [if_pos m10, if_neg q]
theorem sM_move16 (e : Nat → Int32) : fX6_move_J16 e = some ((-2 : Int32), e) := by unfold fX6_move_J16; rfl
theorem rs_move (g : gok f n) (hT : MT f n T) (hG : CG f n P I O C Z) (hs : sok h c p) {w' : Nat → Int32} (hw : ∀ i, i < c → w i = nI (p i)) (hw' : ∀ i, i < c → w' i = nI (p i)) (x1 x2 : Int32) (e e' : Nat → Int32) : ∃ (v u : Int32 × (Nat → Int32)), fX5_move x1 x2 (nI (gz f n)) P I O C Z (nI h) (nI c) w e = some v ∧ fX6_move x1 x2 (nI (gz f n)) T (nI h) (nI c) w' e' = some u ∧ v.1 = u.1 := by
  have h4 := pow4 hs.2.1
  by_cases hx : ie x1 (10 ^ (2 * h + c))
  · obtain ⟨x, hxl, rfl⟩ := ie_of hx (by omega)
    have hx := hxl
    obtain ⟨u, hu, hu1, hu2⟩ := sM_codeIs g hT hs hw' hx e'
    obtain ⟨v, hv, hv1, hv2⟩ := sC_read (f := f) (n := n) (gz_le g) hs.2.1 (show x < 2 ^ 31 by omega) e
    by_cases q : good f n (2 * h + c) (dg (2 * h + c) x) = true
    · obtain ⟨a1, a2⟩ := hv1 ⟨hx, q⟩
      have hd := fun i hi => good_at q (i := i) hi
      have hk : kdx f n h c p x = kd f n h c p (dg (2 * h + c) x) := by unfold kdx; rw [if_pos q]
      have kle := kd_le (f := f) (n := n) (h := h) (c := c) (p := p) (d := dg (2 * h + c) x)
      by_cases qk : kd f n h c p (dg (2 * h + c) x) = 0
      · refine ⟨((-2 : Int32), v.2), ((-2 : Int32), u.2), ?_, ?_, rfl⟩
        · unfold fX5_move
          rw [hv]
          exact pw_val (pw_eq rfl (pw_F (by rw [a1]; decide) (pw_eq (sC_kind g hG hs hw a2 hd) (pw_T (by rw [qk]; rfl) (pw_some rfl)))))
        · unfold fX6_move
          rw [hu]
          exact pw_val (pw_eq rfl (pw_T (by rw [hu1, hk, qk]; rfl) (pw_is (sM_move16 _) rfl)))
      · have nk : ¬ nI (kd f n h c p (dg (2 * h + c) x)) = (0 : Int32) := fun z => qk ((nI_eq (b := 0) (by omega) (by decide)).mp z)
        obtain ⟨b, hb, hbi⟩ := sM_isMove g hs x2
        cases b with
        | false =>
          have hno : ¬ ∃ m, imv h c (gz f n) m ∧ x2 = nI m := fun z => nomatch hbi.mpr z
          refine ⟨((-2 : Int32), v.2), ((-2 : Int32), u.2), ?_, ?_, rfl⟩
          · unfold fX5_move
            rw [hv]
            exact pw_val (pw_eq rfl (pw_F (by rw [a1]; decide) (pw_eq (sC_kind g hG hs hw a2 hd) (pw_F nk (pw_eq (sC_moveBy0 g hs hno _) (pw_T rfl (pw_some rfl)))))))
          · unfold fX6_move
            rw [hu]
            exact pw_val (pw_eq rfl (pw_F (by rw [hu1, hk]; exact nk) (pw_eq hb (pw_T rfl (pw_is (sM_move16 _) rfl)))))
        | true =>
          obtain ⟨m, hm, rfl⟩ := hbi.mp rfl
          obtain ⟨v2, e2, k2, k3⟩ := sC_moveBy g hG hs hw hm a2 hd
          obtain ⟨u2, e3, k4⟩ := sM_moved g hT hs hw' hm (show x < 2 ^ 31 by omega) hd u.2
          refine ⟨(nI (cd (2 * h + c) (mvd f n h p m (dg (2 * h + c) x))), v2.2), (u2.1, u2.2), ?_, ?_, ?_⟩
          · unfold fX5_move
            rw [hv]
            exact pw_val (pw_eq rfl (pw_F (by rw [a1]; decide) (pw_eq (sC_kind g hG hs hw a2 hd) (pw_F nk (pw_eq e2 (pw_F (by rw [k2]; decide) (pw_eq (sC_code hs.2.1 k3) (pw_some rfl))))))))
          · unfold fX6_move
            rw [hu]
            exact pw_val (pw_eq rfl (pw_F (by rw [hu1, hk]; exact nk) (pw_eq hb (pw_F (by decide) (pw_eq e3 (pw_some rfl))))))
          · exact k4.symm
    · have a1 := hv2 (fun z => q z.2)
      refine ⟨((-2 : Int32), v.2), ((-2 : Int32), u.2), ?_, ?_, rfl⟩
      · unfold fX5_move
        rw [hv]
        exact pw_val (pw_eq rfl (pw_T a1 (pw_some rfl)))
      · unfold fX6_move
        rw [hu]
        exact pw_val (pw_eq rfl (pw_T (by rw [hu1]; unfold kdx; rw [if_neg q]; rfl) (pw_is (sM_move16 _) rfl)))
  · have key : pw (fX3_read x1 (nI (gz f n)) (nI h) (nI c) e) (fun v => v.1 = 0) := by
      by_cases hn : x1 < 0
      · exact sC_read_neg (gz_le g) (gz_pos g) hs.2.1 hn e
      · obtain ⟨x, hx2, rfl⟩ := nI_of hn
        refine pw_mono (sC_read (f := f) (n := n) (gz_le g) hs.2.1 hx2 e) (fun v hv => hv.2 (fun z => hx ((ie_nI hx2).mpr z.1)))
    obtain ⟨v, hv, a1⟩ := key
    refine ⟨((-2 : Int32), v.2), ((-2 : Int32), e'), ?_, ?_, rfl⟩
    · unfold fX5_move
      rw [hv]
      exact pw_val (pw_eq rfl (pw_T a1 (pw_some rfl)))
    · unfold fX6_move
      rw [sM_codeIs0 hs hx]
      exact pw_val (pw_eq rfl (pw_T rfl (pw_is (sM_move16 _) rfl)))
end MOVE
