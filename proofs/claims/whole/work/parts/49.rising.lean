/-! RISING ROWS OF PERIODS -/
def lst : Nat → (Nat → Nat) → Nat
  | 0, _ => 0
  | k + 1, q => if q k < 8 then k + 1 else lst k q
def adv (c : Nat) (q : Nat → Nat) (i : Nat) : Nat := if lst c q ≠ 0 ∧ lst c q ≤ i + 1 then q (lst c q - 1) + 1 else q i
def prw (c : Nat) : Nat → Nat → Nat
  | 0 => fun _ => 2
  | j + 1 => adv c (prw c j)
def pE (c : Nat) : Nat := fa_first (fun j => lst c (prw c j) == 0) 10000
theorem lst_le : ∀ (c : Nat) (q : Nat → Nat), lst c q ≤ c
  | 0, _ => Nat.le_refl 0
  | c + 1, q => by
    rw [lst]
    have := lst_le c q
    split <;> omega
theorem lst_at : ∀ (c : Nat) (q : Nat → Nat), lst c q ≠ 0 → q (lst c q - 1) < 8
  | 0, _, h => absurd rfl h
  | c + 1, q, h => by
    rw [lst] at h ⊢
    by_cases r : q c < 8
    · rw [if_pos r]; exact r
    · rw [if_neg r] at h ⊢; exact lst_at c q h
theorem lst_hi : ∀ (c : Nat) (q : Nat → Nat) (i : Nat), lst c q ≤ i → i < c → 8 ≤ q i
  | 0, _, i, _, h => absurd h (Nat.not_lt_zero i)
  | c + 1, q, i, h1, h2 => by
    rw [lst] at h1
    by_cases r : q c < 8
    · rw [if_pos r] at h1; omega
    · rw [if_neg r] at h1
      rcases Nat.lt_or_ge i c with s | s
      · exact lst_hi c q i h1 s
      · rw [show i = c by omega]; omega
theorem lst_is {c m : Nat} {q : Nat → Nat} (hm : m ≤ c) (h : ∀ i, m ≤ i → i < c → 8 ≤ q i) (h2 : m = 0 ∨ q (m - 1) < 8) : lst c q = m := by
  have l := lst_le c q
  rcases Nat.lt_or_ge (lst c q) m with r | r
  · have := lst_hi c q (m - 1) (by omega) (by omega)
    omega
  · rcases Nat.lt_or_ge m (lst c q) with s | s
    · have a := lst_at c q (by omega)
      have := h (lst c q - 1) (by omega) (by omega)
      omega
    · omega
theorem adv_ok {c : Nat} {q : Nat → Nat} (hq : ∀ i, i < c → 2 ≤ q i ∧ q i ≤ 8) : ∀ i, i < c → 2 ≤ adv c q i ∧ adv c q i ≤ 8 := by
  intro i hi
  unfold adv
  by_cases r : lst c q ≠ 0 ∧ lst c q ≤ i + 1
  · rw [if_pos r]
    have a := lst_at c q r.1
    have l := lst_le c q
    have := hq (lst c q - 1) (by omega)
    omega
  · rw [if_neg r]; exact hq i hi
theorem prw_ok (c : Nat) : ∀ j i, i < c → 2 ≤ prw c j i ∧ prw c j i ≤ 8
  | 0, _, _ => ⟨(show (2 : Nat) ≤ 2 by decide), (show (2 : Nat) ≤ 8 by decide)⟩
  | j + 1, i, hi => by rw [prw]; exact adv_ok (prw_ok c j) i hi
theorem cd_rise {q q' : Nat → Nat} : ∀ (c m : Nat), m < c → (∀ i, i < m → q i = q' i) → q m < q' m → (∀ i, i < c → q i < 10) → cd c q < cd c q'
  | 0, m, h, _, _, _ => absurd h (Nat.not_lt_zero m)
  | c + 1, m, h, h1, h2, h3 => by
    rw [cd, cd]
    rcases Nat.lt_or_ge m c with r | r
    · have := cd_rise c m r h1 h2 (fun i hi => h3 i (by omega))
      have := h3 c (by omega)
      omega
    · have e : m = c := by omega
      subst e
      rw [cd_cong m h1]; omega
theorem prw_cd {c : Nat} : ∀ j, (∀ i, i < j → lst c (prw c i) ≠ 0) → j ≤ cd c (prw c j)
  | 0, _ => Nat.zero_le _
  | j + 1, h => by
    have ih := prw_cd j (fun i hi => h i (by omega))
    have l0 := h j (by omega)
    have l := lst_le c (prw c j)
    have ok := prw_ok c j
    have : cd c (prw c j) < cd c (adv c (prw c j)) := by
      refine cd_rise c (lst c (prw c j) - 1) (by omega) (fun i hi => ?_) ?_ (fun i hi => by have := ok i hi; omega)
      · unfold adv
        rw [if_neg (fun z => by have := z.2; omega)]
      · unfold adv
        rw [if_pos ⟨l0, by omega⟩]; omega
    rw [prw]; omega
theorem pE_gen {c N : Nat} (hN : 10 ^ c ≤ N) : fa_first (fun j => lst c (prw c j) == 0) N < N := by
  have l := fa_first_le (fun j => lst c (prw c j) == 0) N
  rcases Nat.lt_or_ge (fa_first (fun j => lst c (prw c j) == 0) N) N with r | r
  · exact r
  · exfalso
    have a := prw_cd (c := c) N (fun i hi => by
      have := fa_first_no (fun j => lst c (prw c j) == 0) N i (by omega)
      simpa using this)
    have ok := prw_ok c N
    have b := cd_lt (d := prw c N) c (fun i hi => by have := ok i hi; omega)
    omega
theorem pE_lt {c : Nat} (hc : c ≤ 4) : pE c < 10000 := pE_gen (pow4 hc)
theorem pE_at {c : Nat} (hc : c ≤ 4) : lst c (prw c (pE c)) = 0 := by
  have := fa_first_yes (fun j => lst c (prw c j) == 0) 10000 (pE_lt hc)
  unfold pE
  simpa using this
theorem pE_no {c j : Nat} (hj : j < pE c) : lst c (prw c j) ≠ 0 := by
  have := fa_first_no (fun j => lst c (prw c j) == 0) 10000 j hj
  simpa using this
section RISE
variable {h c : Nat} {q : Nat → Nat} {w : Nat → Int32}
theorem dn_le0 {m : Nat} (hm : m < 2 ^ 31) : (0 : Int32) ≤ dn m ↔ m ≠ 0 := by
  cases m with
  | zero => exact ⟨fun h => absurd h (by decide), fun h => absurd rfl h⟩
  | succ m => rw [dn_succ]; exact ⟨fun _ => Nat.succ_ne_zero m, fun _ => nI_pos' (by omega)⟩
theorem sC_start (hc : c ≤ 4) (w : Nat → Int32) : pw (fX4_start (nI h) (nI c) w) (fun v => v.1 = nI h ∧ v.2.1 = nI c ∧ ∀ i, i < c → v.2.2 i = nI (prw c 0 i)) := by
  unfold fX4_start
  refine pw_bind (R := fun v => ∀ i, i < c → v i = nI (prw c 0 i)) ?_ (fun t ht => pw_some ⟨rfl, rfl, ht⟩)
  refine pw_run (fun i s => ∃ w', s = (nI i, w') ∧ ∀ j, j < i → w' j = nI (prw c 0 j)) 0 c (by omega) ⟨w, rfl, fun j hj => absurd hj (Nat.not_lt_zero j)⟩ (Nat.zero_le _) ?_
  rintro i _ hi ⟨w', rfl, i1⟩
  show pw (fX4_start_L12 (nI c) (nI i) w') _
  unfold fX4_start_L12
  refine pw_le (by omega) (by omega) (fun z => pw_out (fun j hj => i1 j (by omega))) (fun z => pw_le (a := 4) (by decide) (by omega) (fun y => absurd y (by omega)) (fun _ => pw_wr (by omega) (by decide) (pw_in ⟨z, _, by rw [show (nI i + (1 : Int32)) = nI (i + 1) from nI_add i 1], fun j hj => ?_⟩)))
  by_cases y : j = i
  · rw [y, upd_s]; rfl
  · rw [upd_n y]; exact i1 j (by omega)
theorem sM_start (hc : c ≤ 4) (w : Nat → Int32) : pw (pz_iter (fun (σ : Int32 × (Nat → Int32)) => fX6_find_L8 (nI c) σ.1 σ.2) pz_FUEL ((0 : Int32), w)) (fun v => ∀ i, i < c → v i = nI (prw c 0 i)) := by
  refine pw_run (fun i s => ∃ w', s = (nI i, w') ∧ ∀ j, j < i → w' j = nI (prw c 0 j)) 0 c (by omega) ⟨w, rfl, fun j hj => absurd hj (Nat.not_lt_zero j)⟩ (Nat.zero_le _) ?_
  rintro i _ hi ⟨w', rfl, i1⟩
  show pw (fX6_find_L8 (nI c) (nI i) w') _
  unfold fX6_find_L8
  refine pw_le (by omega) (by omega) (fun z => pw_out (fun j hj => i1 j (by omega))) (fun z => pw_wr (by omega) (by decide) (pw_in ⟨z, _, by rw [show (nI i + (1 : Int32)) = nI (i + 1) from nI_add i 1], fun j hj => ?_⟩))
  by_cases y : j = i
  · rw [y, upd_s]; rfl
  · rw [upd_n y]; exact i1 j (by omega)
theorem fill_adv (hw : ∀ i, i < c → w i = nI (q i)) {m i : Nat} (hm : lst c q = m + 1) (hi : m ≤ i) (hc : i < c) {w' : Nat → Int32} (i1 : ∀ j, j < i → w' j = nI (adv c q j)) : ∀ j, j < i + 1 → upd w' i (nI (q m + 1)) j = nI (adv c q j) := fun j hj => by
  by_cases y : j = i
  · rw [y, upd_s]
    unfold adv
    rw [hm, if_pos ⟨by omega, by omega⟩, Nat.add_sub_cancel]
  · rw [upd_n y]; exact i1 j (by omega)
theorem adv_low (hw : ∀ i, i < c → w i = nI (q i)) {m : Nat} (hm : lst c q = m + 1) (hc : m < c) : ∀ j, j < m → w j = nI (adv c q j) := fun j hj => by
  unfold adv
  rw [hm, if_neg (fun z => by have := z.2; omega)]
  exact hw j (by omega)
theorem sC_adv (hc : c ≤ 4) (hq : ∀ i, i < c → 2 ≤ q i ∧ q i ≤ 8) (hw : ∀ i, i < c → w i = nI (q i)) : pw (fX4_advance (nI c) w) (fun v => (lst c q = 0 ∧ v.1 = 0) ∨ (lst c q ≠ 0 ∧ v.1 = 1 ∧ ∀ i, i < c → v.2 i = nI (adv c q i))) := by
  have ll := lst_le c q
  unfold fX4_advance
  refine pw_bind (R := fun v => v = dn (lst c q)) ?_ (fun u hu => ?_)
  · refine pw_run (fun k s => s = dn (c - k) ∧ ∀ i, c - k ≤ i → i < c → 8 ≤ q i) 0 c (by omega) ⟨rfl, fun i h1 h2 => by omega⟩ (Nat.zero_le _) ?_
    rintro k _ hk ⟨rfl, i1⟩
    show pw (fX4_advance_L7 w (dn (c - k))) _
    unfold fX4_advance_L7
    rcases Nat.eq_zero_or_pos (c - k) with r | r
    · rw [r]
      refine pw_T dn_neg (pw_out ?_)
      rw [lst_is (m := 0) (by omega) (fun i h1 h2 => i1 i (by omega) h2) (Or.inl rfl)]
    · obtain ⟨m, hm⟩ : ∃ m, c - k = m + 1 := ⟨c - k - 1, by omega⟩
      rw [hm] at i1 ⊢
      rw [dn_succ]
      have qm := hq m (by omega)
      refine pw_F (nI_pos (n := m) (by omega)) (pw_rd (by omega) (by decide) ?_)
      rw [hw m (by omega)]
      refine pw_lt (b := 8) (by omega) (by decide) (fun z => pw_out ?_) (fun z => pw_in ⟨by omega, by rw [dn_step, show c - (k + 1) = m by omega], fun i h1 h2 => ?_⟩)
      · rw [lst_is (m := m + 1) (by omega) i1 (Or.inr (by rw [Nat.add_sub_cancel]; exact z)), dn_succ]
      · by_cases y : i = m
        · rw [y]; exact z
        · exact i1 i (by omega) h2
  · subst hu
    refine pw_if (fun z => ?_) (fun z => pw_some (Or.inl ⟨?_, rfl⟩))
    · have l0 := (dn_le0 (by omega)).mp z
      obtain ⟨m, hm⟩ : ∃ m, lst c q = m + 1 := ⟨lst c q - 1, by omega⟩
      rw [hm, dn_succ]
      refine pw_rd (by omega) (by decide) ?_
      rw [hw m (by omega), show (nI (q m) + (1 : Int32)) = nI (q m + 1) from nI_add _ 1]
      refine pw_bind (R := fun v => ∀ i, i < c → v i = nI (adv c q i)) ?_ (fun t ht => pw_some (Or.inr ⟨Nat.succ_ne_zero m, rfl, ht⟩))
      refine pw_run (fun i s => ∃ w', s = (nI i, w') ∧ m ≤ i ∧ ∀ j, j < i → w' j = nI (adv c q j)) m c (by omega) ⟨w, rfl, Nat.le_refl m, adv_low hw hm (by omega)⟩ (by omega) ?_
      rintro i _ hi ⟨w', rfl, y, i1⟩
      show pw (fX4_advance_L45 (nI (q m + 1)) (nI c) (nI i) w') _
      unfold fX4_advance_L45
      refine pw_le (by omega) (by omega) (fun z => pw_out (fun j hj => i1 j (by omega))) (fun z => pw_wr (by omega) (by decide) (pw_in ⟨z, _, by rw [show (nI i + (1 : Int32)) = nI (i + 1) from nI_add i 1], by omega, fill_adv hw hm y z i1⟩))
    · exact Classical.byContradiction (fun y => z ((dn_le0 (by omega)).mpr y))
theorem sM_goesOn (hc : c ≤ 4) (hq : ∀ i, i < c → 2 ≤ q i ∧ q i ≤ 8) (hw : ∀ i, i < c → w i = nI (q i)) : pw (fX6_goesOn (nI c) w) (fun v => (lst c q = 0 ∧ v.1 = 0) ∨ (lst c q ≠ 0 ∧ v.1 = 1 ∧ ∀ i, i < c → v.2 i = nI (adv c q i))) := by
  have ll := lst_le c q
  unfold fX6_goesOn
  refine pw_bind (R := fun v => v = dn (lst c q)) ?_ (fun u hu => ?_)
  · refine pw_run (fun k s => s = dn (c - k) ∧ ∀ i, c - k ≤ i → i < c → 8 ≤ q i) 0 c (by omega) ⟨rfl, fun i h1 h2 => by omega⟩ (Nat.zero_le _) ?_
    rintro k _ hk ⟨rfl, i1⟩
    show pw (fX6_goesOn_L7 w (dn (c - k))) _
    unfold fX6_goesOn_L7
    rcases Nat.eq_zero_or_pos (c - k) with r | r
    · rw [r]
      refine pw_T dn_neg (pw_out ?_)
      rw [lst_is (m := 0) (by omega) (fun i h1 h2 => i1 i (by omega) h2) (Or.inl rfl)]
    · obtain ⟨m, hm⟩ : ∃ m, c - k = m + 1 := ⟨c - k - 1, by omega⟩
      rw [hm] at i1 ⊢
      rw [dn_succ]
      have qm := hq m (by omega)
      refine pw_F (nI_pos (n := m) (by omega)) (pw_rd (by omega) (by decide) ?_)
      rw [hw m (by omega)]
      refine pw_eqn (b := 8) (by omega) (by decide) (fun z => pw_in ⟨by omega, by rw [dn_step, show c - (k + 1) = m by omega], fun i h1 h2 => ?_⟩) (fun z => pw_out ?_)
      · by_cases y : i = m
        · rw [y]; omega
        · exact i1 i (by omega) h2
      · rw [lst_is (m := m + 1) (by omega) i1 (Or.inr (by rw [Nat.add_sub_cancel]; omega)), dn_succ]
  · subst hu
    refine pw_if (fun z => ?_) (fun z => pw_some (Or.inl ⟨?_, rfl⟩))
    · have l0 := (dn_le0 (by omega)).mp z
      obtain ⟨m, hm⟩ : ∃ m, lst c q = m + 1 := ⟨lst c q - 1, by omega⟩
      rw [hm, dn_succ]
      refine pw_rd (by omega) (by decide) ?_
      rw [hw m (by omega), show (nI (q m) + (1 : Int32)) = nI (q m + 1) from nI_add _ 1]
      refine pw_bind (R := fun v => ∀ i, i < c → v i = nI (adv c q i)) ?_ (fun t ht => pw_some (Or.inr ⟨Nat.succ_ne_zero m, rfl, ht⟩))
      refine pw_run (fun i s => ∃ w', s = (nI i, w') ∧ m ≤ i ∧ ∀ j, j < i → w' j = nI (adv c q j)) m c (by omega) ⟨w, rfl, Nat.le_refl m, adv_low hw hm (by omega)⟩ (by omega) ?_
      rintro i _ hi ⟨w', rfl, y, i1⟩
      show pw (fX6_goesOn_L45 (nI (q m + 1)) (nI c) (nI i) w') _
      unfold fX6_goesOn_L45
      refine pw_le (by omega) (by omega) (fun z => pw_out (fun j hj => i1 j (by omega))) (fun z => pw_wr (by omega) (by decide) (pw_in ⟨z, _, by rw [show (nI i + (1 : Int32)) = nI (i + 1) from nI_add i 1], by omega, fill_adv hw hm y z i1⟩))
    · exact Classical.byContradiction (fun y => z ((dn_le0 (by omega)).mpr y))
end RISE
