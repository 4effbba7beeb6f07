/-! CODES AND DIGITS -/
theorem L_cases {L : Nat} (hL : L ≤ 4) : L = 0 ∨ L = 1 ∨ L = 2 ∨ L = 3 ∨ L = 4 := by omega
theorem cd_dg {L x : Nat} (hL : L ≤ 4) (hx : x < 10 ^ L) : cd L (dg L x) = x := by
  rcases L_cases hL with rfl | rfl | rfl | rfl | rfl <;> simp [cd, dg] at hx ⊢ <;> omega
theorem cd_cong {d d' : Nat → Nat} : ∀ k, (∀ i, i < k → d i = d' i) → cd k d = cd k d'
  | 0, _ => rfl
  | k + 1, h => by rw [cd, cd, cd_cong k (fun i hi => h i (by omega)), h k (by omega)]
theorem dg_up (L x i : Nat) (hi : i < L) : dg (L + 1) x i = dg L (x / 10) i := by
  unfold dg
  rw [show L + 1 - 1 - i = (L - 1 - i) + 1 by omega, Nat.pow_succ, Nat.mul_comm, Nat.div_div_eq_div_mul]
theorem dg_last (L x : Nat) : dg (L + 1) x L = x % 10 := by
  unfold dg
  rw [show L + 1 - 1 - L = 0 by omega, Nat.pow_zero, Nat.div_one]
theorem dg_cd {d : Nat → Nat} : ∀ L, (∀ i, i < L → d i < 10) → ∀ i, i < L → dg L (cd L d) i = d i
  | 0, _, i, hi => absurd hi (Nat.not_lt_zero i)
  | L + 1, h, i, hi => by
    have hl := h L (by omega)
    rcases Nat.lt_or_ge i L with q | q
    · rw [dg_up L _ i q, cd, show (cd L d * 10 + d L) / 10 = cd L d by omega]
      exact dg_cd L (fun j hj => h j (by omega)) i q
    · rw [show i = L by omega, dg_last, cd]; omega
theorem allB_cong {p q : Nat → Bool} : ∀ {n : Nat}, (∀ k, k < n → p k = q k) → allB n p = allB n q
  | 0, _ => rfl
  | n + 1, e => by rw [allB, allB, e n (by omega), allB_cong (fun k hk => e k (by omega))]
theorem rpr_cong {f n h : Nat} {d d' : Nat → Nat} (h1 : h ≤ 1) : ∀ k, (∀ i, i < 2 * h + k → d i = d' i) → rpr f n h d k = rpr f n h d' k
  | 0, e => by
    rw [rpr, rpr]
    by_cases q : h = 1
    · rw [if_pos q, if_pos q, e 0 (by omega), e 1 (by omega)]
    · rw [if_neg q, if_neg q]
  | k + 1, e => by rw [rpr, rpr, rpr_cong h1 k (fun i hi => e i (by omega)), e _ (by omega)]
theorem rord_cong {f n h : Nat} {p d d' : Nat → Nat} {k : Nat} (e : ∀ i, i < 2 * h + k → d i = d' i) : rord f n h p d k = rord f n h p d' k :=
  allB_cong (fun i hi => by rw [e _ (by omega)])
theorem DG_cong {L : Nat} {d d' : Nat → Nat} {e : Nat → Int32} (h : DG L d e) (q : ∀ i, i < L → d i = d' i) : DG L d' e := fun i hi => by rw [← q i hi]; exact h i hi
theorem fb_ct_none {p : Nat → Bool} {a : Nat} : ∀ {t : Nat}, (∀ x, a ≤ x → x < a + t → p x = false) → fb_ct p (a + t) = fb_ct p a
  | 0, _ => rfl
  | t + 1, h => by
    rw [show a + (t + 1) = (a + t) + 1 from rfl, fb_ct_succ, h (a + t) (by omega) (by omega), fb_ct_none (fun x h1 h2 => h x h1 (by omega))]; rfl
theorem fb_ct_gap {p : Nat → Bool} {a b x0 : Nat} (h1 : a ≤ x0) (h2 : x0 < b) (h : ∀ x, a ≤ x → x < b → p x = true → x = x0) : fb_ct p x0 = fb_ct p a ∧ fb_ct p b = fb_ct p a + (if p x0 = true then 1 else 0) := by
  have no : ∀ x, a ≤ x → x < b → x ≠ x0 → p x = false := fun x q1 q2 q3 => by
    cases q : p x with
    | false => rfl
    | true => exact absurd (h x q1 q2 q) q3
  have e1 : fb_ct p x0 = fb_ct p a := by
    have := fb_ct_none (p := p) (a := a) (t := x0 - a) (fun x q1 q2 => no x q1 (by omega) (by omega))
    rwa [show a + (x0 - a) = x0 by omega] at this
  have e2 : fb_ct p b = fb_ct p (x0 + 1) := by
    have := fb_ct_none (p := p) (a := x0 + 1) (t := b - (x0 + 1)) (fun x q1 q2 => no x (by omega) (by omega) (by omega))
    rwa [show x0 + 1 + (b - (x0 + 1)) = b by omega] at this
  exact ⟨e1, by rw [e2, fb_ct_succ, e1]⟩
/-! the odometer over the digits that are free -/
def pd (z F j i : Nat) : Nat := j / z ^ (F - 1 - i) % z
def bnd (z F j : Nat) : Nat := if j < z ^ F then cd F (pd z F j) else 10 ^ F
theorem odo_chk : allB 9 (fun z => allB 4 (fun F => allB (z ^ F) (fun j => allB (F + 1) (fun m => (!(allB F (fun i => decide (i < m) || pd z F j i == z - 1))) || (if m = 0 then j + 1 == z ^ F else (pd z F j (m - 1) == z - 1) || (decide (j + 1 < z ^ F) && allB F (fun i => pd z F (j + 1) i == if i < m - 1 then pd z F j i else if i = m - 1 then pd z F j i + 1 else 0))))))) = true := by decide +kernel
theorem gap_chk : allB 8 (fun z => allB 4 (fun F => allB ((z + 1) ^ F) (fun j => decide (bnd (z + 1) F j < bnd (z + 1) F (j + 1)) && allB (bnd (z + 1) F (j + 1) - bnd (z + 1) F j) (fun t => t == 0 || !(allB F (fun i => decide (dg F (bnd (z + 1) F j + t) i < z + 1))))))) = true := by decide +kernel
theorem bnd0_chk : allB 8 (fun z => allB 4 (fun F => bnd (z + 1) F 0 == 0 && (decide ((z + 1) ^ F ≤ 512) && allB F (fun i => pd (z + 1) F 0 i == 0)))) = true := by decide +kernel
theorem odo_at {z F j m : Nat} (hz : z ≤ 8) (hF : F ≤ 3) (hj : j < z ^ F) (hm : m ≤ F) (h : ∀ i, i < F → m ≤ i → pd z F j i = z - 1) : (m = 0 → j + 1 = z ^ F) ∧ (0 < m → pd z F j (m - 1) ≠ z - 1 → j + 1 < z ^ F ∧ ∀ i, i < F → pd z F (j + 1) i = if i < m - 1 then pd z F j i else if i = m - 1 then pd z F j i + 1 else 0) := by
  have q := allB_at (allB_at (allB_at (allB_at odo_chk z (by omega)) F (by omega)) j hj) m (by omega)
  have e : allB F (fun i => decide (i < m) || pd z F j i == z - 1) = true := allB_iff.mpr (fun i hi => by
    rcases Nat.lt_or_ge i m with r | r
    · simp [r]
    · simp [h i hi r])
  simp only [e, Bool.not_true, Bool.false_or] at q
  constructor
  · rintro rfl; simpa using q
  · intro h0 hne
    rw [if_neg (by omega), Bool.or_eq_true] at q
    rcases q with q | q
    · exact absurd (by simpa using q) hne
    · rw [Bool.and_eq_true] at q
      exact ⟨by simpa using q.1, fun i hi => by simpa using allB_at q.2 i hi⟩
theorem gap_at {z F j : Nat} (h0 : 0 < z) (hz : z ≤ 8) (hF : F ≤ 3) (hj : j < z ^ F) : bnd z F j < bnd z F (j + 1) ∧ ∀ y, bnd z F j ≤ y → y < bnd z F (j + 1) → (∀ i, i < F → dg F y i < z) → y = bnd z F j := by
  obtain ⟨k, rfl⟩ : ∃ k, z = k + 1 := ⟨z - 1, by omega⟩
  have q := allB_at (allB_at (allB_at gap_chk k (by omega)) F (by omega)) j hj
  rw [Bool.and_eq_true] at q
  refine ⟨by simpa using q.1, fun y h1 h2 h3 => ?_⟩
  have r := allB_at q.2 (y - bnd (k + 1) F j) (by omega)
  rw [show bnd (k + 1) F j + (y - bnd (k + 1) F j) = y by omega, Bool.or_eq_true] at r
  rcases r with r | r
  · have : y - bnd (k + 1) F j = 0 := by simpa using r
    omega
  · rw [allB_iff.mpr (fun i hi => by simpa using h3 i hi)] at r
    exact absurd r (by decide)
theorem bnd0 {z F : Nat} (h0 : 0 < z) (hz : z ≤ 8) (hF : F ≤ 3) : bnd z F 0 = 0 ∧ z ^ F ≤ 512 ∧ ∀ i, i < F → pd z F 0 i = 0 := by
  obtain ⟨k, rfl⟩ : ∃ k, z = k + 1 := ⟨z - 1, by omega⟩
  have q := allB_at (allB_at bnd0_chk k (by omega)) F (by omega)
  rw [Bool.and_eq_true, Bool.and_eq_true] at q
  exact ⟨by simpa using q.1, by simpa using q.2.1, fun i hi => by simpa using allB_at q.2.2 i hi⟩
theorem pd_lt {z F j i : Nat} (h0 : 0 < z) : pd z F j i < z := Nat.mod_lt _ h0
def fr (h c : Nat) : Nat := if c = 0 then 2 * h else 2 * h + c - 1
theorem fr_le {h c : Nat} {p : Nat → Nat} (hs : sok h c p) : fr h c ≤ 3 ∧ fr h c ≤ 2 * h + c ∧ (c = 0 → fr h c = 2 * h) ∧ (0 < c → fr h c + 1 = 2 * h + c) := by
  obtain ⟨s1, s2, s3⟩ := hs
  unfold fr
  split <;> omega
section FIND
variable {f n h c z : Nat} {p d : Nat → Nat} {P I O C Z T e w : Nat → Int32}
theorem sC_freeDigits (hs : sok h c p) : fX3_freeDigits (nI h) (nI c) = some (nI (fr h c)) := by
  obtain ⟨q1, q2, q3, q4⟩ := fr_le hs
  obtain ⟨s1, s2, s3⟩ := hs
  unfold fX3_freeDigits
  refine pw_val (pw_le (b := 0) (by omega) (by decide) (fun q => pw_eq sC_digits (pw_some ?_)) (fun q => pw_eq sC_digits (pw_some ?_)))
  · rw [q3 (by omega), show c = 0 by omega]; rfl
  · have := q4 q
    rw [show fr h c = 2 * h + c - 1 by omega]
    exact pk_sub (a := 2 * h + c) (b := 1) (by omega)
theorem sC_fill {x : Int32} {N : Nat} (hN : N < 1000) (e : Nat → Int32) : pw (fJ7_fill_53178 x N e) (fun v => ∀ i, i < N → v i = x) := by
  unfold fJ7_fill_53178
  refine pw_bind (R := fun v => ∀ i, i < N → v i = x) ?_ (fun t ht => pw_some ht)
  refine pw_run (fun i s => ∃ e', s = (nI i, e') ∧ ∀ j, j < i → e' j = x) 0 N (by omega) ⟨e, rfl, fun j hj => absurd hj (Nat.not_lt_zero j)⟩ (Nat.zero_le _) ?_
  rintro i _ hi ⟨e', rfl, hI⟩
  show pw (fJ7_fill_53178_L5 x (nI N) N (nI i) e') _
  unfold fJ7_fill_53178_L5
  refine pw_le (by omega) (by omega) (fun q => pw_out (fun j hj => hI j (by omega))) (fun q => pw_wr q (by omega) (pw_in ⟨q, _, by rw [show (nI i + (1 : Int32)) = nI (i + 1) from nI_add i 1], ?_⟩))
  intro j hj
  by_cases r : j = i
  · rw [r, upd_s]
  · rw [upd_n r]; exact hI j (by omega)
theorem sC_startFree (e : Nat → Int32) : pw (fX3_startFree e) (fun v => ∀ i, i < 4 → v i = 0) := by
  unfold fX3_startFree
  exact pw_bind (sC_fill (by decide) e) (fun t ht => pw_some ht)
theorem sC_advance (hs : sok h c p) (h0 : 0 < z) (hz : z ≤ 8) {j : Nat} (hj : j < z ^ fr h c) (he : DG (fr h c) (pd z (fr h c) j) e) : pw (fX3_advanceFree (nI z) (nI h) (nI c) e) (fun v => v.1 = (if j + 1 < z ^ fr h c then 1 else 0) ∧ (j + 1 < z ^ fr h c → DG (fr h c) (pd z (fr h c) (j + 1)) v.2)) := by
  obtain ⟨hF, _, _, _⟩ := fr_le hs
  unfold fX3_advanceFree
  refine pw_eq (sC_freeDigits hs) ?_
  generalize fr h c = F at hj he hF
  refine pw_bind (R := fun v => (v.1 < 0 ∧ j + 1 = z ^ F) ∨ ∃ m, m < F ∧ v.1 = nI m ∧ pd z F j m ≠ z - 1 ∧ (∀ i, i < F → m + 1 ≤ i → pd z F j i = z - 1) ∧ (∀ i, i < F → v.2 i = if i ≤ m then nI (pd z F j i) else 0)) ?_ ?_
  · refine pw_run (fun k s => ∃ e', s = (dn (F - k), e') ∧ k ≤ F ∧ (∀ i, i < F → F - k ≤ i → pd z F j i = z - 1) ∧ (∀ i, i < F → e' i = if i < F - k then nI (pd z F j i) else 0)) 0 (F + 1) (by omega) ⟨e, rfl, Nat.zero_le _, fun i h1 h2 => by omega, fun i hi => by rw [if_pos (by omega)]; exact he i hi⟩ (Nat.zero_le _) ?_
    rintro k _ hk ⟨e', rfl, k1, k2, k3⟩
    show pw (fX3_advanceFree_L7 (nI z) (dn (F - k)) e') _
    unfold fX3_advanceFree_L7
    rcases Nat.eq_zero_or_pos (F - k) with q | q
    · rw [q]
      refine pw_T dn_neg (pw_out (Or.inl ⟨dn_neg, (odo_at hz hF hj (Nat.zero_le _) (fun i h1 h2 => k2 i h1 (by omega))).1 rfl⟩))
    · obtain ⟨m, hm⟩ : ∃ m, F - k = m + 1 := ⟨F - k - 1, by omega⟩
      rw [hm] at k2 k3 ⊢
      rw [dn_succ]
      refine pw_F (nI_pos (n := m) (by omega)) (pw_rd (by omega) (by decide) ?_)
      rw [k3 m (by omega), if_pos (Nat.lt_succ_self m), show nI z - (1 : Int32) = nI (z - 1) from pk_sub (a := z) (b := 1) h0]
      have pl := pd_lt (F := F) (j := j) (i := m) h0
      refine pw_lt (by omega) (by omega) (fun r => pw_out (Or.inr ⟨m, by omega, rfl, by omega, k2, fun i hi => ?_⟩)) (fun r => pw_wr (by omega) (by decide) (pw_in ⟨by omega, _, by rw [dn_step, show F - (k + 1) = m by omega], by omega, ?_, ?_⟩))
      · show e' i = _
        rw [k3 i hi]
        by_cases r2 : i ≤ m
        · rw [if_pos r2, if_pos (by omega)]
        · rw [if_neg r2, if_neg (by omega)]
      · intro i h1 h2
        by_cases r2 : i = m
        · subst r2; omega
        · exact k2 i h1 (by omega)
      · intro i hi
        by_cases r2 : i = m
        · rw [r2, upd_s, if_neg (by omega)]
        · rw [upd_n r2, k3 i hi]
          by_cases r3 : i < m
          · rw [if_pos (by omega), if_pos (by omega)]
          · rw [if_neg (by omega), if_neg (by omega)]
  · rintro ⟨x, e'⟩ (⟨q1, q2⟩ | ⟨m, hm, rfl, m1, m2, m3⟩)
    · refine pw_F (fun q => ?_) (pw_some ⟨by rw [if_neg (by omega)], fun q => by omega⟩)
      have q1 : x < 0 := q1
      have q : (0 : Int32) ≤ x := q
      rw [fa_lt] at q1
      rw [fa_le] at q
      omega
    · have m3 : ∀ i, i < F → e' i = if i ≤ m then nI (pd z F j i) else 0 := m3
      obtain ⟨a1, a2⟩ := (odo_at hz hF hj (m := m + 1) (by omega) m2).2 (by omega) m1
      show pw (if (0 : Int32) ≤ nI m then _ else _) _
      refine pw_le (a := 0) (by decide) (by omega) (fun _ => pw_rd (by omega) (by decide) (pw_wr (by omega) (by decide) (pw_some ⟨by rw [if_pos a1], fun _ => ?_⟩))) (fun r => absurd r (Nat.not_lt_zero m))
      intro i hi
      rw [a2 i hi]
      show upd e' m (e' m + (1 : Int32)) i = _
      by_cases r : i = m
      · rw [r, upd_s, m3 m hm, if_pos (Nat.le_refl m), if_neg (by omega), if_pos (by omega), show (nI (pd z F j m) + (1 : Int32)) = nI (pd z F j m + 1) from nI_add _ 1]
      · rw [upd_n r, m3 i hi]
        by_cases r2 : i < m
        · rw [if_pos (by omega), if_pos (by omega)]
        · rw [if_neg (by omega), if_neg (by omega), if_neg (by omega)]; rfl
end FIND
