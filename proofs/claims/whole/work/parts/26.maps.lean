/-! THE MAPS, laid by both -/
def tot (f n h c : Nat) (p : Nat → Nat) : Nat := fb_ct (iM f n h c p) 10000
def MA (f n h c : Nat) (p : Nat → Nat) (a : Nat → Int32) (cnt : Int32) : Prop := cnt = nI (tot f n h c p) ∧ tot f n h c p ≤ 512 ∧ ∀ x, x < 10000 → iM f n h c p x = true → a (fb_ct (iM f n h c p) x) = nI x
def PA (f n h c : Nat) (p : Nat → Nat) (a : Nat → Int32) : Prop := ∀ x, x < 10000 → a x = if iM f n h c p x = true then nI (fb_ct (iM f n h c p) x) else (-1 : Int32)
def IX (f n h c : Nat) (p : Nat → Nat) (x v : Int32) : Prop := (∃ y, y < 10000 ∧ iM f n h c p y = true ∧ x = nI y ∧ v = nI (fb_ct (iM f n h c p) y)) ∨ (v = (-1 : Int32) ∧ ∀ y, iM f n h c p y = true → x ≠ nI y)
section MAPS
variable {f n h c : Nat} {p d : Nat → Nat} {P I O C Z T e w a : Nat → Int32} {cnt : Int32}
theorem iM_lt (hs : sok h c p) {x : Nat} (hx : iM f n h c p x = true) : x < 10 ^ (2 * h + c) ∧ x < 10000 := by
  unfold iM at hx
  rw [Bool.and_eq_true] at hx
  have h4 := pow4 hs.2.1
  have : x < 10 ^ (2 * h + c) := by simpa using hx.1
  exact ⟨this, by omega⟩
theorem tot_eq (hs : sok h c p) : fb_ct (iM f n h c p) (10 ^ (2 * h + c)) = tot f n h c p := by
  have h4 := pow4 hs.2.1
  have := fb_ct_none (p := iM f n h c p) (a := 10 ^ (2 * h + c)) (t := 10000 - 10 ^ (2 * h + c)) (fun x x1 x2 => by
    cases q : iM f n h c p x with
    | false => rfl
    | true => have := (iM_lt hs q).1; omega)
  rw [show 10 ^ (2 * h + c) + (10000 - 10 ^ (2 * h + c)) = 10000 by omega] at this
  exact this.symm
theorem ix_lt {x : Nat} (hx : iM f n h c p x = true) (hl : x < 10000) : fb_ct (iM f n h c p) x < tot f n h c p := by
  have := fb_ct_mono (iM f n h c p) (show x + 1 ≤ 10000 from hl)
  rw [fb_ct_succ, hx, if_pos rfl] at this
  unfold tot; omega
theorem ix_mono {x y : Nat} (hx : iM f n h c p x = true) (hl : x < y) : fb_ct (iM f n h c p) x < fb_ct (iM f n h c p) y := by
  have := fb_ct_mono (iM f n h c p) (show x + 1 ≤ y from hl)
  rw [fb_ct_succ, hx, if_pos rfl] at this
  omega
theorem MA_kth (hm : MA f n h c p a cnt) {k : Nat} (hk : k < tot f n h c p) : ∃ x, x < 10000 ∧ iM f n h c p x = true ∧ fb_ct (iM f n h c p) x = k ∧ a k = nI x := by
  obtain ⟨x, x1, x2, x3⟩ := fb_ct_kth hk
  exact ⟨x, x1, x2, x3, by rw [← x3]; exact hm.2.2 x x1 x2⟩
theorem MA_find (g : gok f n) (hG : CG f n P I O C Z) (hs : sok h c p) (hw : ∀ i, i < c → w i = nI (p i)) (e a : Nat → Int32) : pw (fX2_find 512 (nI (gz f n)) P I O Z (nI h) (nI c) w e a) (fun v => MA f n h c p v.2.1 v.2.2) := by
  refine pw_mono (sC_find g hG hs hw (by decide) (Nat.le_refl _) e a) ?_
  rintro ⟨e2, a2, n2⟩ ⟨k, B, k1, k2, k3, k4, k5⟩
  have hB : B = 10 ^ (2 * h + c) := by rcases k5 with r | r <;> omega
  subst hB
  rw [tot_eq hs] at k2
  exact ⟨by rw [← k2]; exact k1, by omega, fun x x1 x2 => k4 x (iM_lt hs x2).1 x2⟩
theorem sC_prepare (g : gok f n) (hG : CG f n P I O C Z) (hs : sok h c p) (hw : ∀ i, i < c → w i = nI (p i)) (e : Nat → Int32) {known : Int32} (hk : known = 0 ∨ known = 1 ∧ MA f n h c p a cnt) : pw (fX2_prepare 512 (nI (gz f n)) P I O Z (nI h) (nI c) w e a cnt known) (fun v => MA f n h c p v.2.1 v.2.2.1 ∧ v.2.2.2 = 1) := by
  unfold fX2_prepare
  rcases hk with rfl | ⟨rfl, hm⟩
  · exact pw_T rfl (pw_bind (MA_find g hG hs hw e a) (fun t ht => pw_some ⟨ht, rfl⟩))
  · exact pw_F (by decide) (pw_some ⟨hm, rfl⟩)
theorem sC_has {v : Int32} {x : Int32} (hm : MA f n h c p a cnt) (hv : IX f n h c p x v) : fX2_has v cnt = some (bi (decide (v ≠ (-1 : Int32)))) := by
  have t512 := hm.2.1
  rw [hm.1]
  unfold fX2_has
  rcases hv with ⟨y, y1, y2, rfl, rfl⟩ | ⟨rfl, _⟩
  · have := ix_lt y2 y1
    refine pw_val (pw_F (nI_pos (by omega)) (pw_le (by omega) (by omega) (fun r => by omega) (fun r => pw_some ?_)))
    have ne : nI (fb_ct (iM f n h c p) y) ≠ (-1 : Int32) := fun z => by
      have h1 : ¬ nI (fb_ct (iM f n h c p) y) < 0 := nI_pos (by omega)
      rw [z] at h1; exact h1 (by decide)
    rw [show decide (nI (fb_ct (iM f n h c p) y) ≠ (-1 : Int32)) = true from decide_eq_true ne]; rfl
  · rfl
theorem sC_hasN {k : Int32} (hm : MA f n h c p a cnt) : fX2_has k cnt = some (if ie k (tot f n h c p) then 1 else 0) := by
  rw [hm.1]
  have t512 := hm.2.1
  have r := sC_isElement (z := tot f n h c p) k (by omega)
  unfold fX1_isElement at r
  unfold fX2_has
  exact r
theorem sC_indexOf (hs : sok h c p) (hm : MA f n h c p a cnt) (x : Int32) : pw (fX2_indexOf x 512 a cnt) (IX f n h c p x) := by
  have t512 := hm.2.1
  rw [hm.1]
  unfold fX2_indexOf
  refine pw_bind (R := fun u => match u with | Sum.inl _ => ∀ y, iM f n h c p y = true → x ≠ nI y | Sum.inr v => ∃ y, y < 10000 ∧ iM f n h c p y = true ∧ x = nI y ∧ v = nI (fb_ct (iM f n h c p) y)) ?_ ?_
  · refine pw_run (fun j s => ∃ lo H : Nat, s = (nI lo, dn H, nI j) ∧ lo ≤ H ∧ H ≤ tot f n h c p ∧ H + j ≤ lo + 512 ∧ ∀ y, iM f n h c p y = true → x = nI y → lo ≤ fb_ct (iM f n h c p) y ∧ fb_ct (iM f n h c p) y < H) 0 512 (by decide) ⟨0, tot f n h c p, rfl, Nat.zero_le _, Nat.le_refl _, by omega, fun y y1 y2 => ⟨Nat.zero_le _, ix_lt y1 (iM_lt hs y1).2⟩⟩ (Nat.zero_le _) ?_
    rintro j _ hj ⟨lo, H, rfl, i1, i2, i3, i4⟩
    show pw (fX2_indexOf_L12 x 512 a (nI lo) (dn H) (nI j)) _
    unfold fX2_indexOf_L12
    rcases Nat.eq_zero_or_pos H with q | q
    · subst q
      refine pw_T ?_ (pw_out (fun y y1 y2 => absurd (i4 y y1 y2).2 (Nat.not_lt_zero _)))
      rw [show lo = 0 by omega]; decide
    · obtain ⟨m, rfl⟩ : ∃ m, H = m + 1 := ⟨H - 1, by omega⟩
      rw [dn_succ]
      refine pw_lt (by omega) (by omega) (fun r => pw_out (fun y y1 y2 => absurd (i4 y y1 y2) (by omega))) (fun r => pw_le (a := 512) (by decide) (by omega) (fun r2 => absurd r2 (by omega)) (fun r2 => ?_))
      have mid : (nI lo + nI m) >>> ((1 : Int32) &&& 31) = nI ((lo + m) / 2) := by
        rw [nI_add, show (nI (lo + m)) >>> ((1 : Int32) &&& 31) = nI ((lo + m) >>> 1) from bz_shr (b := 1) (by omega) (by decide), Nat.shiftRight_eq_div_pow]
      rw [mid]
      obtain ⟨z, z1, z2, z3, z4⟩ := MA_kth hm (show (lo + m) / 2 < tot f n h c p by omega)
      refine pw_rd (by omega) (by decide) ?_
      rw [z4]
      refine pw_if (fun r3 => pw_out ⟨z, z1, z2, r3.symm, by rw [z3]⟩) (fun r3 => pw_rd (by omega) (by decide) ?_)
      rw [z4]
      unfold fX2_indexOf_J70L12
      rw [show (nI j + (1 : Int32)) = nI (j + 1) from nI_add j 1]
      refine pw_if (fun r4 => pw_in ⟨by omega, lo, (lo + m) / 2, rfl, by omega, by omega, by omega, fun y y1 y2 => ⟨(i4 y y1 y2).1, ?_⟩⟩) (fun r4 => pw_in ⟨by omega, (lo + m) / 2 + 1, m + 1, by rw [show (nI ((lo + m) / 2) + (1 : Int32)) = nI ((lo + m) / 2 + 1) from nI_add _ 1, dn_succ], by omega, by omega, by omega, fun y y1 y2 => ⟨?_, (i4 y y1 y2).2⟩⟩)
      · subst y2
        have yl := (iM_lt hs y1).2
        have : y ≤ z := (nI_leI (by omega) (by omega)).mp r4
        have : y ≠ z := fun q => r3 (by rw [q])
        rw [← z3]; exact ix_mono y1 (by omega)
      · subst y2
        have yl := (iM_lt hs y1).2
        have : ¬ y ≤ z := fun q => r4 ((nI_leI (by omega) (by omega)).mpr q)
        have := ix_mono z2 (show z < y by omega)
        omega
  · rintro (u | v) hu
    · exact pw_some (Or.inr ⟨rfl, hu⟩)
    · exact pw_some (Or.inl hu)
theorem sM_placeOf (hs : sok h c p) (hp : PA f n h c p a) (x : Int32) : pw (fX6_placeOf x a) (IX f n h c p x) := by
  unfold fX6_placeOf
  refine pw_eq (sM_inP (c := 10000) x (by decide)) ?_
  by_cases q : ie x 10000
  · rw [if_pos q]
    obtain ⟨y, y1, rfl⟩ := ie_of q (by omega)
    refine pw_F (by decide) (pw_rd y1 (by decide) (pw_some ?_))
    rw [hp y y1]
    cases r : iM f n h c p y with
    | true => rw [if_pos rfl]; exact Or.inl ⟨y, y1, r, rfl, rfl⟩
    | false =>
      rw [if_neg (by decide)]
      refine Or.inr ⟨rfl, fun y2 y3 y4 => ?_⟩
      have yl := (iM_lt hs y3).2
      have := (nI_eq (by omega) (by omega)).mp y4
      rw [this, y3] at r; exact absurd r (by decide)
  · rw [if_neg q]
    refine pw_T rfl (pw_some (Or.inr ⟨rfl, fun y y1 y2 => q ?_⟩))
    have yl := (iM_lt hs y1).2
    rw [y2]; exact (ie_nI (by omega)).mpr yl
theorem IX_uniq (hs : sok h c p) {x v u : Int32} (hv : IX f n h c p x v) (hu : IX f n h c p x u) : v = u := by
  rcases hv with ⟨y, y1, y2, y3, y4⟩ | ⟨y3, y4⟩
  · rcases hu with ⟨z, z1, z2, z3, z4⟩ | ⟨z3, z4⟩
    · rw [y4, z4, (nI_eq (a := y) (b := z) (by omega) (by omega)).mp (by rw [← y3, ← z3])]
    · exact absurd y3 (z4 y y2)
  · rcases hu with ⟨z, z1, z2, z3, z4⟩ | ⟨z3, z4⟩
    · exact absurd z3 (y4 z z2)
    · rw [y3, z3]
end MAPS
