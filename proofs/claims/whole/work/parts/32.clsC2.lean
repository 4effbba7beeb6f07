/-! THE CLASSES' NUMBERS, in the class -/
section CLSC2
variable {t mc : Nat} {nx : Nat → Nat → Nat} {st q dist : Nat → Int32}
theorem vis_U (ho : nxok t mc nx) {N : Nat → Nat} (hN : ∀ j i, j < t → i < mc → N j = 0 → N (nx j i) = 0) {k : Nat} (hk : k < t) (h0 : N k = 0) {j : Nat} (hv : vis nx mc t k j = true) : N j = 0 := by
  have b0 : bI t (fun j => N j = 0) (fun _ => 0) (bst0 (fun _ => 0) k) := bst0_I hk h0 (fun _ _ => rfl)
  obtain ⟨b1, _, _, _⟩ := bout_I ho (fun k i kU hk hi => hN k i hk hi kU) b0 t
  refine Decidable.byContradiction (fun z => ?_)
  have := b1.off j z
  unfold vis fin at hv
  rw [this] at hv; exact absurd hv (by decide)
theorem vis_out (ho : nxok t mc nx) {k j i : Nat} (hk : k < t) (hj : j < t) (hi : i < mc) (h : vis nx mc t k j = false) : vis nx mc t k (nx j i) = false := by
  unfold vis at h ⊢
  have h0 : (fin nx mc t k).1 j = 0 := by simpa using h
  have := fin_out ho hk hj hi h0
  simpa using this
theorem vis_self (ho : nxok t mc nx) {k : Nat} (hk : k < t) : vis nx mc t k k = true := by
  unfold vis
  rw [(fin_I ho hk).2.1]; rfl
theorem nst_I (ho : nxok t mc nx) : ∀ k, k ≤ t → (nst nx mc t k).2 ≤ k ∧ (∀ j, (nst nx mc t k).1 j ≤ (nst nx mc t k).2) ∧ (∀ j i, j < t → i < mc → (nst nx mc t k).1 j = 0 → (nst nx mc t k).1 (nx j i) = 0) ∧ ∀ j, j < k → (nst nx mc t k).1 j ≠ 0
  | 0, _ => ⟨Nat.le_refl _, fun _ => Nat.le_refl _, fun _ _ _ _ _ => rfl, fun j hj => absurd hj (Nat.not_lt_zero j)⟩
  | k + 1, hk => by
    obtain ⟨a1, a2, a3, a4⟩ := nst_I ho k (by omega)
    rw [nst]
    by_cases z : (nst nx mc t k).1 k = 0
    · rw [if_pos z]
      refine ⟨Nat.succ_le_succ a1, fun j => ?_, fun j i hj hi h => ?_, fun j hj => ?_⟩
      · show (if vis nx mc t k j = true then (nst nx mc t k).2 + 1 else (nst nx mc t k).1 j) ≤ (nst nx mc t k).2 + 1
        by_cases y : vis nx mc t k j = true
        · rw [if_pos y]; exact Nat.le_refl _
        · rw [if_neg y]; have := a2 j; omega
      · have h : (if vis nx mc t k j = true then (nst nx mc t k).2 + 1 else (nst nx mc t k).1 j) = 0 := h
        show (if vis nx mc t k (nx j i) = true then (nst nx mc t k).2 + 1 else (nst nx mc t k).1 (nx j i)) = 0
        cases y : vis nx mc t k j with
        | true => rw [y, if_pos rfl] at h; omega
        | false =>
          rw [y, if_neg (by decide)] at h
          rw [vis_out ho (by omega) hj hi y, if_neg (by decide)]
          exact a3 j i hj hi h
      · show (if vis nx mc t k j = true then (nst nx mc t k).2 + 1 else (nst nx mc t k).1 j) ≠ 0
        cases y : vis nx mc t k j with
        | true => rw [if_pos rfl]; omega
        | false =>
          rw [if_neg (by decide)]
          by_cases x : j = k
          · rw [x, vis_self ho (by omega)] at y; exact absurd y (by decide)
          · exact a4 j (by omega)
    · rw [if_neg z]
      refine ⟨by omega, a2, a3, fun j hj => ?_⟩
      by_cases x : j = k
      · rw [x]; exact z
      · exact a4 j (by omega)
def SI (nx : Nat → Nat → Nat) (mc t k : Nat) (nb sz dist : Nat → Int32) (cnt : Int32) : Prop := cnt = nI (nst nx mc t k).2 ∧ (∀ j, j < t → (nst nx mc t k).1 j ≠ 0 → nb j = dn ((nst nx mc t k).1 j)) ∧ (∀ j, j < (nst nx mc t k).2 → sz j = nI (fb_ct (fun x => (nst nx mc t k).1 x == j + 1) t)) ∧ ∃ D : Nat → Nat, ∀ j, j < t → dist j = dn (D j) ∧ D j ≤ t ∧ (D j = 0 ↔ (nst nx mc t k).1 j = 0)
def CA (nx : Nat → Nat → Nat) (mc t : Nat) (st nb sz : Nat → Int32) (mvn cnt : Int32) : Prop := STP t mc nx st ∧ mvn = nI mc ∧ cnt = nI (nst nx mc t t).2 ∧ (∀ j, j < t → nb j = dn ((nst nx mc t t).1 j)) ∧ ∀ j, j < (nst nx mc t t).2 → sz j = nI (fb_ct (fun x => (nst nx mc t t).1 x == j + 1) t)
theorem sC_number (ht : t ≤ 512) {r cn : Nat} {Q : Nat → Nat} (hr : r ≤ t) (hQ : ∀ i, i < r → Q i < t) (hq : ∀ i, i < r → q i = nI (Q i)) (nb : Nat → Int32) : pw (pz_iter (fun (σ : Int32 × (Nat → Int32)) => fX0_sort_L44 (nI r) q (nI cn) σ.1 σ.2) pz_FUEL ((0 : Int32), nb)) (fun v => (∀ l, l < r → v (Q l) = nI cn) ∧ ∀ j, (∀ l, l < r → Q l ≠ j) → v j = nb j) := by
  refine pw_run (fun i σ => ∃ a, σ = (nI i, a) ∧ (∀ l, l < i → a (Q l) = nI cn) ∧ ∀ j, (∀ l, l < i → Q l ≠ j) → a j = nb j) 0 r (by omega) ⟨nb, rfl, fun l hl => absurd hl (Nat.not_lt_zero l), fun _ _ => rfl⟩ (Nat.zero_le _) ?_
  rintro i _ hi ⟨a, rfl, i1, i2⟩
  show pw (fX0_sort_L44 (nI r) q (nI cn) (nI i) a) _
  unfold fX0_sort_L44
  refine pw_le (by omega) (by omega) (fun z => pw_out ⟨fun l hl => i1 l (by omega), fun j hj => i2 j (fun l hl => hj l (by omega))⟩) (fun z => pw_rd (by omega) (by decide) ?_)
  rw [hq i z]
  have := hQ i z
  refine pw_wr (by omega) (by decide) (pw_in ⟨z, _, by rw [show (nI i + (1 : Int32)) = nI (i + 1) from nI_add i 1], fun l hl => ?_, fun j hj => ?_⟩)
  · by_cases y : Q l = Q i
    · rw [y, upd_s]
    · rw [upd_n y]
      refine i1 l ?_
      by_cases x : l = i
      · exact absurd (by rw [x]) y
      · omega
  · rw [upd_n (fun y => hj i (by omega) y.symm)]
    exact i2 j (fun l hl => hj l (by omega))
theorem sC_sort (ht : t ≤ 512) (hmc : mc ≤ 11) (ho : nxok t mc nx) (hst : STP t mc nx st) (nb sz q dist : Nat → Int32) : pw (fX0_sort (nI t) st nb sz q dist (nI mc)) (fun v => CA nx mc t st v.1 v.2.1 (nI mc) v.2.2.2.2) := by
  unfold fX0_sort
  refine pw_bind (sC_fill (by decide) dist) (fun d0 hd0 => ?_)
  refine pw_bind (R := fun v => CA nx mc t st v.1 v.2.1 (nI mc) v.2.2.2.2) ?_ (fun u hu => pw_some hu)
  refine pw_run (fun k σ => ∃ nb sz q dist cnt, σ = (nI k, nb, sz, q, dist, cnt) ∧ SI nx mc t k nb sz dist cnt) 0 t (by omega) ⟨nb, sz, q, d0, 0, rfl, rfl, fun j _ h => absurd rfl h, fun j hj => absurd hj (Nat.not_lt_zero j), fun _ => 0, fun j hj => ⟨by rw [hd0 j (by omega)]; exact (show (-1 : Int32) = dn 0 by decide), Nat.zero_le _, Iff.rfl⟩⟩ (Nat.zero_le _) ?_
  rintro k _ hk ⟨nb, sz, q, dist, cnt, rfl, hI⟩
  show pw (fX0_sort_L15 (nI t) st (nI mc) (nI k) nb sz q dist cnt) _
  obtain ⟨i1, i2, i3, D, i4⟩ := id hI
  obtain ⟨n1, n2, n3, n4⟩ := nst_I ho k hk
  unfold fX0_sort_L15
  refine pw_le (by omega) (by omega) (fun z => pw_out ?_) (fun z => pw_rd (by omega) (by decide) ?_)
  · have e : k = t := by omega
    subst e
    exact ⟨hst, rfl, i1, fun j hj => i2 j hj (n4 j hj), i3⟩
  obtain ⟨d1, d2, d3⟩ := i4 k z
  rw [d1]
  have nxt : (nI k + (1 : Int32)) = nI (k + 1) := nI_add k 1
  by_cases y : (nst nx mc t k).1 k = 0
  · refine pw_T ((dn_m1 (by omega)).mpr (d3.mpr y)) ?_
    have hU : ∀ j i, (j < t ∧ (nst nx mc t k).1 j = 0) → j < t → i < mc → (nx j i < t ∧ (nst nx mc t k).1 (nx j i) = 0) := fun j i h hj hi => ⟨ho.lt j i hj hi, n3 j i hj hi h.2⟩
    have hD : ∀ j, (j < t ∧ (nst nx mc t k).1 j = 0) → D j = 0 := fun j h => (i4 j h.1).2.2.mpr h.2
    have b0 : bI t (fun j => j < t ∧ (nst nx mc t k).1 j = 0) D (bst0 D k) := bst0_I z ⟨z, y⟩ hD
    obtain ⟨b1, _, _, _⟩ := bout_I ho hU b0 t
    obtain ⟨g1, g2⟩ := bout_AG (s2 := bst0 (fun _ => 0) k) ho hU b0 rfl (fun j h => by
      show fu D k 1 j = fu (fun _ => 0) k 1 j
      by_cases x : j = k
      · rw [x, fu_s, fu_s]
      · rw [fu_n x, fu_n x]; exact hD j h) t
    refine pw_bind (sC_spread ht hmc ho hU hst z ⟨z, y⟩ hD (fun j hj => (i4 j hj).1) q) ?_
    rintro ⟨r, q', dist'⟩ ⟨r1, r2, r3⟩
    have rl := bI_le b1
    rw [g1] at r1 r2 rl
    have r1 : r = nI (fin nx mc t k).2.2 := r1
    subst r1
    have r2 : ∀ i, i < (fin nx mc t k).2.2 → q' i = nI ((fin nx mc t k).2.1 i) := r2
    have rl : (fin nx mc t k).2.2 ≤ t := rl
    obtain ⟨f1, f2, f3⟩ := fin_I ho z
    rw [i1]
    refine pw_bind (sC_number ht (cn := (nst nx mc t k).2) rl (fun i hi => (f1.q i hi).1) r2 nb) ?_
    rintro nb' ⟨m1, m2⟩
    have visq : ∀ j, vis nx mc t k j = true ↔ ∃ l, l < (fin nx mc t k).2.2 ∧ (fin nx mc t k).2.1 l = j := fun j => by
      constructor
      · intro h
        unfold vis at h
        exact f1.on j trivial (by simpa using h)
      · rintro ⟨l, l1, rfl⟩
        unfold vis
        have := (f1.q l l1).2.2.1
        simpa using this
    unfold fX0_sort_J90L15
    refine pw_wr (by omega) (by decide) (pw_in ⟨z, nb', _, q', dist', _, by rw [nxt], ?_⟩)
    have en : nst nx mc t (k + 1) = (fun j => if vis nx mc t k j = true then (nst nx mc t k).2 + 1 else (nst nx mc t k).1 j, (nst nx mc t k).2 + 1) := by rw [nst, if_pos y]
    have en1 : ∀ j, (nst nx mc t (k + 1)).1 j = if vis nx mc t k j = true then (nst nx mc t k).2 + 1 else (nst nx mc t k).1 j := fun j => by rw [en]
    have en2 : (nst nx mc t (k + 1)).2 = (nst nx mc t k).2 + 1 := by rw [en]
    refine ⟨by rw [en2]; exact nI_add _ 1, fun j hj h => ?_, fun j hj => ?_, ?_⟩
    · rw [en1] at h ⊢
      cases x : vis nx mc t k j with
      | true =>
        rw [if_pos rfl, dn_succ]
        obtain ⟨l, l1, l2⟩ := (visq j).mp x
        rw [← l2]; exact m1 l l1
      | false =>
        rw [x, if_neg (by decide)] at h
        rw [if_neg (by decide)]
        show nb' j = _
        rw [m2 j (fun l l1 l2 => by rw [(visq j).mpr ⟨l, l1, l2⟩] at x; exact absurd x (by decide))]
        exact i2 j hj h
    · rw [en2] at hj
      by_cases x : j = (nst nx mc t k).2
      · rw [x, upd_s]
        show nI (fin nx mc t k).2.2 = _
        rw [← fin_ct ho z]
        refine congrArg nI (fb_ct_cong (fun u hu => ?_))
        rw [en1]
        cases w : vis nx mc t k u with
        | true => rw [if_pos rfl]; simp
        | false =>
          rw [if_neg (by decide)]
          have := n2 u
          have : ((nst nx mc t k).1 u == (nst nx mc t k).2 + 1) = false := by simp; omega
          exact this.symm
      · rw [upd_n x, i3 j (by omega)]
        refine congrArg nI (fb_ct_cong (fun u hu => ?_))
        rw [en1]
        cases w : vis nx mc t k u with
        | true =>
          rw [if_pos rfl, vis_U ho n3 z y w]
          have e1 : (0 == j + 1) = false := by simp
          have e2 : ((nst nx mc t k).2 + 1 == j + 1) = false := by simp; omega
          rw [e1, e2]
        | false => rw [if_neg (by decide)]
    · refine ⟨(bout nx mc t (bst0 D k)).1, fun j hj => ⟨r3 j hj, ?_, ?_⟩⟩
      · by_cases x : (nst nx mc t k).1 j = 0
        · rcases Nat.eq_zero_or_pos ((bout nx mc t (bst0 D k)).1 j) with w | w
          · omega
          · obtain ⟨l, l1, l2⟩ := b1.on j ⟨hj, x⟩ (by omega)
            have := (b1.q l l1).2.2.2
            have := bI_le b1
            rw [l2] at *; omega
        · rw [b1.off j (fun w => x w.2)]; exact (i4 j hj).2.1
      · rw [en1]
        by_cases x : (nst nx mc t k).1 j = 0
        · rw [g2 j ⟨hj, x⟩]
          show (fin nx mc t k).1 j = 0 ↔ _
          cases w : vis nx mc t k j with
          | true =>
            rw [if_pos rfl]
            unfold vis at w
            have w : (fin nx mc t k).1 j ≠ 0 := by simpa using w
            exact ⟨fun v => absurd v w, fun v => by omega⟩
          | false =>
            rw [if_neg (by decide), x]
            unfold vis at w
            have w : (fin nx mc t k).1 j = 0 := by simpa using w
            exact ⟨fun _ => rfl, fun _ => w⟩
        · rw [b1.off j (fun w => x w.2)]
          cases w : vis nx mc t k j with
          | true => exact absurd (vis_U ho n3 z y w) x
          | false => rw [if_neg (by decide)]; exact (i4 j hj).2.2
  · refine pw_F (fun e => y (d3.mp ((dn_m1 (by omega)).mp e))) ?_
    unfold fX0_sort_J90L15
    refine pw_in ⟨z, nb, sz, q, dist, cnt, by rw [nxt], ?_⟩
    unfold SI
    rw [nst, if_neg y]
    exact ⟨i1, i2, i3, D, i4⟩
end CLSC2
