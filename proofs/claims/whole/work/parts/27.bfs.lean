/-! SPREADING, in numbers: distances one up (0: not reached), queue, how many -/
abbrev bS := (Nat → Nat) × (Nat → Nat) × Nat
def bst (nx : Nat → Nat → Nat) (u i : Nat) (s : bS) : bS := if s.1 (nx u i) = 0 then (fu s.1 (nx u i) (s.1 u + 1), fu s.2.1 s.2.2 (nx u i), s.2.2 + 1) else s
def bin (nx : Nat → Nat → Nat) (u : Nat) : Nat → bS → bS | 0, s => s | i + 1, s => bst nx u i (bin nx u i s)
def bout (nx : Nat → Nat → Nat) (mc : Nat) : Nat → bS → bS | 0, s => s | a + 1, s => if a < (bout nx mc a s).2.2 then bin nx ((bout nx mc a s).2.1 a) mc (bout nx mc a s) else bout nx mc a s
def bst0 (D : Nat → Nat) (s : Nat) : bS := (fu D s 1, fun _ => s, 1)
def fin (nx : Nat → Nat → Nat) (mc t s : Nat) : bS := bout nx mc t (bst0 (fun _ => 0) s)
def vis (nx : Nat → Nat → Nat) (mc t s k : Nat) : Bool := (fin nx mc t s).1 k != 0
/-- what holds while it spreads: U the ground, D0 what was before -/
def bI (t : Nat) (U : Nat → Prop) (D0 : Nat → Nat) (s : bS) : Prop := (∀ i, i < s.2.2 → s.2.1 i < t ∧ U (s.2.1 i) ∧ s.1 (s.2.1 i) ≠ 0 ∧ s.1 (s.2.1 i) ≤ i + 1) ∧ (∀ i j, i < j → j < s.2.2 → s.2.1 i ≠ s.2.1 j) ∧ (∀ k, U k → s.1 k ≠ 0 → ∃ i, i < s.2.2 ∧ s.2.1 i = k) ∧ (∀ k, ¬ U k → s.1 k = D0 k)
theorem bI.q {t : Nat} {U : Nat → Prop} {D0 : Nat → Nat} {s : bS} (h : bI t U D0 s) : ∀ i, i < s.2.2 → s.2.1 i < t ∧ U (s.2.1 i) ∧ s.1 (s.2.1 i) ≠ 0 ∧ s.1 (s.2.1 i) ≤ i + 1 := h.1
theorem bI.inj {t : Nat} {U : Nat → Prop} {D0 : Nat → Nat} {s : bS} (h : bI t U D0 s) : ∀ i j, i < j → j < s.2.2 → s.2.1 i ≠ s.2.1 j := h.2.1
theorem bI.on {t : Nat} {U : Nat → Prop} {D0 : Nat → Nat} {s : bS} (h : bI t U D0 s) : ∀ k, U k → s.1 k ≠ 0 → ∃ i, i < s.2.2 ∧ s.2.1 i = k := h.2.2.1
theorem bI.off {t : Nat} {U : Nat → Prop} {D0 : Nat → Nat} {s : bS} (h : bI t U D0 s) : ∀ k, ¬ U k → s.1 k = D0 k := h.2.2.2
def nxok (t mc : Nat) (nx : Nat → Nat → Nat) : Prop := (∀ k i, k < t → i < mc → nx k i < t) ∧ ∀ k l i, k < t → l < t → i < mc → nx k i = nx l i → k = l
theorem nxok.lt {t mc : Nat} {nx : Nat → Nat → Nat} (h : nxok t mc nx) : ∀ k i, k < t → i < mc → nx k i < t := h.1
theorem nxok.inj {t mc : Nat} {nx : Nat → Nat → Nat} (h : nxok t mc nx) : ∀ k l i, k < t → l < t → i < mc → nx k i = nx l i → k = l := h.2
section BFS
variable {t mc : Nat} {nx : Nat → Nat → Nat} {U : Nat → Prop} {D0 : Nat → Nat}
theorem bst_I {s : bS} {u i j : Nat} (ho : nxok t mc nx) (hU : ∀ k i, U k → k < t → i < mc → U (nx k i)) (h : bI t U D0 s) (hj : j < s.2.2) (hu : s.2.1 j = u) (hi : i < mc) : bI t U D0 (bst nx u i s) ∧ s.2.2 ≤ (bst nx u i s).2.2 ∧ (∀ k, k < s.2.2 → (bst nx u i s).2.1 k = s.2.1 k) ∧ (∀ k, s.1 k ≠ 0 → (bst nx u i s).1 k = s.1 k) ∧ (bst nx u i s).1 (nx u i) ≠ 0 := by
  obtain ⟨a1, a2, a3, a4⟩ := h.q j hj
  rw [hu] at a1 a2 a3 a4
  have nl := ho.lt u i a1 hi
  have nU := hU u i a2 a1 hi
  unfold bst
  by_cases q : s.1 (nx u i) = 0
  · rw [if_pos q]
    have old : ∀ k, k < s.2.2 → fu s.2.1 s.2.2 (nx u i) k = s.2.1 k := fun k hk => fu_n (by omega)
    have oldD : ∀ k, s.1 k ≠ 0 → fu s.1 (nx u i) (s.1 u + 1) k = s.1 k := fun k hk => fu_n (fun z => hk (by rw [z]; exact q))
    have here : fu s.1 (nx u i) (s.1 u + 1) (nx u i) = s.1 u + 1 := fu_s _ _ _
    refine ⟨⟨fun k hk => ?_, fun k l kl hl => ?_, fun k kU k0 => ?_, fun k kU => ?_⟩, Nat.le_succ _, old, oldD, by show fu s.1 (nx u i) (s.1 u + 1) (nx u i) ≠ 0; rw [here]; omega⟩
    · show fu s.2.1 s.2.2 (nx u i) k < t ∧ U (fu s.2.1 s.2.2 (nx u i) k) ∧ fu s.1 (nx u i) (s.1 u + 1) (fu s.2.1 s.2.2 (nx u i) k) ≠ 0 ∧ fu s.1 (nx u i) (s.1 u + 1) (fu s.2.1 s.2.2 (nx u i) k) ≤ k + 1
      have hk : k < s.2.2 + 1 := hk
      by_cases r : k = s.2.2
      · rw [r, fu_s, here]; exact ⟨nl, nU, by omega, by omega⟩
      · rw [old k (by omega)]
        obtain ⟨b1, b2, b3, b4⟩ := h.q k (by omega)
        rw [oldD _ b3]; exact ⟨b1, b2, b3, b4⟩
    · show fu s.2.1 s.2.2 (nx u i) k ≠ fu s.2.1 s.2.2 (nx u i) l
      have hl : l < s.2.2 + 1 := hl
      rw [old k (by omega)]
      by_cases r : l = s.2.2
      · rw [r, fu_s]
        intro z
        exact (h.q k (by omega)).2.2.1 (by rw [z]; exact q)
      · rw [old l (by omega)]; exact h.inj k l kl (by omega)
    · have k0 : fu s.1 (nx u i) (s.1 u + 1) k ≠ 0 := k0
      by_cases r : k = nx u i
      · exact ⟨s.2.2, Nat.lt_succ_self _, by show fu s.2.1 s.2.2 (nx u i) s.2.2 = k; rw [fu_s, r]⟩
      · rw [fu_n r] at k0
        obtain ⟨l, l1, l2⟩ := h.on k kU k0
        exact ⟨l, Nat.lt_succ_of_lt l1, by show fu s.2.1 s.2.2 (nx u i) l = k; rw [old l l1]; exact l2⟩
    · show fu s.1 (nx u i) (s.1 u + 1) k = D0 k
      rw [fu_n (fun z => kU (by rw [z]; exact nU))]; exact h.off k kU
  · rw [if_neg q]
    exact ⟨h, Nat.le_refl _, fun k _ => rfl, fun k _ => rfl, q⟩
theorem bin_I {s : bS} {u j : Nat} (ho : nxok t mc nx) (hU : ∀ k i, U k → k < t → i < mc → U (nx k i)) (h : bI t U D0 s) (hj : j < s.2.2) (hu : s.2.1 j = u) : ∀ i, i ≤ mc → bI t U D0 (bin nx u i s) ∧ s.2.2 ≤ (bin nx u i s).2.2 ∧ (∀ k, k < s.2.2 → (bin nx u i s).2.1 k = s.2.1 k) ∧ (∀ k, s.1 k ≠ 0 → (bin nx u i s).1 k = s.1 k) ∧ ∀ l, l < i → (bin nx u i s).1 (nx u l) ≠ 0
  | 0, _ => ⟨h, Nat.le_refl _, fun k _ => rfl, fun k _ => rfl, fun l hl => absurd hl (Nat.not_lt_zero l)⟩
  | i + 1, hi => by
    obtain ⟨b1, b2, b3, b4, b5⟩ := bin_I ho hU h hj hu i (by omega)
    obtain ⟨c1, c2, c3, c4, c5⟩ := bst_I (u := u) (i := i) ho hU b1 (show j < (bin nx u i s).2.2 by omega) (by rw [b3 j hj]; exact hu) (by omega)
    refine ⟨c1, Nat.le_trans b2 c2, fun k hk => ?_, fun k hk => ?_, fun l hl => ?_⟩
    · show (bst nx u i (bin nx u i s)).2.1 k = _
      rw [c3 k (by omega), b3 k hk]
    · show (bst nx u i (bin nx u i s)).1 k = _
      rw [c4 k (by rw [b4 k hk]; exact hk), b4 k hk]
    · show (bst nx u i (bin nx u i s)).1 (nx u l) ≠ 0
      by_cases r : l = i
      · rw [r]; exact c5
      · rw [c4 _ (b5 l (by omega))]; exact b5 l (by omega)
theorem bout_I {s : bS} (ho : nxok t mc nx) (hU : ∀ k i, U k → k < t → i < mc → U (nx k i)) (h : bI t U D0 s) : ∀ a, bI t U D0 (bout nx mc a s) ∧ s.2.2 ≤ (bout nx mc a s).2.2 ∧ (∀ k, s.1 k ≠ 0 → (bout nx mc a s).1 k = s.1 k) ∧ ∀ l i, l < a → l < (bout nx mc a s).2.2 → i < mc → (bout nx mc a s).1 (nx ((bout nx mc a s).2.1 l) i) ≠ 0
  | 0 => ⟨h, Nat.le_refl _, fun k _ => rfl, fun l i hl => absurd hl (Nat.not_lt_zero l)⟩
  | a + 1 => by
    obtain ⟨b1, b2, b4, b5⟩ := bout_I ho hU h a
    rw [bout]
    by_cases q : a < (bout nx mc a s).2.2
    · rw [if_pos q]
      obtain ⟨c1, c2, c3, c4, c5⟩ := bin_I ho hU b1 q rfl mc (Nat.le_refl _)
      refine ⟨c1, Nat.le_trans b2 c2, fun k hk => by rw [c4 k (by rw [b4 k hk]; exact hk), b4 k hk], fun l i hl hl2 hi => ?_⟩
      rw [c3 l (by omega)]
      by_cases r : l = a
      · rw [r]; exact c5 i hi
      · have := b5 l i (by omega) (by omega) hi
        rw [c4 _ this]; exact this
    · rw [if_neg q]
      exact ⟨b1, b2, b4, fun l i hl hl2 hi => b5 l i (by omega) hl2 hi⟩
theorem bst0_I {s : Nat} (hs : s < t) (hU : U s) (h0 : ∀ k, U k → D0 k = 0) : bI t U D0 (bst0 D0 s) := by
  refine ⟨fun i hi => ?_, fun i j ij hj => ?_, fun k kU k0 => ?_, fun k kU => ?_⟩
  · have hi : i < 1 := hi
    show s < t ∧ U s ∧ fu D0 s 1 s ≠ 0 ∧ fu D0 s 1 s ≤ i + 1
    rw [fu_s]; exact ⟨hs, hU, by decide, by omega⟩
  · have hj : j < 1 := hj
    omega
  · have k0 : fu D0 s 1 k ≠ 0 := k0
    refine ⟨0, Nat.zero_lt_one, ?_⟩
    by_cases r : k = s
    · exact r.symm
    · rw [fu_n r] at k0; exact absurd (h0 k kU) k0
  · show fu D0 s 1 k = D0 k
    rw [fu_n (fun z => kU (by rw [z]; exact hU))]
theorem bI_le {s : bS} (h : bI t U D0 s) : s.2.2 ≤ t := fb_holes t s.2.2 s.2.1 (fun i hi => (h.q i hi).1) h.inj
theorem bI_lt {s : bS} (h : bI t U D0 s) {k : Nat} (hk : k < t) (kU : U k) (k0 : s.1 k = 0) : s.2.2 < t := by
  refine Nat.lt_of_not_le (fun z => ?_)
  have e : s.2.2 = t := by have := bI_le h; omega
  obtain ⟨i, i1, i2⟩ := fb_onto (n := t) (f := s.2.1) (fun i hi => (h.q i (by omega)).1) (fun i j ij hj => h.inj i j ij (by omega)) hk
  exact (h.q i (by omega)).2.2.1 (by rw [i2]; exact k0)
theorem bout_stop {s : bS} {a : Nat} (h : (bout nx mc a s).2.2 ≤ a) : ∀ k, bout nx mc (a + k) s = bout nx mc a s
  | 0 => rfl
  | k + 1 => by
    rw [show a + (k + 1) = (a + k) + 1 from rfl, bout, bout_stop h k, if_neg (by omega)]
theorem fin_I (ho : nxok t mc nx) {s : Nat} (hs : s < t) : bI t (fun _ => True) (fun _ => 0) (fin nx mc t s) ∧ (fin nx mc t s).1 s = 1 ∧ (∀ k i, k < t → i < mc → (fin nx mc t s).1 k ≠ 0 → (fin nx mc t s).1 (nx k i) ≠ 0) := by
  have b0 : bI t (fun _ => True) (fun _ => 0) (bst0 (fun _ => 0) s) := bst0_I hs trivial (fun _ _ => rfl)
  obtain ⟨b1, b2, b3, b4⟩ := bout_I ho (fun _ _ _ _ _ => trivial) b0 t
  have e1 : (bst0 (fun _ => 0) s).1 s = 1 := fu_s (fun _ => 0) s 1
  refine ⟨b1, by show (bout nx mc t (bst0 (fun _ => 0) s)).1 s = 1; rw [b3 s (by rw [e1]; decide), e1], fun k i hk hi k0 => ?_⟩
  obtain ⟨l, l1, l2⟩ := b1.on k trivial k0
  have := b4 l i (Nat.lt_of_lt_of_le l1 (bI_le b1)) l1 hi
  rw [l2] at this
  exact this
/-- what is not reached stays apart -/
theorem fin_out (ho : nxok t mc nx) {s : Nat} (hs : s < t) {k i : Nat} (hk : k < t) (hi : i < mc) (k0 : (fin nx mc t s).1 k = 0) : (fin nx mc t s).1 (nx k i) = 0 := by
  obtain ⟨b1, b2, b3⟩ := fin_I ho hs
  refine Decidable.byContradiction (fun z => ?_)
  generalize hS : fin nx mc t s = S at b1 b2 b3 k0 z
  obtain ⟨l, l1, l2⟩ := b1.on _ trivial z
  have ix : ∀ j, j < S.2.2 → ∃ m, m < S.2.2 ∧ S.2.1 m = nx (S.2.1 j) i := fun j hj => b1.on _ trivial (b3 _ i (b1.q j hj).1 hi (b1.q j hj).2.2.1)
  have ix2 : ∀ j, ∃ m, j < S.2.2 → m < S.2.2 ∧ S.2.1 m = nx (S.2.1 j) i := fun j => by
    by_cases r : j < S.2.2
    · obtain ⟨m, m1⟩ := ix j r; exact ⟨m, fun _ => m1⟩
    · exact ⟨0, fun z => absurd z r⟩
  obtain ⟨F, hF⟩ : ∃ F : Nat → Nat, ∀ j, j < S.2.2 → F j < S.2.2 ∧ S.2.1 (F j) = nx (S.2.1 j) i := ⟨fun j => Classical.choose (ix2 j), fun j hj => Classical.choose_spec (ix2 j) hj⟩
  obtain ⟨m, m1, m2⟩ := fb_onto (n := S.2.2) (f := F) (fun j hj => (hF j hj).1) (fun a b ab hb e => by
    have e1 := (hF a (by omega)).2
    have e2 := (hF b hb).2
    rw [e, e2] at e1
    exact b1.inj a b ab hb (ho.inj _ _ i (b1.q a (by omega)).1 (b1.q b hb).1 hi e1.symm)) l1
  have := (hF m m1).2
  rw [m2, l2] at this
  have := ho.inj _ _ i hk (b1.q m m1).1 hi this
  exact (b1.q m m1).2.2.1 (by rw [← this]; exact k0)
end BFS
