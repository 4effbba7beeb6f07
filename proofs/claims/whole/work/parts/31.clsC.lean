/-! THE CLASSES, in the class -/
theorem dn_up (v : Nat) : dn v + (1 : Int32) = dn (v + 1) := by
  rw [dn_succ]; unfold dn
  rw [Int32.sub_add_cancel]
theorem dn_m1 {v : Nat} (hv : v < 2 ^ 31) : dn v = (-1 : Int32) ↔ v = 0 := by
  constructor
  · intro h
    rcases Nat.eq_zero_or_pos v with q | q
    · exact q
    · obtain ⟨u, rfl⟩ : ∃ u, v = u + 1 := ⟨v - 1, by omega⟩
      rw [dn_succ] at h
      have h1 : ¬ nI u < 0 := nI_pos (by omega)
      rw [h] at h1; exact absurd (by decide) h1
  · rintro rfl; decide
theorem nI_m1 {v : Nat} (hv : v < 2 ^ 31) : nI v ≠ (-1 : Int32) := fun h => by
  have h1 : ¬ nI v < 0 := nI_pos hv
  rw [h] at h1; exact h1 (by decide)
def RC (t : Nat) (s : bS) (r : Int32) (q dist : Nat → Int32) : Prop := r = nI s.2.2 ∧ (∀ i, i < s.2.2 → q i = nI (s.2.1 i)) ∧ ∀ k, k < t → dist k = dn (s.1 k)
def nst (nx : Nat → Nat → Nat) (mc t : Nat) : Nat → (Nat → Nat) × Nat
  | 0 => (fun _ => 0, 0)
  | k + 1 => if (nst nx mc t k).1 k = 0 then (fun j => if vis nx mc t k j = true then (nst nx mc t k).2 + 1 else (nst nx mc t k).1 j, (nst nx mc t k).2 + 1) else nst nx mc t k
section CLSC
variable {t mc : Nat} {nx : Nat → Nat → Nat} {U : Nat → Prop} {D0 : Nat → Nat} {st q dist : Nat → Int32}
theorem bst_RC {s : bS} {u i : Nat} {r : Int32} (ht : t ≤ 1000000) (hr : s.2.2 ≤ t) (hn : nx u i < t) (h : RC t s r q dist) (h0 : s.1 (nx u i) = 0) : RC t (bst nx u i s) (r + (1 : Int32)) (upd q s.2.2 (nI (nx u i))) (upd dist (nx u i) (dn (s.1 u) + (1 : Int32))) := by
  obtain ⟨a1, a2, a3⟩ := h
  unfold bst
  rw [if_pos h0]
  refine ⟨by rw [a1]; exact nI_add _ 1, fun j hj => ?_, fun k hk => ?_⟩
  · show upd q s.2.2 (nI (nx u i)) j = nI (fu s.2.1 s.2.2 (nx u i) j)
    have hj : j < s.2.2 + 1 := hj
    by_cases z : j = s.2.2
    · rw [z, upd_s, fu_s]
    · rw [upd_n z, fu_n z]; exact a2 j (by omega)
  · show upd dist (nx u i) (dn (s.1 u) + (1 : Int32)) k = dn (fu s.1 (nx u i) (s.1 u + 1) k)
    by_cases z : k = nx u i
    · rw [z, upd_s, fu_s, dn_up]
    · rw [upd_n z, fu_n z]; exact a3 k hk
theorem bst_no {s : bS} {u i : Nat} (h0 : ¬ s.1 (nx u i) = 0) : bst nx u i s = s := by
  unfold bst; rw [if_neg h0]
theorem sC_spreadIn (ht : t ≤ 512) (hmc : mc ≤ 11) (ho : nxok t mc nx) (hU : ∀ k i, U k → k < t → i < mc → U (nx k i)) (hst : STP t mc nx st) {s : bS} {u j : Nat} {r : Int32} (hb : bI t U D0 s) (hj : j < s.2.2) (hu : s.2.1 j = u) (h : RC t s r q dist) : pw (pz_iter (fun (σ : Int32 × Int32 × (Nat → Int32) × (Nat → Int32)) => fX0_spreadFrom_L41 (nI u) st (nI mc) σ.1 σ.2.1 σ.2.2.1 σ.2.2.2) pz_FUEL (r, (0 : Int32), q, dist)) (fun v => RC t (bin nx u mc s) v.1 v.2.1 v.2.2) := by
  obtain ⟨u1, u2, _, _⟩ := hb.q j hj
  rw [hu] at u1 u2
  refine pw_run (fun i σ => ∃ r q dist, σ = (r, nI i, q, dist) ∧ RC t (bin nx u i s) r q dist) 0 mc (by omega) ⟨r, q, dist, rfl, h⟩ (Nat.zero_le _) ?_
  rintro i _ hi ⟨r, q, dist, rfl, hc⟩
  show pw (fX0_spreadFrom_L41 (nI u) st (nI mc) r (nI i) q dist) _
  unfold fX0_spreadFrom_L41
  refine pw_le (by omega) (by omega) (fun z => pw_out (by rw [show mc = i by omega]; exact hc)) (fun z => ?_)
  rw [show ((nI u) * (11 : Int32)) + nI i = nI (u * 11 + i) from by rw [show (11 : Int32) = nI 11 from rfl, pk_mul, nI_add]]
  refine pw_rd (by omega) (by decide) ?_
  rw [hst u i u1 z]
  have nl := ho.lt u i u1 z
  have nU := hU u i u2 u1 z
  obtain ⟨b1, b2, b3, b4, b5⟩ := bin_I (u := u) ho hU hb hj hu i hi
  have rl := bI_le b1
  obtain ⟨c1, c2, c3⟩ := id hc
  refine pw_F (nI_m1 (by omega)) (pw_rd (by omega) (by decide) ?_)
  rw [c3 _ nl]
  have step : bin nx u (i + 1) s = bst nx u i (bin nx u i s) := rfl
  have bound : ∀ k, k < t → U k → (bin nx u i s).1 k ≤ t := fun k hk kU => by
    rcases Nat.eq_zero_or_pos ((bin nx u i s).1 k) with e | e
    · omega
    · obtain ⟨l, l1, l2⟩ := b1.on k kU (by omega)
      have := (b1.q l l1).2.2.2
      rw [l2] at this; omega
  unfold fX0_spreadFrom_J116L41
  rw [show (nI i + (1 : Int32)) = nI (i + 1) from nI_add i 1]
  by_cases y : (bin nx u i s).1 (nx u i) = 0
  · have lt := bI_lt b1 nl nU y
    rw [c1]
    refine pw_T ((dn_m1 (by omega)).mpr y) (pw_le (a := 512) (by decide) (by omega) (fun z => by omega) (fun _ => pw_rd (by omega) (by decide) ?_))
    rw [c3 u u1]
    refine pw_wr (by omega) (by decide) (pw_wr (by omega) (by decide) (pw_in ⟨z, _, _, _, rfl, ?_⟩))
    rw [step]
    rw [← c1]
    exact bst_RC (by omega) rl nl hc y
  · refine pw_F (fun e => y ((dn_m1 (by have := bound _ nl nU; omega)).mp e)) (pw_in ⟨z, _, _, _, rfl, ?_⟩)
    rw [step, bst_no y]; exact hc
theorem sC_spread (ht : t ≤ 512) (hmc : mc ≤ 11) (ho : nxok t mc nx) (hU : ∀ k i, U k → k < t → i < mc → U (nx k i)) (hst : STP t mc nx st) {s : Nat} (hs : s < t) (sU : U s) (h0 : ∀ k, U k → D0 k = 0) (hd : ∀ k, k < t → dist k = dn (D0 k)) (q : Nat → Int32) : pw (fX0_spreadFrom (nI s) st q dist (nI mc)) (fun v => RC t (bout nx mc t (bst0 D0 s)) v.1 v.2.1 v.2.2) := by
  have hb : bI t U D0 (bst0 D0 s) := bst0_I hs sU h0
  unfold fX0_spreadFrom
  refine pw_wr (i := 0) (by decide) (by decide) (pw_wr (by omega) (by decide) ?_)
  refine pw_bind (R := fun v => RC t (bout nx mc t (bst0 D0 s)) v.1 v.2.1 v.2.2) ?_ (fun u hu => pw_some hu)
  have start : RC t (bst0 D0 s) (1 : Int32) (upd q 0 (nI s)) (upd dist s 0) := by
    refine ⟨rfl, fun i hi => ?_, fun k hk => ?_⟩
    · have hi : i < 1 := hi
      rw [show i = 0 by omega, upd_s]; rfl
    · show upd dist s 0 k = dn (fu D0 s 1 k)
      by_cases z : k = s
      · rw [z, upd_s, fu_s]; rfl
      · rw [upd_n z, fu_n z]; exact hd k hk
  refine pw_run (fun a σ => ∃ r q dist, σ = (r, nI a, q, dist) ∧ RC t (bout nx mc a (bst0 D0 s)) r q dist) 0 t (by omega) ⟨_, _, _, rfl, start⟩ (Nat.zero_le _) ?_
  rintro a _ ha ⟨r, q, dist, rfl, hc⟩
  show pw (fX0_spreadFrom_L18 st (nI mc) r (nI a) q dist) _
  unfold fX0_spreadFrom_L18
  obtain ⟨b1, b2, b3, b4⟩ := bout_I ho hU hb a
  have rl := bI_le b1
  obtain ⟨c1, c2, c3⟩ := id hc
  rw [c1]
  refine pw_le (by omega) (by omega) (fun z => pw_out ?_) (fun z => pw_le (a := 512) (by decide) (by omega) (fun z2 => by omega) (fun _ => pw_rd (by omega) (by decide) ?_))
  · have := bout_stop (nx := nx) (mc := mc) z (t - a)
    rw [show a + (t - a) = t by omega] at this
    rw [this, ← c1]; exact hc
  · rw [c2 a z, ← c1]
    refine pw_bind (sC_spreadIn ht hmc ho hU hst b1 z rfl hc) ?_
    rintro ⟨r', q', d'⟩ hv
    refine pw_in ⟨by omega, r', q', d', by rw [show (nI a + (1 : Int32)) = nI (a + 1) from nI_add a 1], ?_⟩
    rw [bout, if_pos z]; exact hv
/-- on the ground it goes as if nothing had been before -/
theorem bst_AG {s1 s2 : bS} {u i : Nat} (uU : U u) (nU : U (nx u i)) (h1 : s1.2 = s2.2) (h2 : ∀ k, U k → s1.1 k = s2.1 k) : (bst nx u i s1).2 = (bst nx u i s2).2 ∧ ∀ k, U k → (bst nx u i s1).1 k = (bst nx u i s2).1 k := by
  unfold bst
  by_cases y : s2.1 (nx u i) = 0
  · rw [if_pos (by rw [h2 _ nU]; exact y), if_pos y, h1, h2 u uU]
    refine ⟨rfl, fun k kU => ?_⟩
    show fu s1.1 (nx u i) (s2.1 u + 1) k = fu s2.1 (nx u i) (s2.1 u + 1) k
    by_cases z : k = nx u i
    · rw [z, fu_s, fu_s]
    · rw [fu_n z, fu_n z]; exact h2 k kU
  · rw [if_neg (by rw [h2 _ nU]; exact y), if_neg y]
    exact ⟨h1, h2⟩
theorem bin_AG {s1 s2 : bS} {u : Nat} (uU : U u) (nU : ∀ i, i < mc → U (nx u i)) (h1 : s1.2 = s2.2) (h2 : ∀ k, U k → s1.1 k = s2.1 k) : ∀ i, i ≤ mc → (bin nx u i s1).2 = (bin nx u i s2).2 ∧ ∀ k, U k → (bin nx u i s1).1 k = (bin nx u i s2).1 k
  | 0, _ => ⟨h1, h2⟩
  | i + 1, hi => by
    obtain ⟨a, b⟩ := bin_AG uU nU h1 h2 i (by omega)
    exact bst_AG uU (nU i (by omega)) a b
theorem bout_AG {s1 s2 : bS} (ho : nxok t mc nx) (hU : ∀ k i, U k → k < t → i < mc → U (nx k i)) (hb : bI t U D0 s1) (h1 : s1.2 = s2.2) (h2 : ∀ k, U k → s1.1 k = s2.1 k) : ∀ a, (bout nx mc a s1).2 = (bout nx mc a s2).2 ∧ ∀ k, U k → (bout nx mc a s1).1 k = (bout nx mc a s2).1 k
  | 0 => ⟨h1, h2⟩
  | a + 1 => by
    obtain ⟨x, y⟩ := bout_AG ho hU hb h1 h2 a
    obtain ⟨b1, b2, b3, b4⟩ := bout_I ho hU hb a
    rw [bout, bout]
    by_cases z : a < (bout nx mc a s1).2.2
    · rw [if_pos z, if_pos (by rw [← x]; exact z), ← x]
      obtain ⟨c1, c2, _, _⟩ := b1.q a z
      exact bin_AG c2 (fun i hi => hU _ i c2 c1 hi) x y mc (Nat.le_refl _)
    · rw [if_neg z, if_neg (by rw [← x]; exact z)]
      exact ⟨x, y⟩
/-- how many it reaches -/
theorem bst_ct {s : bS} {u i : Nat} (hn : nx u i < t) (h : fb_ct (fun k => s.1 k != 0) t = s.2.2) : fb_ct (fun k => (bst nx u i s).1 k != 0) t = (bst nx u i s).2.2 := by
  unfold bst
  by_cases y : s.1 (nx u i) = 0
  · rw [if_pos y]
    show fb_ct (fun k => fu s.1 (nx u i) (s.1 u + 1) k != 0) t = s.2.2 + 1
    have e := fb_ct_upd (fun k => s.1 k != 0) true hn
    have e2 : fb_ct (fun k => fu s.1 (nx u i) (s.1 u + 1) k != 0) t = fb_ct (fun k => if k = nx u i then true else s.1 k != 0) t := fb_ct_cong (fun k _ => by
      by_cases z : k = nx u i
      · rw [z, fu_s, if_pos rfl]; simp
      · rw [fu_n z, if_neg z])
    rw [e2]
    have e3 : (s.1 (nx u i) != 0) = false := by simp [y]
    rw [e3] at e
    simp only [Bool.false_eq_true, if_false, if_true] at e
    omega
  · rw [if_neg y]; exact h
theorem bin_ct {s : bS} {u : Nat} (hn : ∀ i, i < mc → nx u i < t) (h : fb_ct (fun k => s.1 k != 0) t = s.2.2) : ∀ i, i ≤ mc → fb_ct (fun k => (bin nx u i s).1 k != 0) t = (bin nx u i s).2.2
  | 0, _ => h
  | i + 1, hi => bst_ct (hn i (by omega)) (bin_ct hn h i (by omega))
theorem fin_ct (ho : nxok t mc nx) {s : Nat} (hs : s < t) : fb_ct (vis nx mc t s) t = (fin nx mc t s).2.2 := by
  have b0 : bI t (fun _ => True) (fun _ => 0) (bst0 (fun _ => 0) s) := bst0_I hs trivial (fun _ _ => rfl)
  have main : ∀ a, fb_ct (fun k => (bout nx mc a (bst0 (fun _ => 0) s)).1 k != 0) t = (bout nx mc a (bst0 (fun _ => 0) s)).2.2 := by
    intro a
    induction a with
    | zero =>
      show fb_ct (fun k => fu (fun _ => 0) s 1 k != 0) t = 1
      have e := fb_ct_upd (fun _ => false) true hs
      have e2 : fb_ct (fun k => fu (fun _ => 0) s 1 k != 0) t = fb_ct (fun k => if k = s then true else false) t := fb_ct_cong (fun k _ => by
        by_cases z : k = s
        · rw [z, fu_s, if_pos rfl]; rfl
        · rw [fu_n z, if_neg z]; rfl)
      have e3 : fb_ct (fun _ => false) t = 0 := fb_ct_zero.mpr (fun _ _ => rfl)
      rw [e2]
      simp only [Bool.false_eq_true, if_false, if_true] at e
      omega
    | succ a ih =>
      obtain ⟨b1, b2, b3, b4⟩ := bout_I ho (fun _ _ _ _ _ => trivial) b0 a
      rw [bout]
      by_cases z : a < (bout nx mc a (bst0 (fun _ => 0) s)).2.2
      · rw [if_pos z]
        exact bin_ct (fun i hi => ho.lt _ i (b1.q a z).1 hi) ih mc (Nat.le_refl _)
      · rw [if_neg z]; exact ih
  exact main t
end CLSC
