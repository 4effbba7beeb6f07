/-! WHICH SIGNATURES THERE ARE: the call found -/
def hit (f n h c : Nat) (g : Int32) (j : Nat) : Bool := decide (gen (gz f n) h c (prw c j) = g ∧ 0 < tot f n h c (prw c j))
def FA (f n h c : Nat) (g k : Int32) : Nat → Int32
  | 0 => -1
  | j + 1 => if hit f n h c g j = true ∧ nI (fb_ct (hit f n h c g) j) = k then nI (cd c (prw c j)) else FA f n h c g k j
section FOUND
variable {f n h c : Nat} {p : Nat → Nat} {P I O C Z T e w a : Nat → Int32} {g k : Int32}
theorem FA_stay {j : Nat} (h1 : hit f n h c g j = true) (h2 : nI (fb_ct (hit f n h c g) j) = k) : ∀ t, j + 1 + t < 2 ^ 31 → FA f n h c g k (j + 1 + t) = nI (cd c (prw c j))
  | 0, _ => by
    show FA f n h c g k (j + 1) = _
    rw [FA, if_pos ⟨h1, h2⟩]
  | t + 1, ht => by
    rw [show j + 1 + (t + 1) = (j + 1 + t) + 1 from rfl, FA, if_neg, FA_stay h1 h2 t (by omega)]
    rintro ⟨_, z⟩
    have m := fb_ct_mono (hit f n h c g) (show j + 1 ≤ j + 1 + t by omega)
    have l := fb_ct_le (hit f n h c g) (j + 1 + t)
    rw [fb_ct_succ, h1, if_pos rfl] at m
    rw [← h2] at z
    have := (nI_eq (by omega) (by omega)).mp z
    omega
theorem sM_hasMaps (g0 : gok f n) (hT : MT f n T) (hs : sok h c p) (hw : ∀ i, i < c → w i = nI (p i)) (e : Nat → Int32) : pw (fX6_hasMaps (nI (gz f n)) T (nI h) (nI c) w e) (fun v => v.1 = bi (decide (0 < tot f n h c p))) := by
  have h4 := pow4 hs.2.1
  unfold fX6_hasMaps
  refine pw_bind (R := fun v => (∃ u, v = Sum.inl u ∧ tot f n h c p = 0) ∨ ∃ u, v = Sum.inr ((1 : Int32), u) ∧ 0 < tot f n h c p) ?_ ?_
  · refine pw_run (fun x s => ∃ e', s = (nI x, e') ∧ fb_ct (iM f n h c p) x = 0) 0 (10 ^ (2 * h + c)) (by omega) ⟨e, rfl, rfl⟩ (Nat.zero_le _) ?_
    rintro x _ hx ⟨e', rfl, i1⟩
    show pw (fX6_hasMaps_L2 (nI (gz f n)) T (nI h) (nI c) w (nI x) e') _
    unfold fX6_hasMaps_L2
    refine pw_eq sM_length (pw_eq (sM_tens hs.2.1) (pw_le (by omega) (by omega) (fun z => pw_out (Or.inl ⟨e', rfl, ?_⟩)) (fun z => ?_)))
    · rw [← tot_eq hs, show 10 ^ (2 * h + c) = x by omega]; exact i1
    · refine pw_bind (sM_codeIs g0 hT hs hw z e') ?_
      rintro ⟨t, e2⟩ ⟨t1, t2⟩
      have t1 : t = nI (kdx f n h c p x) := t1
      subst t1
      have im : iM f n h c p x = (kdx f n h c p x == 2) := by unfold iM isM; simp [z]
      have kl : kdx f n h c p x ≤ 2 := by
        unfold kdx
        split
        · exact kd_le
        · omega
      refine pw_eqn (b := 2) (by omega) (by decide) (fun q => pw_out (Or.inr ⟨e2, rfl, ?_⟩)) (fun q => pw_in ⟨z, e2, by rw [show (nI x + (1 : Int32)) = nI (x + 1) from nI_add x 1], ?_⟩)
      · have hx1 : iM f n h c p x = true := by rw [im, q]; rfl
        have := ix_lt hx1 (by omega)
        omega
      · rw [fb_ct_succ, i1, im, if_neg (by simpa using q)]
  · rintro v (⟨u, rfl, r⟩ | ⟨u, rfl, r⟩)
    · exact pw_some (by rw [show decide (0 < tot f n h c p) = false from decide_eq_false (by omega)]; rfl)
    · exact pw_some (by rw [show decide (0 < tot f n h c p) = true from decide_eq_true r]; rfl)
theorem sM_divides {z : Nat} (hz : z ≤ 8) (hs : sok h c p) (hw : ∀ i, i < c → w i = nI (p i)) : fX6_divides (nI z) (nI c) w = some (bi (allB c (fun i => z % p i == 0))) := by
  obtain ⟨h1, h2, h3⟩ := hs
  unfold fX6_divides
  refine pw_val (pw_bind (R := fun v => v = if allB c (fun i => z % p i == 0) = true then Sum.inl () else Sum.inr 0) ?_ (fun t ht => ?_))
  · refine pw_run (fun i s => s = nI i ∧ allB i (fun i => z % p i == 0) = true) 0 c (by omega) ⟨rfl, rfl⟩ (Nat.zero_le _) ?_
    rintro i _ hi ⟨rfl, hI⟩
    show pw (fX6_divides_L2 (nI z) (nI c) w (nI i)) _
    unfold fX6_divides_L2
    refine pw_le (by omega) (by omega) (fun q => pw_out ?_) (fun hi => ?_)
    · rw [show c = i by omega, if_pos hI]
    · have hp := h3 i hi
      refine pw_rd (by omega) (by decide) ?_
      rw [hw i hi]
      refine pw_rm (by omega) (by omega) (by omega) ?_
      have hm := Nat.mod_lt z (show 0 < p i by omega)
      refine pw_eqn (b := 0) (by omega) (by decide) (fun q => pw_in ⟨hi, nI_add i 1, allB_succ hI (by simp [q])⟩) (fun q => pw_out ?_)
      rw [allB_not hi (by simp [q])]; rfl
  · subst ht
    cases allB c (fun i => z % p i == 0) with
    | true => exact pw_some rfl
    | false => exact pw_some rfl
theorem sM_lookDigits (hs : sok h c p) (hw : ∀ i, i < c → w i = nI (p i)) : pw (pz_iter (fun (σ : Int32 × Int32) => fX6_look_L27 (nI c) w σ.1 σ.2) pz_FUEL ((0 : Int32), (0 : Int32))) (fun v => v = nI (cd c p)) := by
  obtain ⟨s1, s2, s3⟩ := hs
  refine pw_run (fun i s => s = (nI (cd i p), nI i)) 0 c (by omega) rfl (Nat.zero_le _) ?_
  rintro i _ hi rfl
  show pw (fX6_look_L27 (nI c) w (nI (cd i p)) (nI i)) _
  unfold fX6_look_L27
  refine pw_le (by omega) (by omega) (fun q => pw_out (by rw [show c = i by omega])) (fun hi => ?_)
  refine pw_rd (by omega) (by decide) ?_
  rw [hw i hi]
  refine pw_in ⟨hi, ?_⟩
  rw [show (10 : Int32) = nI 10 from rfl, pk_mul, nI_add, show (nI i + (1 : Int32)) = nI (i + 1) from nI_add i 1, Nat.mul_comm]; rfl
theorem sM_look (g0 : gok f n) (hT : MT f n T) (hs : sok h c p) (hw : ∀ i, i < c → w i = nI (p i)) (hg : ¬ g < 0) (e : Nat → Int32) (m : Nat) (fa : Int32) : pw (fX6_look g k (nI (gz f n)) T (nI h) (nI c) w e (nI m) fa) (fun v => v.2 = if gen (gz f n) h c p = g ∧ 0 < tot f n h c p then (nI (m + 1), if nI m = k then nI (cd c p) else fa) else (nI m, fa)) := by
  have hz := gz_le g0
  unfold fX6_look
  refine pw_eq (sM_divides hz hs hw) ?_
  cases r : allB c (fun i => gz f n % p i == 0) with
  | false =>
    refine pw_T rfl (pw_some ?_)
    have : gen (gz f n) h c p = -1 := by unfold gen; rw [if_neg (by rw [r]; decide)]
    rw [if_neg]
    rintro ⟨y, _⟩
    rw [this] at y
    rw [← y] at hg
    exact hg (by decide)
  | true =>
    refine pw_F (by decide) (pw_eq (sM_genusOf hz hs ⟨rfl, rfl, hw⟩) (pw_if (fun y => ?_) (fun y => pw_some (by rw [if_neg (fun z => y z.1)]))))
    refine pw_bind (sM_hasMaps g0 hT hs hw e) ?_
    rintro ⟨t, e2⟩ ht
    have ht : t = bi (decide (0 < tot f n h c p)) := ht
    subst ht
    by_cases z : 0 < tot f n h c p
    · rw [decide_eq_true z, if_pos (show gen (gz f n) h c p = g ∧ 0 < tot f n h c p from ⟨y, z⟩)]
      refine pw_F (c := bi true = 0) (by decide) (pw_bind (sM_lookDigits hs hw) (fun u hu => ?_))
      subst hu
      unfold fX6_look_J72
      rw [show (nI m + (1 : Int32)) = nI (m + 1) from nI_add m 1]
      refine pw_if (fun x => pw_some ?_) (fun x => pw_some ?_)
      · rw [if_pos x]
      · rw [if_neg x]
    · rw [decide_eq_false z, if_neg (show ¬ (gen (gz f n) h c p = g ∧ 0 < tot f n h c p) from fun x => z x.2)]
      exact pw_T (c := bi false = 0) rfl (pw_some rfl)
theorem look_at {j : Nat} {v : (Nat → Int32) × Int32 × Int32} (hv : v.2 = if gen (gz f n) h c (prw c j) = g ∧ 0 < tot f n h c (prw c j) then (nI (fb_ct (hit f n h c g) j + 1), if nI (fb_ct (hit f n h c g) j) = k then nI (cd c (prw c j)) else FA f n h c g k j) else (nI (fb_ct (hit f n h c g) j), FA f n h c g k j)) : v.2 = (nI (fb_ct (hit f n h c g) (j + 1)), FA f n h c g k (j + 1)) := by
  rw [hv, fb_ct_succ, FA]
  by_cases z : gen (gz f n) h c (prw c j) = g ∧ 0 < tot f n h c (prw c j)
  · have ht : hit f n h c g j = true := decide_eq_true z
    rw [if_pos z, ht, if_pos rfl]
    by_cases y : nI (fb_ct (hit f n h c g) j) = k
    · rw [if_pos y, if_pos ⟨rfl, y⟩]
    · rw [if_neg y, if_neg (fun x => y x.2)]
  · have ht : hit f n h c g j = false := decide_eq_false z
    rw [if_neg z, ht, if_neg (by decide), if_neg (fun x => nomatch x.1)]; rfl
theorem sok_prw (h1 : h ≤ 1) (h2 : 2 * h + c ≤ 4) (j : Nat) : sok h c (prw c j) := ⟨h1, h2, fun i hi => prw_ok c j i hi⟩
theorem sM_find (g0 : gok f n) (hT : MT f n T) (h1 : h ≤ 1) (h2 : 2 * h + c ≤ 4) (hg : ¬ g < 0) (w e : Nat → Int32) : pw (fX6_find (nI c) g k (nI (gz f n)) T (nI h) w e (0 : Int32) (-1 : Int32)) (fun v => v.2.2.2 = (nI (fb_ct (hit f n h c g) (pE c + 1)), FA f n h c g k (pE c + 1))) := by
  have c4 : c ≤ 4 := by omega
  have el := pE_lt c4
  unfold fX6_find
  refine pw_bind (sM_start c4 w) (fun w0 hw0 => ?_)
  refine pw_bind (sM_look (m := 0) g0 hT (sok_prw h1 h2 0) hw0 hg e (-1 : Int32)) ?_
  rintro ⟨e1, m1, a1⟩ hv
  have hv := look_at (j := 0) hv
  refine pw_bind (R := fun v => v.2.2 = (nI (fb_ct (hit f n h c g) (pE c + 1)), FA f n h c g k (pE c + 1))) ?_ (fun u hu => pw_some hu)
  refine pw_run (fun j s => ∃ w' e', s = (w', e', nI (fb_ct (hit f n h c g) (j + 1)), FA f n h c g k (j + 1)) ∧ ∀ i, i < c → w' i = nI (prw c j i)) 0 (pE c) (by omega) ⟨w0, e1, ?_, hw0⟩ (Nat.zero_le _) ?_
  · have h1 : m1 = _ := congrArg Prod.fst hv
    have h2 : a1 = _ := congrArg Prod.snd hv
    show (w0, e1, m1, a1) = _
    rw [h1, h2]
  · rintro j _ hj ⟨w', e', rfl, i1⟩
    show pw (fX6_find_L34 g k (nI (gz f n)) T (nI h) (nI c) w' e' (nI (fb_ct (hit f n h c g) (j + 1))) (FA f n h c g k (j + 1))) _
    unfold fX6_find_L34
    refine pw_bind (sM_goesOn c4 (prw_ok c j) i1) ?_
    rintro ⟨t, w2⟩ (⟨l0, t0⟩ | ⟨l1, t1, hw2⟩)
    · have t0 : t = 0 := t0
      subst t0
      have : j = pE c := by
        rcases Nat.lt_or_ge j (pE c) with y | y
        · exact absurd l0 (pE_no y)
        · omega
      refine pw_T rfl (pw_out ?_)
      show (nI (fb_ct (hit f n h c g) (j + 1)), FA f n h c g k (j + 1)) = _
      rw [this]
    · have t1 : t = 1 := t1
      subst t1
      have jl : j < pE c := by
        rcases Nat.lt_or_ge j (pE c) with y | y
        · exact y
        · exact absurd (by rw [show j = pE c by omega]; exact pE_at c4) l1
      have hw2 : ∀ i, i < c → w2 i = nI (prw c (j + 1) i) := hw2
      refine pw_F (c := (1 : Int32) = 0) (by decide) (pw_bind (sM_look g0 hT (sok_prw h1 h2 (j + 1)) hw2 hg e' _ _) ?_)
      rintro ⟨e3, m3, a3⟩ hv3
      have hv3 := look_at (j := j + 1) hv3
      have q1 : m3 = _ := congrArg Prod.fst hv3
      have q2 : a3 = _ := congrArg Prod.snd hv3
      refine pw_in ⟨jl, w2, e3, ?_, hw2⟩
      show (w2, e3, m3, a3) = _
      rw [q1, q2]
end FOUND
