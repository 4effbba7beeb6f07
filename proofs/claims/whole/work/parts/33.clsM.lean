/-! THE CLASSES, in the reference; and prepared, in the class -/
section CLSM
variable {f n h c : Nat} {p d : Nat → Nat} {P I O C Z T e w a st nb sz q dist pl : Nat → Int32} {cnt mvn cc : Int32}
theorem tot_le (g : gok f n) (hG : CG f n P I O C Z) (hs : sok h c p) : tot f n h c p ≤ 512 := by
  obtain ⟨v, _, hv⟩ := MA_find g hG hs (w := fun i => nI (p i)) (fun _ _ => rfl) (fun _ => 0) (fun _ => 0)
  exact hv.2.1
theorem sC_prepareC (g : gok f n) (hG : CG f n P I O C Z) (hs : sok h c p) (hw : ∀ i, i < c → w i = nI (p i)) (e : Nat → Int32) {mk ck : Int32} (hk : mk = 0 ∨ mk = 1 ∧ MA f n h c p a cnt) (hc : ck = 0 ∨ ck = 1 ∧ MA f n h c p a cnt ∧ CA (nx f n h c p) (mvc f n h c) (tot f n h c p) st nb sz mvn cc) : pw (fX0_prepare 512 (nI (gz f n)) P I O C Z (nI h) (nI c) w e a cnt mk st nb sz q dist mvn cc ck) (fun v => MA f n h c p v.2.1 v.2.2.1 ∧ (v.2.2.2.1 = 0 ∨ v.2.2.2.1 = 1) ∧ CA (nx f n h c p) (mvc f n h c) (tot f n h c p) v.2.2.2.2.1 v.2.2.2.2.2.1 v.2.2.2.2.2.2.1 v.2.2.2.2.2.2.2.2.2.1 v.2.2.2.2.2.2.2.2.2.2.1 ∧ v.2.2.2.2.2.2.2.2.2.2.2 = 1) := by
  have m11 := mvc_le g hs
  unfold fX0_prepare
  rcases hc with rfl | ⟨rfl, h1, h2⟩
  · refine pw_T rfl (pw_bind (sC_prepare g hG hs hw e hk) ?_)
    rintro ⟨e1, a1, n1, k1⟩ ⟨hm, hk1⟩
    have hm : MA f n h c p a1 n1 := hm
    have hk1 : k1 = 1 := hk1
    subst hk1
    have t512 := hm.2.1
    refine pw_eq (sC_moveCount g hs) ?_
    have e11 : (if nI (mvc f n h c) < (11 : Int32) then nI (mvc f n h c) else (11 : Int32)) = nI (mvc f n h c) := by
      by_cases z : nI (mvc f n h c) < (11 : Int32)
      · rw [if_pos z]
      · rw [if_neg z]
        have : ¬ mvc f n h c < 11 := fun y => z ((nI_ltI (b := 11) (by omega) (by decide)).mpr y)
        rw [show mvc f n h c = 11 by omega]; rfl
    rw [e11]
    refine pw_bind (R := fun v => STP (tot f n h c p) (mvc f n h c) (nx f n h c p) v.2) ?_ ?_
    · refine pw_run (fun k σ => ∃ e' st', σ = (nI k, e', st') ∧ ∀ j i, j < k → i < mvc f n h c → st' (j * 11 + i) = nI (nx f n h c p j i)) 0 (tot f n h c p) (by omega) ⟨e1, st, rfl, fun j i hj => absurd hj (Nat.not_lt_zero j)⟩ (Nat.zero_le _) ?_
      rintro k _ hk2 ⟨e', st', rfl, i1⟩
      show pw (fX0_prepare_L33 512 (nI (gz f n)) P C (nI h) (nI c) w a1 n1 (nI (mvc f n h c)) (nI k) e' st') _
      unfold fX0_prepare_L33
      have n1e : n1 = nI (tot f n h c p) := hm.1
      have hm2 := hm
      rw [n1e] at hm2 ⊢
      refine pw_le (by omega) (by omega) (fun z => pw_out (fun j i hj hi => i1 j i (by omega) hi)) (fun z => ?_)
      refine pw_bind (sC_findSteps g hG hs hw hm2 z e' st') ?_
      rintro ⟨e2, st2⟩ ⟨f1, f2⟩
      refine pw_in ⟨z, e2, st2, by rw [show (nI k + (1 : Int32)) = nI (k + 1) from nI_add k 1], fun j i hj hi => ?_⟩
      by_cases y : j = k
      · rw [y]; exact f1 i hi
      · have := f2 (j * 11 + i) (Or.inl (by omega))
        have := i1 j i (by omega) hi
        show st2 (j * 11 + i) = _
        rw [show st2 (j * 11 + i) = st' (j * 11 + i) from f2 (j * 11 + i) (Or.inl (by omega))]; exact this
    · rintro ⟨e3, st3⟩ hst
      have n1e : n1 = nI (tot f n h c p) := hm.1
      have srt := sC_sort (t := tot f n h c p) (mc := mvc f n h c) (st := st3) t512 m11 (nx_ok g hs) hst nb sz q dist
      rw [← n1e] at srt
      exact pw_bind srt (fun t5 h5 => pw_some ⟨hm, Or.inr rfl, h5, rfl⟩)
  · refine pw_F (by decide) (pw_some ⟨h1, ?_, h2, rfl⟩)
    rcases hk with r | r
    · exact Or.inl r
    · exact Or.inr r.1
theorem rk_yes (g : gok f n) (hs : sok h c p) {m : Nat} (hm : imv h c (gz f n) m) : mvs f n c (rk f n h c m) = m ∧ rk f n h c (m + 1) = rk f n h c m + 1 ∧ rk f n h c m < mvc f n h c := by
  have hz := gz_le g
  have h1 := hs.1
  have h2 := hs.2.1
  unfold imv at hm
  unfold mvs rk mvc
  refine ⟨?_, ?_, ?_⟩
  · rcases hm with q | q | q
    · rw [if_pos (by omega)]; omega
    · rw [if_neg (by omega), if_pos (by omega)]; omega
    · rw [if_neg (by omega), if_neg (by omega)]; omega
  · omega
  · omega
theorem rk_no (g : gok f n) (hs : sok h c p) {m : Nat} (h0 : 1 ≤ m) (hm : ¬ imv h c (gz f n) m) : rk f n h c (m + 1) = rk f n h c m := by
  have hz := gz_le g
  have h1 := hs.1
  have h2 := hs.2.1
  unfold imv at hm
  unfold rk
  omega
theorem rk_end (g : gok f n) (hs : sok h c p) : rk f n h c 22 = mvc f n h c ∧ rk f n h c 1 = 0 := by
  have hz := gz_le g
  have h1 := hs.1
  have h2 := hs.2.1
  unfold rk mvc
  omega
theorem sM_spreadIn (g : gok f n) (hT : MT f n T) (hs : sok h c p) (hw : ∀ i, i < c → w i = nI (p i)) (hm : MA f n h c p a cnt) (hp : PA f n h c p pl) {s : bS} {u j : Nat} {r : Int32} (hb : bI (tot f n h c p) (fun _ => True) (fun _ => 0) s) (hj : j < s.2.2) (hu : s.2.1 j = u) (hr : RC (tot f n h c p) s r q dist) (e : Nat → Int32) : pw (pz_iter (fun (σ : Int32 × Int32 × (Nat → Int32) × (Nat → Int32) × (Nat → Int32)) => fX6_spread_L49 (nI j) (nI (gz f n)) T (nI h) (nI c) w a pl σ.1 σ.2.1 σ.2.2.1 σ.2.2.2.1 σ.2.2.2.2) pz_FUEL (r, (1 : Int32), dist, q, e)) (fun v => RC (tot f n h c p) (bin (nx f n h c p) u (mvc f n h c) s) v.1 v.2.2.1 v.2.1) := by
  have hz := gz_le g
  have t512 := hm.2.1
  have ho := nx_ok (p := p) g hs
  obtain ⟨u1, _, _, _⟩ := hb.q j hj
  rw [hu] at u1
  obtain ⟨k1, k2, k3⟩ := kc_ok u1
  refine pw_run (fun m σ => ∃ r q dist e, σ = (r, nI m, dist, q, e) ∧ 1 ≤ m ∧ RC (tot f n h c p) (bin (nx f n h c p) u (rk f n h c m) s) r q dist) 1 22 (by decide) ⟨r, q, dist, e, rfl, Nat.le_refl _, by rw [(rk_end g hs).2]; exact hr⟩ (by decide) ?_
  rintro m _ hm2 ⟨r, q, dist, e, rfl, m1, hc⟩
  show pw (fX6_spread_L49 (nI j) (nI (gz f n)) T (nI h) (nI c) w a pl r (nI m) dist q e) _
  unfold fX6_spread_L49
  refine pw_le (a := 22) (by decide) (by omega) (fun z => pw_out ?_) (fun z => ?_)
  · have := (rk_end g hs).1
    rw [show m = 22 by omega, this] at hc
    exact hc
  obtain ⟨b, hb2, hbi⟩ := sM_isMove g hs (nI m)
  have nxt : (nI m + (1 : Int32)) = nI (m + 1) := nI_add m 1
  refine pw_eq hb2 ?_
  cases b with
  | false =>
    have no : ¬ imv h c (gz f n) m := fun y => nomatch hbi.mpr ⟨m, y, rfl⟩
    refine pw_T rfl ?_
    unfold fX6_spread_J130L49
    refine pw_in ⟨z, r, q, dist, e, by rw [nxt], by omega, ?_⟩
    rw [rk_no g hs m1 no]; exact hc
  | true =>
    obtain ⟨m', hi, e'⟩ := hbi.mp rfl
    have : m = m' := (nI_eq (by omega) (by have := hs.2.1; unfold imv at hi; omega)).mp e'
    subst this
    obtain ⟨y1, y2, y3⟩ := rk_yes g hs hi
    obtain ⟨b1, b2, b3, b4, b5⟩ := bin_I (u := u) ho (fun _ _ _ _ _ => trivial) hb hj hu (rk f n h c m) (by omega)
    have rl := bI_le b1
    obtain ⟨c1, c2, c3⟩ := id hc
    refine pw_F (by decide) (pw_rd (by omega) (by decide) ?_)
    rw [c2 j (by omega), b3 j hj, hu]
    refine pw_rd (by omega) (by decide) ?_
    have ak : a u = nI (kc f n h c p u) := by
      have := hm.2.2 _ k1 k2
      rwa [k3] at this
    rw [ak]
    obtain ⟨a1, a2⟩ := (iM_pM hs).mp k2
    refine pw_bind (sM_moved g hT hs hw hi (show kc f n h c p u < 2 ^ 31 by omega) a2.1 e) ?_
    rintro ⟨x8, e8⟩ h8
    have h8 : x8 = nI (nxc f n h c p (kc f n h c p u) m) := h8
    subst h8
    obtain ⟨n1, n2⟩ := nxc_ok g hs hi k2
    refine pw_bind (sM_placeOf hs hp _) (fun t9 h9 => ?_)
    have te : t9 = nI (nx f n h c p u (rk f n h c m)) := IX_uniq hs h9 (Or.inl ⟨_, (iM_lt hs n1).2, n1, rfl, by unfold nx; rw [y1]⟩)
    subst te
    have nl := ho.lt u _ u1 y3
    refine pw_rd (by omega) (by decide) ?_
    rw [c3 _ nl]
    have step : bin (nx f n h c p) u (rk f n h c (m + 1)) s = bst (nx f n h c p) u (rk f n h c m) (bin (nx f n h c p) u (rk f n h c m) s) := by rw [y2]; rfl
    have bound : (bin (nx f n h c p) u (rk f n h c m) s).1 (nx f n h c p u (rk f n h c m)) ≤ tot f n h c p := by
      rcases Nat.eq_zero_or_pos ((bin (nx f n h c p) u (rk f n h c m) s).1 (nx f n h c p u (rk f n h c m))) with v | v
      · omega
      · obtain ⟨l, l1, l2⟩ := b1.on _ trivial (Nat.pos_iff_ne_zero.mp v)
        have := (b1.q l l1).2.2.2
        rw [l2] at this; omega
    unfold fX6_spread_J130L49
    rw [nxt]
    by_cases y : (bin (nx f n h c p) u (rk f n h c m) s).1 (nx f n h c p u (rk f n h c m)) = 0
    · have lt := bI_lt b1 nl trivial y
      refine pw_T ((dn_m1 (by omega)).mpr y) (pw_rd (by omega) (by decide) ?_)
      rw [c2 j (by omega), b3 j hj, hu]
      refine pw_rd (by omega) (by decide) ?_
      rw [c3 u u1]
      refine pw_wr (by omega) (by decide) ?_
      rw [c1]
      refine pw_wr (by omega) (by decide) (pw_in ⟨z, _, _, _, _, rfl, by omega, ?_⟩)
      rw [step, ← c1]
      exact bst_RC (by omega) rl nl hc y
    · refine pw_F (fun v => y ((dn_m1 (by omega)).mp v)) (pw_in ⟨z, _, _, _, _, rfl, by omega, ?_⟩)
      rw [step, bst_no y]; exact hc
theorem sM_spread (g : gok f n) (hT : MT f n T) (hs : sok h c p) (hw : ∀ i, i < c → w i = nI (p i)) (hm : MA f n h c p a cnt) (hp : PA f n h c p pl) {s : Nat} (hsl : s < tot f n h c p) (dist q e : Nat → Int32) : pw (fX6_spread (nI s) (nI (gz f n)) T (nI h) (nI c) w (nI (tot f n h c p)) a dist q pl e) (fun v => ∀ k, k < tot f n h c p → v.1 k = dn ((fin (nx f n h c p) (mvc f n h c) (tot f n h c p) s).1 k)) := by
  have t512 := hm.2.1
  have ho := nx_ok (p := p) g hs
  unfold fX6_spread
  refine pw_bind (R := fun v => ∀ k, k < tot f n h c p → v k = (-1 : Int32)) ?_ (fun d0 hd0 => ?_)
  · refine pw_run (fun i σ => ∃ a, σ = (nI i, a) ∧ ∀ k, k < i → a k = (-1 : Int32)) 0 (tot f n h c p) (by omega) ⟨dist, rfl, fun k hk => absurd hk (Nat.not_lt_zero k)⟩ (Nat.zero_le _) ?_
    rintro i _ hi ⟨b, rfl, i1⟩
    show pw (fX6_spread_L2 (nI (tot f n h c p)) (nI i) b) _
    unfold fX6_spread_L2
    refine pw_le (by omega) (by omega) (fun z => pw_out (fun k hk => i1 k (by omega))) (fun z => pw_wr (by omega) (by decide) (pw_in ⟨z, _, by rw [show (nI i + (1 : Int32)) = nI (i + 1) from nI_add i 1], fun k hk => ?_⟩))
    by_cases y : k = i
    · rw [y, upd_s]
    · rw [upd_n y]; exact i1 k (by omega)
  refine pw_wr (by omega) (by decide) (pw_wr (i := 0) (by decide) (by decide) ?_)
  have hb : bI (tot f n h c p) (fun _ => True) (fun _ => 0) (bst0 (fun _ => 0) s) := bst0_I hsl trivial (fun _ _ => rfl)
  have start : RC (tot f n h c p) (bst0 (fun _ => 0) s) (1 : Int32) (upd q 0 (nI s)) (upd d0 s 0) := by
    refine ⟨rfl, fun i hi => ?_, fun k hk => ?_⟩
    · have hi : i < 1 := hi
      rw [show i = 0 by omega, upd_s]; rfl
    · show upd d0 s 0 k = dn (fu (fun _ => 0) s 1 k)
      by_cases z : k = s
      · rw [z, upd_s, fu_s]; rfl
      · rw [upd_n z, fu_n z, hd0 k hk]; exact (show (-1 : Int32) = dn 0 by decide)
  refine pw_bind (R := fun v => ∀ k, k < tot f n h c p → v.1 k = dn ((fin (nx f n h c p) (mvc f n h c) (tot f n h c p) s).1 k)) ?_ (fun u hu => pw_some hu)
  refine pw_run (fun x σ => ∃ r q dist e, σ = (r, nI x, dist, q, e) ∧ RC (tot f n h c p) (bout (nx f n h c p) (mvc f n h c) x (bst0 (fun _ => 0) s)) r q dist) 0 (tot f n h c p) (by omega) ⟨_, _, _, e, rfl, start⟩ (Nat.zero_le _) ?_
  rintro x _ hx ⟨r, q, dist, e, rfl, hc⟩
  show pw (fX6_spread_L41 (nI (gz f n)) T (nI h) (nI c) w a pl r (nI x) dist q e) _
  unfold fX6_spread_L41
  obtain ⟨b1, b2, b3, b4⟩ := bout_I ho (fun _ _ _ _ _ => trivial) hb x
  have rl := bI_le b1
  obtain ⟨c1, c2, c3⟩ := id hc
  rw [c1]
  refine pw_le (by omega) (by omega) (fun z => pw_out ?_) (fun z => ?_)
  · have := bout_stop (nx := nx f n h c p) (mc := mvc f n h c) z (tot f n h c p - x)
    rw [show x + (tot f n h c p - x) = tot f n h c p by omega] at this
    intro k hk
    unfold fin
    rw [this]; exact c3 k hk
  · rw [← c1]
    refine pw_bind (sM_spreadIn g hT hs hw hm hp b1 z rfl hc e) ?_
    rintro ⟨r', d', q', e'⟩ hv
    refine pw_in ⟨by omega, r', q', d', e', by rw [show (nI x + (1 : Int32)) = nI (x + 1) from nI_add x 1], ?_⟩
    rw [bout, if_pos z]; exact hv
end CLSM
