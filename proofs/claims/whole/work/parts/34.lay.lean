/-! ALL LAID, in the reference -/
def LD (f n h c : Nat) (p : Nat → Nat) (maps : Int32) (a ci pl : Nat → Int32) (many : Int32) : Prop := MA f n h c p a maps ∧ PA f n h c p pl ∧ (∀ j, j < tot f n h c p → ci j = dn ((nst (nx f n h c p) (mvc f n h c) (tot f n h c p) (tot f n h c p)).1 j)) ∧ many = nI (nst (nx f n h c p) (mvc f n h c) (tot f n h c p) (tot f n h c p)).2
section LAY
variable {f n h c : Nat} {p d : Nat → Nat} {P I O C Z T e w a ci far q dist pl : Nat → Int32} {cnt many : Int32}
theorem sM_mark {t cn : Nat} {V : Nat → Bool} (ht : t ≤ 512) (hf : ∀ k, k < t → (far k = (-1 : Int32) ↔ V k = false)) (ci : Nat → Int32) : pw (pz_iter (fun (σ : Int32 × (Nat → Int32)) => fX6_layClasses_L55 (nI t) far (nI cn) σ.1 σ.2) pz_FUEL ((0 : Int32), ci)) (fun v => ∀ j, j < t → v j = if V j = true then nI cn else ci j) := by
  refine pw_run (fun i σ => ∃ b, σ = (nI i, b) ∧ ∀ j, j < t → b j = if j < i ∧ V j = true then nI cn else ci j) 0 t (by omega) ⟨ci, rfl, fun j _ => by rw [if_neg (fun z => Nat.not_lt_zero j z.1)]⟩ (Nat.zero_le _) ?_
  rintro i _ hi ⟨b, rfl, i1⟩
  show pw (fX6_layClasses_L55 (nI t) far (nI cn) (nI i) b) _
  unfold fX6_layClasses_L55
  refine pw_le (by omega) (by omega) (fun z => pw_out (fun j hj => ?_)) (fun z => pw_rd (by omega) (by decide) ?_)
  · rw [i1 j hj]
    by_cases y : V j = true
    · rw [if_pos ⟨by omega, y⟩, if_pos y]
    · rw [if_neg (fun x => y x.2), if_neg y]
  · unfold fX6_layClasses_J91L55
    have nxt : (nI i + (1 : Int32)) = nI (i + 1) := nI_add i 1
    have fin : ∀ v : Int32, v = (if V i = true then nI cn else ci i) → ∀ j, j < t → upd b i v j = if j < i + 1 ∧ V j = true then nI cn else ci j := fun v hv j hj => by
      by_cases x : j = i
      · rw [x, upd_s, hv]
        by_cases y : V i = true
        · rw [if_pos y, if_pos ⟨Nat.lt_succ_self i, y⟩]
        · rw [if_neg y, if_neg (fun x => y x.2)]
      · rw [upd_n x, i1 j hj]
        by_cases y : j < i ∧ V j = true
        · rw [if_pos y, if_pos ⟨by omega, y.2⟩]
        · rw [if_neg y, if_neg (fun x => y ⟨by omega, x.2⟩)]
    refine pw_if (fun y => pw_rd (by omega) (by decide) ?_) (fun y => ?_)
    · have v := (hf i z).mp y
      refine pw_wr (by omega) (by decide) (pw_in ⟨z, _, by rw [nxt], fin _ ?_⟩)
      rw [i1 i z, if_neg (fun x => Nat.lt_irrefl i x.1), if_neg (by rw [v]; decide)]
    · have v : V i = true := by
        cases x : V i with
        | true => rfl
        | false => exact absurd ((hf i z).mpr x) y
      exact pw_wr (by omega) (by decide) (pw_in ⟨z, _, by rw [nxt], fin _ (by rw [if_pos v])⟩)
theorem sM_layClasses (g : gok f n) (hT : MT f n T) (hs : sok h c p) (hw : ∀ i, i < c → w i = nI (p i)) (hm : MA f n h c p a (nI (tot f n h c p))) (hp : PA f n h c p pl) (ci far q e : Nat → Int32) : pw (fX6_layClasses (nI (gz f n)) T (nI h) (nI c) w (nI (tot f n h c p)) a ci far q pl e) (fun v => (∀ j, j < tot f n h c p → v.1 j = dn ((nst (nx f n h c p) (mvc f n h c) (tot f n h c p) (tot f n h c p)).1 j)) ∧ v.2.2.2.1 = nI (nst (nx f n h c p) (mvc f n h c) (tot f n h c p) (tot f n h c p)).2) := by
  have t512 := hm.2.1
  have ho := nx_ok (p := p) g hs
  unfold fX6_layClasses
  refine pw_bind (R := fun v => ∀ k, k < tot f n h c p → v k = (-1 : Int32)) ?_ (fun d0 hd0 => ?_)
  · refine pw_run (fun i σ => ∃ a, σ = (nI i, a) ∧ ∀ k, k < i → a k = (-1 : Int32)) 0 (tot f n h c p) (by omega) ⟨ci, rfl, fun k hk => absurd hk (Nat.not_lt_zero k)⟩ (Nat.zero_le _) ?_
    rintro i _ hi ⟨b, rfl, i1⟩
    show pw (fX6_layClasses_L7 (nI (tot f n h c p)) (nI i) b) _
    unfold fX6_layClasses_L7
    refine pw_le (by omega) (by omega) (fun z => pw_out (fun k hk => i1 k (by omega))) (fun z => pw_wr (by omega) (by decide) (pw_in ⟨z, _, by rw [show (nI i + (1 : Int32)) = nI (i + 1) from nI_add i 1], fun k hk => ?_⟩))
    by_cases y : k = i
    · rw [y, upd_s]
    · rw [upd_n y]; exact i1 k (by omega)
  · generalize hS : nst (nx f n h c p) (mvc f n h c) (tot f n h c p) = S
    refine pw_bind (R := fun v => (∀ j, j < tot f n h c p → v.1 j = dn ((S (tot f n h c p)).1 j)) ∧ v.2.2.2.1 = nI (S (tot f n h c p)).2) ?_ (fun u hu => pw_some hu)
    refine pw_run (fun k σ => ∃ ci far q many e, σ = (nI k, ci, far, q, many, e) ∧ (∀ j, j < tot f n h c p → ci j = dn ((S k).1 j)) ∧ many = nI (S k).2) 0 (tot f n h c p) (by omega) ⟨d0, far, q, 0, e, rfl, fun j hj => by rw [hd0 j hj, ← hS]; exact (show (-1 : Int32) = dn 0 by decide), by rw [← hS]; rfl⟩ (Nat.zero_le _) ?_
    rintro k _ hk ⟨ci, far, q, many, e, rfl, i1, i2⟩
    show pw (fX6_layClasses_L30 (nI (gz f n)) T (nI h) (nI c) w (nI (tot f n h c p)) a pl (nI k) ci far q many e) _
    unfold fX6_layClasses_L30
    obtain ⟨n1, n2, n3, n4⟩ := nst_I ho k hk
    refine pw_le (by omega) (by omega) (fun z => pw_out (by rw [show tot f n h c p = k by omega] at i1 ⊢; exact ⟨i1, i2⟩)) (fun z => pw_rd (by omega) (by decide) ?_)
    rw [i1 k z]
    have en : S (k + 1) = if (S k).1 k = 0 then (fun j => if vis (nx f n h c p) (mvc f n h c) (tot f n h c p) k j = true then (S k).2 + 1 else (S k).1 j, (S k).2 + 1) else S k := by rw [← hS, nst]
    rw [hS] at n1 n2 n3 n4
    have nk := n2 k
    unfold fX6_layClasses_J108L30
    rw [show (nI k + (1 : Int32)) = nI (k + 1) from nI_add k 1]
    by_cases y : (S k).1 k = 0
    · rw [if_pos y] at en
      refine pw_T ((dn_m1 (by omega)).mpr y) (pw_bind (sM_spread g hT hs hw hm hp z far q e) ?_)
      rintro ⟨f1, q1, e1⟩ hf
      have hf : ∀ j, j < tot f n h c p → f1 j = dn ((fin (nx f n h c p) (mvc f n h c) (tot f n h c p) k).1 j) := hf
      obtain ⟨b1, _, _⟩ := fin_I ho z
      have hf2 : ∀ j, j < tot f n h c p → (f1 j = (-1 : Int32) ↔ vis (nx f n h c p) (mvc f n h c) (tot f n h c p) k j = false) := fun j hj => by
        rw [hf j hj]
        have bd : (fin (nx f n h c p) (mvc f n h c) (tot f n h c p) k).1 j < 2 ^ 31 := by
          rcases Nat.eq_zero_or_pos ((fin (nx f n h c p) (mvc f n h c) (tot f n h c p) k).1 j) with v | v
          · omega
          · obtain ⟨l, l1, l2⟩ := b1.on _ trivial (Nat.pos_iff_ne_zero.mp v)
            have := (b1.q l l1).2.2.2
            have := bI_le b1
            rw [l2] at *; omega
        rw [dn_m1 bd]
        unfold vis
        constructor
        · intro v; rw [v]; rfl
        · intro v; simpa using v
      rw [i2]
      refine pw_bind (sM_mark (cn := (S k).2) t512 hf2 ci) (fun u8 h8 => pw_in ⟨z, u8, f1, q1, _, e1, rfl, fun j hj => ?_, ?_⟩)
      · rw [h8 j hj, en]
        show _ = dn (if vis (nx f n h c p) (mvc f n h c) (tot f n h c p) k j = true then (S k).2 + 1 else (S k).1 j)
        by_cases v : vis (nx f n h c p) (mvc f n h c) (tot f n h c p) k j = true
        · rw [if_pos v, if_pos v, dn_succ]
        · rw [if_neg v, if_neg v]; exact i1 j hj
      · rw [en]; exact nI_add _ 1
    · rw [if_neg y] at en
      refine pw_F (fun v => y ((dn_m1 (by omega)).mp v)) (pw_in ⟨z, ci, far, q, many, e, rfl, ?_, ?_⟩)
      · rw [en]; exact i1
      · rw [en]; exact i2
theorem sM_layMaps (g : gok f n) (hT : MT f n T) (hs : sok h c p) (hw : ∀ i, i < c → w i = nI (p i)) (ht : tot f n h c p ≤ 512) (a pl e : Nat → Int32) : pw (pz_iter (fun (σ : Int32 × Int32 × (Nat → Int32) × (Nat → Int32) × (Nat → Int32)) => fX6_lay_L20 (nI (gz f n)) T (nI h) (nI c) w σ.1 σ.2.1 σ.2.2.1 σ.2.2.2.1 σ.2.2.2.2) pz_FUEL ((0 : Int32), (0 : Int32), a, pl, e)) (fun v => MA f n h c p v.2.1 v.1 ∧ PA f n h c p v.2.2.1) := by
  have h4 := pow4 hs.2.1
  refine pw_run (fun x σ => ∃ maps a pl e, σ = (nI x, maps, a, pl, e) ∧ maps = nI (fb_ct (iM f n h c p) x) ∧ (∀ y, y < x → iM f n h c p y = true → a (fb_ct (iM f n h c p) y) = nI y) ∧ ∀ y, y < x → pl y = if iM f n h c p y = true then nI (fb_ct (iM f n h c p) y) else (-1 : Int32)) 0 10000 (by decide) ⟨0, a, pl, e, rfl, rfl, fun y hy => absurd hy (Nat.not_lt_zero y), fun y hy => absurd hy (Nat.not_lt_zero y)⟩ (Nat.zero_le _) ?_
  rintro x _ hx ⟨maps, a, pl, e, rfl, i1, i2, i3⟩
  show pw (fX6_lay_L20 (nI (gz f n)) T (nI h) (nI c) w (nI x) maps a pl e) _
  unfold fX6_lay_L20
  refine pw_le (a := 10000) (by decide) (by omega) (fun z => pw_out ?_) (fun z => pw_eq sM_length (pw_eq (sM_tens hs.2.1) ?_))
  · have e : x = 10000 := by omega
    subst e
    exact ⟨⟨i1, ht, i2⟩, i3⟩
  have cl := fb_ct_le (iM f n h c p) x
  have nxt : (nI x + (1 : Int32)) = nI (x + 1) := nI_add x 1
  have no : iM f n h c p x = false → ∀ e', pw (fX6_lay_J51L20 (nI x) maps a pl e') (Sum.elim (fun s' => x < 10000 ∧ ∃ maps a pl e, s' = (nI (x + 1), maps, a, pl, e) ∧ maps = nI (fb_ct (iM f n h c p) (x + 1)) ∧ (∀ y, y < x + 1 → iM f n h c p y = true → a (fb_ct (iM f n h c p) y) = nI y) ∧ ∀ y, y < x + 1 → pl y = if iM f n h c p y = true then nI (fb_ct (iM f n h c p) y) else (-1 : Int32)) (fun v => MA f n h c p v.2.1 v.1 ∧ PA f n h c p v.2.2.1)) := fun hx0 e' => by
    unfold fX6_lay_J51L20 fX6_lay_J52L20
    refine pw_T (c := (0 : Int32) = 0) rfl ?_
    unfold fX6_lay_J70L20
    refine pw_wr z (by decide) (pw_T (c := (0 : Int32) = 0) rfl ?_)
    unfold fX6_lay_J95L20
    refine pw_in ⟨z, maps, a, _, e', by rw [nxt], by rw [i1, fb_ct_succ, hx0]; rfl, fun y hy hyM => ?_, fun y hy => ?_⟩
    · by_cases r : y = x
      · rw [r, hx0] at hyM; exact absurd hyM (by decide)
      · exact i2 y (by omega) hyM
    · by_cases r : y = x
      · rw [r, upd_s, hx0, if_neg (by decide)]
      · rw [upd_n r]; exact i3 y (by omega)
  refine pw_le (by omega) (by omega) (fun r => ?_) (fun r => ?_)
  · refine no ?_ e
    cases q : iM f n h c p x with
    | false => rfl
    | true => have := (iM_lt hs q).1; omega
  · refine pw_bind (sM_codeIs g hT hs hw r e) ?_
    rintro ⟨t, e'⟩ ⟨t1, t2⟩
    have t1 : t = nI (kdx f n h c p x) := t1
    subst t1
    have im : iM f n h c p x = (kdx f n h c p x == 2) := by unfold iM isM; simp [r]
    have kl : kdx f n h c p x ≤ 2 := by
      unfold kdx
      split
      · exact kd_le
      · omega
    refine pw_eqn (b := 2) (by omega) (by decide) (fun q => ?_) (fun q => no (by rw [im]; simp [q]) e')
    have hx1 : iM f n h c p x = true := by rw [im, q]; rfl
    unfold fX6_lay_J52L20
    refine pw_F (c := (1 : Int32) = 0) (by decide) ?_
    unfold fX6_lay_J70L20
    have il := ix_lt hx1 z
    refine pw_wr z (by decide) (pw_F (c := (1 : Int32) = 0) (by decide) ?_)
    rw [i1]
    refine pw_wr (by omega) (by decide) ?_
    unfold fX6_lay_J95L20
    refine pw_in ⟨z, _, _, _, e', by rw [nxt], by rw [fb_ct_succ, hx1, if_pos rfl]; exact nI_add _ 1, fun y hy hyM => ?_, fun y hy => ?_⟩
    · by_cases r : y = x
      · rw [r, upd_s]
      · have := ix_mono hyM (show y < x by omega)
        rw [upd_n (by omega)]; exact i2 y (by omega) hyM
    · by_cases r : y = x
      · rw [r, upd_s, hx1, if_pos rfl]
      · rw [upd_n r]; exact i3 y (by omega)
theorem sM_lay (g : gok f n) (hT : MT f n T) (hs : sok h c p) (hw : ∀ i, i < c → w i = nI (p i)) (ht : tot f n h c p ≤ 512) {al maps : Int32} (hl : al = 0 ∨ al = 1 ∧ LD f n h c p maps a ci pl many) (far q e : Nat → Int32) : pw (fX6_lay (nI (gz f n)) T (nI h) (nI c) w al maps a ci far q pl many e) (fun v => v.1 = 1 ∧ LD f n h c p v.2.1 v.2.2.1 v.2.2.2.1 v.2.2.2.2.2.2.1 v.2.2.2.2.2.2.2.1) := by
  unfold fX6_lay
  rcases hl with rfl | ⟨rfl, hl⟩
  · refine pw_T rfl (pw_bind (sM_layMaps g hT hs hw ht a pl e) ?_)
    rintro ⟨m1, a1, p1, e1⟩ ⟨hm, hp⟩
    have hm : MA f n h c p a1 m1 := hm
    have hp : PA f n h c p p1 := hp
    have me : m1 = nI (tot f n h c p) := hm.1
    subst me
    refine pw_bind (sM_layClasses g hT hs hw hm hp ci far q e1) ?_
    rintro ⟨c1, f1, q1, n1, e2⟩ ⟨h1, h2⟩
    exact pw_some ⟨rfl, hm, hp, h1, h2⟩
  · exact pw_F (by decide) (pw_some ⟨rfl, hl⟩)
end LAY
