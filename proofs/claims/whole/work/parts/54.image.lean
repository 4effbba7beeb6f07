/-! THE CALLS use, image, back -/
def UN (f n h c : Nat) (p : Nat → Nat) (fa nn zz : Int32) (P I O C Z : Nat → Int32) (hh cc : Int32) (w : Nat → Int32) (mk ck : Int32) : Prop := fa = nI f ∧ nn = nI n ∧ zz = nI (gz f n) ∧ CG f n P I O C Z ∧ hh = nI h ∧ cc = nI c ∧ (∀ i, i < c → w i = nI (p i)) ∧ mk = 0 ∧ ck = 0
def VN (f n h c : Nat) (p : Nat → Nat) (fa nn zz : Int32) (T : Nat → Int32) (hh cc : Int32) (w : Nat → Int32) (al : Int32) : Prop := fa = nI f ∧ nn = nI n ∧ zz = nI (gz f n) ∧ MT f n T ∧ hh = nI h ∧ cc = nI c ∧ (∀ i, i < c → w i = nI (p i)) ∧ al = 0
def IM (ip : Int32) (ish : Nat → Int32) (hi f1 n1 h1 c1 : Int32) (p1 fa1 nn1 hh1 cc1 pp1 : Nat → Int32) : Prop := (ip = 0 ∧ hi = 0) ∨ (hi ≠ 0 ∧ (∃ f n h c p, SF f n h c p ip f1 n1 h1 c1 p1) ∧ SH ish fa1 nn1 hh1 cc1 pp1)
section USE
variable {f n h c : Nat} {p : Nat → Nat} {P I O C Z T w w' sh fa nn hh cc pp ish p1 fa1 nn1 hh1 cc1 pp1 : Nat → Int32} {x fb nb hb cb ip hi f1 n1 h1 c1 : Int32} {q : Nat → Int32}
theorem sC_unpackU (h0 : SF f n h c p x fb nb hb cb q) (w : Nat → Int32) : pw (fX5_unpack x P I O C Z w) (fun t => UN f n h c p t.1 t.2.1 t.2.2.1 t.2.2.2.1 t.2.2.2.2.1 t.2.2.2.2.2.1 t.2.2.2.2.2.2.1 t.2.2.2.2.2.2.2.1 t.2.2.2.2.2.2.2.2.1 t.2.2.2.2.2.2.2.2.2.1 t.2.2.2.2.2.2.2.2.2.2.1 t.2.2.2.2.2.2.2.2.2.2.2.1 t.2.2.2.2.2.2.2.2.2.2.2.2) := by
  obtain ⟨g, hs, rfl, _⟩ := h0
  refine pw_mono (sC_unpack (P := P) (I := I) (O := O) (C := C) (Z := Z) g hs w) (fun t ht => ?_)
  obtain ⟨t1, t2, t3, t4, t5, t6, t7, t8⟩ := ht
  exact ⟨t1, t2, t3, t4, t5, t6, t7, congrArg Prod.fst t8, congrArg Prod.snd t8⟩
theorem sM_useRow (hc : c ≤ 4) {k : Nat} (hk : k < 4) (w : Nat → Int32) : pw (pz_iter (fun (σ : Int32 × (Nat → Int32)) => fX6_use_L66 (nI k) (nI c) pp σ.1 σ.2) pz_FUEL ((0 : Int32), w)) (fun v => ∀ i, i < c → v i = pp (4 * k + i)) := by
  refine pw_run (fun j s => ∃ v, s = (nI j, v) ∧ ∀ i, i < j → v i = pp (4 * k + i)) 0 c (by omega) ⟨w, rfl, fun i hi => absurd hi (Nat.not_lt_zero i)⟩ (Nat.zero_le _) ?_
  rintro j _ hj ⟨v, rfl, i1⟩
  show pw (fX6_use_L66 (nI k) (nI c) pp (nI j) v) _
  unfold fX6_use_L66
  refine pw_le (by omega) (by omega) (fun z => pw_out (fun i hi => i1 i (by omega))) (fun z => ?_)
  rw [four_i]
  refine pw_rd (by omega) (by decide) (pw_wr (by omega) (by decide) (pw_in ⟨z, _, by rw [show (nI j + (1 : Int32)) = nI (j + 1) from nI_add j 1], fun i hi => ?_⟩))
  by_cases y : i = j
  · rw [y, upd_s]
  · rw [upd_n y]; exact i1 i (by omega)
def UV (v : Int32 × Int32 × Int32 × Int32 × (Nat → Int32) × (Nat → Int32) × (Nat → Int32) × (Nat → Int32) × (Nat → Int32) × Int32 × Int32 × (Nat → Int32) × Int32 × Int32) (u : Int32 × Int32 × Int32 × Int32 × (Nat → Int32) × Int32 × Int32 × (Nat → Int32) × Int32) : Prop := ∃ f n h c p, gok f n ∧ sok h c p ∧ UN f n h c p v.2.1 v.2.2.1 v.2.2.2.1 v.2.2.2.2.1 v.2.2.2.2.2.1 v.2.2.2.2.2.2.1 v.2.2.2.2.2.2.2.1 v.2.2.2.2.2.2.2.2.1 v.2.2.2.2.2.2.2.2.2.1 v.2.2.2.2.2.2.2.2.2.2.1 v.2.2.2.2.2.2.2.2.2.2.2.1 v.2.2.2.2.2.2.2.2.2.2.2.2.1 v.2.2.2.2.2.2.2.2.2.2.2.2.2 ∧ VN f n h c p u.2.1 u.2.2.1 u.2.2.2.1 u.2.2.2.2.1 u.2.2.2.2.2.1 u.2.2.2.2.2.2.1 u.2.2.2.2.2.2.2.1 u.2.2.2.2.2.2.2.2
theorem rs_use (hS : SH sh fa nn hh cc pp) (x1 a1 a2 a3 a4 a5 mk ck b1 b2 b3 b4 b5 al : Int32) : ∃ v u, fX5_use x1 a1 a2 a3 P I O C Z a4 a5 w mk ck sh = some v ∧ fX6_use x1 b1 b2 b3 T b4 b5 w' al fa nn hh cc pp = some u ∧ v.1 = u.1 ∧ ((v.2 = (a1, a2, a3, P, I, O, C, Z, a4, a5, w, mk, ck) ∧ u.2 = (b1, b2, b3, T, b4, b5, w', al)) ∨ UV v u) := by
  unfold fX5_use fX6_use
  rw [sC_isShelf, sM_isShelf]
  by_cases r : ie x1 4
  · obtain ⟨k, k1, rfl⟩ := ie_of r (by decide)
    rw [if_pos r]
    have em := SE_empty (hS k k1)
    by_cases r0 : sh k = 0
    · refine ⟨_, _, pw_val (w := ((-3 : Int32), a1, a2, a3, P, I, O, C, Z, a4, a5, w, mk, ck)) (pw_eq rfl (pw_F (by decide) (pw_rd k1 (by decide) (pw_T r0 (pw_some rfl))))), pw_val (w := ((-3 : Int32), b1, b2, b3, T, b4, b5, w', al)) (pw_eq rfl (pw_F (by decide) (pw_rd k1 (by decide) (pw_F (fun y => ?_) (pw_some rfl))))), rfl, Or.inl ⟨rfl, rfl⟩⟩
      have z := em.mp r0
      have y : (0 : Int32) ≤ fa k := y
      rw [fa_le] at y
      rw [fa_lt] at z
      omega
    · have z : ¬ fa k < 0 := fun y => r0 (em.mpr y)
      have z2 : (0 : Int32) ≤ fa k := by
        rw [fa_le]
        rw [fa_lt] at z
        omega
      obtain ⟨f, n, h, c, p, h0⟩ := SE_full (hS k k1) r0
      obtain ⟨t, ht, hU⟩ := sC_unpackU (P := P) (I := I) (O := O) (C := C) (Z := Z) h0 w
      obtain ⟨g, hs, e0, e1, e2, e3, e4, e5⟩ := h0
      have h2 := hs.2.1
      obtain ⟨v9, hv9, w9⟩ := sM_useRow (pp := pp) (c := c) (by omega) k1 w'
      obtain ⟨t10, ht10, u1, u2, u3⟩ := sM_layTable g T
      refine ⟨(t.2.2.1, t), (t10.1, nI f, nI n, t10.1, t10.2.1, nI h, nI c, v9, t10.2.2), ?_, ?_, ?_, Or.inr ⟨f, n, h, c, p, g, hs, hU, rfl, rfl, u1, u2, rfl, rfl, fun i hi => ?_, u3⟩⟩
      · exact pw_val (pw_eq rfl (pw_F (by decide) (pw_rd k1 (by decide) (pw_F r0 (pw_rd k1 (by decide) (pw_eq ht (pw_some rfl)))))))
      · refine pw_val (pw_eq rfl (pw_F (by decide) (pw_rd k1 (by decide) (pw_T z2 (pw_rd k1 (by decide) (pw_rd k1 (by decide) (pw_rd k1 (by decide) (pw_rd k1 (by decide) ?_))))))))
        rw [e1, e2, e3, e4]
        exact pw_eq hv9 (pw_eq ht10 (pw_some rfl))
      · show t.2.2.1 = t10.1
        rw [u1]; exact hU.2.2.1
      · show v9 i = _
        rw [w9 i hi]; exact e5 i hi
  · rw [if_neg r]
    exact ⟨_, _, pw_val (w := ((-2 : Int32), a1, a2, a3, P, I, O, C, Z, a4, a5, w, mk, ck)) (pw_eq rfl (pw_T rfl (pw_some rfl))), pw_val (w := ((-2 : Int32), b1, b2, b3, T, b4, b5, w', al)) (pw_eq rfl (pw_T rfl (pw_some rfl))), rfl, Or.inl ⟨rfl, rfl⟩⟩
theorem sM_copyRow {k : Nat} (hk : k < 4) (src dst : Nat → Int32) : pw (pz_iter (fun (σ : Int32 × (Nat → Int32)) => fX6_image_L106 (nI k) src σ.1 σ.2) pz_FUEL ((0 : Int32), dst)) (fun v => ∀ i, i < 16 → v i = if 4 * k ≤ i ∧ i < 4 * k + 4 then src i else dst i) := by
  refine pw_run (fun j s => ∃ v, s = (nI j, v) ∧ ∀ i, i < 16 → v i = if 4 * k ≤ i ∧ i < 4 * k + j then src i else dst i) 0 4 (by decide) ⟨dst, rfl, fun i _ => by rw [if_neg (by omega)]⟩ (Nat.zero_le _) ?_
  rintro j _ hj ⟨v, rfl, i1⟩
  show pw (fX6_image_L106 (nI k) src (nI j) v) _
  unfold fX6_image_L106
  refine pw_le (a := 4) (by decide) (by omega) (fun z => pw_out (fun i hi => by rw [i1 i hi, show 4 = j by omega])) (fun z => ?_)
  rw [four_i]
  refine pw_rd (by omega) (by decide) (pw_wr (by omega) (by decide) (pw_in ⟨z, _, by rw [show (nI j + (1 : Int32)) = nI (j + 1) from nI_add j 1], fun i hi => ?_⟩))
  by_cases y : i = 4 * k + j
  · rw [y, upd_s, if_pos (by omega)]
  · rw [upd_n y, i1 i hi]
    by_cases r : 4 * k ≤ i ∧ i < 4 * k + j
    · rw [if_pos r, if_pos (by omega)]
    · rw [if_neg r, if_neg (by omega)]
def CPY (s1 s2 s3 s4 s5 s6 : Nat → Int32) (k : Nat) (d : (Nat → Int32) × (Nat → Int32) × (Nat → Int32) × (Nat → Int32) × (Nat → Int32) × (Nat → Int32)) : Prop := ∀ i, i < k → d.1 i = s1 i ∧ d.2.1 i = s2 i ∧ d.2.2.1 i = s3 i ∧ d.2.2.2.1 i = s4 i ∧ d.2.2.2.2.1 i = s5 i ∧ ∀ j, j < 4 → d.2.2.2.2.2 (4 * i + j) = s6 (4 * i + j)
theorem upd_le {a s : Nat → Int32} {i k : Nat} (h : i < k + 1) (o : i < k → a i = s i) : upd a k (s k) i = s i := by
  by_cases y : i = k
  · rw [y, upd_s]
  · rw [upd_n y]; exact o (by omega)
theorem sM_copyAll (s1 s2 s3 s4 s5 s6 d1 d2 d3 d4 d5 d6 : Nat → Int32) : pw (pz_iter (fun (σ : Int32 × (Nat → Int32) × (Nat → Int32) × (Nat → Int32) × (Nat → Int32) × (Nat → Int32) × (Nat → Int32)) => fX6_image_L39 s1 s2 s3 s4 s5 s6 σ.1 σ.2.1 σ.2.2.1 σ.2.2.2.1 σ.2.2.2.2.1 σ.2.2.2.2.2.1 σ.2.2.2.2.2.2) pz_FUEL ((0 : Int32), d1, d2, d3, d4, d5, d6)) (CPY s1 s2 s3 s4 s5 s6 4) := by
  refine pw_run (fun k s => ∃ d, s = (nI k, d) ∧ CPY s1 s2 s3 s4 s5 s6 k d) 0 4 (by decide) ⟨_, rfl, fun i hi => absurd hi (Nat.not_lt_zero i)⟩ (Nat.zero_le _) ?_
  rintro k _ hk ⟨⟨d1, d2, d3, d4, d5, d6⟩, rfl, i1⟩
  show pw (fX6_image_L39 s1 s2 s3 s4 s5 s6 (nI k) d1 d2 d3 d4 d5 d6) _
  unfold fX6_image_L39
  refine pw_le (a := 4) (by decide) (by omega) (fun z => pw_out (by rw [show 4 = k by omega]; exact i1)) (fun z => ?_)
  refine pw_rd (by omega) (by decide) (pw_wr (by omega) (by decide) (pw_rd (by omega) (by decide) (pw_wr (by omega) (by decide) (pw_rd (by omega) (by decide) (pw_wr (by omega) (by decide) (pw_rd (by omega) (by decide) (pw_wr (by omega) (by decide) (pw_rd (by omega) (by decide) (pw_wr (by omega) (by decide) ?_)))))))))
  refine pw_bind (sM_copyRow z s6 d6) (fun v hv => pw_in ⟨z, _, by rw [show (nI k + (1 : Int32)) = nI (k + 1) from nI_add k 1], fun i hi => ⟨upd_le hi (fun y => (i1 i y).1), upd_le hi (fun y => (i1 i y).2.1), upd_le hi (fun y => (i1 i y).2.2.1), upd_le hi (fun y => (i1 i y).2.2.2.1), upd_le hi (fun y => (i1 i y).2.2.2.2.1), fun j hj => ?_⟩⟩)
  show v (4 * i + j) = _
  rw [hv _ (by omega)]
  by_cases y : i = k
  · rw [if_pos (by omega)]
  · rw [if_neg (by omega)]
    exact (i1 i (by omega)).2.2.2.2.2 j hj
theorem SH_cong {sh' fa' nn' hh' cc' pp' : Nat → Int32} (hS : SH sh fa nn hh cc pp) (e1 : ∀ i, i < 4 → sh' i = sh i) (e2 : ∀ i, i < 4 → fa' i = fa i) (e3 : ∀ i, i < 4 → nn' i = nn i) (e4 : ∀ i, i < 4 → hh' i = hh i) (e5 : ∀ i, i < 4 → cc' i = cc i) (e6 : ∀ i, i < 4 → ∀ j, j < 4 → pp' (4 * i + j) = pp (4 * i + j)) : SH sh' fa' nn' hh' cc' pp' := by
  intro i hi
  rw [e1 i hi, e2 i hi, e3 i hi, e4 i hi, e5 i hi]
  exact SE_cong (hS i hi) (fun j hj => e6 i hi j hj)
theorem rs_image (g : gok f n) (hs : sok h c p) (hw : ∀ i, i < c → w i = nI (p i)) (hw' : ∀ i, i < c → w' i = nI (p i)) (hS : SH sh fa nn hh cc pp) (ish p1 fa1 nn1 hh1 cc1 pp1 : Nat → Int32) : ∃ v u, fX5_image (nI f) (nI n) (nI (gz f n)) (nI h) (nI c) w sh ish = some v ∧ fX6_image (nI f) (nI n) (nI (gz f n)) (nI h) (nI c) w' fa nn hh cc pp p1 fa1 nn1 hh1 cc1 pp1 = some u ∧ v.1 = u.1 ∧ IM v.2.2 v.2.1 u.2.1 u.2.2.1 u.2.2.2.1 u.2.2.2.2.1 u.2.2.2.2.2.1 u.2.2.2.2.2.2.1 u.2.2.2.2.2.2.2.1 u.2.2.2.2.2.2.2.2.1 u.2.2.2.2.2.2.2.2.2.1 u.2.2.2.2.2.2.2.2.2.2.1 u.2.2.2.2.2.2.2.2.2.2.2 := by
  have h2 := hs.2.1
  unfold fX5_image fX6_image
  rw [sC_packed hs hw]
  obtain ⟨d, hd, hc⟩ := sM_copyAll w' fa nn hh cc pp p1 fa1 nn1 hh1 cc1 pp1
  rw [hd]
  refine ⟨_, _, rfl, rfl, rfl, Or.inr ⟨(show ¬ (1 : Int32) = 0 by decide), ⟨f, n, h, c, p, g, hs, rfl, rfl, rfl, rfl, rfl, fun j hj => ?_⟩, ?_⟩⟩
  · show d.1 j = _
    rw [(hc j (by omega)).1]; exact hw' j hj
  · exact SH_cong hS (fun i hi => sb_cpy0 hi) (fun i hi => (hc i hi).2.1) (fun i hi => (hc i hi).2.2.1) (fun i hi => (hc i hi).2.2.2.1) (fun i hi => (hc i hi).2.2.2.2.1) (fun i hi => (hc i hi).2.2.2.2.2)
theorem L44_is : @fX6_back_L44 = @fX6_image_L39 := rfl
def BV (v : Int32 × Int32 × Int32 × Int32 × (Nat → Int32) × (Nat → Int32) × (Nat → Int32) × (Nat → Int32) × (Nat → Int32) × Int32 × Int32 × (Nat → Int32) × Int32 × Int32 × (Nat → Int32)) (u : Int32 × Int32 × Int32 × Int32 × (Nat → Int32) × Int32 × Int32 × (Nat → Int32) × Int32 × (Nat → Int32) × (Nat → Int32) × (Nat → Int32) × (Nat → Int32) × (Nat → Int32)) : Prop := (∃ f n h c p, gok f n ∧ sok h c p ∧ UN f n h c p v.2.1 v.2.2.1 v.2.2.2.1 v.2.2.2.2.1 v.2.2.2.2.2.1 v.2.2.2.2.2.2.1 v.2.2.2.2.2.2.2.1 v.2.2.2.2.2.2.2.2.1 v.2.2.2.2.2.2.2.2.2.1 v.2.2.2.2.2.2.2.2.2.2.1 v.2.2.2.2.2.2.2.2.2.2.2.1 v.2.2.2.2.2.2.2.2.2.2.2.2.1 v.2.2.2.2.2.2.2.2.2.2.2.2.2.1 ∧ VN f n h c p u.2.1 u.2.2.1 u.2.2.2.1 u.2.2.2.2.1 u.2.2.2.2.2.1 u.2.2.2.2.2.2.1 u.2.2.2.2.2.2.2.1 u.2.2.2.2.2.2.2.2.1) ∧ SH v.2.2.2.2.2.2.2.2.2.2.2.2.2.2 u.2.2.2.2.2.2.2.2.2.1 u.2.2.2.2.2.2.2.2.2.2.1 u.2.2.2.2.2.2.2.2.2.2.2.1 u.2.2.2.2.2.2.2.2.2.2.2.2.1 u.2.2.2.2.2.2.2.2.2.2.2.2.2
theorem rs_back (hI : IM ip ish hi f1 n1 h1 c1 p1 fa1 nn1 hh1 cc1 pp1) (a1 a2 a3 a4 a5 mk ck b1 b2 b3 b4 b5 al : Int32) : ∃ v u, fX5_back a1 a2 a3 P I O C Z a4 a5 w mk ck sh ish ip = some v ∧ fX6_back b1 b2 b3 T b4 b5 w' al fa nn hh cc pp hi f1 n1 h1 c1 p1 fa1 nn1 hh1 cc1 pp1 = some u ∧ v.1 = u.1 ∧ ((v.2 = (a1, a2, a3, P, I, O, C, Z, a4, a5, w, mk, ck, sh) ∧ u.2 = (b1, b2, b3, T, b4, b5, w', al, fa, nn, hh, cc, pp)) ∨ BV v u) := by
  unfold fX5_back fX6_back
  rcases hI with ⟨rfl, rfl⟩ | ⟨hi0, ⟨f, n, h, c, p, h0⟩, hS⟩
  · exact ⟨_, _, rfl, rfl, rfl, Or.inl ⟨rfl, rfl⟩⟩
  · have ip0 := (SF_pos h0).1
    obtain ⟨t, ht, hU⟩ := sC_unpackU (P := P) (I := I) (O := O) (C := C) (Z := Z) h0 w
    obtain ⟨g, hs, e0, e1, e2, e3, e4, e5⟩ := h0
    have h2 := hs.2.1
    obtain ⟨d, hd, hc⟩ := sM_copyAll p1 fa1 nn1 hh1 cc1 pp1 w' fa nn hh cc pp
    obtain ⟨t10, ht10, u1, u2, u3⟩ := sM_layTable g T
    rw [L44_is, if_neg ip0, if_neg hi0, ht, hd, e1, e2]
    refine ⟨(t.2.2.1, t.1, t.2.1, t.2.2.1, t.2.2.2.1, t.2.2.2.2.1, t.2.2.2.2.2.1, t.2.2.2.2.2.2.1, t.2.2.2.2.2.2.2.1, t.2.2.2.2.2.2.2.2.1, t.2.2.2.2.2.2.2.2.2.1, t.2.2.2.2.2.2.2.2.2.2.1, t.2.2.2.2.2.2.2.2.2.2.2.1, t.2.2.2.2.2.2.2.2.2.2.2.2, va_cpy ish sh 0 0 4), (t10.1, nI f, nI n, t10.1, t10.2.1, h1, c1, d.1, t10.2.2, d.2), rfl, ?_, ?_, Or.inr ⟨⟨f, n, h, c, p, g, hs, hU, rfl, rfl, u1, u2, e3, e4, fun i hi => ?_, u3⟩, ?_⟩⟩
    · exact pw_val (pw_eq rfl (pw_eq ht10 (pw_some rfl)))
    · show t.2.2.1 = t10.1
      rw [u1]; exact hU.2.2.1
    · show d.1 i = _
      rw [(hc i (by omega)).1]; exact e5 i hi
    · exact SH_cong hS (fun i hi => sb_cpy0 hi) (fun i hi => (hc i hi).2.1) (fun i hi => (hc i hi).2.2.1) (fun i hi => (hc i hi).2.2.2.1) (fun i hi => (hc i hi).2.2.2.2.1) (fun i hi => (hc i hi).2.2.2.2.2)
end USE
