/-! SHELVES, on both sides -/
def SF (f n h c : Nat) (p : Nat → Nat) (x fa nn hh cc : Int32) (q : Nat → Int32) : Prop := gok f n ∧ sok h c p ∧ x = nI (pkd f n h c p) ∧ fa = nI f ∧ nn = nI n ∧ hh = nI h ∧ cc = nI c ∧ ∀ j, j < c → q j = nI (p j)
def SE (x fa nn hh cc : Int32) (q : Nat → Int32) : Prop := (x = 0 ∧ fa = (-1 : Int32)) ∨ ∃ f n h c p, SF f n h c p x fa nn hh cc q
def SH (sh fa nn hh cc pp : Nat → Int32) : Prop := ∀ i, i < 4 → SE (sh i) (fa i) (nn i) (hh i) (cc i) (fun j => pp (4 * i + j))
section SH1
variable {f n h c f' n' h' c' : Nat} {p p' : Nat → Nat} {x fa nn hh cc : Int32} {q : Nat → Int32}
theorem pkd_rng (g : gok f n) (hs : sok h c p) : 0 < pkd f n h c p ∧ pkd f n h c p < 2 ^ 31 := by
  have l := cd_p_lt hs
  have f4 := g.1
  have n1 := g.2.1
  have n2 := g.2.2
  have gm := gmost_le f
  have h1 := hs.1
  unfold pkd
  omega
theorem pkd_inj (g : gok f n) (hs : sok h c p) (g' : gok f' n') (hs' : sok h' c' p') (e : pkd f n h c p = pkd f' n' h' c' p') : f = f' ∧ n = n' ∧ h = h' ∧ c = c' ∧ ∀ i, i < c → p i = p' i := by
  have l := cd_p_lt hs
  have l' := cd_p_lt hs'
  have n2 := g.2.2
  have gm := gmost_le f
  have n2' := g'.2.2
  have gm' := gmost_le f'
  obtain ⟨h1, h2, h3⟩ := hs
  obtain ⟨h1', h2', h3'⟩ := hs'
  unfold pkd at e
  have e1 : cd c p = cd c' p' := by omega
  have t := take_dg (c := c) (p := p) (by omega) h3
  have t' := take_dg (c := c') (p := p') (by omega) h3'
  rw [← e1] at t'
  have ec : c = c' := by
    rcases Nat.lt_trichotomy c c' with r | r | r
    · have a := t (4 - c') (by omega)
      have b := t' (4 - c') (by omega)
      rw [a, if_pos (by omega), if_neg (by omega), show 4 - c' + c' - 4 = 0 by omega] at b
      have := h3' 0 (by omega)
      omega
    · exact r
    · have a := t (4 - c) (by omega)
      have b := t' (4 - c) (by omega)
      rw [b, if_pos (by omega), if_neg (by omega), show 4 - c + c - 4 = 0 by omega] at a
      have := h3 0 (by omega)
      omega
  subst ec
  refine ⟨by omega, by omega, by omega, rfl, fun i hi => ?_⟩
  have a := t (4 - c + i) (by omega)
  have b := t' (4 - c + i) (by omega)
  rw [a, if_neg (by omega), if_neg (by omega), show 4 - c + i + c - 4 = i by omega] at b
  exact b
theorem SF_pos (h0 : SF f n h c p x fa nn hh cc q) : x ≠ 0 ∧ ¬ fa < 0 := by
  obtain ⟨g, hs, rfl, rfl, _⟩ := h0
  have r := pkd_rng g hs
  exact ⟨nI_ne0 r.1 r.2, nI_pos (by have := g.1; omega)⟩
theorem SE_empty (h0 : SE x fa nn hh cc q) : (x = 0 ↔ fa < 0) := by
  rcases h0 with ⟨rfl, rfl⟩ | ⟨f, n, h, c, p, h0⟩
  · exact ⟨fun _ => by decide, fun _ => rfl⟩
  · have := SF_pos h0
    exact ⟨fun z => absurd z this.1, fun z => absurd z this.2⟩
theorem SE_full (h0 : SE x fa nn hh cc q) (hx : x ≠ 0) : ∃ f n h c p, SF f n h c p x fa nn hh cc q := by
  rcases h0 with ⟨z, _⟩ | h0
  · exact absurd z hx
  · exact h0
theorem SE_cong {q' : Nat → Int32} (h0 : SE x fa nn hh cc q) (e : ∀ j, j < 4 → q' j = q j) : SE x fa nn hh cc q' := by
  rcases h0 with z | ⟨f, n, h, c, p, g, hs, a, b, d, e1, e2, e3⟩
  · exact Or.inl z
  · exact Or.inr ⟨f, n, h, c, p, g, hs, a, b, d, e1, e2, fun j hj => by have := hs.2.1; rw [e j (by omega)]; exact e3 j hj⟩
end SH1
section SH2
variable {f n h c : Nat} {p : Nat → Nat} {sh fa nn hh cc pp w w' : Nat → Int32}
theorem sC_isShelf (x : Int32) : fX5_isShelf x = some (if ie x 4 then 1 else 0) := by
  unfold fX5_isShelf
  by_cases q : ie x 4
  · obtain ⟨k, k1, rfl⟩ := ie_of q (by decide)
    rw [if_pos q]
    exact pw_val (pw_F (nI_pos (by omega)) (pw_le (a := 4) (by decide) (by omega) (fun y => absurd y (by omega)) (fun _ => pw_some rfl)))
  · rw [if_neg q]
    refine pw_val (pw_if (fun y => pw_some rfl) (fun y => ?_))
    obtain ⟨k, k1, rfl⟩ := nI_of y
    exact pw_le (a := 4) (by decide) k1 (fun _ => pw_some rfl) (fun y => absurd ((ie_nI k1).mpr y) q)
theorem sM_isShelf (x : Int32) : fX6_in x (0 : Int32) (3 : Int32) = some (if ie x 4 then 1 else 0) := by
  have := sM_inP (c := 4) x (by decide)
  rwa [show nI 4 - (1 : Int32) = 3 from by decide] at this
def nsh (sh : Nat → Int32) : Nat := fb_ct (fun i => decide (sh i ≠ 0)) 4
theorem sC_inUse (sh : Nat → Int32) : fX5_shelvesInUse sh = some (nI (nsh sh)) := by
  unfold fX5_shelvesInUse
  refine pw_val (pw_bind (R := fun v => v = nI (nsh sh)) ?_ (fun t ht => pw_some ht))
  refine pw_run (fun i s => s = (nI (fb_ct (fun i => decide (sh i ≠ 0)) i), nI i)) 0 4 (by decide) rfl (Nat.zero_le _) ?_
  rintro i _ hi rfl
  show pw (fX5_shelvesInUse_L4 sh (nI (fb_ct (fun i => decide (sh i ≠ 0)) i)) (nI i)) _
  unfold fX5_shelvesInUse_L4 fX5_shelvesInUse_J21L4
  refine pw_le (a := 4) (by decide) (by omega) (fun z => pw_out (by rw [show i = 4 by omega]; rfl)) (fun z => pw_rd (by omega) (by decide) (pw_if (fun y => pw_in ⟨z, ?_⟩) (fun y => pw_in ⟨z, ?_⟩)))
  · rw [fb_ct_succ, decide_eq_false (fun v => v y), show (nI i + (1 : Int32)) = nI (i + 1) from nI_add i 1]; rfl
  · rw [fb_ct_succ, decide_eq_true y, if_pos rfl, show (nI i + (1 : Int32)) = nI (i + 1) from nI_add i 1, show (nI (fb_ct (fun i => decide (sh i ≠ 0)) i) + (1 : Int32)) = nI (fb_ct (fun i => decide (sh i ≠ 0)) i + 1) from nI_add _ 1]
theorem sM_many (hS : SH sh fa nn hh cc pp) : fX6_shelvesMany fa = some (nI (nsh sh)) := by
  unfold fX6_shelvesMany
  refine pw_val (pw_bind (R := fun v => v = nI (nsh sh)) ?_ (fun t ht => pw_some ht))
  refine pw_run (fun i s => s = (nI (fb_ct (fun i => decide (sh i ≠ 0)) i), nI i)) 0 4 (by decide) rfl (Nat.zero_le _) ?_
  rintro i _ hi rfl
  show pw (fX6_shelvesMany_L4 fa (nI (fb_ct (fun i => decide (sh i ≠ 0)) i)) (nI i)) _
  unfold fX6_shelvesMany_L4 fX6_shelvesMany_J24L4
  refine pw_le (a := 4) (by decide) (by omega) (fun z => pw_out (by rw [show i = 4 by omega]; rfl)) (fun z => pw_rd (by omega) (by decide) ?_)
  have em := SE_empty (hS i z)
  refine pw_if (fun y => pw_in ⟨z, ?_⟩) (fun y => pw_in ⟨z, ?_⟩)
  · rw [fb_ct_succ, decide_eq_false (fun v => v (em.mpr y)), show (nI i + (1 : Int32)) = nI (i + 1) from nI_add i 1, show (nI (fb_ct (fun i => decide (sh i ≠ 0)) i) + (0 : Int32)) = nI (fb_ct (fun i => decide (sh i ≠ 0)) i + 0) from nI_add _ 0]; rfl
  · rw [fb_ct_succ, decide_eq_true (show sh i ≠ 0 from fun v => y (em.mp v)), if_pos rfl, show (nI i + (1 : Int32)) = nI (i + 1) from nI_add i 1, show (nI (fb_ct (fun i => decide (sh i ≠ 0)) i) + (1 : Int32)) = nI (fb_ct (fun i => decide (sh i ≠ 0)) i + 1) from nI_add _ 1]
theorem four_i (x y : Nat) : ((4 : Int32) * nI x) + nI y = nI (4 * x + y) := by rw [show (4 : Int32) = nI 4 from rfl, pk_mul, nI_add]
theorem sM_keepRow (hc : c ≤ 4) {k : Nat} (hk : k < 4) (pp : Nat → Int32) : pw (pz_iter (fun (σ : Int32 × (Nat → Int32)) => fX6_keep_L54 (nI k) (nI c) w' σ.1 σ.2) pz_FUEL ((0 : Int32), pp)) (fun v => ∀ i, i < 16 → v i = if 4 * k ≤ i ∧ i < 4 * k + c then w' (i - 4 * k) else pp i) := by
  refine pw_run (fun j s => ∃ v, s = (nI j, v) ∧ ∀ i, i < 16 → v i = if 4 * k ≤ i ∧ i < 4 * k + j then w' (i - 4 * k) else pp i) 0 c (by omega) ⟨pp, rfl, fun i _ => by rw [if_neg (by omega)]⟩ (Nat.zero_le _) ?_
  rintro j _ hj ⟨v, rfl, i1⟩
  show pw (fX6_keep_L54 (nI k) (nI c) w' (nI j) v) _
  unfold fX6_keep_L54
  refine pw_le (by omega) (by omega) (fun z => pw_out (fun i hi => by rw [i1 i hi, show c = j by omega])) (fun z => pw_rd (by omega) (by decide) ?_)
  rw [four_i]
  refine pw_wr (by omega) (by decide) (pw_in ⟨z, _, by rw [show (nI j + (1 : Int32)) = nI (j + 1) from nI_add j 1], fun i hi => ?_⟩)
  by_cases y : i = 4 * k + j
  · rw [y, upd_s, if_pos (by omega), show 4 * k + j - 4 * k = j by omega]
  · rw [upd_n y, i1 i hi]
    by_cases r : 4 * k ≤ i ∧ i < 4 * k + j
    · rw [if_pos r, if_pos (by omega)]
    · rw [if_neg r, if_neg (by omega)]
theorem SH_put (hS : SH sh fa nn hh cc pp) {k : Nat} (hk : k < 4) {x1 x2 x3 x4 x5 : Int32} {pp' : Nat → Int32} (hn : ∀ i, i < 16 → (i < 4 * k ∨ 4 * k + 4 ≤ i) → pp' i = pp i) (h0 : SE x1 x2 x3 x4 x5 (fun j => pp' (4 * k + j))) : SH (upd sh k x1) (upd fa k x2) (upd nn k x3) (upd hh k x4) (upd cc k x5) pp' := by
  intro i hi
  by_cases y : i = k
  · rw [y, upd_s, upd_s, upd_s, upd_s, upd_s]; exact h0
  · rw [upd_n y, upd_n y, upd_n y, upd_n y, upd_n y]
    exact SE_cong (hS i hi) (fun j hj => hn _ (by omega) (by omega))
theorem rs_keep (g : gok f n) (hs : sok h c p) (hw : ∀ i, i < c → w i = nI (p i)) (hw' : ∀ i, i < c → w' i = nI (p i)) (hS : SH sh fa nn hh cc pp) (x1 : Int32) : ∃ v u, fX5_keep x1 (nI f) (nI n) (nI h) (nI c) w sh = some v ∧ fX6_keep x1 (nI f) (nI n) (nI h) (nI c) w' fa nn hh cc pp = some u ∧ v.1 = u.1 ∧ SH v.2 u.2.1 u.2.2.1 u.2.2.2.1 u.2.2.2.2.1 u.2.2.2.2.2 := by
  have h2 := hs.2.1
  unfold fX5_keep fX6_keep
  rw [sC_isShelf, sM_isShelf]
  by_cases q : ie x1 4
  · obtain ⟨k, k1, rfl⟩ := ie_of q (by decide)
    rw [if_pos q]
    obtain ⟨pp', hp', hp⟩ := sM_keepRow (c := c) (w' := w') (by omega) k1 pp
    have new : SH (upd sh k (nI (pkd f n h c p))) (upd fa k (nI f)) (upd nn k (nI n)) (upd hh k (nI h)) (upd cc k (nI c)) pp' := by
      refine SH_put hS k1 (fun i hi hi2 => by rw [hp i hi, if_neg (by omega)]) (Or.inr ⟨f, n, h, c, p, g, hs, rfl, rfl, rfl, rfl, rfl, fun j hj => ?_⟩)
      show pp' (4 * k + j) = _
      rw [hp _ (by omega), if_pos (by omega), show 4 * k + j - 4 * k = j by omega]
      exact hw' j hj
    refine ⟨(nI (nsh (upd sh k (nI (pkd f n h c p)))), upd sh k (nI (pkd f n h c p))), (nI (nsh (upd sh k (nI (pkd f n h c p)))), upd fa k (nI f), upd nn k (nI n), upd hh k (nI h), upd cc k (nI c), pp'), ?_, ?_, rfl, new⟩
    · exact pw_val (pw_eq rfl (pw_F (by decide) (pw_eq (sC_packed hs hw) (pw_wr k1 (by decide) (pw_eq (sC_inUse _) (pw_some rfl))))))
    · exact pw_val (pw_eq rfl (pw_F (by decide) (pw_wr k1 (by decide) (pw_wr k1 (by decide) (pw_wr k1 (by decide) (pw_wr k1 (by decide) (pw_eq hp' (pw_eq (sM_many new) (pw_some rfl)))))))))
  · rw [if_neg q]
    exact ⟨((-2 : Int32), sh), ((-2 : Int32), fa, nn, hh, cc, pp), pw_val (pw_eq rfl (pw_T rfl (pw_some rfl))), pw_val (pw_eq rfl (pw_T rfl (pw_some rfl))), rfl, hS⟩
theorem rs_empty (hS : SH sh fa nn hh cc pp) (x1 : Int32) : ∃ v u, fX5_empty x1 sh = some v ∧ fX6_empty x1 fa = some u ∧ v.1 = u.1 ∧ SH v.2 u.2 nn hh cc pp := by
  unfold fX5_empty fX6_empty
  rw [sC_isShelf, sM_isShelf]
  by_cases q : ie x1 4
  · obtain ⟨k, k1, rfl⟩ := ie_of q (by decide)
    rw [if_pos q]
    have em := SE_empty (hS k k1)
    have new : SH (upd sh k 0) (upd fa k (-1 : Int32)) nn hh cc pp := by
      intro i hi
      by_cases y : i = k
      · rw [y, upd_s, upd_s]; exact Or.inl ⟨rfl, rfl⟩
      · rw [upd_n y, upd_n y]; exact hS i hi
    by_cases r : sh k = 0
    · refine ⟨((0 : Int32), upd sh k 0), ((0 : Int32), upd fa k (-1 : Int32)), ?_, ?_, rfl, new⟩
      · exact pw_val (pw_eq rfl (pw_F (by decide) (pw_rd k1 (by decide) (pw_wr k1 (by decide) (pw_T r (pw_some rfl))))))
      · unfold fX6_empty_J26
        exact pw_val (pw_eq rfl (pw_F (by decide) (pw_rd k1 (by decide) (pw_T (em.mp r) (pw_wr k1 (by decide) (pw_some rfl))))))
    · refine ⟨((1 : Int32), upd sh k 0), ((1 : Int32), upd fa k (-1 : Int32)), ?_, ?_, rfl, new⟩
      · exact pw_val (pw_eq rfl (pw_F (by decide) (pw_rd k1 (by decide) (pw_wr k1 (by decide) (pw_F r (pw_some rfl))))))
      · unfold fX6_empty_J26
        exact pw_val (pw_eq rfl (pw_F (by decide) (pw_rd k1 (by decide) (pw_F (fun y => r (em.mpr y)) (pw_wr k1 (by decide) (pw_some rfl))))))
  · rw [if_neg q]
    exact ⟨((-2 : Int32), sh), ((-2 : Int32), fa), pw_val (pw_eq rfl (pw_T rfl (pw_some rfl))), pw_val (pw_eq rfl (pw_T rfl (pw_some rfl))), rfl, hS⟩
end SH2
