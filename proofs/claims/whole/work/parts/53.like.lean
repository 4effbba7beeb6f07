/-! SHELVES that are like each other -/
section LIKE
variable {f n h c f' n' h' c' : Nat} {p p' : Nat → Nat} {x fa1 nn1 hh1 cc1 x' fa2 nn2 hh2 cc2 : Int32} {q q' : Nat → Int32} {sh fa nn hh cc pp : Nat → Int32}
theorem SF_eq (a : SF f n h c p x fa1 nn1 hh1 cc1 q) (b : SF f' n' h' c' p' x' fa2 nn2 hh2 cc2 q') : x = x' ↔ fa1 = fa2 ∧ nn1 = nn2 ∧ hh1 = hh2 ∧ cc1 = cc2 ∧ ∀ j, j < c → q j = q' j := by
  obtain ⟨g, hs, rfl, rfl, rfl, rfl, rfl, a1⟩ := a
  obtain ⟨g', hs', rfl, rfl, rfl, rfl, rfl, b1⟩ := b
  have r := pkd_rng g hs
  have r' := pkd_rng g' hs'
  have f4 := g.1
  have f4' := g'.1
  have n2 := g.2.2
  have n2' := g'.2.2
  have gm := gmost_le f
  have gm' := gmost_le f'
  have h1 := hs.1
  have h1' := hs'.1
  have h2 := hs.2.1
  have h2' := hs'.2.1
  rw [nI_eq r.2 r'.2, nI_eq (a := f) (by omega) (by omega), nI_eq (a := n) (by omega) (by omega), nI_eq (a := h) (by omega) (by omega), nI_eq (a := c) (by omega) (by omega)]
  constructor
  · intro e
    obtain ⟨e1, e2, e3, e4, e5⟩ := pkd_inj g hs g' hs' e
    subst e4
    exact ⟨e1, e2, e3, rfl, fun j hj => by rw [a1 j hj, b1 j hj, e5 j hj]⟩
  · rintro ⟨e1, e2, e3, e4, e5⟩
    subst e1; subst e2; subst e3; subst e4
    have : cd c p = cd c p' := cd_cong c (fun i hi => by
      have := e5 i hi
      rw [a1 i hi, b1 i hi] at this
      have p1 := hs.2.2 i hi
      have p2 := hs'.2.2 i hi
      exact (nI_eq (by omega) (by omega)).mp this)
    unfold pkd
    rw [this]
theorem sM_areLoop {i k : Nat} (hi : i < 4) (hk : k < 4) (hc : cc i = nI c) (c4 : c ≤ 4) (b0 : Bool) : pw (fX6_areLike_J65 (nI i) (nI k) (bi b0) cc pp) (fun v => v = bi (b0 && allB c (fun j => decide (pp (4 * i + j) = pp (4 * k + j))))) := by
  unfold fX6_areLike_J65
  refine pw_bind (R := fun v => v = bi (b0 && allB c (fun j => decide (pp (4 * i + j) = pp (4 * k + j))))) ?_ (fun t ht => by subst ht; exact pw_zb (bi_z _) (pw_some rfl))
  refine pw_run (fun j s => s = (bi (b0 && allB j (fun j => decide (pp (4 * i + j) = pp (4 * k + j)))), nI j)) 0 c (by omega) (by show (bi b0, (0 : Int32)) = _; rw [allB, Bool.and_true]; rfl) (Nat.zero_le _) ?_
  rintro j _ hj rfl
  show pw (fX6_areLike_L69 (nI i) (nI k) cc pp (bi (b0 && allB j (fun j => decide (pp (4 * i + j) = pp (4 * k + j))))) (nI j)) _
  unfold fX6_areLike_L69 fX6_areLike_J114L69
  refine pw_rd (by omega) (by decide) ?_
  rw [hc]
  refine pw_le (by omega) (by omega) (fun z => pw_out (by rw [show c = j by omega])) (fun z => ?_)
  rw [four_i, four_i]
  cases r : (b0 && allB j (fun j => decide (pp (4 * i + j) = pp (4 * k + j)))) with
  | false =>
    refine pw_T rfl (pw_out ?_)
    have : (b0 && allB c (fun j => decide (pp (4 * i + j) = pp (4 * k + j)))) = false := by
      cases b0 with
      | false => rfl
      | true =>
        rw [Bool.true_and] at r ⊢
        cases y : allB c (fun j => decide (pp (4 * i + j) = pp (4 * k + j))) with
        | false => rfl
        | true => rw [← r]; exact (allB_iff.mpr (fun t ht => allB_at y t (by omega))).symm
    rw [this]
  | true =>
    refine pw_F (by decide) (pw_rd (by omega) (by decide) (pw_rd (by omega) (by decide) (pw_if (fun y => pw_in ⟨z, ?_⟩) (fun y => pw_in ⟨z, ?_⟩))))
    · rw [show (nI j + (1 : Int32)) = nI (j + 1) from nI_add j 1, allB, decide_eq_true y, Bool.true_and, r]; rfl
    · rw [show (nI j + (1 : Int32)) = nI (j + 1) from nI_add j 1, allB, decide_eq_false y, Bool.false_and, Bool.and_false]; rfl
theorem sM_areLike (hS : SH sh fa nn hh cc pp) {i k : Nat} (hi : i < 4) (hk : k < 4) (h1 : sh i ≠ 0) (h2 : sh k ≠ 0) : fX6_areLike (nI i) (nI k) fa nn hh cc pp = some (bi (decide (sh i = sh k))) := by
  obtain ⟨f, n, h, c, p, a⟩ := SE_full (hS i hi) h1
  obtain ⟨f', n', h', c', p', b⟩ := SE_full (hS k hk) h2
  have e := SF_eq a b
  have hc : cc i = nI c := a.2.2.2.2.2.2.1
  have c4 : c ≤ 4 := by have := a.2.1.2.1; omega
  have fin : ∀ b0 : Bool, (b0 && allB c (fun j => decide (pp (4 * i + j) = pp (4 * k + j)))) = decide (sh i = sh k) → pw (fX6_areLike_J65 (nI i) (nI k) (bi b0) cc pp) (fun v => v = bi (decide (sh i = sh k))) := fun b0 hb => by
    rw [← hb]; exact sM_areLoop hi hk hc c4 b0
  have no : sh i ≠ sh k → pw (fX6_areLike_J64 (nI i) (nI k) cc pp) (fun v => v = bi (decide (sh i = sh k))) := fun z => by
    unfold fX6_areLike_J64
    exact fin false (by rw [decide_eq_false z]; rfl)
  unfold fX6_areLike
  refine pw_val (pw_rd hi (by decide) (pw_rd hk (by decide) (pw_if (fun y1 => ?_) (fun y => no (fun z => y (e.mp z).1)))))
  refine pw_rd hi (by decide) (pw_rd hk (by decide) (pw_if (fun y2 => ?_) (fun y => no (fun z => y (e.mp z).2.1))))
  refine pw_rd hi (by decide) (pw_rd hk (by decide) (pw_if (fun y3 => ?_) (fun y => no (fun z => y (e.mp z).2.2.1))))
  refine pw_rd hi (by decide) (pw_rd hk (by decide) (pw_if (fun y4 => ?_) (fun y => no (fun z => y (e.mp z).2.2.2.1))))
  refine fin true ?_
  rw [Bool.true_and]
  cases y : allB c (fun j => decide (pp (4 * i + j) = pp (4 * k + j))) with
  | true => exact (decide_eq_true (e.mpr ⟨y1, y2, y3, y4, fun j hj => by simpa using allB_at y j hj⟩)).symm
  | false =>
    refine (decide_eq_false (fun z => ?_)).symm
    have := allB_iff.mpr (fun j hj => decide_eq_true ((e.mp z).2.2.2.2 j hj))
    rw [this] at y; cases y
def fl (sh : Nat → Int32) (k : Nat) : Nat := fa_first (fun l => decide (sh l = sh k)) k
theorem fl_le (sh : Nat → Int32) (k : Nat) : fl sh k ≤ k := fa_first_le _ k
theorem fl_self {k : Nat} (h : ∀ j, j < k → sh j ≠ sh k) : fl sh k = k := by
  have l := fl_le sh k
  rcases Nat.lt_or_ge (fl sh k) k with r | r
  · have := fa_first_yes (fun l => decide (sh l = sh k)) k r
    exact absurd (of_decide_eq_true this) (h _ r)
  · omega
theorem fl_at {k i : Nat} (hi : i < k) (h1 : sh i = sh k) (h : ∀ j, j < i → sh j ≠ sh k) : fl sh k = i := fa_first_eq hi (decide_eq_true h1) (fun j hj => decide_eq_false (h j hj))
theorem sC_firstLike {k : Nat} (hk : k < 4) : fX5_firstLike (nI k) sh = some (nI (fl sh k)) := by
  unfold fX5_firstLike
  refine pw_val (pw_bind (R := fun v => (v = Sum.inl () ∧ fl sh k = k) ∨ v = Sum.inr (nI (fl sh k))) ?_ ?_)
  · refine pw_run (fun i s => s = nI i ∧ ∀ j, j < i → sh j ≠ sh k) 0 k (by omega) ⟨rfl, fun j hj => absurd hj (Nat.not_lt_zero j)⟩ (Nat.zero_le _) ?_
    rintro i _ hi ⟨rfl, i1⟩
    show pw (fX5_firstLike_L2 (nI k) sh (nI i)) _
    unfold fX5_firstLike_L2
    refine pw_le (by omega) (by omega) (fun z => pw_out (Or.inl ⟨rfl, fl_self (fun j hj => i1 j (by omega))⟩)) (fun z => ?_)
    refine pw_rd (by omega) (by decide) (pw_rd hk (by decide) (pw_if (fun y => pw_out (Or.inr ?_)) (fun y => pw_in ⟨z, nI_add i 1, fun j hj => ?_⟩)))
    · rw [fl_at z y i1]
    · by_cases r : j = i
      · rw [r]; exact y
      · exact i1 j (by omega)
  · rintro v (⟨rfl, r⟩ | rfl)
    · exact pw_some (by rw [r])
    · exact pw_some rfl
theorem sM_firstLike (hS : SH sh fa nn hh cc pp) {k : Nat} (hk : k < 4) (h0 : sh k ≠ 0) : fX6_firstLike (nI k) fa nn hh cc pp = some (nI (fl sh k)) := by
  unfold fX6_firstLike
  refine pw_val (pw_bind (R := fun v => v = nI (fl sh k)) ?_ (fun t ht => pw_some ht))
  refine pw_run (fun i s => s = nI i ∧ ∀ j, j < i → sh j ≠ sh k) 0 k (by omega) ⟨rfl, fun j hj => absurd hj (Nat.not_lt_zero j)⟩ (Nat.zero_le _) ?_
  rintro i _ hi ⟨rfl, i1⟩
  show pw (fX6_firstLike_L2 (nI k) fa nn hh cc pp (nI i)) _
  unfold fX6_firstLike_L2 fX6_firstLike_J20L2
  have em := SE_empty (hS i (by omega))
  have step : sh i ≠ sh k → i < k ∧ nI i + (1 : Int32) = nI (i + 1) ∧ ∀ j, j < i + 1 → sh j ≠ sh k := fun y => by
    refine ⟨?_, nI_add i 1, fun j hj => ?_⟩
    · rcases Nat.lt_or_ge i k with r | r
      · exact r
      · exact absurd (by rw [show i = k by omega]) y
    · by_cases r : j = i
      · rw [r]; exact y
      · exact i1 j (by omega)
  refine pw_rd (by omega) (by decide) (pw_if (fun z => pw_in (step (fun y => h0 (by rw [← y]; exact em.mpr z)))) (fun z => ?_))
  have hi0 : sh i ≠ 0 := fun y => z (em.mp y)
  refine pw_eq (sM_areLike hS (by omega) hk hi0 h0) ?_
  by_cases y : sh i = sh k
  · rw [decide_eq_true y]
    refine pw_F (c := bi true = 0) (by decide) (pw_out ?_)
    rcases Nat.lt_or_ge i k with r | r
    · rw [fl_at r y i1]
    · rw [fl_self (fun j hj => i1 j (by omega)), show i = k by omega]
  · rw [decide_eq_false y]
    exact pw_T (c := bi false = 0) rfl (pw_in (step y))
theorem rs_like (hS : SH sh fa nn hh cc pp) (x1 : Int32) : same (fX5_like x1 sh) (fX6_like x1 fa nn hh cc pp) := by
  unfold fX5_like fX6_like
  rw [sC_isShelf, sM_isShelf]
  by_cases q : ie x1 4
  · obtain ⟨k, k1, rfl⟩ := ie_of q (by decide)
    rw [if_pos q]
    have em := SE_empty (hS k k1)
    by_cases r : sh k = 0
    · refine same_of (r := -3) (pw_val (pw_eq rfl (pw_F (by decide) (pw_rd k1 (by decide) (pw_T r (pw_some rfl)))))) (pw_val (pw_eq rfl (pw_F (by decide) (pw_rd k1 (by decide) (pw_F (fun y => ?_) (pw_some rfl))))))
      have z := em.mp r
      have y : (0 : Int32) ≤ fa k := y
      rw [fa_le] at y
      rw [fa_lt] at z
      omega
    · have z : ¬ fa k < 0 := fun y => r (em.mpr y)
      have z2 : (0 : Int32) ≤ fa k := by
        rw [fa_le]
        rw [fa_lt] at z
        omega
      exact same_of (r := nI (fl sh k)) (pw_val (pw_eq rfl (pw_F (by decide) (pw_rd k1 (by decide) (pw_F r (pw_eq (sC_firstLike k1) (pw_some rfl))))))) (pw_val (pw_eq rfl (pw_F (by decide) (pw_rd k1 (by decide) (pw_T z2 (pw_eq (sM_firstLike hS k1 r) (pw_some rfl)))))))
  · rw [if_neg q]
    exact same_of (r := -2) (pw_val (pw_eq rfl (pw_T rfl (pw_some rfl)))) (pw_val (pw_eq rfl (pw_T rfl (pw_some rfl))))
def ul (sh : Nat → Int32) (i : Nat) : Bool := decide (sh i ≠ 0 ∧ fl sh i = i)
theorem sC_unlike : fX5_unlike sh = some (nI (fb_ct (ul sh) 4)) := by
  unfold fX5_unlike
  refine pw_val (pw_bind (R := fun v => v = nI (fb_ct (ul sh) 4)) ?_ (fun t ht => pw_some ht))
  refine pw_run (fun i s => s = (nI (fb_ct (ul sh) i), nI i)) 0 4 (by decide) rfl (Nat.zero_le _) ?_
  rintro i _ hi rfl
  show pw (fX5_unlike_L4 sh (nI (fb_ct (ul sh) i)) (nI i)) _
  unfold fX5_unlike_L4 fX5_unlike_J30L4
  have nxt : (nI i + (1 : Int32)) = nI (i + 1) := nI_add i 1
  refine pw_le (a := 4) (by decide) (by omega) (fun z => pw_out (by rw [show i = 4 by omega])) (fun z => pw_rd (by omega) (by decide) (pw_if (fun y => pw_in ⟨z, ?_⟩) (fun y => pw_eq (sC_firstLike z) ?_)))
  · rw [fb_ct_succ, show ul sh i = false from decide_eq_false (fun v => v.1 y), nxt]; rfl
  · have l := fl_le sh i
    refine pw_eqn (by omega) (by omega) (fun r => pw_in ⟨z, ?_⟩) (fun r => pw_in ⟨z, ?_⟩)
    · rw [fb_ct_succ, show ul sh i = true from decide_eq_true ⟨y, r⟩, if_pos rfl, nxt, show (nI (fb_ct (ul sh) i) + (1 : Int32)) = nI (fb_ct (ul sh) i + 1) from nI_add _ 1]
    · rw [fb_ct_succ, show ul sh i = false from decide_eq_false (fun v => r v.2), nxt]; rfl
theorem sM_unlike (hS : SH sh fa nn hh cc pp) : fX6_unlike fa nn hh cc pp = some (nI (fb_ct (ul sh) 4)) := by
  unfold fX6_unlike
  refine pw_val (pw_bind (R := fun v => v = nI (fb_ct (ul sh) 4)) ?_ (fun t ht => pw_some ht))
  refine pw_run (fun i s => s = (nI (fb_ct (ul sh) i), nI i)) 0 4 (by decide) rfl (Nat.zero_le _) ?_
  rintro i _ hi rfl
  show pw (fX6_unlike_L4 fa nn hh cc pp (nI (fb_ct (ul sh) i)) (nI i)) _
  unfold fX6_unlike_L4 fX6_unlike_J32L4 fX6_unlike_J33L4
  have nxt : (nI i + (1 : Int32)) = nI (i + 1) := nI_add i 1
  refine pw_le (a := 4) (by decide) (by omega) (fun z => pw_out (by rw [show i = 4 by omega])) (fun z => ?_)
  have em := SE_empty (hS i z)
  have no : ul sh i = false → (nI (fb_ct (ul sh) i) + (0 : Int32), nI i + (1 : Int32)) = (nI (fb_ct (ul sh) (i + 1)), nI (i + 1)) := fun r => by
    rw [fb_ct_succ, r, nxt, show (nI (fb_ct (ul sh) i) + (0 : Int32)) = nI (fb_ct (ul sh) i + 0) from nI_add _ 0]; rfl
  refine pw_rd (by omega) (by decide) (pw_if (fun y => pw_in ⟨z, no (decide_eq_false (fun v => v.1 (em.mpr y)))⟩) (fun y => ?_))
  have h0 : sh i ≠ 0 := fun v => y (em.mp v)
  refine pw_eq (sM_firstLike hS z h0) ?_
  have l := fl_le sh i
  refine pw_eqn (by omega) (by omega) (fun r => pw_in ⟨z, ?_⟩) (fun r => pw_in ⟨z, no (decide_eq_false (fun v => r v.2))⟩)
  rw [fb_ct_succ, show ul sh i = true from decide_eq_true ⟨h0, r⟩, if_pos rfl, nxt, show (nI (fb_ct (ul sh) i) + (1 : Int32)) = nI (fb_ct (ul sh) i + 1) from nI_add _ 1]
theorem rs_unlike (hS : SH sh fa nn hh cc pp) : same (fX5_unlike sh) (fX6_unlike fa nn hh cc pp) := same_of sC_unlike (sM_unlike hS)
theorem rs_count (hS : SH sh fa nn hh cc pp) (x1 a b d e g : Int32) : same (fX5_count x1 a b d e g sh) (fX6_count x1 a b d e g fa) := by
  unfold fX5_count fX6_count
  rw [sC_inUse, sM_many hS]
  by_cases q0 : x1 = 0
  · rw [if_pos q0]; exact ⟨_, rfl, rfl⟩
  · rw [if_neg q0]
    by_cases q1 : x1 = 1
    · rw [if_pos q1]; exact ⟨_, rfl, rfl⟩
    · rw [if_neg q1]
      by_cases q2 : x1 = 2
      · rw [if_pos q2]; exact ⟨_, rfl, rfl⟩
      · rw [if_neg q2]
        by_cases q3 : x1 = 3
        · rw [if_pos q3]; exact ⟨_, rfl, rfl⟩
        · rw [if_neg q3]
          by_cases q4 : x1 = 4
          · rw [if_pos q4]; exact ⟨_, rfl, rfl⟩
          · rw [if_neg q4]
            by_cases q5 : x1 = 5
            · rw [if_pos q5]; exact ⟨_, rfl, rfl⟩
            · rw [if_neg q5]; exact ⟨_, rfl, rfl⟩
end LIKE
