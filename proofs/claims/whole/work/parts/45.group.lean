section GROUPCALL
variable {P I O C Z T : Nat → Int32} {mk ck al fa nn zz Mf Mn Mz : Int32}
theorem most_at {f : Nat} (hf : f < 4) : pz_mostN f = nI (gmost f) := by
  rcases (show f = 0 ∨ f = 1 ∨ f = 2 ∨ f = 3 by omega) with rfl | rfl | rfl | rfl <;> rfl
theorem gmost_le (f : Nat) : 1 ≤ gmost f ∧ gmost f ≤ 8 := by
  unfold gmost
  split
  · omega
  · split
    · omega
    · split <;> omega
theorem sC_exists (x1 x2 : Int32) : ∃ b : Bool, fX1_exists x1 x2 = some (bi b) ∧ (b = true ↔ ∃ f n, gok f n ∧ x1 = nI f ∧ x2 = nI n) := by
  have main : pw (fX1_exists x1 x2) (fun v => ∃ b : Bool, v = bi b ∧ (b = true ↔ ∃ f n, gok f n ∧ x1 = nI f ∧ x2 = nI n)) := by
    obtain ⟨_, lit1, _⟩ := toInt_lits
    have rng := fb_rng x2
    have no : (∀ f n, gok f n → x1 = nI f → x2 = nI n → False) → pw (some (0 : Int32)) (fun v => ∃ b : Bool, v = bi b ∧ (b = true ↔ ∃ f n, gok f n ∧ x1 = nI f ∧ x2 = nI n)) := fun h => pw_some ⟨false, rfl, fun z => (nomatch z), fun ⟨f, n, g, e1, e2⟩ => (h f n g e1 e2).elim⟩
    unfold fX1_exists
    refine pw_if (fun y => no (fun f n g e1 e2 => by rw [e1] at y; exact nI_pos (by have := g.1; omega) y)) (fun y => ?_)
    obtain ⟨f, f1, rfl⟩ := nI_of y
    refine pw_le (by decide) f1 (fun z => no (fun f' n g e1 e2 => by have := (nI_eq f1 (by have := g.1; omega)).mp e1; have := g.1; omega)) (fun z => ?_)
    have gm1 := gmost_le f
    refine pw_if (fun q => no (fun f' n g e1 e2 => by
      have := g.2.1
      have := g.2.2
      have := gmost_le f'
      rw [e2, fa_lt, lit1, nI_toInt (by omega)] at q; omega)) (fun q => pw_rd z (by decide) ?_)
    rw [fa_lt, lit1] at q
    obtain ⟨n, n1, rfl⟩ : ∃ n, n < 2 ^ 31 ∧ x2 = nI n := ⟨x2.toInt.toNat, by omega, of_rng (by omega) (by omega)⟩
    rw [nI_toInt n1] at q
    rw [most_at z]
    refine pw_lt (by omega) n1 (fun r => no (fun f' n' g e1 e2 => ?_)) (fun r => pw_some ⟨true, rfl, fun _ => ⟨f, n, ⟨z, by omega, r⟩, rfl, rfl⟩, fun _ => rfl⟩)
    have := g.2.2
    have gm2 := gmost_le f'
    have a1 := (nI_eq f1 (by have := g.1; omega)).mp e1
    have a2 := (nI_eq n1 (by omega)).mp e2
    subst a1; omega
  obtain ⟨v, hv, b, rfl, hb⟩ := main
  exact ⟨b, hv, hb⟩
theorem sM_groupJ (x1 x2 : Int32) {k : Nat} (hk : ∀ f, f < 4 → x1 = nI f → k = gmost f) (hk8 : k ≤ 8) : (∀ f n, gok f n → x1 = nI f → x2 = nI n → pw (fX6_group_J28 x1 x2 (nI k) Mf Mn Mz T al) (fun u => u.1 = nI (gz f n) ∧ u.2.1 = nI f ∧ u.2.2.1 = nI n ∧ u.2.2.2.1 = nI (gz f n) ∧ MT f n u.2.2.2.2.1 ∧ u.2.2.2.2.2 = 0)) ∧ ((¬ ∃ f n, gok f n ∧ x1 = nI f ∧ x2 = nI n) → fX6_group_J28 x1 x2 (nI k) Mf Mn Mz T al = some ((-2 : Int32), Mf, Mn, Mz, T, al)) := by
  obtain ⟨l0, l1, _⟩ := toInt_lits
  have l3 : (3 : Int32).toInt = 3 := by decide
  have h1 := sM_in x1 (0 : Int32) (3 : Int32)
  have h2 := sM_in x2 (1 : Int32) (nI k)
  rw [l0, l3] at h1
  rw [l1, nI_toInt (by omega)] at h2
  constructor
  · rintro f n g rfl rfl
    have gm := gmost_le f
    have f4 := g.1
    have n1 := g.2.1
    have n2 := g.2.2
    have kk := hk f f4 rfl
    rw [nI_toInt (by omega), if_pos ⟨by omega, by omega⟩] at h1
    rw [nI_toInt (by omega), if_pos ⟨by omega, by omega⟩] at h2
    unfold fX6_group_J28
    refine pw_eq h1 (pw_F (by decide) (pw_eq h2 (pw_F (by decide) (pw_bind (sM_layTable g T) ?_))))
    rintro ⟨a, b, d⟩ ⟨e1, e2, e3⟩
    exact pw_some ⟨e1, rfl, rfl, e1, e2, e3⟩
  · intro hno
    unfold fX6_group_J28
    by_cases q : (0 : Int) ≤ x1.toInt ∧ x1.toInt ≤ 3
    · rw [if_pos q] at h1
      by_cases r : (1 : Int) ≤ x2.toInt ∧ x2.toInt ≤ (k : Int)
      · exfalso
        have e1 : x1 = nI x1.toInt.toNat := of_rng (by omega) (by omega)
        have kk := hk _ (by omega) e1
        exact hno ⟨x1.toInt.toNat, x2.toInt.toNat, ⟨by omega, by omega, by omega⟩, e1, of_rng (by omega) (by omega)⟩
      · rw [if_neg r] at h2
        exact pw_val (pw_eq h1 (pw_F (by decide) (pw_eq h2 (pw_T rfl (pw_some rfl)))))
    · rw [if_neg q] at h1
      exact pw_val (pw_eq h1 (pw_T rfl (pw_some rfl)))
end GROUPCALL
