/-! MOVES KEEP MAPS, and no two go to one -/
theorem gc_ok {f n : Nat} (h : gok f n) {a b : Nat} (ha : a < gz f n) (hb : b < gz f n) : gm f n b (gc f n a b) = gm f n a b ∧ go f n (gc f n a b) = go f n a := by
  have : allE2 (fun f n a b => decide (gm f n b (gc f n a b) = gm f n a b ∧ go f n (gc f n a b) = go f n a)) = true := by decide +kernel
  simpa using allE2_at this h ha hb
theorem gc_inj {f n : Nat} (h : gok f n) {a a' b : Nat} (ha : a < gz f n) (ha' : a' < gz f n) (hb : b < gz f n) (e : gc f n a b = gc f n a' b) : a = a' := by
  have e1 := (gc_ok h ha hb).1
  have e2 := (gc_ok h ha' hb).1
  rw [e, e2] at e1
  have e3 : gm f n (gm f n a b) (gi f n b) = gm f n (gm f n a' b) (gi f n b) := by rw [e1]
  rw [gm_as h ha hb (gi_ok h hb).1, gm_as h ha' hb (gi_ok h hb).1, (gi_ok h hb).2.1, (gm_0 h ha).2, (gm_0 h ha').2] at e3
  exact e3
theorem gm_injR {f n : Nat} (h : gok f n) {a a' b : Nat} (ha : a < gz f n) (ha' : a' < gz f n) (hb : b < gz f n) (e : gm f n a b = gm f n a' b) : a = a' := by
  have e3 : gm f n (gm f n a b) (gi f n b) = gm f n (gm f n a' b) (gi f n b) := by rw [e]
  rw [gm_as h ha hb (gi_ok h hb).1, gm_as h ha' hb (gi_ok h hb).1, (gi_ok h hb).2.1, (gm_0 h ha).2, (gm_0 h ha').2] at e3
  exact e3
theorem gc_hom {f n : Nat} (h : gok f n) {a b x : Nat} (ha : a < gz f n) (hb : b < gz f n) (hx : x < gz f n) : gc f n (gm f n a b) x = gm f n (gc f n a x) (gc f n b x) ∧ gc f n 0 x = 0 := by
  have : allE2 (fun f n a b => allB (gz f n) (fun x => decide (gc f n (gm f n a b) x = gm f n (gc f n a x) (gc f n b x) ∧ gc f n 0 x = 0))) = true := by decide +kernel
  simpa using allB_at (allE2_at this h ha hb) x hx
theorem gc_sur {f n : Nat} (h : gok f n) {b x : Nat} (hb : b < gz f n) (hx : x < gz f n) : gc f n (gm f n (gm f n x b) (gi f n x)) x = b := by
  have : allE2 (fun f n b x => decide (gc f n (gm f n (gm f n x b) (gi f n x)) x = b)) = true := by decide +kernel
  simpa using allE2_at this h hb hx
theorem orf_bit {g : Nat → Nat} {i : Nat} : ∀ {n : Nat}, (orf n g).testBit i = true ↔ ∃ k, k < n ∧ (g k).testBit i = true
  | 0 => ⟨fun h => by rw [orf, Nat.zero_testBit] at h; exact absurd h (by decide), fun ⟨k, hk, _⟩ => absurd hk (Nat.not_lt_zero k)⟩
  | n + 1 => by
    rw [orf, Nat.testBit_or, Bool.or_eq_true, orf_bit (n := n)]
    constructor
    · rintro (⟨k, k1, k2⟩ | h)
      · exact ⟨k, by omega, k2⟩
      · exact ⟨n, Nat.lt_succ_self n, h⟩
    · rintro ⟨k, k1, k2⟩
      by_cases q : k = n
      · exact Or.inr (by rw [← q]; exact k2)
      · exact Or.inl ⟨k, by omega, k2⟩
theorem ite_bit {b : Bool} {m c : Nat} : (if b = true then 2 ^ m else 0).testBit c = true ↔ b = true ∧ m = c := by
  cases b with
  | false => rw [if_neg (by decide), Nat.zero_testBit]; exact ⟨fun h => absurd h (by decide), fun h => h.1⟩
  | true => rw [if_pos rfl, Nat.testBit_two_pow]; simp
theorem pss_bit {f n S T c : Nat} : (pss f n S T).testBit c = true ↔ ∃ a, a < gz f n ∧ S.testBit a = true ∧ ∃ b, b < gz f n ∧ T.testBit b = true ∧ gm f n a b = c := by
  unfold pss
  rw [orf_bit]
  constructor
  · rintro ⟨a, a1, a2⟩
    cases q : S.testBit a with
    | false => rw [q, if_neg (by decide), Nat.zero_testBit] at a2; exact absurd a2 (by decide)
    | true =>
      rw [q, if_pos rfl] at a2
      unfold pws at a2
      obtain ⟨b, b1, b2⟩ := orf_bit.mp a2
      obtain ⟨b3, b4⟩ := ite_bit.mp b2
      exact ⟨a, a1, q, b, b1, b3, b4⟩
  · rintro ⟨a, a1, a2, b, b1, b2, b3⟩
    refine ⟨a, a1, ?_⟩
    rw [a2, if_pos rfl]
    unfold pws
    exact orf_bit.mpr ⟨b, b1, ite_bit.mpr ⟨b2, b3⟩⟩
theorem msp_min {f n : Nat} {H : Nat → Prop} (hm : ∀ a b, a < gz f n → b < gz f n → H a → H b → H (gm f n a b)) : ∀ (k S : Nat), (∀ i, S.testBit i = true → H i) → ∀ i, (msp f n k S).testBit i = true → H i
  | 0, S, hS => hS
  | k + 1, S, hS => by
    rw [msp]
    by_cases q : (S ||| pss f n S S) = S
    · rw [if_pos q]; exact hS
    · rw [if_neg q]
      refine msp_min hm k _ (fun i hi => ?_)
      rw [Nat.testBit_or, Bool.or_eq_true] at hi
      rcases hi with hi | hi
      · exact hS i hi
      · obtain ⟨a, a1, a2, b, b1, b2, b3⟩ := pss_bit.mp hi
        rw [← b3]; exact hm a b a1 b1 (hS a a2) (hS b b2)
theorem msp_sup {f n : Nat} {i : Nat} : ∀ (k S : Nat), S.testBit i = true → (msp f n k S).testBit i = true
  | 0, S, h => h
  | k + 1, S, h => by
    rw [msp]
    by_cases q : (S ||| pss f n S S) = S
    · rw [if_pos q]; exact h
    · rw [if_neg q]
      refine msp_sup k _ ?_
      rw [Nat.testBit_or, h]; rfl
theorem gs_min {f n S : Nat} {H : Nat → Prop} (h0 : H 0) (hm : ∀ a b, a < gz f n → b < gz f n → H a → H b → H (gm f n a b)) (hS : ∀ i, S.testBit i = true → H i) : ∀ i, (gs f n S).testBit i = true → H i := by
  unfold gs
  refine msp_min hm 4 _ (fun i hi => ?_)
  rw [Nat.testBit_or, Bool.or_eq_true] at hi
  rcases hi with hi | hi
  · exact hS i hi
  · rw [show (1 : Nat) = 2 ^ 0 from rfl, Nat.testBit_two_pow] at hi
    rw [← of_decide_eq_true hi]; exact h0
theorem gs_mem {f n S i : Nat} (h : S.testBit i = true) : (gs f n S).testBit i = true := by
  unfold gs
  exact msp_sup 4 _ (by rw [Nat.testBit_or, h]; rfl)
theorem gs_one {f n S : Nat} : (gs f n S).testBit 0 = true := by
  unfold gs
  refine msp_sup 4 _ ?_
  rw [Nat.testBit_or, show (1 : Nat).testBit 0 = true from rfl, Bool.or_true]
theorem gs_mul {f n S : Nat} (g : gok f n) (hS : S < 2 ^ gz f n) {a b : Nat} (ha : a < gz f n) (hb : b < gz f n) (h1 : (gs f n S).testBit a = true) (h2 : (gs f n S).testBit b = true) : (gs f n S).testBit (gm f n a b) = true := by
  rw [← (gs_at g hS).1, Nat.testBit_or, pss_bit.mpr ⟨a, ha, h1, b, hb, h2, rfl⟩, Bool.or_true]
theorem gs_pow {f n S : Nat} (g : gok f n) (hS : S < 2 ^ gz f n) {a : Nat} (ha : a < gz f n) (h1 : (gs f n S).testBit a = true) : ∀ k, (gs f n S).testBit (gpow f n a k) = true
  | 0 => gs_one
  | k + 1 => gs_mul g hS (gpow_lt g ha k) ha (gs_pow g hS ha h1 k) h1
theorem gs_inv {f n S : Nat} (g : gok f n) (hS : S < 2 ^ gz f n) {a : Nat} (ha : a < gz f n) (h1 : (gs f n S).testBit a = true) : (gs f n S).testBit (gi f n a) = true := by
  rw [← gi_pow g ha]; exact gs_pow g hS ha h1 _
theorem rwh_iff {f n L : Nat} {d : Nat → Nat} (g : gok f n) (hd : ∀ i, i < L → d i < gz f n) : rwh f n L d = true ↔ ∀ b, b < gz f n → (gs f n (rset L d)).testBit b = true := by
  have hl := (gs_at g (rset_lt hd)).2
  unfold rwh
  constructor
  · intro h b hb
    rw [show gs f n (rset L d) = 2 ^ gz f n - 1 by simpa using h, Nat.testBit_two_pow_sub_one]
    exact decide_eq_true hb
  · intro h
    have : gs f n (rset L d) = 2 ^ gz f n - 1 := by
      refine Nat.eq_of_testBit_eq (fun i => ?_)
      rw [Nat.testBit_two_pow_sub_one]
      by_cases q : i < gz f n
      · rw [h i q, decide_eq_true q]
      · rw [Nat.testBit_lt_two_pow (Nat.lt_of_lt_of_le hl (Nat.pow_le_pow_right (by decide) (by omega))), decide_eq_false q]
    rw [this]; exact beq_self_eq_true _
theorem rset_bit {L : Nat} {d : Nat → Nat} {a : Nat} : (rset L d).testBit a = true ↔ ∃ i, i < L ∧ d i = a := by
  unfold rset
  rw [orf_bit]
  constructor
  · rintro ⟨k, k1, k2⟩
    rw [Nat.testBit_two_pow] at k2
    exact ⟨k, k1, of_decide_eq_true k2⟩
  · rintro ⟨k, k1, k2⟩
    exact ⟨k, k1, by rw [Nat.testBit_two_pow]; exact decide_eq_true k2⟩
theorem rwh_of {f n L : Nat} {d d' : Nat → Nat} (g : gok f n) (hd : ∀ i, i < L → d i < gz f n) (hd' : ∀ i, i < L → d' i < gz f n) (hi : ∀ i, i < L → (gs f n (rset L d')).testBit (d i) = true) (hr : rwh f n L d = true) : rwh f n L d' = true := by
  refine (rwh_iff g hd').mpr (fun b hb => ?_)
  refine gs_min (H := fun b => (gs f n (rset L d')).testBit b = true) gs_one (fun a b ha hb h1 h2 => gs_mul g (rset_lt hd') ha hb h1 h2) (fun i hi2 => ?_) b ((rwh_iff g hd).mp hr b hb)
  obtain ⟨k, k1, rfl⟩ := rset_bit.mp hi2
  exact hi k k1
theorem rwh_cj {f n L x : Nat} {d : Nat → Nat} (g : gok f n) (hd : ∀ i, i < L → d i < gz f n) (hx : x < gz f n) (hr : rwh f n L d = true) : rwh f n L (fun i => gc f n (d i) x) = true := by
  have hd' : ∀ i, i < L → gc f n (d i) x < gz f n := fun i hi => gc_lt g (hd i hi) hx
  refine (rwh_iff g hd').mpr (fun b hb => ?_)
  have key := gs_min (S := rset L d) (H := fun b => (gs f n (rset L (fun i => gc f n (d i) x))).testBit (gc f n b x) = true) (by show (gs f n _).testBit (gc f n 0 x) = true; rw [(gc_hom g hb hb hx).2]; exact gs_one) (fun a b ha hb h1 h2 => by
    show (gs f n _).testBit (gc f n (gm f n a b) x) = true
    rw [(gc_hom g ha hb hx).1]
    exact gs_mul g (rset_lt hd') (gc_lt g ha hx) (gc_lt g hb hx) h1 h2) (fun i hi2 => by
    obtain ⟨k, k1, rfl⟩ := rset_bit.mp hi2
    exact gs_mem (rset_bit.mpr ⟨k, k1, rfl⟩))
  have hl : gm f n (gm f n x b) (gi f n x) < gz f n := gm_lt g (gm_lt g hx hb) (gi_ok g hx).1
  have := key _ ((rwh_iff g hd).mp hr _ hl)
  rw [show gc f n (gm f n (gm f n x b) (gi f n x)) x = b from gc_sur g hb hx] at this
  exact this
