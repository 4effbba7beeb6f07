/-! how a pure function is followed: 'pw o P': o is some v with P v -/
def pw {α : Type} (o : Option α) (P : α → Prop) : Prop := ∃ v, o = some v ∧ P v
theorem pw_some {α : Type} {v : α} {P : α → Prop} (h : P v) : pw (some v) P := ⟨v, rfl, h⟩
theorem pw_bind {α β : Type} {o : Option α} {f : α → Option β} {R : α → Prop} {P : β → Prop} (h : pw o R) (k : ∀ t, R t → pw (f t) P) : pw (o.bind f) P := by
  obtain ⟨t, rfl, ht⟩ := h
  exact k t ht
theorem pw_eq {α β : Type} {o : Option α} {f : α → Option β} {t : α} {P : β → Prop} (h : o = some t) (k : pw (f t) P) : pw (o.bind f) P := by
  subst h; exact k
theorem pw_if {α : Type} {c : Prop} [Decidable c] {a b : Option α} {P : α → Prop} (f : c → pw a P) (g : ¬ c → pw b P) : pw (if c then a else b) P := by
  by_cases h : c
  · rw [if_pos h]; exact f h
  · rw [if_neg h]; exact g h
theorem pw_T {α : Type} {c : Prop} [Decidable c] {a b : Option α} {P : α → Prop} (h : c) (f : pw a P) : pw (if c then a else b) P := by rw [if_pos h]; exact f
theorem pw_F {α : Type} {c : Prop} [Decidable c] {a b : Option α} {P : α → Prop} (h : ¬ c) (f : pw b P) : pw (if c then a else b) P := by rw [if_neg h]; exact f
theorem pw_mono {α : Type} {o : Option α} {R P : α → Prop} (h : pw o R) (k : ∀ t, R t → P t) : pw o P := by
  obtain ⟨t, e, ht⟩ := h
  exact ⟨t, e, k t ht⟩
theorem pw_val {α : Type} {o : Option α} {w : α} (h : pw o (fun v => v = w)) : o = some w := by
  obtain ⟨t, e, rfl⟩ := h
  exact e
theorem pw_is {α : Type} {o : Option α} {w : α} {P : α → Prop} (h : o = some w) (k : P w) : pw o P := ⟨w, h, k⟩
theorem pw_rd {β : Type} {a : Nat → Int32} {n i : Nat} {f : Int32 → Option β} {P : β → Prop} (h : i < n) (hn : n < 2 ^ 31) (k : pw (f (a i)) P) : pw ((pz_rd a n (nI i)).bind f) P := by
  have e : pz_rd a n (nI i) = some (a i) := by
    unfold pz_rd
    rw [if_neg (nI_in h hn), nI_clamp (by omega)]
  rw [e]; exact k
theorem pw_wr {β : Type} {a : Nat → Int32} {n i : Nat} {x : Int32} {f : (Nat → Int32) → Option β} {P : β → Prop} (h : i < n) (hn : n < 2 ^ 31) (k : pw (f (upd a i x)) P) : pw ((pz_wr a n (nI i) x).bind f) P := by
  have e : pz_wr a n (nI i) x = some (upd a i x) := by
    unfold pz_wr
    rw [if_neg (nI_in h hn), nI_clamp (by omega)]
  rw [e]; exact k
theorem pw_iter {σ τ : Type} {b : σ → Option (σ ⊕ τ)} {P : τ → Prop} (I : Nat → σ → Prop) (e : Nat) (hs : ∀ i s, i ≤ e → I i s → pw (b s) (Sum.elim (fun s' => i < e ∧ I (i + 1) s') P)) : ∀ (n i : Nat) (s : σ), e - i < n → i ≤ e → I i s → pw (pz_iter b n s) P := by
  intro n
  induction n with
  | zero => intro i s h; omega
  | succ n ih =>
    intro i s h hi hI
    obtain ⟨r, hr, hP⟩ := hs i s hi hI
    show pw ((b s).bind (Sum.elim (pz_iter b n) some)) P
    rw [hr]
    cases r with
    | inl s' =>
      have hP : i < e ∧ I (i + 1) s' := hP
      exact ih (i + 1) s' (by omega) hP.1 hP.2
    | inr t => exact ⟨t, rfl, hP⟩
/-- a loop by an invariant with a counter of its turns, at most e of them -/
theorem pw_run {σ τ : Type} {b : σ → Option (σ ⊕ τ)} {P : τ → Prop} {s0 : σ} (I : Nat → σ → Prop) (i0 e : Nat) (he : e < 1048576) (h0 : I i0 s0) (hi : i0 ≤ e) (hs : ∀ i s, i ≤ e → I i s → pw (b s) (Sum.elim (fun s' => i < e ∧ I (i + 1) s') P)) : pw (pz_iter b pz_FUEL s0) P :=
  pw_iter I e hs pz_FUEL i0 s0 (by unfold pz_FUEL; omega) hi h0
theorem pw_in {σ τ : Type} {s : σ} {Q : σ → Prop} {P : τ → Prop} (h : Q s) : pw (some (Sum.inl s : σ ⊕ τ)) (Sum.elim Q P) := ⟨_, rfl, h⟩
theorem pw_out {σ τ : Type} {t : τ} {Q : σ → Prop} {P : τ → Prop} (h : P t) : pw (some (Sum.inr t : σ ⊕ τ)) (Sum.elim Q P) := ⟨_, rfl, h⟩
section CMP
variable {α : Type} {A B : Option α} {P : α → Prop} {a b : Nat}
theorem pw_le (ha : a < 2 ^ 31) (hb : b < 2 ^ 31) (f : a ≤ b → pw A P) (g : b < a → pw B P) : pw (if nI a ≤ nI b then A else B) P :=
  pw_if (fun h => f ((nI_leI ha hb).mp h)) (fun h => g (Nat.lt_of_not_le (fun q => h ((nI_leI ha hb).mpr q))))
theorem pw_lt (ha : a < 2 ^ 31) (hb : b < 2 ^ 31) (f : a < b → pw A P) (g : b ≤ a → pw B P) : pw (if nI a < nI b then A else B) P :=
  pw_if (fun h => f ((nI_ltI ha hb).mp h)) (fun h => g (Nat.le_of_not_lt (fun q => h ((nI_ltI ha hb).mpr q))))
theorem pw_eqn (ha : a < 2 ^ 31) (hb : b < 2 ^ 31) (f : a = b → pw A P) (g : ¬ a = b → pw B P) : pw (if nI a = nI b then A else B) P :=
  pw_if (fun h => f ((nI_eq ha hb).mp h)) (fun h => g (fun q => h (by rw [q])))
end CMP
theorem bz_shr {a b : Nat} (ha : a < 2 ^ 31) (hb : b < 32) : nI a >>> (nI b &&& nI 31) = nI (a >>> b) := by
  have h : ∀ k : Nat, k < 32 → ((nI k &&& nI 31).toBitVec.smod 32).toNat = k := by decide +kernel
  rw [Nat.shiftRight_eq_div_pow]
  exact pk_shrN ha _ b (h b hb)
theorem bz_shl (a : Nat) {b : Nat} (hb : b < 32) : nI a <<< (nI b &&& nI 31) = nI (a <<< b) := by
  have h : ∀ k : Nat, k < 32 → ((nI k &&& nI 31).toBitVec.smod 32).toNat = k := by decide +kernel
  have h1 := pk_shl (nI a) (nI b &&& nI 31) b (h b hb)
  have h2 : (nI (a <<< b)).toBitVec.toNat = (a <<< b) % 2 ^ 32 := by
    show (BitVec.ofNat 32 (a <<< b)).toNat = _
    rw [BitVec.toNat_ofNat]
  have h3 : (nI a).toBitVec.toNat = a % 2 ^ 32 := by
    show (BitVec.ofNat 32 a).toNat = _
    rw [BitVec.toNat_ofNat]
  apply Int32.toBitVec_inj.mp
  apply BitVec.eq_of_toNat_eq
  rw [h1, h2, h3, Nat.shiftLeft_eq, Nat.mod_mul_mod]
theorem bz_bit (S a : Nat) : (S >>> a) &&& 1 = 1 ↔ S.testBit a = true := by
  rw [Nat.and_one_is_mod, Nat.testBit_eq_decide_div_mod_eq, Nat.shiftRight_eq_div_pow]
  simp
theorem bz_bit0 (S a : Nat) : (S >>> a) &&& 1 = 0 ↔ S.testBit a = false := by
  rw [Nat.and_one_is_mod, Nat.testBit_eq_decide_div_mod_eq, Nat.shiftRight_eq_div_pow]
  have := Nat.mod_lt (S / 2 ^ a) (by decide : 2 > 0)
  simp
theorem bz_b1 (S a : Nat) : (S >>> a) &&& 1 < 2 ^ 31 := by
  rw [Nat.and_one_is_mod]
  have := Nat.mod_lt (S >>> a) (by decide : 2 > 0)
  omega
section BIT
variable {α : Type} {A B : Option α} {P : α → Prop} {S a : Nat}
theorem pw_bit (hS : S < 2 ^ 31) (ha : a < 32) (f : S.testBit a = true → pw A P) (g : S.testBit a = false → pw B P) : pw (if (nI S >>> (nI a &&& nI 31)) &&& nI 1 = nI 1 then A else B) P := by
  rw [bz_shr hS ha, fa_and]
  refine pw_eqn (bz_b1 S a) (by decide) (fun h => f ((bz_bit S a).mp h)) (fun h => g ?_)
  cases hh : S.testBit a with
  | false => rfl
  | true => exact absurd ((bz_bit S a).mpr hh) h
theorem pw_bit0 (hS : S < 2 ^ 31) (ha : a < 32) (f : S.testBit a = false → pw A P) (g : S.testBit a = true → pw B P) : pw (if (nI S >>> (nI a &&& nI 31)) &&& nI 1 = nI 0 then A else B) P := by
  rw [bz_shr hS ha, fa_and]
  refine pw_eqn (bz_b1 S a) (by decide) (fun h => f ((bz_bit0 S a).mp h)) (fun h => g ?_)
  cases hh : S.testBit a with
  | true => rfl
  | false => exact absurd ((bz_bit0 S a).mpr hh) h
end BIT
theorem pw_rm {β : Type} {a b : Nat} {f : Int32 → Option β} {P : β → Prop} (ha : a < 2 ^ 31) (h0 : 0 < b) (hb : b < 2 ^ 31) (k : pw (f (nI (a % b))) P) : pw ((pz_rm (nI a) (nI b)).bind f) P := by
  have e : pz_rm (nI a) (nI b) = some (nI (a % b)) := by
    unfold pz_rm
    rw [if_neg (nI_ne0 h0 hb), pk_rem ha h0 hb]
  rw [e]; exact k
theorem pw_dv {β : Type} {a b : Nat} {f : Int32 → Option β} {P : β → Prop} (ha : a < 2 ^ 31) (h0 : 0 < b) (hb : b < 2 ^ 31) (k : pw (f (nI (a / b))) P) : pw ((pz_dv (nI a) (nI b)).bind f) P := by
  have e : pz_dv (nI a) (nI b) = some (nI (a / b)) := by
    unfold pz_dv
    rw [if_neg (nI_ne0 h0 hb), pk_div ha h0 hb]
  rw [e]; exact k
theorem pw_zb {β : Type} {x : Int32} {f : Int32 → Option β} {P : β → Prop} (h : x = 0 ∨ x = 1) (k : pw (f x) P) : pw ((pz_zb x).bind f) P := by
  have e : pz_zb x = some x := by unfold pz_zb; rw [if_pos h]
  rw [e]; exact k
theorem upd_s (a : Nat → Int32) (i : Nat) (x : Int32) : upd a i x i = x := by simp [upd]
theorem upd_n {a : Nat → Int32} {i j : Nat} {x : Int32} (h : j ≠ i) : upd a i x j = a j := by simp [upd, h]
/-- an int is one of the first n numbers, or it isn't -/
theorem iz_cases (x : Int32) (n : Nat) (hn : n < 2 ^ 31) : (∃ k : Nat, k < n ∧ x = nI k) ∨ x < 0 ∨ (¬ x < 0 ∧ nI n ≤ x) := by
  rcases pk_ix x hn with h | h | ⟨j, hj, rfl⟩
  · exact Or.inr (Or.inl h)
  · by_cases h0 : x < 0
    · exact Or.inr (Or.inl h0)
    · exact Or.inr (Or.inr ⟨h0, h⟩)
  · exact Or.inl ⟨j, hj, rfl⟩
def bi (b : Bool) : Int32 := if b then 1 else 0
theorem bi_z (b : Bool) : bi b = 0 ∨ bi b = 1 := by cases b <;> simp [bi]
theorem bi_0 (b : Bool) : bi b = 0 ↔ b = false := by cases b <;> simp [bi]
