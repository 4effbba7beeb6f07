/-! THE CALL map -/
theorem pw_two {α β : Type} {a : Option (Int32 × α)} {b : Option (Int32 × β)} {x : Int32} {P : Int32 × α → Prop} {Q : Int32 × β → Prop} (h1 : pw a (fun v => v.1 = x ∧ P v)) (h2 : pw b (fun w => w.1 = x ∧ Q w)) : ∃ v w, a = some v ∧ b = some w ∧ v.1 = w.1 ∧ P v ∧ Q w := by
  obtain ⟨v, v1, v2, v3⟩ := h1
  obtain ⟨w, w1, w2, w3⟩ := h2
  exact ⟨v, w, v1, w1, by rw [v2, w2], v3, w3⟩
def KPo (f n h c : Nat) (p : Nat → Nat) (v : Int32 × (Nat → Int32) × (Nat → Int32) × Int32 × Int32) : Prop := MA f n h c p v.2.2.1 v.2.2.2.1 ∧ v.2.2.2.2 = 1
def LPo (f n h c : Nat) (p : Nat → Nat) (w : Int32 × Int32 × Int32 × (Nat → Int32) × (Nat → Int32) × (Nat → Int32) × (Nat → Int32) × (Nat → Int32) × Int32 × (Nat → Int32)) : Prop := w.2.1 = 1 ∧ LD f n h c p w.2.2.1 w.2.2.2.1 w.2.2.2.2.1 w.2.2.2.2.2.2.2.1 w.2.2.2.2.2.2.2.2.1
section MAPCALL
variable {f n h c : Nat} {p d : Nat → Nat} {P I O C Z T e w a w' a' ci far q dist pl : Nat → Int32} {cnt many maps al mk : Int32}
theorem MA_at (hm : MA f n h c p a cnt) {k : Nat} (hk : k < tot f n h c p) : a k = nI (kc f n h c p k) := by
  obtain ⟨k1, k2, k3⟩ := kc_ok hk
  have := hm.2.2 _ k1 k2
  rwa [k3] at this
theorem rs_map (g : gok f n) (hT : MT f n T) (hG : CG f n P I O C Z) (hs : sok h c p) (hw : ∀ i, i < c → w i = nI (p i)) (hw' : ∀ i, i < c → w' i = nI (p i)) (hk : mk = 0 ∨ mk = 1 ∧ MA f n h c p a cnt) (hl : al = 0 ∨ al = 1 ∧ LD f n h c p maps a' ci pl many) (x1 : Int32) (e far q e' : Nat → Int32) : ∃ v u, fX5_map x1 512 (nI (gz f n)) P I O Z (nI h) (nI c) w e a cnt mk = some v ∧ fX6_map x1 (nI (gz f n)) T (nI h) (nI c) w' al maps a' ci far q pl many e' = some u ∧ v.1 = u.1 ∧ KPo f n h c p v ∧ LPo f n h c p u := by
  have t512 := tot_le (p := p) g hG hs
  obtain ⟨t, ht, hm, hk1⟩ := sC_prepare g hG hs hw e hk
  obtain ⟨u, hu, hl1, hl2⟩ := sM_lay g hT hs hw' t512 hl far q e'
  have kp : ∀ ans : Int32, KPo f n h c p (ans, t.1, t.2.1, t.2.2.1, t.2.2.2) := fun _ => ⟨hm, hk1⟩
  have lp : ∀ ans : Int32, LPo f n h c p (ans, u.1, u.2.1, u.2.2.1, u.2.2.2.1, u.2.2.2.2.1, u.2.2.2.2.2.1, u.2.2.2.2.2.2.1, u.2.2.2.2.2.2.2.1, u.2.2.2.2.2.2.2.2) := fun _ => ⟨hl1, hl2⟩
  have m1 := hm.1
  have l1 := hl2.1.1
  unfold fX5_map fX6_map
  rw [ht, hu]
  by_cases q1 : x1 = (-1 : Int32)
  · exact pw_two (x := nI (tot f n h c p)) (pw_eq rfl (pw_T q1 (pw_some ⟨m1, kp _⟩))) (pw_eq rfl (pw_T q1 (pw_some ⟨l1, lp _⟩)))
  · have hin := sM_inP (c := tot f n h c p) x1 (by omega)
    rw [← l1] at hin
    by_cases q2 : ie x1 (tot f n h c p)
    · obtain ⟨k, k1, rfl⟩ := ie_of q2 (by omega)
      rw [if_pos q2] at hin
      refine pw_two (x := nI (kc f n h c p k)) (pw_eq rfl (pw_F q1 (pw_eq (sC_hasN hm) ?_))) (pw_eq rfl (pw_F q1 (pw_eq hin (pw_F (by decide) (pw_rd (by omega) (by decide) (pw_some ⟨MA_at hl2.1 k1, lp _⟩))))))
      rw [if_pos q2]
      exact pw_F (by decide) (pw_rd (by omega) (by decide) (pw_some ⟨MA_at hm k1, kp _⟩))
    · rw [if_neg q2] at hin
      refine pw_two (x := (-1 : Int32)) (pw_eq rfl (pw_F q1 (pw_eq (sC_hasN hm) ?_))) (pw_eq rfl (pw_F q1 (pw_eq hin (pw_T rfl (pw_some ⟨rfl, lp _⟩)))))
      rw [if_neg q2]
      exact pw_T rfl (pw_some ⟨rfl, kp _⟩)
end MAPCALL
