set_option maxRecDepth 100000 in
set_option maxHeartbeats 4000000 in
theorem kX4_digits (l : Launch) (D : va_G) (cyI : ClassId) (q_s q_s_periods : Nat) (s_handles : Int32) (s_count : Int32) (s_periods : Nat → Int32) {v : Int32} (h : fX4_digits s_handles s_count = some v) : pz_MI l yX4_digits cX4_digits 1 .int ({ frames := 0, cells := 0, slots := 0, locals := 0 } : Room) [.ref q_s] D cyI [(q_s, .inr (4, [.int s_handles, .int s_count, .ref q_s_periods])), (q_s_periods, .inl (cyI, 4, .inl s_periods))] v [(q_s, .inr (4, [.int s_handles, .int s_count, .ref q_s_periods])), (q_s_periods, .inl (cyI, 4, .inl s_periods))] := by
  refine pz_ofI (by decide) (Nat.le_of_ble_eq_true rfl) ?_
  intro p e s m args below meth c A ls hB hP hK hD hS hA hl
  have hl : lv_has ls 1 [(0, .ref q_s)] := hl
  have hx := hB.1
  have hb := hB.2.1
  unfold fX4_digits at h
  generalize hQ : pz_QI below args s D A v [(q_s, .inr (4, [.int s_handles, .int s_count, .ref q_s_periods])), (q_s_periods, .inl (cyI, 4, .inl s_periods))] = Q
  refine lv_iconst (v := (2 : Int32)) hx hb dX4_digits_0 (by decide) ?_
  refine lv_aload_n hx hb dX4_digits_1 rfl (lv_at hl 0 rfl) ?_
  refine pz_get pFX4_15 hB hK hP 0 rfl rfl dX4_digits_2 ?_
  refine lv_imul hx hb dX4_digits_5 ?_
  refine lv_aload_n hx hb dX4_digits_6 rfl (lv_at hl 0 rfl) ?_
  refine pz_get pFX4_19 hB hK hP 0 rfl rfl dX4_digits_7 ?_
  refine lv_iadd hx hb dX4_digits_10 ?_
  obtain rfl := Option.some.inj h
  rw [← hQ]
  exact pz_iret hB hP hD hS dX4_digits_11
set_option maxRecDepth 100000 in
set_option maxHeartbeats 4000000 in
theorem kX4_hasPeriod (l : Launch) (D : va_G) (cyI : ClassId) (q_s q_s_periods : Nat) (s_handles : Int32) (s_count : Int32) (s_periods : Nat → Int32) (x1 : Int32) {v : Int32} (h : fX4_hasPeriod x1 s_count = some v) : pz_MI l yX4_hasPeriod cX4_hasPeriod 2 .boolean ({ frames := 0, cells := 0, slots := 0, locals := 0 } : Room) [.ref q_s, .int x1] D cyI [(q_s, .inr (4, [.int s_handles, .int s_count, .ref q_s_periods])), (q_s_periods, .inl (cyI, 4, .inl s_periods))] v [(q_s, .inr (4, [.int s_handles, .int s_count, .ref q_s_periods])), (q_s_periods, .inl (cyI, 4, .inl s_periods))] := by
  refine pz_ofI (by decide) (Nat.le_of_ble_eq_true rfl) ?_
  intro p e s m args below meth c A ls hB hP hK hD hS hA hl
  have hl : lv_has ls 2 [(0, .ref q_s), (1, .int x1)] := hl
  have hx := hB.1
  have hb := hB.2.1
  unfold fX4_hasPeriod at h
  generalize hQ : pz_QI below args s D A v [(q_s, .inr (4, [.int s_handles, .int s_count, .ref q_s_periods])), (q_s_periods, .inl (cyI, 4, .inl s_periods))] = Q
  refine lv_iload_n hx hb dX4_hasPeriod_0 rfl (lv_at hl 1 rfl) ?_
  refine lv_if_lt (tgt := 16) hx hb dX4_hasPeriod_1 (by decide) (fun hc1 => ?_) (fun hc1 => ?_)
  · have h := pz_itT hc1 h
    refine lv_iconst (v := (0 : Int32)) hx hb dX4_hasPeriod_16 (by decide) ?_
    obtain rfl := Option.some.inj h
    rw [← hQ]
    exact pz_zret hB (Or.inl rfl) hP hD hS dX4_hasPeriod_17
  · have h := pz_itF hc1 h
    refine lv_iload_n hx hb dX4_hasPeriod_4 rfl (lv_at hl 1 rfl) ?_
    refine lv_aload_n hx hb dX4_hasPeriod_5 rfl (lv_at hl 0 rfl) ?_
    refine pz_get pFX4_19 hB hK hP 0 rfl rfl dX4_hasPeriod_6 ?_
    refine lv_icmp_ge (tgt := 16) hx hb dX4_hasPeriod_9 (by decide) (fun hc9 => ?_) (fun hc9 => ?_)
    · have h := pz_itT hc9 h
      refine lv_iconst (v := (0 : Int32)) hx hb dX4_hasPeriod_16 (by decide) ?_
      obtain rfl := Option.some.inj h
      rw [← hQ]
      exact pz_zret hB (Or.inl rfl) hP hD hS dX4_hasPeriod_17
    · have h := pz_itF hc9 h
      refine lv_iconst (v := (1 : Int32)) hx hb dX4_hasPeriod_12 (by decide) ?_
      refine lv_goto (tgt := 17) hx hb dX4_hasPeriod_13 (by decide) ?_
      obtain rfl := Option.some.inj h
      rw [← hQ]
      exact pz_zret hB (Or.inr rfl) hP hD hS dX4_hasPeriod_17
set_option maxRecDepth 100000 in
set_option maxHeartbeats 4000000 in
theorem kX4_add (l : Launch) (D : va_G) (cyI : ClassId) (q_s q_s_periods : Nat) (s_handles : Int32) (s_count : Int32) (s_periods : Nat → Int32) (x1 : Int32) {v : Int32 × (Nat → Int32)} (h : fX4_add x1 s_count s_periods = some v) : pz_MV l yX4_add cX4_add 2 ({ frames := 0, cells := 0, slots := 0, locals := 0 } : Room) [.ref q_s, .int x1] D cyI [(q_s, .inr (4, [.int s_handles, .int s_count, .ref q_s_periods])), (q_s_periods, .inl (cyI, 4, .inl s_periods))] [(q_s, .inr (4, [.int s_handles, .int v.1, .ref q_s_periods])), (q_s_periods, .inl (cyI, 4, .inl v.2))] := by
  refine pz_ofV (by decide) (Nat.le_of_ble_eq_true rfl) ?_
  intro p e s m args below meth c A ls hB hP hK hD hS hA hl
  have hl : lv_has ls 2 [(0, .ref q_s), (1, .int x1)] := hl
  have hx := hB.1
  have hb := hB.2.1
  unfold fX4_add at h
  generalize hQ : pz_QV below args s D A [(q_s, .inr (4, [.int s_handles, .int v.1, .ref q_s_periods])), (q_s_periods, .inl (cyI, 4, .inl v.2))] = Q
  refine lv_aload_n hx hb dX4_add_0 rfl (lv_at hl 0 rfl) ?_
  refine pz_get pFX4_19 hB hK hP 0 rfl rfl dX4_add_1 ?_
  refine lv_iconst (v := (4 : Int32)) hx hb dX4_add_4 (by decide) ?_
  refine lv_icmp_ge (tgt := 28) hx hb dX4_add_5 (by decide) (fun hc5 => ?_) (fun hc5 => ?_)
  · have h := pz_itT hc5 h
    obtain rfl := Option.some.inj h
    rw [← hQ]
    exact pz_vret hB hP hD hS dX4_add_28
  · have h := pz_itF hc5 h
    refine lv_aload_n hx hb dX4_add_8 rfl (lv_at hl 0 rfl) ?_
    refine pz_get pFX4_9 hB hK hP 0 rfl rfl dX4_add_9 ?_
    refine lv_aload_n hx hb dX4_add_12 rfl (lv_at hl 0 rfl) ?_
    refine pz_get pFX4_19 hB hK hP 0 rfl rfl dX4_add_13 ?_
    refine lv_iload_n hx hb dX4_add_16 rfl (lv_at hl 1 rfl) ?_
    obtain ⟨hi1, h⟩ := pz_wrE h
    refine pz_iast hB hK hP hD hS 1 rfl hi1 dX4_add_17 [(q_s, .inr (4, [.int s_handles, .int s_count, .ref q_s_periods])), (q_s_periods, .inl (cyI, 4, .inl (upd s_periods (Int32.toNatClampNeg s_count) x1)))] rfl (fun H locs hP hD hS => ?_)
    refine lv_aload_n hx hb dX4_add_18 rfl (lv_at hl 0 rfl) ?_
    refine lv_dup hx hb dX4_add_19 rfl ?_
    refine pz_get pFX4_19 hB hK hP 0 rfl rfl dX4_add_20 ?_
    refine lv_iconst (v := (1 : Int32)) hx hb dX4_add_23 (by decide) ?_
    refine lv_iadd hx hb dX4_add_24 ?_
    refine pz_put pFX4_19 pTX4_count hB hK hP hD hS 0 rfl rfl rfl (Nat.le_of_ble_eq_true rfl) dX4_add_25 [(q_s, .inr (4, [.int s_handles, .int (s_count + (1 : Int32)), .ref q_s_periods])), (q_s_periods, .inl (cyI, 4, .inl (upd s_periods (Int32.toNatClampNeg s_count) x1)))] rfl (fun H locs hP hD hS => ?_)
    obtain rfl := Option.some.inj h
    rw [← hQ]
    exact pz_vret hB hP hD hS dX4_add_28
set_option maxRecDepth 100000 in
set_option maxHeartbeats 4000000 in
theorem kX4_periodDigits (l : Launch) (D : va_G) (cyI : ClassId) (q_s q_s_periods : Nat) (s_handles : Int32) (s_count : Int32) (s_periods : Nat → Int32) {v : Int32} (h : fX4_periodDigits s_count s_periods = some v) : pz_MI l yX4_periodDigits cX4_periodDigits 3 .int ({ frames := 0, cells := 0, slots := 0, locals := 0 } : Room) [.ref q_s] D cyI [(q_s, .inr (4, [.int s_handles, .int s_count, .ref q_s_periods])), (q_s_periods, .inl (cyI, 4, .inl s_periods))] v [(q_s, .inr (4, [.int s_handles, .int s_count, .ref q_s_periods])), (q_s_periods, .inl (cyI, 4, .inl s_periods))] := by
  refine pz_ofI (by decide) (Nat.le_of_ble_eq_true rfl) ?_
  intro p e s m args below meth c A ls hB hP hK hD hS hA hl
  have hl : lv_has ls 3 [(0, .ref q_s)] := hl
  have hx := hB.1
  have hb := hB.2.1
  unfold fX4_periodDigits at h
  generalize hQ : pz_QI below args s D A v [(q_s, .inr (4, [.int s_handles, .int s_count, .ref q_s_periods])), (q_s_periods, .inl (cyI, 4, .inl s_periods))] = Q
  refine lv_iconst (v := (0 : Int32)) hx hb dX4_periodDigits_0 (by decide) ?_
  refine lv_istore_n (lv' := [(1, .int (0 : Int32)), (0, .ref q_s)]) hx hb dX4_periodDigits_1 rfl hl (by decide) rfl (fun ls hl => ?_)
  refine lv_iconst (v := (0 : Int32)) hx hb dX4_periodDigits_2 (by decide) ?_
  refine lv_istore_n (lv' := [(2, .int (0 : Int32)), (1, .int (0 : Int32)), (0, .ref q_s)]) hx hb dX4_periodDigits_3 rfl hl (by decide) rfl (fun ls hl => ?_)
  obtain ⟨u_4, hu_4, h⟩ := pz_bnd h
  have hE4 : ∀ (H : Heap) (locs : List Loc) (ls : Array Slot), va_P D vwCl [(q_s, .inr (4, [.int s_handles, .int s_count, .ref q_s_periods])), (q_s_periods, .inl (cyI, 4, .inl s_periods))] H → va_D A [(q_s, .inr (4, [.int s_handles, .int s_count, .ref q_s_periods])), (q_s_periods, .inl (cyI, 4, .inl s_periods))] → va_S A s.heap H locs → lv_has ls 3 [(1, .int u_4)] → W p l e ({ frames := 0, cells := 0, slots := 0, locals := 0 } : Room) s m args below meth c H locs 0 0 Q (F0 m 30 ls []) := by
    intro H locs ls hP hD hS hl
    refine lv_iload_n hx hb dX4_periodDigits_30 rfl (lv_at hl 0 rfl) ?_
    obtain rfl := Option.some.inj h
    rw [← hQ]
    exact pz_iret hB hP hD hS dX4_periodDigits_31
  have hL4 : ∀ (n : Nat) (x1_4 : Int32) (x2_4 : Int32) (H : Heap) (locs : List Loc) (ls : Array Slot), va_P D vwCl [(q_s, .inr (4, [.int s_handles, .int s_count, .ref q_s_periods])), (q_s_periods, .inl (cyI, 4, .inl s_periods))] H → va_D A [(q_s, .inr (4, [.int s_handles, .int s_count, .ref q_s_periods])), (q_s_periods, .inl (cyI, 4, .inl s_periods))] → va_S A s.heap H locs → lv_has ls 3 [(0, .ref q_s), (1, .int x1_4), (2, .int x2_4)] → pz_iter (fun (σ : Int32 × Int32) => fX4_periodDigits_L4 s_count s_periods σ.1 σ.2) n (x1_4, x2_4) = some u_4 → W p l e ({ frames := 0, cells := 0, slots := 0, locals := 0 } : Room) s m args below meth c H locs 0 0 Q (F0 m 4 ls []) := by
    intro n
    induction n with
    | zero => intro x1_4 x2_4 H locs ls hP hD hS hl h; exact (pz_it0 h).elim
    | succ n ih =>
      intro x1_4 x2_4 H locs ls hP hD hS hl h
      obtain ⟨y_4, h, hk4⟩ := pz_itS h
      have h : fX4_periodDigits_L4 s_count s_periods x1_4 x2_4 = some y_4 := h
      unfold fX4_periodDigits_L4 at h
      refine lv_iload_n hx hb dX4_periodDigits_4 rfl (lv_at hl 2 rfl) ?_
      refine lv_aload_n hx hb dX4_periodDigits_5 rfl (lv_at hl 0 rfl) ?_
      refine pz_get pFX4_19 hB hK hP 0 rfl rfl dX4_periodDigits_6 ?_
      refine lv_icmp_ge (tgt := 30) hx hb dX4_periodDigits_9 (by decide) (fun hc9 => ?_) (fun hc9 => ?_)
      · have h := pz_itT hc9 h
        obtain rfl := Option.some.inj h
        obtain rfl := pz_exit hk4
        exact hE4 _ _ _ hP hD hS (lv_sub hl [1] rfl)
      · have h := pz_itF hc9 h
        refine lv_iload_n hx hb dX4_periodDigits_12 rfl (lv_at hl 1 rfl) ?_
        refine lv_bipush (v := (10 : Int32)) hx hb dX4_periodDigits_13 (by decide) ?_
        refine lv_imul hx hb dX4_periodDigits_15 ?_
        refine lv_aload_n hx hb dX4_periodDigits_16 rfl (lv_at hl 0 rfl) ?_
        refine pz_get pFX4_9 hB hK hP 0 rfl rfl dX4_periodDigits_17 ?_
        refine lv_iload_n hx hb dX4_periodDigits_20 rfl (lv_at hl 2 rfl) ?_
        obtain ⟨hi1, h⟩ := pz_rdE h
        refine pz_iald hB hK hP 1 rfl hi1 dX4_periodDigits_21 ?_
        refine lv_iadd hx hb dX4_periodDigits_22 ?_
        refine lv_istore_n (lv' := [(1, .int ((x1_4 * (10 : Int32)) + (s_periods (Int32.toNatClampNeg x2_4)))), (0, .ref q_s), (2, .int x2_4)]) hx hb dX4_periodDigits_23 rfl hl (by decide) rfl (fun ls hl => ?_)
        refine lv_iinc (v := (x2_4 + (1 : Int32))) (lv' := [(2, .int (x2_4 + (1 : Int32))), (1, .int ((x1_4 * (10 : Int32)) + (s_periods (Int32.toNatClampNeg x2_4)))), (0, .ref q_s)]) hx hb dX4_periodDigits_24 hl (k := 2) rfl (by rfl) (by decide) rfl (fun ls hl => ?_)
        refine lv_goto (tgt := 4) hx hb dX4_periodDigits_27 (by decide) ?_
        obtain rfl := Option.some.inj h
        exact ih ((x1_4 * (10 : Int32)) + (s_periods (Int32.toNatClampNeg x2_4))) (x2_4 + (1 : Int32)) _ _ _ hP hD hS (lv_sub hl [2, 1, 0] rfl) hk4
  exact hL4 pz_FUEL (0 : Int32) (0 : Int32) _ _ _ hP hD hS (lv_sub hl [2, 1, 0] rfl) hu_4
set_option maxRecDepth 100000 in
set_option maxHeartbeats 4000000 in
theorem kX4_take (l : Launch) (D : va_G) (cyI : ClassId) (q_s q_s_periods : Nat) (s_handles : Int32) (s_count : Int32) (s_periods : Nat → Int32) (x1 : Int32) (x2 : Int32) {v : Int32 × Int32 × (Nat → Int32)} (h : fX4_take x1 x2 s_periods = some v) : pz_MV l yX4_take cX4_take 5 ({ frames := 1, cells := 0, slots := 0, locals := 21 } : Room) [.ref q_s, .int x1, .int x2] D cyI [(q_s, .inr (4, [.int s_handles, .int s_count, .ref q_s_periods])), (q_s_periods, .inl (cyI, 4, .inl s_periods))] [(q_s, .inr (4, [.int v.1, .int v.2.1, .ref q_s_periods])), (q_s_periods, .inl (cyI, 4, .inl v.2.2))] := by
  refine pz_ofV (by decide) (Nat.le_of_ble_eq_true rfl) ?_
  intro p e s m args below meth c A ls hB hP hK hD hS hA hl
  have hl : lv_has ls 5 [(0, .ref q_s), (1, .int x1), (2, .int x2)] := hl
  have hx := hB.1
  have hb := hB.2.1
  unfold fX4_take at h
  generalize hQ : pz_QV below args s D A [(q_s, .inr (4, [.int v.1, .int v.2.1, .ref q_s_periods])), (q_s_periods, .inl (cyI, 4, .inl v.2.2))] = Q
  refine lv_aload_n hx hb dX4_take_0 rfl (lv_at hl 0 rfl) ?_
  refine lv_iload_n hx hb dX4_take_1 rfl (lv_at hl 1 rfl) ?_
  refine pz_put pFX4_15 pTX4_handles hB hK hP hD hS 0 rfl rfl rfl (Nat.le_of_ble_eq_true rfl) dX4_take_2 [(q_s, .inr (4, [.int x1, .int s_count, .ref q_s_periods])), (q_s_periods, .inl (cyI, 4, .inl s_periods))] rfl (fun H locs hP hD hS => ?_)
  refine lv_aload_n hx hb dX4_take_5 rfl (lv_at hl 0 rfl) ?_
  refine lv_iconst (v := (0 : Int32)) hx hb dX4_take_6 (by decide) ?_
  refine pz_put pFX4_19 pTX4_count hB hK hP hD hS 0 rfl rfl rfl (Nat.le_of_ble_eq_true rfl) dX4_take_7 [(q_s, .inr (4, [.int x1, .int (0 : Int32), .ref q_s_periods])), (q_s_periods, .inl (cyI, 4, .inl s_periods))] rfl (fun H locs hP hD hS => ?_)
  refine lv_sipush (v := (1000 : Int32)) hx hb dX4_take_10 (by decide) ?_
  refine lv_istore_n (lv' := [(3, .int (1000 : Int32)), (0, .ref q_s), (1, .int x1), (2, .int x2)]) hx hb dX4_take_13 rfl hl (by decide) rfl (fun ls hl => ?_)
  obtain ⟨u_14, hu_14, h⟩ := pz_bnd h
  have hE14 : ∀ (H : Heap) (locs : List Loc) (ls : Array Slot), va_P D vwCl [(q_s, .inr (4, [.int x1, .int u_14.1, .ref q_s_periods])), (q_s_periods, .inl (cyI, 4, .inl u_14.2))] H → va_D A [(q_s, .inr (4, [.int x1, .int u_14.1, .ref q_s_periods])), (q_s_periods, .inl (cyI, 4, .inl u_14.2))] → va_S A s.heap H locs → lv_has ls 5 [] → W p l e ({ frames := 1, cells := 0, slots := 0, locals := 21 } : Room) s m args below meth c H locs 0 0 Q (F0 m 46 ls []) := by
    intro H locs ls hP hD hS hl
    obtain rfl := Option.some.inj h
    rw [← hQ]
    exact pz_vret hB hP hD hS dX4_take_46
  have hL14 : ∀ (n : Nat) (x3_14 : Int32) (s_count_14 : Int32) (s_periods_14 : Nat → Int32) (H : Heap) (locs : List Loc) (ls : Array Slot), va_P D vwCl [(q_s, .inr (4, [.int x1, .int s_count_14, .ref q_s_periods])), (q_s_periods, .inl (cyI, 4, .inl s_periods_14))] H → va_D A [(q_s, .inr (4, [.int x1, .int s_count_14, .ref q_s_periods])), (q_s_periods, .inl (cyI, 4, .inl s_periods_14))] → va_S A s.heap H locs → lv_has ls 5 [(0, .ref q_s), (2, .int x2), (3, .int x3_14)] → pz_iter (fun (σ : Int32 × Int32 × (Nat → Int32)) => fX4_take_L14 x2 σ.1 σ.2.1 σ.2.2) n (x3_14, s_count_14, s_periods_14) = some u_14 → W p l e ({ frames := 1, cells := 0, slots := 0, locals := 21 } : Room) s m args below meth c H locs 0 0 Q (F0 m 14 ls []) := by
    intro n
    induction n with
    | zero => intro x3_14 s_count_14 s_periods_14 H locs ls hP hD hS hl h; exact (pz_it0 h).elim
    | succ n ih =>
      intro x3_14 s_count_14 s_periods_14 H locs ls hP hD hS hl h
      obtain ⟨y_14, h, hk14⟩ := pz_itS h
      have h : fX4_take_L14 x2 x3_14 s_count_14 s_periods_14 = some y_14 := h
      unfold fX4_take_L14 at h
      refine lv_iload_n hx hb dX4_take_14 rfl (lv_at hl 2 rfl) ?_
      refine lv_iconst (v := (1 : Int32)) hx hb dX4_take_15 (by decide) ?_
      refine lv_icmp_lt (tgt := 46) hx hb dX4_take_16 (by decide) (fun hc16 => ?_) (fun hc16 => ?_)
      · have h := pz_itT hc16 h
        obtain rfl := Option.some.inj h
        obtain rfl := pz_exit hk14
        exact hE14 _ _ _ hP hD hS (lv_sub hl [] rfl)
      · have h := pz_itF hc16 h
        refine lv_iload_n hx hb dX4_take_19 rfl (lv_at hl 1 rfl) ?_
        refine lv_iload_n hx hb dX4_take_20 rfl (lv_at hl 2 rfl) ?_
        obtain ⟨hn1, h⟩ := pz_dvE h
        refine lv_idiv hx hb dX4_take_21 hn1 ?_
        refine lv_bipush (v := (10 : Int32)) hx hb dX4_take_22 (by decide) ?_
        refine lv_irem hx hb dX4_take_24 (by decide) ?_
        refine lv_istore (lv' := [(4, .int ((x2 / x3_14) - (x2 / x3_14) / (10 : Int32) * (10 : Int32))), (0, .ref q_s), (2, .int x2), (3, .int x3_14)]) hx hb dX4_take_25 hl (by decide) rfl (fun ls hl => ?_)
        refine lv_iload hx hb dX4_take_27 (lv_at hl 0 rfl) ?_
        have hJ38 : ∀ (s_count_j38 : Int32) (s_periods_j38 : Nat → Int32) (H : Heap) (locs : List Loc) (ls : Array Slot), va_P D vwCl [(q_s, .inr (4, [.int x1, .int s_count_j38, .ref q_s_periods])), (q_s_periods, .inl (cyI, 4, .inl s_periods_j38))] H → va_D A [(q_s, .inr (4, [.int x1, .int s_count_j38, .ref q_s_periods])), (q_s_periods, .inl (cyI, 4, .inl s_periods_j38))] → va_S A s.heap H locs → lv_has ls 5 [(0, .ref q_s), (2, .int x2), (3, .int x3_14)] → fX4_take_J38L14 x3_14 s_count_j38 s_periods_j38 = some y_14 → W p l e ({ frames := 1, cells := 0, slots := 0, locals := 21 } : Room) s m args below meth c H locs 0 0 Q (F0 m 38 ls []) := by
          intro s_count_j38 s_periods_j38 H locs ls hP hD hS hl h
          unfold fX4_take_J38L14 at h
          refine lv_iload_n hx hb dX4_take_38 rfl (lv_at hl 2 rfl) ?_
          refine lv_bipush (v := (10 : Int32)) hx hb dX4_take_39 (by decide) ?_
          refine lv_idiv hx hb dX4_take_41 (by decide) ?_
          refine lv_istore_n (lv' := [(3, .int (x3_14 / (10 : Int32))), (0, .ref q_s), (2, .int x2)]) hx hb dX4_take_42 rfl hl (by decide) rfl (fun ls hl => ?_)
          refine lv_goto (tgt := 14) hx hb dX4_take_43 (by decide) ?_
          obtain rfl := Option.some.inj h
          exact ih (x3_14 / (10 : Int32)) s_count_j38 s_periods_j38 _ _ _ hP hD hS (lv_sub hl [1, 2, 0] rfl) hk14
        refine lv_if_eq (tgt := 38) hx hb dX4_take_29 (by decide) (fun hc29 => ?_) (fun hc29 => ?_)
        · have h := pz_itT hc29 h
          exact hJ38 s_count_14 s_periods_14 _ _ _ hP hD hS (lv_sub hl [1, 2, 3] rfl) h
        · have h := pz_itF hc29 h
          refine lv_aload_n hx hb dX4_take_32 rfl (lv_at hl 1 rfl) ?_
          refine lv_iload hx hb dX4_take_33 (lv_at hl 0 rfl) ?_
          obtain ⟨t2, ht2, h⟩ := pz_bnd h
          refine pz_callV (rest := []) (wr := []) (ws2 := [(q_s, .inr (4, [.int x1, .int t2.1, .ref q_s_periods])), (q_s_periods, .inl (cyI, 4, .inl t2.2))]) pCX4_22 (kX4_add l D cyI q_s q_s_periods x1 s_count_14 s_periods_14 ((x2 / x3_14) - (x2 / x3_14) / (10 : Int32) * (10 : Int32)) ht2) hB hK hP hD hS hA hl rfl rfl rfl ⟨Nat.le_of_ble_eq_true rfl, Nat.le_of_ble_eq_true rfl⟩ rfl rfl [0, 1] [] [0, 1] rfl rfl (by decide) (by decide) (by decide) (by decide) rfl (Nat.le_of_ble_eq_true rfl) dX4_take_35 (Nat.zero_le _) (Nat.zero_le _) rfl (fun H locs hP hD hS => ?_)
          exact hJ38 t2.1 t2.2 _ _ _ hP hD hS (lv_sub hl [1, 2, 3] rfl) h
  exact hL14 pz_FUEL (1000 : Int32) (0 : Int32) s_periods _ _ _ hP hD hS (lv_sub hl [1, 3, 0] rfl) hu_14
set_option maxRecDepth 100000 in
set_option maxHeartbeats 4000000 in
theorem kX4_genusOver (l : Launch) (D : va_G) (cyI : ClassId) (q_s q_s_periods : Nat) (s_handles : Int32) (s_count : Int32) (s_periods : Nat → Int32) (x1 : Int32) {v : Int32} (h : fX4_genusOver x1 s_handles s_count s_periods = some v) : pz_MI l yX4_genusOver cX4_genusOver 5 .int ({ frames := 0, cells := 0, slots := 0, locals := 0 } : Room) [.ref q_s, .int x1] D cyI [(q_s, .inr (4, [.int s_handles, .int s_count, .ref q_s_periods])), (q_s_periods, .inl (cyI, 4, .inl s_periods))] v [(q_s, .inr (4, [.int s_handles, .int s_count, .ref q_s_periods])), (q_s_periods, .inl (cyI, 4, .inl s_periods))] := by
  refine pz_ofI (by decide) (Nat.le_of_ble_eq_true rfl) ?_
  intro p e s m args below meth c A ls hB hP hK hD hS hA hl
  have hl : lv_has ls 5 [(0, .ref q_s), (1, .int x1)] := hl
  have hx := hB.1
  have hb := hB.2.1
  unfold fX4_genusOver at h
  generalize hQ : pz_QI below args s D A v [(q_s, .inr (4, [.int s_handles, .int s_count, .ref q_s_periods])), (q_s_periods, .inl (cyI, 4, .inl s_periods))] = Q
  refine lv_iload_n hx hb dX4_genusOver_0 rfl (lv_at hl 1 rfl) ?_
  refine lv_iconst (v := (2 : Int32)) hx hb dX4_genusOver_1 (by decide) ?_
  refine lv_aload_n hx hb dX4_genusOver_2 rfl (lv_at hl 0 rfl) ?_
  refine pz_get pFX4_15 hB hK hP 0 rfl rfl dX4_genusOver_3 ?_
  refine lv_imul hx hb dX4_genusOver_6 ?_
  refine lv_iconst (v := (2 : Int32)) hx hb dX4_genusOver_7 (by decide) ?_
  refine lv_isub hx hb dX4_genusOver_8 ?_
  refine lv_imul hx hb dX4_genusOver_9 ?_
  refine lv_iconst (v := (2 : Int32)) hx hb dX4_genusOver_10 (by decide) ?_
  refine lv_iadd hx hb dX4_genusOver_11 ?_
  refine lv_istore_n (lv' := [(2, .int ((x1 * (((2 : Int32) * s_handles) - (2 : Int32))) + (2 : Int32))), (0, .ref q_s), (1, .int x1)]) hx hb dX4_genusOver_12 rfl hl (by decide) rfl (fun ls hl => ?_)
  refine lv_iconst (v := (0 : Int32)) hx hb dX4_genusOver_13 (by decide) ?_
  refine lv_istore_n (lv' := [(3, .int (0 : Int32)), (2, .int ((x1 * (((2 : Int32) * s_handles) - (2 : Int32))) + (2 : Int32))), (0, .ref q_s), (1, .int x1)]) hx hb dX4_genusOver_14 rfl hl (by decide) rfl (fun ls hl => ?_)
  obtain ⟨u_15, hu_15, h⟩ := pz_bnd h
  have hz15 := h
  have hE15 : ∀ (uu_15 : Int32), u_15 = Sum.inl uu_15 → ∀ (H : Heap) (locs : List Loc) (ls : Array Slot), va_P D vwCl [(q_s, .inr (4, [.int s_handles, .int s_count, .ref q_s_periods])), (q_s_periods, .inl (cyI, 4, .inl s_periods))] H → va_D A [(q_s, .inr (4, [.int s_handles, .int s_count, .ref q_s_periods])), (q_s_periods, .inl (cyI, 4, .inl s_periods))] → va_S A s.heap H locs → lv_has ls 5 [(2, .int uu_15)] → W p l e ({ frames := 0, cells := 0, slots := 0, locals := 0 } : Room) s m args below meth c H locs 0 0 Q (F0 m 61 ls []) := by
    intro uu_15 huu H locs ls hP hD hS hl
    have h := pz_elimL huu hz15
    refine lv_iload_n hx hb dX4_genusOver_61 rfl (lv_at hl 0 rfl) ?_
    have hJ71 : ∀ (H : Heap) (locs : List Loc) (ls : Array Slot), va_P D vwCl [(q_s, .inr (4, [.int s_handles, .int s_count, .ref q_s_periods])), (q_s_periods, .inl (cyI, 4, .inl s_periods))] H → va_D A [(q_s, .inr (4, [.int s_handles, .int s_count, .ref q_s_periods])), (q_s_periods, .inl (cyI, 4, .inl s_periods))] → va_S A s.heap H locs → lv_has ls 5 [] → fX4_genusOver_J71 = some v → W p l e ({ frames := 0, cells := 0, slots := 0, locals := 0 } : Room) s m args below meth c H locs 0 0 Q (F0 m 71 ls []) := by
      intro H locs ls hP hD hS hl h
      unfold fX4_genusOver_J71 at h
      refine lv_iconst (v := (-1 : Int32)) hx hb dX4_genusOver_71 (by decide) ?_
      refine lv_goto (tgt := 78) hx hb dX4_genusOver_72 (by decide) ?_
      obtain rfl := Option.some.inj h
      rw [← hQ]
      exact pz_iret hB hP hD hS dX4_genusOver_78
    refine lv_if_lt (tgt := 71) hx hb dX4_genusOver_62 (by decide) (fun hc62 => ?_) (fun hc62 => ?_)
    · have h := pz_itT hc62 h
      exact hJ71 _ _ _ hP hD hS (lv_sub hl [] rfl) h
    · have h := pz_itF hc62 h
      refine lv_iload_n hx hb dX4_genusOver_65 rfl (lv_at hl 0 rfl) ?_
      refine lv_iconst (v := (2 : Int32)) hx hb dX4_genusOver_66 (by decide) ?_
      refine lv_irem hx hb dX4_genusOver_67 (by decide) ?_
      refine lv_if_eq (tgt := 75) hx hb dX4_genusOver_68 (by decide) (fun hc68 => ?_) (fun hc68 => ?_)
      · have h := pz_itT hc68 h
        refine lv_iload_n hx hb dX4_genusOver_75 rfl (lv_at hl 0 rfl) ?_
        refine lv_iconst (v := (2 : Int32)) hx hb dX4_genusOver_76 (by decide) ?_
        refine lv_idiv hx hb dX4_genusOver_77 (by decide) ?_
        obtain rfl := Option.some.inj h
        rw [← hQ]
        exact pz_iret hB hP hD hS dX4_genusOver_78
      · have h := pz_itF hc68 h
        exact hJ71 _ _ _ hP hD hS (lv_sub hl [] rfl) h
  have hL15 : ∀ (n : Nat) (x2_15 : Int32) (x3_15 : Int32) (H : Heap) (locs : List Loc) (ls : Array Slot), va_P D vwCl [(q_s, .inr (4, [.int s_handles, .int s_count, .ref q_s_periods])), (q_s_periods, .inl (cyI, 4, .inl s_periods))] H → va_D A [(q_s, .inr (4, [.int s_handles, .int s_count, .ref q_s_periods])), (q_s_periods, .inl (cyI, 4, .inl s_periods))] → va_S A s.heap H locs → lv_has ls 5 [(0, .ref q_s), (1, .int x1), (2, .int x2_15), (3, .int x3_15)] → pz_iter (fun (σ : Int32 × Int32) => fX4_genusOver_L15 x1 s_count s_periods σ.1 σ.2) n (x2_15, x3_15) = some u_15 → W p l e ({ frames := 0, cells := 0, slots := 0, locals := 0 } : Room) s m args below meth c H locs 0 0 Q (F0 m 15 ls []) := by
    intro n
    induction n with
    | zero => intro x2_15 x3_15 H locs ls hP hD hS hl h; exact (pz_it0 h).elim
    | succ n ih =>
      intro x2_15 x3_15 H locs ls hP hD hS hl h
      obtain ⟨y_15, h, hk15⟩ := pz_itS h
      have h : fX4_genusOver_L15 x1 s_count s_periods x2_15 x3_15 = some y_15 := h
      unfold fX4_genusOver_L15 at h
      refine lv_iload_n hx hb dX4_genusOver_15 rfl (lv_at hl 3 rfl) ?_
      refine lv_aload_n hx hb dX4_genusOver_16 rfl (lv_at hl 0 rfl) ?_
      refine pz_get pFX4_19 hB hK hP 0 rfl rfl dX4_genusOver_17 ?_
      refine lv_icmp_ge (tgt := 61) hx hb dX4_genusOver_20 (by decide) (fun hc20 => ?_) (fun hc20 => ?_)
      · have h := pz_itT hc20 h
        obtain rfl := Option.some.inj h
        exact hE15 x2_15 (pz_exitI hk15) _ _ _ hP hD hS (lv_sub hl [2] rfl)
      · have h := pz_itF hc20 h
        refine lv_aload_n hx hb dX4_genusOver_23 rfl (lv_at hl 0 rfl) ?_
        refine pz_get pFX4_9 hB hK hP 0 rfl rfl dX4_genusOver_24 ?_
        refine lv_iload_n hx hb dX4_genusOver_27 rfl (lv_at hl 3 rfl) ?_
        obtain ⟨hi1, h⟩ := pz_rdE h
        refine pz_iald hB hK hP 1 rfl hi1 dX4_genusOver_28 ?_
        refine lv_istore (lv' := [(4, .int (s_periods (Int32.toNatClampNeg x3_15))), (0, .ref q_s), (1, .int x1), (2, .int x2_15), (3, .int x3_15)]) hx hb dX4_genusOver_29 hl (by decide) rfl (fun ls hl => ?_)
        refine lv_iload hx hb dX4_genusOver_31 (lv_at hl 0 rfl) ?_
        refine lv_iconst (v := (2 : Int32)) hx hb dX4_genusOver_33 (by decide) ?_
        refine lv_icmp_lt (tgt := 44) hx hb dX4_genusOver_34 (by decide) (fun hc34 => ?_) (fun hc34 => ?_)
        · have h := pz_itT hc34 h
          refine lv_iconst (v := (-1 : Int32)) hx hb dX4_genusOver_44 (by decide) ?_
          obtain rfl := Option.some.inj h
          have h := pz_elimR hk15 hz15
          obtain rfl := Option.some.inj h
          rw [← hQ]
          exact pz_iret hB hP hD hS dX4_genusOver_45
        · have h := pz_itF hc34 h
          refine lv_iload_n hx hb dX4_genusOver_37 rfl (lv_at hl 2 rfl) ?_
          refine lv_iload hx hb dX4_genusOver_38 (lv_at hl 0 rfl) ?_
          obtain ⟨hn2, h⟩ := pz_rmE h
          refine lv_irem hx hb dX4_genusOver_40 hn2 ?_
          refine lv_if_eq (tgt := 46) hx hb dX4_genusOver_41 (by decide) (fun hc41 => ?_) (fun hc41 => ?_)
          · have h := pz_itT hc41 h
            refine lv_iload_n hx hb dX4_genusOver_46 rfl (lv_at hl 3 rfl) ?_
            refine lv_iload_n hx hb dX4_genusOver_47 rfl (lv_at hl 2 rfl) ?_
            refine lv_iload_n hx hb dX4_genusOver_48 rfl (lv_at hl 2 rfl) ?_
            refine lv_iload hx hb dX4_genusOver_49 (lv_at hl 0 rfl) ?_
            obtain ⟨hn3, h⟩ := pz_dvE h
            refine lv_idiv hx hb dX4_genusOver_51 hn3 ?_
            refine lv_isub hx hb dX4_genusOver_52 ?_
            refine lv_iadd hx hb dX4_genusOver_53 ?_
            refine lv_istore_n (lv' := [(2, .int (x2_15 + (x1 - (x1 / (s_periods (Int32.toNatClampNeg x3_15)))))), (4, .int (s_periods (Int32.toNatClampNeg x3_15))), (0, .ref q_s), (1, .int x1), (3, .int x3_15)]) hx hb dX4_genusOver_54 rfl hl (by decide) rfl (fun ls hl => ?_)
            refine lv_iinc (v := (x3_15 + (1 : Int32))) (lv' := [(3, .int (x3_15 + (1 : Int32))), (2, .int (x2_15 + (x1 - (x1 / (s_periods (Int32.toNatClampNeg x3_15)))))), (4, .int (s_periods (Int32.toNatClampNeg x3_15))), (0, .ref q_s), (1, .int x1)]) hx hb dX4_genusOver_55 hl (k := 4) rfl (by rfl) (by decide) rfl (fun ls hl => ?_)
            refine lv_goto (tgt := 15) hx hb dX4_genusOver_58 (by decide) ?_
            obtain rfl := Option.some.inj h
            exact ih (x2_15 + (x1 - (x1 / (s_periods (Int32.toNatClampNeg x3_15))))) (x3_15 + (1 : Int32)) _ _ _ hP hD hS (lv_sub hl [3, 4, 1, 0] rfl) hk15
          · have h := pz_itF hc41 h
            refine lv_iconst (v := (-1 : Int32)) hx hb dX4_genusOver_44 (by decide) ?_
            obtain rfl := Option.some.inj h
            have h := pz_elimR hk15 hz15
            obtain rfl := Option.some.inj h
            rw [← hQ]
            exact pz_iret hB hP hD hS dX4_genusOver_45
  exact hL15 pz_FUEL ((x1 * (((2 : Int32) * s_handles) - (2 : Int32))) + (2 : Int32)) (0 : Int32) _ _ _ hP hD hS (lv_sub hl [2, 3, 1, 0] rfl) hu_15
set_option maxRecDepth 100000 in
set_option maxHeartbeats 4000000 in
theorem kX4_start (l : Launch) (D : va_G) (cyI : ClassId) (q_s q_s_periods : Nat) (s_handles : Int32) (s_count : Int32) (s_periods : Nat → Int32) (x1 : Int32) (x2 : Int32) {v : Int32 × Int32 × (Nat → Int32)} (h : fX4_start x1 x2 s_periods = some v) : pz_MV l yX4_start cX4_start 4 ({ frames := 0, cells := 0, slots := 0, locals := 0 } : Room) [.ref q_s, .int x1, .int x2] D cyI [(q_s, .inr (4, [.int s_handles, .int s_count, .ref q_s_periods])), (q_s_periods, .inl (cyI, 4, .inl s_periods))] [(q_s, .inr (4, [.int v.1, .int v.2.1, .ref q_s_periods])), (q_s_periods, .inl (cyI, 4, .inl v.2.2))] := by
  refine pz_ofV (by decide) (Nat.le_of_ble_eq_true rfl) ?_
  intro p e s m args below meth c A ls hB hP hK hD hS hA hl
  have hl : lv_has ls 4 [(0, .ref q_s), (1, .int x1), (2, .int x2)] := hl
  have hx := hB.1
  have hb := hB.2.1
  unfold fX4_start at h
  generalize hQ : pz_QV below args s D A [(q_s, .inr (4, [.int v.1, .int v.2.1, .ref q_s_periods])), (q_s_periods, .inl (cyI, 4, .inl v.2.2))] = Q
  refine lv_aload_n hx hb dX4_start_0 rfl (lv_at hl 0 rfl) ?_
  refine lv_iload_n hx hb dX4_start_1 rfl (lv_at hl 1 rfl) ?_
  refine pz_put pFX4_15 pTX4_handles hB hK hP hD hS 0 rfl rfl rfl (Nat.le_of_ble_eq_true rfl) dX4_start_2 [(q_s, .inr (4, [.int x1, .int s_count, .ref q_s_periods])), (q_s_periods, .inl (cyI, 4, .inl s_periods))] rfl (fun H locs hP hD hS => ?_)
  refine lv_aload_n hx hb dX4_start_5 rfl (lv_at hl 0 rfl) ?_
  refine lv_iload_n hx hb dX4_start_6 rfl (lv_at hl 2 rfl) ?_
  refine pz_put pFX4_19 pTX4_count hB hK hP hD hS 0 rfl rfl rfl (Nat.le_of_ble_eq_true rfl) dX4_start_7 [(q_s, .inr (4, [.int x1, .int x2, .ref q_s_periods])), (q_s_periods, .inl (cyI, 4, .inl s_periods))] rfl (fun H locs hP hD hS => ?_)
  refine lv_iconst (v := (0 : Int32)) hx hb dX4_start_10 (by decide) ?_
  refine lv_istore_n (lv' := [(3, .int (0 : Int32)), (0, .ref q_s), (1, .int x1), (2, .int x2)]) hx hb dX4_start_11 rfl hl (by decide) rfl (fun ls hl => ?_)
  obtain ⟨u_12, hu_12, h⟩ := pz_bnd h
  have hE12 : ∀ (H : Heap) (locs : List Loc) (ls : Array Slot), va_P D vwCl [(q_s, .inr (4, [.int x1, .int x2, .ref q_s_periods])), (q_s_periods, .inl (cyI, 4, .inl u_12))] H → va_D A [(q_s, .inr (4, [.int x1, .int x2, .ref q_s_periods])), (q_s_periods, .inl (cyI, 4, .inl u_12))] → va_S A s.heap H locs → lv_has ls 4 [] → W p l e ({ frames := 0, cells := 0, slots := 0, locals := 0 } : Room) s m args below meth c H locs 0 0 Q (F0 m 38 ls []) := by
    intro H locs ls hP hD hS hl
    obtain rfl := Option.some.inj h
    rw [← hQ]
    exact pz_vret hB hP hD hS dX4_start_38
  have hL12 : ∀ (n : Nat) (x3_12 : Int32) (s_periods_12 : Nat → Int32) (H : Heap) (locs : List Loc) (ls : Array Slot), va_P D vwCl [(q_s, .inr (4, [.int x1, .int x2, .ref q_s_periods])), (q_s_periods, .inl (cyI, 4, .inl s_periods_12))] H → va_D A [(q_s, .inr (4, [.int x1, .int x2, .ref q_s_periods])), (q_s_periods, .inl (cyI, 4, .inl s_periods_12))] → va_S A s.heap H locs → lv_has ls 4 [(0, .ref q_s), (3, .int x3_12)] → pz_iter (fun (σ : Int32 × (Nat → Int32)) => fX4_start_L12 x2 σ.1 σ.2) n (x3_12, s_periods_12) = some u_12 → W p l e ({ frames := 0, cells := 0, slots := 0, locals := 0 } : Room) s m args below meth c H locs 0 0 Q (F0 m 12 ls []) := by
    intro n
    induction n with
    | zero => intro x3_12 s_periods_12 H locs ls hP hD hS hl h; exact (pz_it0 h).elim
    | succ n ih =>
      intro x3_12 s_periods_12 H locs ls hP hD hS hl h
      obtain ⟨y_12, h, hk12⟩ := pz_itS h
      have h : fX4_start_L12 x2 x3_12 s_periods_12 = some y_12 := h
      unfold fX4_start_L12 at h
      refine lv_iload_n hx hb dX4_start_12 rfl (lv_at hl 1 rfl) ?_
      refine lv_aload_n hx hb dX4_start_13 rfl (lv_at hl 0 rfl) ?_
      refine pz_get pFX4_19 hB hK hP 0 rfl rfl dX4_start_14 ?_
      refine lv_icmp_ge (tgt := 38) hx hb dX4_start_17 (by decide) (fun hc17 => ?_) (fun hc17 => ?_)
      · have h := pz_itT hc17 h
        obtain rfl := Option.some.inj h
        obtain rfl := pz_exit hk12
        exact hE12 _ _ _ hP hD hS (lv_sub hl [] rfl)
      · have h := pz_itF hc17 h
        refine lv_iload_n hx hb dX4_start_20 rfl (lv_at hl 1 rfl) ?_
        refine lv_iconst (v := (4 : Int32)) hx hb dX4_start_21 (by decide) ?_
        refine lv_icmp_ge (tgt := 38) hx hb dX4_start_22 (by decide) (fun hc22 => ?_) (fun hc22 => ?_)
        · have h := pz_itT hc22 h
          obtain rfl := Option.some.inj h
          obtain rfl := pz_exit hk12
          exact hE12 _ _ _ hP hD hS (lv_sub hl [] rfl)
        · have h := pz_itF hc22 h
          refine lv_aload_n hx hb dX4_start_25 rfl (lv_at hl 0 rfl) ?_
          refine pz_get pFX4_9 hB hK hP 0 rfl rfl dX4_start_26 ?_
          refine lv_iload_n hx hb dX4_start_29 rfl (lv_at hl 1 rfl) ?_
          refine lv_iconst (v := (2 : Int32)) hx hb dX4_start_30 (by decide) ?_
          obtain ⟨hi1, h⟩ := pz_wrE h
          refine pz_iast hB hK hP hD hS 1 rfl hi1 dX4_start_31 [(q_s, .inr (4, [.int x1, .int x2, .ref q_s_periods])), (q_s_periods, .inl (cyI, 4, .inl (upd s_periods_12 (Int32.toNatClampNeg x3_12) (2 : Int32))))] rfl (fun H locs hP hD hS => ?_)
          refine lv_iinc (v := (x3_12 + (1 : Int32))) (lv' := [(3, .int (x3_12 + (1 : Int32))), (0, .ref q_s)]) hx hb dX4_start_32 hl (k := 1) rfl (by rfl) (by decide) rfl (fun ls hl => ?_)
          refine lv_goto (tgt := 12) hx hb dX4_start_35 (by decide) ?_
          obtain rfl := Option.some.inj h
          exact ih (x3_12 + (1 : Int32)) (upd s_periods_12 (Int32.toNatClampNeg x3_12) (2 : Int32)) _ _ _ hP hD hS (lv_sub hl [1, 0] rfl) hk12
  exact hL12 pz_FUEL (0 : Int32) s_periods _ _ _ hP hD hS (lv_sub hl [1, 0] rfl) hu_12
set_option maxRecDepth 100000 in
set_option maxHeartbeats 4000000 in
theorem kX4_advance (l : Launch) (D : va_G) (cyI : ClassId) (q_s q_s_periods : Nat) (s_handles : Int32) (s_count : Int32) (s_periods : Nat → Int32) {v : Int32 × (Nat → Int32)} (h : fX4_advance s_count s_periods = some v) : pz_MI l yX4_advance cX4_advance 4 .boolean ({ frames := 0, cells := 0, slots := 0, locals := 0 } : Room) [.ref q_s] D cyI [(q_s, .inr (4, [.int s_handles, .int s_count, .ref q_s_periods])), (q_s_periods, .inl (cyI, 4, .inl s_periods))] v.1 [(q_s, .inr (4, [.int s_handles, .int s_count, .ref q_s_periods])), (q_s_periods, .inl (cyI, 4, .inl v.2))] := by
  refine pz_ofI (by decide) (Nat.le_of_ble_eq_true rfl) ?_
  intro p e s m args below meth c A ls hB hP hK hD hS hA hl
  have hl : lv_has ls 4 [(0, .ref q_s)] := hl
  have hx := hB.1
  have hb := hB.2.1
  unfold fX4_advance at h
  generalize hQ : pz_QI below args s D A v.1 [(q_s, .inr (4, [.int s_handles, .int s_count, .ref q_s_periods])), (q_s_periods, .inl (cyI, 4, .inl v.2))] = Q
  refine lv_aload_n hx hb dX4_advance_0 rfl (lv_at hl 0 rfl) ?_
  refine pz_get pFX4_19 hB hK hP 0 rfl rfl dX4_advance_1 ?_
  refine lv_iconst (v := (1 : Int32)) hx hb dX4_advance_4 (by decide) ?_
  refine lv_isub hx hb dX4_advance_5 ?_
  refine lv_istore_n (lv' := [(1, .int (s_count - (1 : Int32))), (0, .ref q_s)]) hx hb dX4_advance_6 rfl hl (by decide) rfl (fun ls hl => ?_)
  obtain ⟨u_7, hu_7, h⟩ := pz_bnd h
  have hE7 : ∀ (H : Heap) (locs : List Loc) (ls : Array Slot), va_P D vwCl [(q_s, .inr (4, [.int s_handles, .int s_count, .ref q_s_periods])), (q_s_periods, .inl (cyI, 4, .inl s_periods))] H → va_D A [(q_s, .inr (4, [.int s_handles, .int s_count, .ref q_s_periods])), (q_s_periods, .inl (cyI, 4, .inl s_periods))] → va_S A s.heap H locs → lv_has ls 4 [(0, .ref q_s), (1, .int u_7)] → W p l e ({ frames := 0, cells := 0, slots := 0, locals := 0 } : Room) s m args below meth c H locs 0 0 Q (F0 m 28 ls []) := by
    intro H locs ls hP hD hS hl
    refine lv_iload_n hx hb dX4_advance_28 rfl (lv_at hl 1 rfl) ?_
    refine lv_if_ge (tgt := 34) hx hb dX4_advance_29 (by decide) (fun hc29 => ?_) (fun hc29 => ?_)
    · have h := pz_itT hc29 h
      refine lv_aload_n hx hb dX4_advance_34 rfl (lv_at hl 0 rfl) ?_
      refine pz_get pFX4_9 hB hK hP 0 rfl rfl dX4_advance_35 ?_
      refine lv_iload_n hx hb dX4_advance_38 rfl (lv_at hl 1 rfl) ?_
      obtain ⟨hi1, h⟩ := pz_rdE h
      refine pz_iald hB hK hP 1 rfl hi1 dX4_advance_39 ?_
      refine lv_iconst (v := (1 : Int32)) hx hb dX4_advance_40 (by decide) ?_
      refine lv_iadd hx hb dX4_advance_41 ?_
      refine lv_istore_n (lv' := [(2, .int ((s_periods (Int32.toNatClampNeg u_7)) + (1 : Int32))), (0, .ref q_s), (1, .int u_7)]) hx hb dX4_advance_42 rfl hl (by decide) rfl (fun ls hl => ?_)
      refine lv_iload_n hx hb dX4_advance_43 rfl (lv_at hl 2 rfl) ?_
      refine lv_istore_n (lv' := [(3, .int u_7), (2, .int ((s_periods (Int32.toNatClampNeg u_7)) + (1 : Int32))), (0, .ref q_s), (1, .int u_7)]) hx hb dX4_advance_44 rfl hl (by decide) rfl (fun ls hl => ?_)
      obtain ⟨u_45, hu_45, h⟩ := pz_bnd h
      have hE45 : ∀ (H : Heap) (locs : List Loc) (ls : Array Slot), va_P D vwCl [(q_s, .inr (4, [.int s_handles, .int s_count, .ref q_s_periods])), (q_s_periods, .inl (cyI, 4, .inl u_45))] H → va_D A [(q_s, .inr (4, [.int s_handles, .int s_count, .ref q_s_periods])), (q_s_periods, .inl (cyI, 4, .inl u_45))] → va_S A s.heap H locs → lv_has ls 4 [] → W p l e ({ frames := 0, cells := 0, slots := 0, locals := 0 } : Room) s m args below meth c H locs 0 0 Q (F0 m 66 ls []) := by
        intro H locs ls hP hD hS hl
        refine lv_iconst (v := (1 : Int32)) hx hb dX4_advance_66 (by decide) ?_
        obtain rfl := Option.some.inj h
        rw [← hQ]
        exact pz_zret hB (Or.inr rfl) hP hD hS dX4_advance_67
      have hL45 : ∀ (n : Nat) (x3_45 : Int32) (s_periods_45 : Nat → Int32) (H : Heap) (locs : List Loc) (ls : Array Slot), va_P D vwCl [(q_s, .inr (4, [.int s_handles, .int s_count, .ref q_s_periods])), (q_s_periods, .inl (cyI, 4, .inl s_periods_45))] H → va_D A [(q_s, .inr (4, [.int s_handles, .int s_count, .ref q_s_periods])), (q_s_periods, .inl (cyI, 4, .inl s_periods_45))] → va_S A s.heap H locs → lv_has ls 4 [(0, .ref q_s), (2, .int ((s_periods (Int32.toNatClampNeg u_7)) + (1 : Int32))), (3, .int x3_45)] → pz_iter (fun (σ : Int32 × (Nat → Int32)) => fX4_advance_L45 ((s_periods (Int32.toNatClampNeg u_7)) + (1 : Int32)) s_count σ.1 σ.2) n (x3_45, s_periods_45) = some u_45 → W p l e ({ frames := 0, cells := 0, slots := 0, locals := 0 } : Room) s m args below meth c H locs 0 0 Q (F0 m 45 ls []) := by
        intro n
        induction n with
        | zero => intro x3_45 s_periods_45 H locs ls hP hD hS hl h; exact (pz_it0 h).elim
        | succ n ih =>
          intro x3_45 s_periods_45 H locs ls hP hD hS hl h
          obtain ⟨y_45, h, hk45⟩ := pz_itS h
          have h : fX4_advance_L45 ((s_periods (Int32.toNatClampNeg u_7)) + (1 : Int32)) s_count x3_45 s_periods_45 = some y_45 := h
          unfold fX4_advance_L45 at h
          refine lv_iload_n hx hb dX4_advance_45 rfl (lv_at hl 2 rfl) ?_
          refine lv_aload_n hx hb dX4_advance_46 rfl (lv_at hl 0 rfl) ?_
          refine pz_get pFX4_19 hB hK hP 0 rfl rfl dX4_advance_47 ?_
          refine lv_icmp_ge (tgt := 66) hx hb dX4_advance_50 (by decide) (fun hc50 => ?_) (fun hc50 => ?_)
          · have h := pz_itT hc50 h
            obtain rfl := Option.some.inj h
            obtain rfl := pz_exit hk45
            exact hE45 _ _ _ hP hD hS (lv_sub hl [] rfl)
          · have h := pz_itF hc50 h
            refine lv_aload_n hx hb dX4_advance_53 rfl (lv_at hl 0 rfl) ?_
            refine pz_get pFX4_9 hB hK hP 0 rfl rfl dX4_advance_54 ?_
            refine lv_iload_n hx hb dX4_advance_57 rfl (lv_at hl 2 rfl) ?_
            refine lv_iload_n hx hb dX4_advance_58 rfl (lv_at hl 1 rfl) ?_
            obtain ⟨hi2, h⟩ := pz_wrE h
            refine pz_iast hB hK hP hD hS 1 rfl hi2 dX4_advance_59 [(q_s, .inr (4, [.int s_handles, .int s_count, .ref q_s_periods])), (q_s_periods, .inl (cyI, 4, .inl (upd s_periods_45 (Int32.toNatClampNeg x3_45) ((s_periods (Int32.toNatClampNeg u_7)) + (1 : Int32)))))] rfl (fun H locs hP hD hS => ?_)
            refine lv_iinc (v := (x3_45 + (1 : Int32))) (lv' := [(3, .int (x3_45 + (1 : Int32))), (0, .ref q_s), (2, .int ((s_periods (Int32.toNatClampNeg u_7)) + (1 : Int32)))]) hx hb dX4_advance_60 hl (k := 2) rfl (by rfl) (by decide) rfl (fun ls hl => ?_)
            refine lv_goto (tgt := 45) hx hb dX4_advance_63 (by decide) ?_
            obtain rfl := Option.some.inj h
            exact ih (x3_45 + (1 : Int32)) (upd s_periods_45 (Int32.toNatClampNeg x3_45) ((s_periods (Int32.toNatClampNeg u_7)) + (1 : Int32))) _ _ _ hP hD hS (lv_sub hl [1, 2, 0] rfl) hk45
      exact hL45 pz_FUEL u_7 s_periods _ _ _ hP hD hS (lv_sub hl [2, 1, 0] rfl) hu_45
    · have h := pz_itF hc29 h
      refine lv_iconst (v := (0 : Int32)) hx hb dX4_advance_32 (by decide) ?_
      obtain rfl := Option.some.inj h
      rw [← hQ]
      exact pz_zret hB (Or.inl rfl) hP hD hS dX4_advance_33
  have hL7 : ∀ (n : Nat) (x1_7 : Int32) (H : Heap) (locs : List Loc) (ls : Array Slot), va_P D vwCl [(q_s, .inr (4, [.int s_handles, .int s_count, .ref q_s_periods])), (q_s_periods, .inl (cyI, 4, .inl s_periods))] H → va_D A [(q_s, .inr (4, [.int s_handles, .int s_count, .ref q_s_periods])), (q_s_periods, .inl (cyI, 4, .inl s_periods))] → va_S A s.heap H locs → lv_has ls 4 [(0, .ref q_s), (1, .int x1_7)] → pz_iter (fun (σ : Int32) => fX4_advance_L7 s_periods σ) n x1_7 = some u_7 → W p l e ({ frames := 0, cells := 0, slots := 0, locals := 0 } : Room) s m args below meth c H locs 0 0 Q (F0 m 7 ls []) := by
    intro n
    induction n with
    | zero => intro x1_7 H locs ls hP hD hS hl h; exact (pz_it0 h).elim
    | succ n ih =>
      intro x1_7 H locs ls hP hD hS hl h
      obtain ⟨y_7, h, hk7⟩ := pz_itS h
      have h : fX4_advance_L7 s_periods x1_7 = some y_7 := h
      unfold fX4_advance_L7 at h
      refine lv_iload_n hx hb dX4_advance_7 rfl (lv_at hl 1 rfl) ?_
      refine lv_if_lt (tgt := 28) hx hb dX4_advance_8 (by decide) (fun hc8 => ?_) (fun hc8 => ?_)
      · have h := pz_itT hc8 h
        obtain rfl := Option.some.inj h
        obtain rfl := pz_exit hk7
        exact hE7 _ _ _ hP hD hS (lv_sub hl [0, 1] rfl)
      · have h := pz_itF hc8 h
        refine lv_aload_n hx hb dX4_advance_11 rfl (lv_at hl 0 rfl) ?_
        refine pz_get pFX4_9 hB hK hP 0 rfl rfl dX4_advance_12 ?_
        refine lv_iload_n hx hb dX4_advance_15 rfl (lv_at hl 1 rfl) ?_
        obtain ⟨hi3, h⟩ := pz_rdE h
        refine pz_iald hB hK hP 1 rfl hi3 dX4_advance_16 ?_
        refine lv_bipush (v := (8 : Int32)) hx hb dX4_advance_17 (by decide) ?_
        refine lv_icmp_lt (tgt := 28) hx hb dX4_advance_19 (by decide) (fun hc19 => ?_) (fun hc19 => ?_)
        · have h := pz_itT hc19 h
          obtain rfl := Option.some.inj h
          obtain rfl := pz_exit hk7
          exact hE7 _ _ _ hP hD hS (lv_sub hl [0, 1] rfl)
        · have h := pz_itF hc19 h
          refine lv_iinc (v := (x1_7 + (-1 : Int32))) (lv' := [(1, .int (x1_7 + (-1 : Int32))), (0, .ref q_s)]) hx hb dX4_advance_22 hl (k := 1) rfl (by rfl) (by decide) rfl (fun ls hl => ?_)
          refine lv_goto (tgt := 7) hx hb dX4_advance_25 (by decide) ?_
          obtain rfl := Option.some.inj h
          exact ih (x1_7 + (-1 : Int32)) _ _ _ hP hD hS (lv_sub hl [1, 0] rfl) hk7
  exact hL7 pz_FUEL (s_count - (1 : Int32)) _ _ _ hP hD hS (lv_sub hl [1, 0] rfl) hu_7
set_option maxRecDepth 100000 in
set_option maxHeartbeats 4000000 in
theorem kX3_read (l : Launch) (D : va_G) (cyI : ClassId) (q_r q_r_elements q_g q_g_products q_g_inverses q_g_orders q_g_conjugates q_g_spans q_s q_s_periods : Nat) (r_elements : Nat → Int32) (g_family : Int32) (g_n : Int32) (g_size : Int32) (g_products : Nat → Int32) (g_inverses : Nat → Int32) (g_orders : Nat → Int32) (g_conjugates : Nat → Int32) (g_spans : Nat → Int32) (s_handles : Int32) (s_count : Int32) (s_periods : Nat → Int32) (x1 : Int32) {v : Int32 × (Nat → Int32)} (h : fX3_read x1 g_size s_handles s_count r_elements = some v) : pz_MI l yX3_read cX3_read 5 .boolean ({ frames := 1, cells := 0, slots := 0, locals := 21 } : Room) [.ref q_r, .int x1] D cyI [(q_r, .inr (3, [.ref q_g, .ref q_s, .ref q_r_elements])), (q_r_elements, .inl (cyI, 4, .inl r_elements)), (q_g, .inr (1, [.int g_family, .int g_n, .int g_size, .ref q_g_products, .ref q_g_inverses, .ref q_g_orders, .ref q_g_conjugates, .ref q_g_spans])), (q_g_products, .inl (cyI, 64, .inl g_products)), (q_g_inverses, .inl (cyI, 8, .inl g_inverses)), (q_g_orders, .inl (cyI, 8, .inl g_orders)), (q_g_conjugates, .inl (cyI, 64, .inl g_conjugates)), (q_g_spans, .inl (cyI, 256, .inl g_spans)), (q_s, .inr (4, [.int s_handles, .int s_count, .ref q_s_periods])), (q_s_periods, .inl (cyI, 4, .inl s_periods))] v.1 [(q_r, .inr (3, [.ref q_g, .ref q_s, .ref q_r_elements])), (q_r_elements, .inl (cyI, 4, .inl v.2)), (q_g, .inr (1, [.int g_family, .int g_n, .int g_size, .ref q_g_products, .ref q_g_inverses, .ref q_g_orders, .ref q_g_conjugates, .ref q_g_spans])), (q_g_products, .inl (cyI, 64, .inl g_products)), (q_g_inverses, .inl (cyI, 8, .inl g_inverses)), (q_g_orders, .inl (cyI, 8, .inl g_orders)), (q_g_conjugates, .inl (cyI, 64, .inl g_conjugates)), (q_g_spans, .inl (cyI, 256, .inl g_spans)), (q_s, .inr (4, [.int s_handles, .int s_count, .ref q_s_periods])), (q_s_periods, .inl (cyI, 4, .inl s_periods))] := by
  refine pz_ofI (by decide) (Nat.le_of_ble_eq_true rfl) ?_
  intro p e s m args below meth c A ls hB hP hK hD hS hA hl
  have hl : lv_has ls 5 [(0, .ref q_r), (1, .int x1)] := hl
  have hx := hB.1
  have hb := hB.2.1
  unfold fX3_read at h
  generalize hQ : pz_QI below args s D A v.1 [(q_r, .inr (3, [.ref q_g, .ref q_s, .ref q_r_elements])), (q_r_elements, .inl (cyI, 4, .inl v.2)), (q_g, .inr (1, [.int g_family, .int g_n, .int g_size, .ref q_g_products, .ref q_g_inverses, .ref q_g_orders, .ref q_g_conjugates, .ref q_g_spans])), (q_g_products, .inl (cyI, 64, .inl g_products)), (q_g_inverses, .inl (cyI, 8, .inl g_inverses)), (q_g_orders, .inl (cyI, 8, .inl g_orders)), (q_g_conjugates, .inl (cyI, 64, .inl g_conjugates)), (q_g_spans, .inl (cyI, 256, .inl g_spans)), (q_s, .inr (4, [.int s_handles, .int s_count, .ref q_s_periods])), (q_s_periods, .inl (cyI, 4, .inl s_periods))] = Q
  refine lv_iload_n hx hb dX3_read_0 rfl (lv_at hl 1 rfl) ?_
  refine lv_istore_n (lv' := [(2, .int x1), (0, .ref q_r), (1, .int x1)]) hx hb dX3_read_1 rfl hl (by decide) rfl (fun ls hl => ?_)
  refine lv_aload_n hx hb dX3_read_2 rfl (lv_at hl 1 rfl) ?_
  refine pz_get pFX3_19 hB hK hP 0 rfl rfl dX3_read_3 ?_
  obtain ⟨t1, ht1, h⟩ := pz_bnd h
  refine pz_callIr (rest := []) pCX3_23 (kX4_digits l D cyI q_s q_s_periods s_handles s_count s_periods ht1) hB hK hP hD hS hA hl rfl rfl rfl ⟨Nat.le_of_ble_eq_true rfl, Nat.le_of_ble_eq_true rfl⟩ rfl rfl [8, 9] rfl (by decide) (Nat.le_of_ble_eq_true rfl) dX3_read_6 (Nat.zero_le _) (Nat.zero_le _) rfl (fun H locs hP hS => ?_)
  refine lv_iconst (v := (1 : Int32)) hx hb dX3_read_9 (by decide) ?_
  refine lv_isub hx hb dX3_read_10 ?_
  refine lv_istore_n (lv' := [(3, .int (t1 - (1 : Int32))), (2, .int x1), (0, .ref q_r), (1, .int x1)]) hx hb dX3_read_11 rfl hl (by decide) rfl (fun ls hl => ?_)
  obtain ⟨u_12, hu_12, h⟩ := pz_bnd h
  have hz12 := h
  have hE12 : ∀ (uu_12 : Int32 × (Nat → Int32)), u_12 = Sum.inl uu_12 → ∀ (H : Heap) (locs : List Loc) (ls : Array Slot), va_P D vwCl [(q_r, .inr (3, [.ref q_g, .ref q_s, .ref q_r_elements])), (q_r_elements, .inl (cyI, 4, .inl uu_12.2)), (q_g, .inr (1, [.int g_family, .int g_n, .int g_size, .ref q_g_products, .ref q_g_inverses, .ref q_g_orders, .ref q_g_conjugates, .ref q_g_spans])), (q_g_products, .inl (cyI, 64, .inl g_products)), (q_g_inverses, .inl (cyI, 8, .inl g_inverses)), (q_g_orders, .inl (cyI, 8, .inl g_orders)), (q_g_conjugates, .inl (cyI, 64, .inl g_conjugates)), (q_g_spans, .inl (cyI, 256, .inl g_spans)), (q_s, .inr (4, [.int s_handles, .int s_count, .ref q_s_periods])), (q_s_periods, .inl (cyI, 4, .inl s_periods))] H → va_D A [(q_r, .inr (3, [.ref q_g, .ref q_s, .ref q_r_elements])), (q_r_elements, .inl (cyI, 4, .inl uu_12.2)), (q_g, .inr (1, [.int g_family, .int g_n, .int g_size, .ref q_g_products, .ref q_g_inverses, .ref q_g_orders, .ref q_g_conjugates, .ref q_g_spans])), (q_g_products, .inl (cyI, 64, .inl g_products)), (q_g_inverses, .inl (cyI, 8, .inl g_inverses)), (q_g_orders, .inl (cyI, 8, .inl g_orders)), (q_g_conjugates, .inl (cyI, 64, .inl g_conjugates)), (q_g_spans, .inl (cyI, 256, .inl g_spans)), (q_s, .inr (4, [.int s_handles, .int s_count, .ref q_s_periods])), (q_s_periods, .inl (cyI, 4, .inl s_periods))] → va_S A s.heap H locs → lv_has ls 5 [(2, .int uu_12.1)] → W p l e ({ frames := 1, cells := 0, slots := 0, locals := 21 } : Room) s m args below meth c H locs 0 0 Q (F0 m 55 ls []) := by
    intro uu_12 huu H locs ls hP hD hS hl
    have h := pz_elimL huu hz12
    refine lv_iload_n hx hb dX3_read_55 rfl (lv_at hl 0 rfl) ?_
    refine lv_if_ne (tgt := 63) hx hb dX3_read_56 (by decide) (fun hc56 => ?_) (fun hc56 => ?_)
    · have h := pz_itF hc56 h
      refine lv_iconst (v := (0 : Int32)) hx hb dX3_read_63 (by decide) ?_
      obtain rfl := Option.some.inj h
      rw [← hQ]
      exact pz_zret hB (Or.inl rfl) hP hD hS dX3_read_64
    · have h := pz_itT hc56 h
      refine lv_iconst (v := (1 : Int32)) hx hb dX3_read_59 (by decide) ?_
      refine lv_goto (tgt := 64) hx hb dX3_read_60 (by decide) ?_
      obtain rfl := Option.some.inj h
      rw [← hQ]
      exact pz_zret hB (Or.inr rfl) hP hD hS dX3_read_64
  have hL12 : ∀ (n : Nat) (x2_12 : Int32) (x3_12 : Int32) (r_elements_12 : Nat → Int32) (H : Heap) (locs : List Loc) (ls : Array Slot), va_P D vwCl [(q_r, .inr (3, [.ref q_g, .ref q_s, .ref q_r_elements])), (q_r_elements, .inl (cyI, 4, .inl r_elements_12)), (q_g, .inr (1, [.int g_family, .int g_n, .int g_size, .ref q_g_products, .ref q_g_inverses, .ref q_g_orders, .ref q_g_conjugates, .ref q_g_spans])), (q_g_products, .inl (cyI, 64, .inl g_products)), (q_g_inverses, .inl (cyI, 8, .inl g_inverses)), (q_g_orders, .inl (cyI, 8, .inl g_orders)), (q_g_conjugates, .inl (cyI, 64, .inl g_conjugates)), (q_g_spans, .inl (cyI, 256, .inl g_spans)), (q_s, .inr (4, [.int s_handles, .int s_count, .ref q_s_periods])), (q_s_periods, .inl (cyI, 4, .inl s_periods))] H → va_D A [(q_r, .inr (3, [.ref q_g, .ref q_s, .ref q_r_elements])), (q_r_elements, .inl (cyI, 4, .inl r_elements_12)), (q_g, .inr (1, [.int g_family, .int g_n, .int g_size, .ref q_g_products, .ref q_g_inverses, .ref q_g_orders, .ref q_g_conjugates, .ref q_g_spans])), (q_g_products, .inl (cyI, 64, .inl g_products)), (q_g_inverses, .inl (cyI, 8, .inl g_inverses)), (q_g_orders, .inl (cyI, 8, .inl g_orders)), (q_g_conjugates, .inl (cyI, 64, .inl g_conjugates)), (q_g_spans, .inl (cyI, 256, .inl g_spans)), (q_s, .inr (4, [.int s_handles, .int s_count, .ref q_s_periods])), (q_s_periods, .inl (cyI, 4, .inl s_periods))] → va_S A s.heap H locs → lv_has ls 5 [(0, .ref q_r), (2, .int x2_12), (3, .int x3_12)] → pz_iter (fun (σ : Int32 × Int32 × (Nat → Int32)) => fX3_read_L12 g_size σ.1 σ.2.1 σ.2.2) n (x2_12, x3_12, r_elements_12) = some u_12 → W p l e ({ frames := 1, cells := 0, slots := 0, locals := 21 } : Room) s m args below meth c H locs 0 0 Q (F0 m 12 ls []) := by
    intro n
    induction n with
    | zero => intro x2_12 x3_12 r_elements_12 H locs ls hP hD hS hl h; exact (pz_it0 h).elim
    | succ n ih =>
      intro x2_12 x3_12 r_elements_12 H locs ls hP hD hS hl h
      obtain ⟨y_12, h, hk12⟩ := pz_itS h
      have h : fX3_read_L12 g_size x2_12 x3_12 r_elements_12 = some y_12 := h
      unfold fX3_read_L12 at h
      refine lv_iload_n hx hb dX3_read_12 rfl (lv_at hl 2 rfl) ?_
      refine lv_if_lt (tgt := 55) hx hb dX3_read_13 (by decide) (fun hc13 => ?_) (fun hc13 => ?_)
      · have h := pz_itT hc13 h
        obtain rfl := Option.some.inj h
        exact hE12 (x2_12, r_elements_12) (pz_exitI hk12) _ _ _ hP hD hS (lv_sub hl [1] rfl)
      · have h := pz_itF hc13 h
        refine lv_iload_n hx hb dX3_read_16 rfl (lv_at hl 1 rfl) ?_
        refine lv_bipush (v := (10 : Int32)) hx hb dX3_read_17 (by decide) ?_
        refine lv_irem hx hb dX3_read_19 (by decide) ?_
        refine lv_istore (lv' := [(4, .int (x2_12 - x2_12 / (10 : Int32) * (10 : Int32))), (0, .ref q_r), (2, .int x2_12), (3, .int x3_12)]) hx hb dX3_read_20 hl (by decide) rfl (fun ls hl => ?_)
        refine lv_aload_n hx hb dX3_read_22 rfl (lv_at hl 1 rfl) ?_
        refine pz_get pFX3_15 hB hK hP 0 rfl rfl dX3_read_23 ?_
        refine lv_iload hx hb dX3_read_26 (lv_at hl 0 rfl) ?_
        obtain ⟨t2, ht2, h⟩ := pz_bnd h
        refine pz_callIr (rest := []) pCX3_29 (kX1_isElement l D cyI q_g q_g_products q_g_inverses q_g_orders q_g_conjugates q_g_spans g_family g_n g_size g_products g_inverses g_orders g_conjugates g_spans (x2_12 - x2_12 / (10 : Int32) * (10 : Int32)) ht2) hB hK hP hD hS hA hl rfl rfl rfl ⟨Nat.le_of_ble_eq_true rfl, Nat.le_of_ble_eq_true rfl⟩ rfl rfl [2, 3, 4, 5, 6, 7] rfl (by decide) (Nat.le_of_ble_eq_true rfl) dX3_read_28 (Nat.zero_le _) (Nat.zero_le _) rfl (fun H locs hP hS => ?_)
        refine lv_if_ne (tgt := 36) hx hb dX3_read_31 (by decide) (fun hc31 => ?_) (fun hc31 => ?_)
        · have h := pz_itF hc31 h
          refine lv_aload_n hx hb dX3_read_36 rfl (lv_at hl 1 rfl) ?_
          refine pz_get pFX3_9 hB hK hP 0 rfl rfl dX3_read_37 ?_
          refine lv_iload_n hx hb dX3_read_40 rfl (lv_at hl 3 rfl) ?_
          refine lv_iload hx hb dX3_read_41 (lv_at hl 0 rfl) ?_
          obtain ⟨hi3, h⟩ := pz_wrE h
          refine pz_iast hB hK hP hD hS 1 rfl hi3 dX3_read_43 [(q_r, .inr (3, [.ref q_g, .ref q_s, .ref q_r_elements])), (q_r_elements, .inl (cyI, 4, .inl (upd r_elements_12 (Int32.toNatClampNeg x3_12) (x2_12 - x2_12 / (10 : Int32) * (10 : Int32))))), (q_g, .inr (1, [.int g_family, .int g_n, .int g_size, .ref q_g_products, .ref q_g_inverses, .ref q_g_orders, .ref q_g_conjugates, .ref q_g_spans])), (q_g_products, .inl (cyI, 64, .inl g_products)), (q_g_inverses, .inl (cyI, 8, .inl g_inverses)), (q_g_orders, .inl (cyI, 8, .inl g_orders)), (q_g_conjugates, .inl (cyI, 64, .inl g_conjugates)), (q_g_spans, .inl (cyI, 256, .inl g_spans)), (q_s, .inr (4, [.int s_handles, .int s_count, .ref q_s_periods])), (q_s_periods, .inl (cyI, 4, .inl s_periods))] rfl (fun H locs hP hD hS => ?_)
          refine lv_iload_n hx hb dX3_read_44 rfl (lv_at hl 2 rfl) ?_
          refine lv_bipush (v := (10 : Int32)) hx hb dX3_read_45 (by decide) ?_
          refine lv_idiv hx hb dX3_read_47 (by decide) ?_
          refine lv_istore_n (lv' := [(2, .int (x2_12 / (10 : Int32))), (4, .int (x2_12 - x2_12 / (10 : Int32) * (10 : Int32))), (0, .ref q_r), (3, .int x3_12)]) hx hb dX3_read_48 rfl hl (by decide) rfl (fun ls hl => ?_)
          refine lv_iinc (v := (x3_12 + (-1 : Int32))) (lv' := [(3, .int (x3_12 + (-1 : Int32))), (2, .int (x2_12 / (10 : Int32))), (4, .int (x2_12 - x2_12 / (10 : Int32) * (10 : Int32))), (0, .ref q_r)]) hx hb dX3_read_49 hl (k := 3) rfl (by rfl) (by decide) rfl (fun ls hl => ?_)
          refine lv_goto (tgt := 12) hx hb dX3_read_52 (by decide) ?_
          obtain rfl := Option.some.inj h
          exact ih (x2_12 / (10 : Int32)) (x3_12 + (-1 : Int32)) (upd r_elements_12 (Int32.toNatClampNeg x3_12) (x2_12 - x2_12 / (10 : Int32) * (10 : Int32))) _ _ _ hP hD hS (lv_sub hl [3, 1, 0] rfl) hk12
        · have h := pz_itT hc31 h
          refine lv_iconst (v := (0 : Int32)) hx hb dX3_read_34 (by decide) ?_
          obtain rfl := Option.some.inj h
          have h := pz_elimR hk12 hz12
          obtain rfl := Option.some.inj h
          rw [← hQ]
          exact pz_zret hB (Or.inl rfl) hP hD hS dX3_read_35
  exact hL12 pz_FUEL x1 (t1 - (1 : Int32)) r_elements _ _ _ hP hD hS (lv_sub hl [2, 1, 0] rfl) hu_12
set_option maxRecDepth 100000 in
set_option maxHeartbeats 4000000 in
theorem kX3_code (l : Launch) (D : va_G) (cyI : ClassId) (q_r q_r_elements q_g q_g_products q_g_inverses q_g_orders q_g_conjugates q_g_spans q_s q_s_periods : Nat) (r_elements : Nat → Int32) (g_family : Int32) (g_n : Int32) (g_size : Int32) (g_products : Nat → Int32) (g_inverses : Nat → Int32) (g_orders : Nat → Int32) (g_conjugates : Nat → Int32) (g_spans : Nat → Int32) (s_handles : Int32) (s_count : Int32) (s_periods : Nat → Int32) {v : Int32} (h : fX3_code s_handles s_count r_elements = some v) : pz_MI l yX3_code cX3_code 3 .int ({ frames := 1, cells := 0, slots := 0, locals := 20 } : Room) [.ref q_r] D cyI [(q_r, .inr (3, [.ref q_g, .ref q_s, .ref q_r_elements])), (q_r_elements, .inl (cyI, 4, .inl r_elements)), (q_g, .inr (1, [.int g_family, .int g_n, .int g_size, .ref q_g_products, .ref q_g_inverses, .ref q_g_orders, .ref q_g_conjugates, .ref q_g_spans])), (q_g_products, .inl (cyI, 64, .inl g_products)), (q_g_inverses, .inl (cyI, 8, .inl g_inverses)), (q_g_orders, .inl (cyI, 8, .inl g_orders)), (q_g_conjugates, .inl (cyI, 64, .inl g_conjugates)), (q_g_spans, .inl (cyI, 256, .inl g_spans)), (q_s, .inr (4, [.int s_handles, .int s_count, .ref q_s_periods])), (q_s_periods, .inl (cyI, 4, .inl s_periods))] v [(q_r, .inr (3, [.ref q_g, .ref q_s, .ref q_r_elements])), (q_r_elements, .inl (cyI, 4, .inl r_elements)), (q_g, .inr (1, [.int g_family, .int g_n, .int g_size, .ref q_g_products, .ref q_g_inverses, .ref q_g_orders, .ref q_g_conjugates, .ref q_g_spans])), (q_g_products, .inl (cyI, 64, .inl g_products)), (q_g_inverses, .inl (cyI, 8, .inl g_inverses)), (q_g_orders, .inl (cyI, 8, .inl g_orders)), (q_g_conjugates, .inl (cyI, 64, .inl g_conjugates)), (q_g_spans, .inl (cyI, 256, .inl g_spans)), (q_s, .inr (4, [.int s_handles, .int s_count, .ref q_s_periods])), (q_s_periods, .inl (cyI, 4, .inl s_periods))] := by
  refine pz_ofI (by decide) (Nat.le_of_ble_eq_true rfl) ?_
  intro p e s m args below meth c A ls hB hP hK hD hS hA hl
  have hl : lv_has ls 3 [(0, .ref q_r)] := hl
  have hx := hB.1
  have hb := hB.2.1
  unfold fX3_code at h
  generalize hQ : pz_QI below args s D A v [(q_r, .inr (3, [.ref q_g, .ref q_s, .ref q_r_elements])), (q_r_elements, .inl (cyI, 4, .inl r_elements)), (q_g, .inr (1, [.int g_family, .int g_n, .int g_size, .ref q_g_products, .ref q_g_inverses, .ref q_g_orders, .ref q_g_conjugates, .ref q_g_spans])), (q_g_products, .inl (cyI, 64, .inl g_products)), (q_g_inverses, .inl (cyI, 8, .inl g_inverses)), (q_g_orders, .inl (cyI, 8, .inl g_orders)), (q_g_conjugates, .inl (cyI, 64, .inl g_conjugates)), (q_g_spans, .inl (cyI, 256, .inl g_spans)), (q_s, .inr (4, [.int s_handles, .int s_count, .ref q_s_periods])), (q_s_periods, .inl (cyI, 4, .inl s_periods))] = Q
  refine lv_iconst (v := (0 : Int32)) hx hb dX3_code_0 (by decide) ?_
  refine lv_istore_n (lv' := [(1, .int (0 : Int32)), (0, .ref q_r)]) hx hb dX3_code_1 rfl hl (by decide) rfl (fun ls hl => ?_)
  refine lv_iconst (v := (0 : Int32)) hx hb dX3_code_2 (by decide) ?_
  refine lv_istore_n (lv' := [(2, .int (0 : Int32)), (1, .int (0 : Int32)), (0, .ref q_r)]) hx hb dX3_code_3 rfl hl (by decide) rfl (fun ls hl => ?_)
  obtain ⟨u_4, hu_4, h⟩ := pz_bnd h
  have hE4 : ∀ (H : Heap) (locs : List Loc) (ls : Array Slot), va_P D vwCl [(q_r, .inr (3, [.ref q_g, .ref q_s, .ref q_r_elements])), (q_r_elements, .inl (cyI, 4, .inl r_elements)), (q_g, .inr (1, [.int g_family, .int g_n, .int g_size, .ref q_g_products, .ref q_g_inverses, .ref q_g_orders, .ref q_g_conjugates, .ref q_g_spans])), (q_g_products, .inl (cyI, 64, .inl g_products)), (q_g_inverses, .inl (cyI, 8, .inl g_inverses)), (q_g_orders, .inl (cyI, 8, .inl g_orders)), (q_g_conjugates, .inl (cyI, 64, .inl g_conjugates)), (q_g_spans, .inl (cyI, 256, .inl g_spans)), (q_s, .inr (4, [.int s_handles, .int s_count, .ref q_s_periods])), (q_s_periods, .inl (cyI, 4, .inl s_periods))] H → va_D A [(q_r, .inr (3, [.ref q_g, .ref q_s, .ref q_r_elements])), (q_r_elements, .inl (cyI, 4, .inl r_elements)), (q_g, .inr (1, [.int g_family, .int g_n, .int g_size, .ref q_g_products, .ref q_g_inverses, .ref q_g_orders, .ref q_g_conjugates, .ref q_g_spans])), (q_g_products, .inl (cyI, 64, .inl g_products)), (q_g_inverses, .inl (cyI, 8, .inl g_inverses)), (q_g_orders, .inl (cyI, 8, .inl g_orders)), (q_g_conjugates, .inl (cyI, 64, .inl g_conjugates)), (q_g_spans, .inl (cyI, 256, .inl g_spans)), (q_s, .inr (4, [.int s_handles, .int s_count, .ref q_s_periods])), (q_s_periods, .inl (cyI, 4, .inl s_periods))] → va_S A s.heap H locs → lv_has ls 3 [(1, .int u_4)] → W p l e ({ frames := 1, cells := 0, slots := 0, locals := 20 } : Room) s m args below meth c H locs 0 0 Q (F0 m 33 ls []) := by
    intro H locs ls hP hD hS hl
    refine lv_iload_n hx hb dX3_code_33 rfl (lv_at hl 0 rfl) ?_
    obtain rfl := Option.some.inj h
    rw [← hQ]
    exact pz_iret hB hP hD hS dX3_code_34
  have hL4 : ∀ (n : Nat) (x1_4 : Int32) (x2_4 : Int32) (H : Heap) (locs : List Loc) (ls : Array Slot), va_P D vwCl [(q_r, .inr (3, [.ref q_g, .ref q_s, .ref q_r_elements])), (q_r_elements, .inl (cyI, 4, .inl r_elements)), (q_g, .inr (1, [.int g_family, .int g_n, .int g_size, .ref q_g_products, .ref q_g_inverses, .ref q_g_orders, .ref q_g_conjugates, .ref q_g_spans])), (q_g_products, .inl (cyI, 64, .inl g_products)), (q_g_inverses, .inl (cyI, 8, .inl g_inverses)), (q_g_orders, .inl (cyI, 8, .inl g_orders)), (q_g_conjugates, .inl (cyI, 64, .inl g_conjugates)), (q_g_spans, .inl (cyI, 256, .inl g_spans)), (q_s, .inr (4, [.int s_handles, .int s_count, .ref q_s_periods])), (q_s_periods, .inl (cyI, 4, .inl s_periods))] H → va_D A [(q_r, .inr (3, [.ref q_g, .ref q_s, .ref q_r_elements])), (q_r_elements, .inl (cyI, 4, .inl r_elements)), (q_g, .inr (1, [.int g_family, .int g_n, .int g_size, .ref q_g_products, .ref q_g_inverses, .ref q_g_orders, .ref q_g_conjugates, .ref q_g_spans])), (q_g_products, .inl (cyI, 64, .inl g_products)), (q_g_inverses, .inl (cyI, 8, .inl g_inverses)), (q_g_orders, .inl (cyI, 8, .inl g_orders)), (q_g_conjugates, .inl (cyI, 64, .inl g_conjugates)), (q_g_spans, .inl (cyI, 256, .inl g_spans)), (q_s, .inr (4, [.int s_handles, .int s_count, .ref q_s_periods])), (q_s_periods, .inl (cyI, 4, .inl s_periods))] → va_S A s.heap H locs → lv_has ls 3 [(0, .ref q_r), (1, .int x1_4), (2, .int x2_4)] → pz_iter (fun (σ : Int32 × Int32) => fX3_code_L4 s_handles s_count r_elements σ.1 σ.2) n (x1_4, x2_4) = some u_4 → W p l e ({ frames := 1, cells := 0, slots := 0, locals := 20 } : Room) s m args below meth c H locs 0 0 Q (F0 m 4 ls []) := by
    intro n
    induction n with
    | zero => intro x1_4 x2_4 H locs ls hP hD hS hl h; exact (pz_it0 h).elim
    | succ n ih =>
      intro x1_4 x2_4 H locs ls hP hD hS hl h
      obtain ⟨y_4, h, hk4⟩ := pz_itS h
      have h : fX3_code_L4 s_handles s_count r_elements x1_4 x2_4 = some y_4 := h
      unfold fX3_code_L4 at h
      refine lv_iload_n hx hb dX3_code_4 rfl (lv_at hl 2 rfl) ?_
      refine lv_aload_n hx hb dX3_code_5 rfl (lv_at hl 0 rfl) ?_
      refine pz_get pFX3_19 hB hK hP 0 rfl rfl dX3_code_6 ?_
      obtain ⟨t1, ht1, h⟩ := pz_bnd h
      refine pz_callIr (rest := [.int x2_4]) pCX3_23 (kX4_digits l D cyI q_s q_s_periods s_handles s_count s_periods ht1) hB hK hP hD hS hA hl rfl rfl rfl ⟨Nat.le_of_ble_eq_true rfl, Nat.le_of_ble_eq_true rfl⟩ rfl rfl [8, 9] rfl (by decide) (Nat.le_of_ble_eq_true rfl) dX3_code_9 (Nat.zero_le _) (Nat.zero_le _) rfl (fun H locs hP hS => ?_)
      refine lv_icmp_ge (tgt := 33) hx hb dX3_code_12 (by decide) (fun hc12 => ?_) (fun hc12 => ?_)
      · have h := pz_itT hc12 h
        obtain rfl := Option.some.inj h
        obtain rfl := pz_exit hk4
        exact hE4 _ _ _ hP hD hS (lv_sub hl [1] rfl)
      · have h := pz_itF hc12 h
        refine lv_iload_n hx hb dX3_code_15 rfl (lv_at hl 1 rfl) ?_
        refine lv_bipush (v := (10 : Int32)) hx hb dX3_code_16 (by decide) ?_
        refine lv_imul hx hb dX3_code_18 ?_
        refine lv_aload_n hx hb dX3_code_19 rfl (lv_at hl 0 rfl) ?_
        refine pz_get pFX3_9 hB hK hP 0 rfl rfl dX3_code_20 ?_
        refine lv_iload_n hx hb dX3_code_23 rfl (lv_at hl 2 rfl) ?_
        obtain ⟨hi2, h⟩ := pz_rdE h
        refine pz_iald hB hK hP 1 rfl hi2 dX3_code_24 ?_
        refine lv_iadd hx hb dX3_code_25 ?_
        refine lv_istore_n (lv' := [(1, .int ((x1_4 * (10 : Int32)) + (r_elements (Int32.toNatClampNeg x2_4)))), (0, .ref q_r), (2, .int x2_4)]) hx hb dX3_code_26 rfl hl (by decide) rfl (fun ls hl => ?_)
        refine lv_iinc (v := (x2_4 + (1 : Int32))) (lv' := [(2, .int (x2_4 + (1 : Int32))), (1, .int ((x1_4 * (10 : Int32)) + (r_elements (Int32.toNatClampNeg x2_4)))), (0, .ref q_r)]) hx hb dX3_code_27 hl (k := 2) rfl (by rfl) (by decide) rfl (fun ls hl => ?_)
        refine lv_goto (tgt := 4) hx hb dX3_code_30 (by decide) ?_
        obtain rfl := Option.some.inj h
        exact ih ((x1_4 * (10 : Int32)) + (r_elements (Int32.toNatClampNeg x2_4))) (x2_4 + (1 : Int32)) _ _ _ hP hD hS (lv_sub hl [2, 1, 0] rfl) hk4
  exact hL4 pz_FUEL (0 : Int32) (0 : Int32) _ _ _ hP hD hS (lv_sub hl [2, 1, 0] rfl) hu_4
set_option maxRecDepth 100000 in
set_option maxHeartbeats 4000000 in
theorem kX3_elementOfPeriod (l : Launch) (D : va_G) (cyI : ClassId) (q_r q_r_elements q_g q_g_products q_g_inverses q_g_orders q_g_conjugates q_g_spans q_s q_s_periods : Nat) (r_elements : Nat → Int32) (g_family : Int32) (g_n : Int32) (g_size : Int32) (g_products : Nat → Int32) (g_inverses : Nat → Int32) (g_orders : Nat → Int32) (g_conjugates : Nat → Int32) (g_spans : Nat → Int32) (s_handles : Int32) (s_count : Int32) (s_periods : Nat → Int32) (x1 : Int32) {v : Int32} (h : fX3_elementOfPeriod x1 s_handles r_elements = some v) : pz_MI l yX3_elementOfPeriod cX3_elementOfPeriod 2 .int ({ frames := 0, cells := 0, slots := 0, locals := 0 } : Room) [.ref q_r, .int x1] D cyI [(q_r, .inr (3, [.ref q_g, .ref q_s, .ref q_r_elements])), (q_r_elements, .inl (cyI, 4, .inl r_elements)), (q_g, .inr (1, [.int g_family, .int g_n, .int g_size, .ref q_g_products, .ref q_g_inverses, .ref q_g_orders, .ref q_g_conjugates, .ref q_g_spans])), (q_g_products, .inl (cyI, 64, .inl g_products)), (q_g_inverses, .inl (cyI, 8, .inl g_inverses)), (q_g_orders, .inl (cyI, 8, .inl g_orders)), (q_g_conjugates, .inl (cyI, 64, .inl g_conjugates)), (q_g_spans, .inl (cyI, 256, .inl g_spans)), (q_s, .inr (4, [.int s_handles, .int s_count, .ref q_s_periods])), (q_s_periods, .inl (cyI, 4, .inl s_periods))] v [(q_r, .inr (3, [.ref q_g, .ref q_s, .ref q_r_elements])), (q_r_elements, .inl (cyI, 4, .inl r_elements)), (q_g, .inr (1, [.int g_family, .int g_n, .int g_size, .ref q_g_products, .ref q_g_inverses, .ref q_g_orders, .ref q_g_conjugates, .ref q_g_spans])), (q_g_products, .inl (cyI, 64, .inl g_products)), (q_g_inverses, .inl (cyI, 8, .inl g_inverses)), (q_g_orders, .inl (cyI, 8, .inl g_orders)), (q_g_conjugates, .inl (cyI, 64, .inl g_conjugates)), (q_g_spans, .inl (cyI, 256, .inl g_spans)), (q_s, .inr (4, [.int s_handles, .int s_count, .ref q_s_periods])), (q_s_periods, .inl (cyI, 4, .inl s_periods))] := by
  refine pz_ofI (by decide) (Nat.le_of_ble_eq_true rfl) ?_
  intro p e s m args below meth c A ls hB hP hK hD hS hA hl
  have hl : lv_has ls 2 [(0, .ref q_r), (1, .int x1)] := hl
  have hx := hB.1
  have hb := hB.2.1
  unfold fX3_elementOfPeriod at h
  generalize hQ : pz_QI below args s D A v [(q_r, .inr (3, [.ref q_g, .ref q_s, .ref q_r_elements])), (q_r_elements, .inl (cyI, 4, .inl r_elements)), (q_g, .inr (1, [.int g_family, .int g_n, .int g_size, .ref q_g_products, .ref q_g_inverses, .ref q_g_orders, .ref q_g_conjugates, .ref q_g_spans])), (q_g_products, .inl (cyI, 64, .inl g_products)), (q_g_inverses, .inl (cyI, 8, .inl g_inverses)), (q_g_orders, .inl (cyI, 8, .inl g_orders)), (q_g_conjugates, .inl (cyI, 64, .inl g_conjugates)), (q_g_spans, .inl (cyI, 256, .inl g_spans)), (q_s, .inr (4, [.int s_handles, .int s_count, .ref q_s_periods])), (q_s_periods, .inl (cyI, 4, .inl s_periods))] = Q
  refine lv_aload_n hx hb dX3_elementOfPeriod_0 rfl (lv_at hl 0 rfl) ?_
  refine pz_get pFX3_9 hB hK hP 0 rfl rfl dX3_elementOfPeriod_1 ?_
  refine lv_iconst (v := (2 : Int32)) hx hb dX3_elementOfPeriod_4 (by decide) ?_
  refine lv_aload_n hx hb dX3_elementOfPeriod_5 rfl (lv_at hl 0 rfl) ?_
  refine pz_get pFX3_19 hB hK hP 0 rfl rfl dX3_elementOfPeriod_6 ?_
  refine pz_getN pFX3_35 hB hK hP 8 rfl rfl dX3_elementOfPeriod_9 ?_
  refine lv_imul hx hb dX3_elementOfPeriod_12 ?_
  refine lv_iload_n hx hb dX3_elementOfPeriod_13 rfl (lv_at hl 1 rfl) ?_
  refine lv_iadd hx hb dX3_elementOfPeriod_14 ?_
  obtain ⟨hi1, h⟩ := pz_rdE h
  refine pz_iald hB hK hP 1 rfl hi1 dX3_elementOfPeriod_15 ?_
  obtain rfl := Option.some.inj h
  rw [← hQ]
  exact pz_iret hB hP hD hS dX3_elementOfPeriod_16
set_option maxRecDepth 100000 in
set_option maxHeartbeats 4000000 in
theorem kX3_hasOrders (l : Launch) (D : va_G) (cyI : ClassId) (q_r q_r_elements q_g q_g_products q_g_inverses q_g_orders q_g_conjugates q_g_spans q_s q_s_periods : Nat) (r_elements : Nat → Int32) (g_family : Int32) (g_n : Int32) (g_size : Int32) (g_products : Nat → Int32) (g_inverses : Nat → Int32) (g_orders : Nat → Int32) (g_conjugates : Nat → Int32) (g_spans : Nat → Int32) (s_handles : Int32) (s_count : Int32) (s_periods : Nat → Int32) (x1 : Int32) {v : Int32} (h : fX3_hasOrders x1 g_orders s_handles s_periods r_elements = some v) : pz_MI l yX3_hasOrders cX3_hasOrders 3 .boolean ({ frames := 1, cells := 0, slots := 0, locals := 21 } : Room) [.ref q_r, .int x1] D cyI [(q_r, .inr (3, [.ref q_g, .ref q_s, .ref q_r_elements])), (q_r_elements, .inl (cyI, 4, .inl r_elements)), (q_g, .inr (1, [.int g_family, .int g_n, .int g_size, .ref q_g_products, .ref q_g_inverses, .ref q_g_orders, .ref q_g_conjugates, .ref q_g_spans])), (q_g_products, .inl (cyI, 64, .inl g_products)), (q_g_inverses, .inl (cyI, 8, .inl g_inverses)), (q_g_orders, .inl (cyI, 8, .inl g_orders)), (q_g_conjugates, .inl (cyI, 64, .inl g_conjugates)), (q_g_spans, .inl (cyI, 256, .inl g_spans)), (q_s, .inr (4, [.int s_handles, .int s_count, .ref q_s_periods])), (q_s_periods, .inl (cyI, 4, .inl s_periods))] v [(q_r, .inr (3, [.ref q_g, .ref q_s, .ref q_r_elements])), (q_r_elements, .inl (cyI, 4, .inl r_elements)), (q_g, .inr (1, [.int g_family, .int g_n, .int g_size, .ref q_g_products, .ref q_g_inverses, .ref q_g_orders, .ref q_g_conjugates, .ref q_g_spans])), (q_g_products, .inl (cyI, 64, .inl g_products)), (q_g_inverses, .inl (cyI, 8, .inl g_inverses)), (q_g_orders, .inl (cyI, 8, .inl g_orders)), (q_g_conjugates, .inl (cyI, 64, .inl g_conjugates)), (q_g_spans, .inl (cyI, 256, .inl g_spans)), (q_s, .inr (4, [.int s_handles, .int s_count, .ref q_s_periods])), (q_s_periods, .inl (cyI, 4, .inl s_periods))] := by
  refine pz_ofI (by decide) (Nat.le_of_ble_eq_true rfl) ?_
  intro p e s m args below meth c A ls hB hP hK hD hS hA hl
  have hl : lv_has ls 3 [(0, .ref q_r), (1, .int x1)] := hl
  have hx := hB.1
  have hb := hB.2.1
  unfold fX3_hasOrders at h
  generalize hQ : pz_QI below args s D A v [(q_r, .inr (3, [.ref q_g, .ref q_s, .ref q_r_elements])), (q_r_elements, .inl (cyI, 4, .inl r_elements)), (q_g, .inr (1, [.int g_family, .int g_n, .int g_size, .ref q_g_products, .ref q_g_inverses, .ref q_g_orders, .ref q_g_conjugates, .ref q_g_spans])), (q_g_products, .inl (cyI, 64, .inl g_products)), (q_g_inverses, .inl (cyI, 8, .inl g_inverses)), (q_g_orders, .inl (cyI, 8, .inl g_orders)), (q_g_conjugates, .inl (cyI, 64, .inl g_conjugates)), (q_g_spans, .inl (cyI, 256, .inl g_spans)), (q_s, .inr (4, [.int s_handles, .int s_count, .ref q_s_periods])), (q_s_periods, .inl (cyI, 4, .inl s_periods))] = Q
  refine lv_iconst (v := (0 : Int32)) hx hb dX3_hasOrders_0 (by decide) ?_
  refine lv_istore_n (lv' := [(2, .int (0 : Int32)), (0, .ref q_r), (1, .int x1)]) hx hb dX3_hasOrders_1 rfl hl (by decide) rfl (fun ls hl => ?_)
  obtain ⟨u_2, hu_2, h⟩ := pz_bnd h
  have hz2 := h
  have hE2 : ∀ (uu_2 : Unit), u_2 = Sum.inl uu_2 → ∀ (H : Heap) (locs : List Loc) (ls : Array Slot), va_P D vwCl [(q_r, .inr (3, [.ref q_g, .ref q_s, .ref q_r_elements])), (q_r_elements, .inl (cyI, 4, .inl r_elements)), (q_g, .inr (1, [.int g_family, .int g_n, .int g_size, .ref q_g_products, .ref q_g_inverses, .ref q_g_orders, .ref q_g_conjugates, .ref q_g_spans])), (q_g_products, .inl (cyI, 64, .inl g_products)), (q_g_inverses, .inl (cyI, 8, .inl g_inverses)), (q_g_orders, .inl (cyI, 8, .inl g_orders)), (q_g_conjugates, .inl (cyI, 64, .inl g_conjugates)), (q_g_spans, .inl (cyI, 256, .inl g_spans)), (q_s, .inr (4, [.int s_handles, .int s_count, .ref q_s_periods])), (q_s_periods, .inl (cyI, 4, .inl s_periods))] H → va_D A [(q_r, .inr (3, [.ref q_g, .ref q_s, .ref q_r_elements])), (q_r_elements, .inl (cyI, 4, .inl r_elements)), (q_g, .inr (1, [.int g_family, .int g_n, .int g_size, .ref q_g_products, .ref q_g_inverses, .ref q_g_orders, .ref q_g_conjugates, .ref q_g_spans])), (q_g_products, .inl (cyI, 64, .inl g_products)), (q_g_inverses, .inl (cyI, 8, .inl g_inverses)), (q_g_orders, .inl (cyI, 8, .inl g_orders)), (q_g_conjugates, .inl (cyI, 64, .inl g_conjugates)), (q_g_spans, .inl (cyI, 256, .inl g_spans)), (q_s, .inr (4, [.int s_handles, .int s_count, .ref q_s_periods])), (q_s_periods, .inl (cyI, 4, .inl s_periods))] → va_S A s.heap H locs → lv_has ls 3 [] → W p l e ({ frames := 1, cells := 0, slots := 0, locals := 21 } : Room) s m args below meth c H locs 0 0 Q (F0 m 40 ls []) := by
    intro uu_2 huu H locs ls hP hD hS hl
    have h := pz_elimL huu hz2
    refine lv_iconst (v := (1 : Int32)) hx hb dX3_hasOrders_40 (by decide) ?_
    obtain rfl := Option.some.inj h
    rw [← hQ]
    exact pz_zret hB (Or.inr rfl) hP hD hS dX3_hasOrders_41
  have hL2 : ∀ (n : Nat) (x2_2 : Int32) (H : Heap) (locs : List Loc) (ls : Array Slot), va_P D vwCl [(q_r, .inr (3, [.ref q_g, .ref q_s, .ref q_r_elements])), (q_r_elements, .inl (cyI, 4, .inl r_elements)), (q_g, .inr (1, [.int g_family, .int g_n, .int g_size, .ref q_g_products, .ref q_g_inverses, .ref q_g_orders, .ref q_g_conjugates, .ref q_g_spans])), (q_g_products, .inl (cyI, 64, .inl g_products)), (q_g_inverses, .inl (cyI, 8, .inl g_inverses)), (q_g_orders, .inl (cyI, 8, .inl g_orders)), (q_g_conjugates, .inl (cyI, 64, .inl g_conjugates)), (q_g_spans, .inl (cyI, 256, .inl g_spans)), (q_s, .inr (4, [.int s_handles, .int s_count, .ref q_s_periods])), (q_s_periods, .inl (cyI, 4, .inl s_periods))] H → va_D A [(q_r, .inr (3, [.ref q_g, .ref q_s, .ref q_r_elements])), (q_r_elements, .inl (cyI, 4, .inl r_elements)), (q_g, .inr (1, [.int g_family, .int g_n, .int g_size, .ref q_g_products, .ref q_g_inverses, .ref q_g_orders, .ref q_g_conjugates, .ref q_g_spans])), (q_g_products, .inl (cyI, 64, .inl g_products)), (q_g_inverses, .inl (cyI, 8, .inl g_inverses)), (q_g_orders, .inl (cyI, 8, .inl g_orders)), (q_g_conjugates, .inl (cyI, 64, .inl g_conjugates)), (q_g_spans, .inl (cyI, 256, .inl g_spans)), (q_s, .inr (4, [.int s_handles, .int s_count, .ref q_s_periods])), (q_s_periods, .inl (cyI, 4, .inl s_periods))] → va_S A s.heap H locs → lv_has ls 3 [(0, .ref q_r), (1, .int x1), (2, .int x2_2)] → pz_iter (fun (σ : Int32) => fX3_hasOrders_L2 x1 g_orders s_handles s_periods r_elements σ) n x2_2 = some u_2 → W p l e ({ frames := 1, cells := 0, slots := 0, locals := 21 } : Room) s m args below meth c H locs 0 0 Q (F0 m 2 ls []) := by
    intro n
    induction n with
    | zero => intro x2_2 H locs ls hP hD hS hl h; exact (pz_it0 h).elim
    | succ n ih =>
      intro x2_2 H locs ls hP hD hS hl h
      obtain ⟨y_2, h, hk2⟩ := pz_itS h
      have h : fX3_hasOrders_L2 x1 g_orders s_handles s_periods r_elements x2_2 = some y_2 := h
      unfold fX3_hasOrders_L2 at h
      refine lv_iload_n hx hb dX3_hasOrders_2 rfl (lv_at hl 2 rfl) ?_
      refine lv_iload_n hx hb dX3_hasOrders_3 rfl (lv_at hl 1 rfl) ?_
      refine lv_icmp_ge (tgt := 40) hx hb dX3_hasOrders_4 (by decide) (fun hc4 => ?_) (fun hc4 => ?_)
      · have h := pz_itT hc4 h
        obtain rfl := Option.some.inj h
        exact hE2 () (pz_exitI hk2) _ _ _ hP hD hS (lv_sub hl [] rfl)
      · have h := pz_itF hc4 h
        refine lv_aload_n hx hb dX3_hasOrders_7 rfl (lv_at hl 0 rfl) ?_
        refine pz_get pFX3_15 hB hK hP 0 rfl rfl dX3_hasOrders_8 ?_
        refine pz_getN pFX3_59 hB hK hP 2 rfl rfl dX3_hasOrders_11 ?_
        refine lv_aload_n hx hb dX3_hasOrders_14 rfl (lv_at hl 0 rfl) ?_
        refine lv_iload_n hx hb dX3_hasOrders_15 rfl (lv_at hl 2 rfl) ?_
        obtain ⟨t1, ht1, h⟩ := pz_bnd h
        refine pz_callIr (rest := [.ref q_g_orders]) pCX3_62 (kX3_elementOfPeriod l D cyI q_r q_r_elements q_g q_g_products q_g_inverses q_g_orders q_g_conjugates q_g_spans q_s q_s_periods r_elements g_family g_n g_size g_products g_inverses g_orders g_conjugates g_spans s_handles s_count s_periods x2_2 ht1) hB hK hP hD hS hA hl rfl rfl rfl ⟨Nat.le_of_ble_eq_true rfl, Nat.le_of_ble_eq_true rfl⟩ rfl rfl [0, 1, 2, 3, 4, 5, 6, 7, 8, 9] rfl (by decide) (Nat.le_of_ble_eq_true rfl) dX3_hasOrders_16 (Nat.zero_le _) (Nat.zero_le _) rfl (fun H locs hP hS => ?_)
        obtain ⟨hi2, h⟩ := pz_rdE h
        refine pz_iald hB hK hP 5 rfl hi2 dX3_hasOrders_19 ?_
        refine lv_aload_n hx hb dX3_hasOrders_20 rfl (lv_at hl 0 rfl) ?_
        refine pz_get pFX3_19 hB hK hP 0 rfl rfl dX3_hasOrders_21 ?_
        refine pz_getN pFX3_65 hB hK hP 8 rfl rfl dX3_hasOrders_24 ?_
        refine lv_iload_n hx hb dX3_hasOrders_27 rfl (lv_at hl 2 rfl) ?_
        obtain ⟨hi3, h⟩ := pz_rdE h
        refine pz_iald hB hK hP 9 rfl hi3 dX3_hasOrders_28 ?_
        refine lv_icmp_eq (tgt := 34) hx hb dX3_hasOrders_29 (by decide) (fun hc29 => ?_) (fun hc29 => ?_)
        · have h := pz_itT hc29 h
          refine lv_iinc (v := (x2_2 + (1 : Int32))) (lv' := [(2, .int (x2_2 + (1 : Int32))), (0, .ref q_r), (1, .int x1)]) hx hb dX3_hasOrders_34 hl (k := 2) rfl (by rfl) (by decide) rfl (fun ls hl => ?_)
          refine lv_goto (tgt := 2) hx hb dX3_hasOrders_37 (by decide) ?_
          obtain rfl := Option.some.inj h
          exact ih (x2_2 + (1 : Int32)) _ _ _ hP hD hS (lv_sub hl [1, 2, 0] rfl) hk2
        · have h := pz_itF hc29 h
          refine lv_iconst (v := (0 : Int32)) hx hb dX3_hasOrders_32 (by decide) ?_
          obtain rfl := Option.some.inj h
          have h := pz_elimR hk2 hz2
          obtain rfl := Option.some.inj h
          rw [← hQ]
          exact pz_zret hB (Or.inl rfl) hP hD hS dX3_hasOrders_33
  exact hL2 pz_FUEL (0 : Int32) _ _ _ hP hD hS (lv_sub hl [1, 2, 0] rfl) hu_2
set_option maxRecDepth 100000 in
set_option maxHeartbeats 4000000 in
theorem kX3_productOfFirst (l : Launch) (D : va_G) (cyI : ClassId) (q_r q_r_elements q_g q_g_products q_g_inverses q_g_orders q_g_conjugates q_g_spans q_s q_s_periods : Nat) (r_elements : Nat → Int32) (g_family : Int32) (g_n : Int32) (g_size : Int32) (g_products : Nat → Int32) (g_inverses : Nat → Int32) (g_orders : Nat → Int32) (g_conjugates : Nat → Int32) (g_spans : Nat → Int32) (s_handles : Int32) (s_count : Int32) (s_periods : Nat → Int32) (x1 : Int32) {v : Int32} (h : fX3_productOfFirst x1 g_products g_inverses s_handles r_elements = some v) : pz_MI l yX3_productOfFirst cX3_productOfFirst 4 .int ({ frames := 1, cells := 0, slots := 0, locals := 22 } : Room) [.ref q_r, .int x1] D cyI [(q_r, .inr (3, [.ref q_g, .ref q_s, .ref q_r_elements])), (q_r_elements, .inl (cyI, 4, .inl r_elements)), (q_g, .inr (1, [.int g_family, .int g_n, .int g_size, .ref q_g_products, .ref q_g_inverses, .ref q_g_orders, .ref q_g_conjugates, .ref q_g_spans])), (q_g_products, .inl (cyI, 64, .inl g_products)), (q_g_inverses, .inl (cyI, 8, .inl g_inverses)), (q_g_orders, .inl (cyI, 8, .inl g_orders)), (q_g_conjugates, .inl (cyI, 64, .inl g_conjugates)), (q_g_spans, .inl (cyI, 256, .inl g_spans)), (q_s, .inr (4, [.int s_handles, .int s_count, .ref q_s_periods])), (q_s_periods, .inl (cyI, 4, .inl s_periods))] v [(q_r, .inr (3, [.ref q_g, .ref q_s, .ref q_r_elements])), (q_r_elements, .inl (cyI, 4, .inl r_elements)), (q_g, .inr (1, [.int g_family, .int g_n, .int g_size, .ref q_g_products, .ref q_g_inverses, .ref q_g_orders, .ref q_g_conjugates, .ref q_g_spans])), (q_g_products, .inl (cyI, 64, .inl g_products)), (q_g_inverses, .inl (cyI, 8, .inl g_inverses)), (q_g_orders, .inl (cyI, 8, .inl g_orders)), (q_g_conjugates, .inl (cyI, 64, .inl g_conjugates)), (q_g_spans, .inl (cyI, 256, .inl g_spans)), (q_s, .inr (4, [.int s_handles, .int s_count, .ref q_s_periods])), (q_s_periods, .inl (cyI, 4, .inl s_periods))] := by
  refine pz_ofI (by decide) (Nat.le_of_ble_eq_true rfl) ?_
  intro p e s m args below meth c A ls hB hP hK hD hS hA hl
  have hl : lv_has ls 4 [(0, .ref q_r), (1, .int x1)] := hl
  have hx := hB.1
  have hb := hB.2.1
  unfold fX3_productOfFirst at h
  generalize hQ : pz_QI below args s D A v [(q_r, .inr (3, [.ref q_g, .ref q_s, .ref q_r_elements])), (q_r_elements, .inl (cyI, 4, .inl r_elements)), (q_g, .inr (1, [.int g_family, .int g_n, .int g_size, .ref q_g_products, .ref q_g_inverses, .ref q_g_orders, .ref q_g_conjugates, .ref q_g_spans])), (q_g_products, .inl (cyI, 64, .inl g_products)), (q_g_inverses, .inl (cyI, 8, .inl g_inverses)), (q_g_orders, .inl (cyI, 8, .inl g_orders)), (q_g_conjugates, .inl (cyI, 64, .inl g_conjugates)), (q_g_spans, .inl (cyI, 256, .inl g_spans)), (q_s, .inr (4, [.int s_handles, .int s_count, .ref q_s_periods])), (q_s_periods, .inl (cyI, 4, .inl s_periods))] = Q
  refine lv_iconst (v := (0 : Int32)) hx hb dX3_productOfFirst_0 (by decide) ?_
  refine lv_istore_n (lv' := [(2, .int (0 : Int32)), (0, .ref q_r), (1, .int x1)]) hx hb dX3_productOfFirst_1 rfl hl (by decide) rfl (fun ls hl => ?_)
  refine lv_aload_n hx hb dX3_productOfFirst_2 rfl (lv_at hl 1 rfl) ?_
  refine pz_get pFX3_19 hB hK hP 0 rfl rfl dX3_productOfFirst_3 ?_
  refine pz_getN pFX3_35 hB hK hP 8 rfl rfl dX3_productOfFirst_6 ?_
  refine lv_iconst (v := (1 : Int32)) hx hb dX3_productOfFirst_9 (by decide) ?_
  have hJ77 : ∀ (x2_j77 : Int32) (H : Heap) (locs : List Loc) (ls : Array Slot), va_P D vwCl [(q_r, .inr (3, [.ref q_g, .ref q_s, .ref q_r_elements])), (q_r_elements, .inl (cyI, 4, .inl r_elements)), (q_g, .inr (1, [.int g_family, .int g_n, .int g_size, .ref q_g_products, .ref q_g_inverses, .ref q_g_orders, .ref q_g_conjugates, .ref q_g_spans])), (q_g_products, .inl (cyI, 64, .inl g_products)), (q_g_inverses, .inl (cyI, 8, .inl g_inverses)), (q_g_orders, .inl (cyI, 8, .inl g_orders)), (q_g_conjugates, .inl (cyI, 64, .inl g_conjugates)), (q_g_spans, .inl (cyI, 256, .inl g_spans)), (q_s, .inr (4, [.int s_handles, .int s_count, .ref q_s_periods])), (q_s_periods, .inl (cyI, 4, .inl s_periods))] H → va_D A [(q_r, .inr (3, [.ref q_g, .ref q_s, .ref q_r_elements])), (q_r_elements, .inl (cyI, 4, .inl r_elements)), (q_g, .inr (1, [.int g_family, .int g_n, .int g_size, .ref q_g_products, .ref q_g_inverses, .ref q_g_orders, .ref q_g_conjugates, .ref q_g_spans])), (q_g_products, .inl (cyI, 64, .inl g_products)), (q_g_inverses, .inl (cyI, 8, .inl g_inverses)), (q_g_orders, .inl (cyI, 8, .inl g_orders)), (q_g_conjugates, .inl (cyI, 64, .inl g_conjugates)), (q_g_spans, .inl (cyI, 256, .inl g_spans)), (q_s, .inr (4, [.int s_handles, .int s_count, .ref q_s_periods])), (q_s_periods, .inl (cyI, 4, .inl s_periods))] → va_S A s.heap H locs → lv_has ls 4 [(0, .ref q_r), (1, .int x1), (2, .int x2_j77)] → fX3_productOfFirst_J77 x1 x2_j77 g_products s_handles r_elements = some v → W p l e ({ frames := 1, cells := 0, slots := 0, locals := 22 } : Room) s m args below meth c H locs 0 0 Q (F0 m 77 ls []) := by
    intro x2_j77 H locs ls hP hD hS hl h
    unfold fX3_productOfFirst_J77 at h
    refine lv_iconst (v := (0 : Int32)) hx hb dX3_productOfFirst_77 (by decide) ?_
    refine lv_istore_n (lv' := [(3, .int (0 : Int32)), (0, .ref q_r), (1, .int x1), (2, .int x2_j77)]) hx hb dX3_productOfFirst_78 rfl hl (by decide) rfl (fun ls hl => ?_)
    obtain ⟨u_79, hu_79, h⟩ := pz_bnd h
    have hE79 : ∀ (H : Heap) (locs : List Loc) (ls : Array Slot), va_P D vwCl [(q_r, .inr (3, [.ref q_g, .ref q_s, .ref q_r_elements])), (q_r_elements, .inl (cyI, 4, .inl r_elements)), (q_g, .inr (1, [.int g_family, .int g_n, .int g_size, .ref q_g_products, .ref q_g_inverses, .ref q_g_orders, .ref q_g_conjugates, .ref q_g_spans])), (q_g_products, .inl (cyI, 64, .inl g_products)), (q_g_inverses, .inl (cyI, 8, .inl g_inverses)), (q_g_orders, .inl (cyI, 8, .inl g_orders)), (q_g_conjugates, .inl (cyI, 64, .inl g_conjugates)), (q_g_spans, .inl (cyI, 256, .inl g_spans)), (q_s, .inr (4, [.int s_handles, .int s_count, .ref q_s_periods])), (q_s_periods, .inl (cyI, 4, .inl s_periods))] H → va_D A [(q_r, .inr (3, [.ref q_g, .ref q_s, .ref q_r_elements])), (q_r_elements, .inl (cyI, 4, .inl r_elements)), (q_g, .inr (1, [.int g_family, .int g_n, .int g_size, .ref q_g_products, .ref q_g_inverses, .ref q_g_orders, .ref q_g_conjugates, .ref q_g_spans])), (q_g_products, .inl (cyI, 64, .inl g_products)), (q_g_inverses, .inl (cyI, 8, .inl g_inverses)), (q_g_orders, .inl (cyI, 8, .inl g_orders)), (q_g_conjugates, .inl (cyI, 64, .inl g_conjugates)), (q_g_spans, .inl (cyI, 256, .inl g_spans)), (q_s, .inr (4, [.int s_handles, .int s_count, .ref q_s_periods])), (q_s_periods, .inl (cyI, 4, .inl s_periods))] → va_S A s.heap H locs → lv_has ls 4 [(2, .int u_79)] → W p l e ({ frames := 1, cells := 0, slots := 0, locals := 22 } : Room) s m args below meth c H locs 0 0 Q (F0 m 104 ls []) := by
      intro H locs ls hP hD hS hl
      refine lv_iload_n hx hb dX3_productOfFirst_104 rfl (lv_at hl 0 rfl) ?_
      obtain rfl := Option.some.inj h
      rw [← hQ]
      exact pz_iret hB hP hD hS dX3_productOfFirst_105
    have hL79 : ∀ (n : Nat) (x2_79 : Int32) (x3_79 : Int32) (H : Heap) (locs : List Loc) (ls : Array Slot), va_P D vwCl [(q_r, .inr (3, [.ref q_g, .ref q_s, .ref q_r_elements])), (q_r_elements, .inl (cyI, 4, .inl r_elements)), (q_g, .inr (1, [.int g_family, .int g_n, .int g_size, .ref q_g_products, .ref q_g_inverses, .ref q_g_orders, .ref q_g_conjugates, .ref q_g_spans])), (q_g_products, .inl (cyI, 64, .inl g_products)), (q_g_inverses, .inl (cyI, 8, .inl g_inverses)), (q_g_orders, .inl (cyI, 8, .inl g_orders)), (q_g_conjugates, .inl (cyI, 64, .inl g_conjugates)), (q_g_spans, .inl (cyI, 256, .inl g_spans)), (q_s, .inr (4, [.int s_handles, .int s_count, .ref q_s_periods])), (q_s_periods, .inl (cyI, 4, .inl s_periods))] H → va_D A [(q_r, .inr (3, [.ref q_g, .ref q_s, .ref q_r_elements])), (q_r_elements, .inl (cyI, 4, .inl r_elements)), (q_g, .inr (1, [.int g_family, .int g_n, .int g_size, .ref q_g_products, .ref q_g_inverses, .ref q_g_orders, .ref q_g_conjugates, .ref q_g_spans])), (q_g_products, .inl (cyI, 64, .inl g_products)), (q_g_inverses, .inl (cyI, 8, .inl g_inverses)), (q_g_orders, .inl (cyI, 8, .inl g_orders)), (q_g_conjugates, .inl (cyI, 64, .inl g_conjugates)), (q_g_spans, .inl (cyI, 256, .inl g_spans)), (q_s, .inr (4, [.int s_handles, .int s_count, .ref q_s_periods])), (q_s_periods, .inl (cyI, 4, .inl s_periods))] → va_S A s.heap H locs → lv_has ls 4 [(0, .ref q_r), (1, .int x1), (2, .int x2_79), (3, .int x3_79)] → pz_iter (fun (σ : Int32 × Int32) => fX3_productOfFirst_L79 x1 g_products s_handles r_elements σ.1 σ.2) n (x2_79, x3_79) = some u_79 → W p l e ({ frames := 1, cells := 0, slots := 0, locals := 22 } : Room) s m args below meth c H locs 0 0 Q (F0 m 79 ls []) := by
      intro n
      induction n with
      | zero => intro x2_79 x3_79 H locs ls hP hD hS hl h; exact (pz_it0 h).elim
      | succ n ih =>
        intro x2_79 x3_79 H locs ls hP hD hS hl h
        obtain ⟨y_79, h, hk79⟩ := pz_itS h
        have h : fX3_productOfFirst_L79 x1 g_products s_handles r_elements x2_79 x3_79 = some y_79 := h
        unfold fX3_productOfFirst_L79 at h
        refine lv_iload_n hx hb dX3_productOfFirst_79 rfl (lv_at hl 3 rfl) ?_
        refine lv_iload_n hx hb dX3_productOfFirst_80 rfl (lv_at hl 1 rfl) ?_
        refine lv_icmp_ge (tgt := 104) hx hb dX3_productOfFirst_81 (by decide) (fun hc81 => ?_) (fun hc81 => ?_)
        · have h := pz_itT hc81 h
          obtain rfl := Option.some.inj h
          obtain rfl := pz_exit hk79
          exact hE79 _ _ _ hP hD hS (lv_sub hl [2] rfl)
        · have h := pz_itF hc81 h
          refine lv_aload_n hx hb dX3_productOfFirst_84 rfl (lv_at hl 0 rfl) ?_
          refine pz_get pFX3_15 hB hK hP 0 rfl rfl dX3_productOfFirst_85 ?_
          refine lv_iload_n hx hb dX3_productOfFirst_88 rfl (lv_at hl 2 rfl) ?_
          refine lv_aload_n hx hb dX3_productOfFirst_89 rfl (lv_at hl 0 rfl) ?_
          refine lv_iload_n hx hb dX3_productOfFirst_90 rfl (lv_at hl 3 rfl) ?_
          obtain ⟨t1, ht1, h⟩ := pz_bnd h
          refine pz_callIr (rest := [.int x2_79, .ref q_g]) pCX3_62 (kX3_elementOfPeriod l D cyI q_r q_r_elements q_g q_g_products q_g_inverses q_g_orders q_g_conjugates q_g_spans q_s q_s_periods r_elements g_family g_n g_size g_products g_inverses g_orders g_conjugates g_spans s_handles s_count s_periods x3_79 ht1) hB hK hP hD hS hA hl rfl rfl rfl ⟨Nat.le_of_ble_eq_true rfl, Nat.le_of_ble_eq_true rfl⟩ rfl rfl [0, 1, 2, 3, 4, 5, 6, 7, 8, 9] rfl (by decide) (Nat.le_of_ble_eq_true rfl) dX3_productOfFirst_91 (Nat.zero_le _) (Nat.zero_le _) rfl (fun H locs hP hS => ?_)
          obtain ⟨t2, ht2, h⟩ := pz_bnd h
          refine pz_callIr (rest := []) pCX3_68 (kX1_product l D cyI q_g q_g_products q_g_inverses q_g_orders q_g_conjugates q_g_spans g_family g_n g_size g_products g_inverses g_orders g_conjugates g_spans x2_79 t1 ht2) hB hK hP hD hS hA hl rfl rfl rfl ⟨Nat.le_of_ble_eq_true rfl, Nat.le_of_ble_eq_true rfl⟩ rfl rfl [2, 3, 4, 5, 6, 7] rfl (by decide) (Nat.le_of_ble_eq_true rfl) dX3_productOfFirst_94 (Nat.zero_le _) (Nat.zero_le _) rfl (fun H locs hP hS => ?_)
          refine lv_istore_n (lv' := [(2, .int t2), (0, .ref q_r), (1, .int x1), (3, .int x3_79)]) hx hb dX3_productOfFirst_97 rfl hl (by decide) rfl (fun ls hl => ?_)
          refine lv_iinc (v := (x3_79 + (1 : Int32))) (lv' := [(3, .int (x3_79 + (1 : Int32))), (2, .int t2), (0, .ref q_r), (1, .int x1)]) hx hb dX3_productOfFirst_98 hl (k := 3) rfl (by rfl) (by decide) rfl (fun ls hl => ?_)
          refine lv_goto (tgt := 79) hx hb dX3_productOfFirst_101 (by decide) ?_
          obtain rfl := Option.some.inj h
          exact ih t2 (x3_79 + (1 : Int32)) _ _ _ hP hD hS (lv_sub hl [2, 3, 1, 0] rfl) hk79
    exact hL79 pz_FUEL x2_j77 (0 : Int32) _ _ _ hP hD hS (lv_sub hl [1, 2, 3, 0] rfl) hu_79
  refine lv_icmp_ne (tgt := 77) hx hb dX3_productOfFirst_10 (by decide) (fun hc10 => ?_) (fun hc10 => ?_)
  · have h := pz_itF hc10 h
    exact hJ77 (0 : Int32) _ _ _ hP hD hS (lv_sub hl [1, 2, 0] rfl) h
  · have h := pz_itT hc10 h
    refine lv_aload_n hx hb dX3_productOfFirst_13 rfl (lv_at hl 1 rfl) ?_
    refine pz_get pFX3_15 hB hK hP 0 rfl rfl dX3_productOfFirst_14 ?_
    refine lv_aload_n hx hb dX3_productOfFirst_17 rfl (lv_at hl 1 rfl) ?_
    refine pz_get pFX3_9 hB hK hP 0 rfl rfl dX3_productOfFirst_18 ?_
    refine lv_iconst (v := (0 : Int32)) hx hb dX3_productOfFirst_21 (by decide) ?_
    obtain ⟨hi3, h⟩ := pz_rdE h
    refine pz_iald hB hK hP 1 rfl hi3 dX3_productOfFirst_22 ?_
    refine lv_aload_n hx hb dX3_productOfFirst_23 rfl (lv_at hl 1 rfl) ?_
    refine pz_get pFX3_9 hB hK hP 0 rfl rfl dX3_productOfFirst_24 ?_
    refine lv_iconst (v := (1 : Int32)) hx hb dX3_productOfFirst_27 (by decide) ?_
    obtain ⟨hi4, h⟩ := pz_rdE h
    refine pz_iald hB hK hP 1 rfl hi4 dX3_productOfFirst_28 ?_
    obtain ⟨t5, ht5, h⟩ := pz_bnd h
    refine pz_callIr (rest := []) pCX3_68 (kX1_product l D cyI q_g q_g_products q_g_inverses q_g_orders q_g_conjugates q_g_spans g_family g_n g_size g_products g_inverses g_orders g_conjugates g_spans (r_elements (Int32.toNatClampNeg (0 : Int32))) (r_elements (Int32.toNatClampNeg (1 : Int32))) ht5) hB hK hP hD hS hA hl rfl rfl rfl ⟨Nat.le_of_ble_eq_true rfl, Nat.le_of_ble_eq_true rfl⟩ rfl rfl [2, 3, 4, 5, 6, 7] rfl (by decide) (Nat.le_of_ble_eq_true rfl) dX3_productOfFirst_29 (Nat.zero_le _) (Nat.zero_le _) rfl (fun H locs hP hS => ?_)
    refine lv_istore_n (lv' := [(3, .int t5), (2, .int (0 : Int32)), (0, .ref q_r), (1, .int x1)]) hx hb dX3_productOfFirst_32 rfl hl (by decide) rfl (fun ls hl => ?_)
    refine lv_aload_n hx hb dX3_productOfFirst_33 rfl (lv_at hl 2 rfl) ?_
    refine pz_get pFX3_15 hB hK hP 0 rfl rfl dX3_productOfFirst_34 ?_
    refine lv_iload_n hx hb dX3_productOfFirst_37 rfl (lv_at hl 0 rfl) ?_
    refine lv_aload_n hx hb dX3_productOfFirst_38 rfl (lv_at hl 2 rfl) ?_
    refine pz_get pFX3_15 hB hK hP 0 rfl rfl dX3_productOfFirst_39 ?_
    refine lv_aload_n hx hb dX3_productOfFirst_42 rfl (lv_at hl 2 rfl) ?_
    refine pz_get pFX3_15 hB hK hP 0 rfl rfl dX3_productOfFirst_43 ?_
    refine pz_getN pFX3_72 hB hK hP 2 rfl rfl dX3_productOfFirst_46 ?_
    refine lv_aload_n hx hb dX3_productOfFirst_49 rfl (lv_at hl 2 rfl) ?_
    refine pz_get pFX3_9 hB hK hP 0 rfl rfl dX3_productOfFirst_50 ?_
    refine lv_iconst (v := (0 : Int32)) hx hb dX3_productOfFirst_53 (by decide) ?_
    obtain ⟨hi6, h⟩ := pz_rdE h
    refine pz_iald hB hK hP 1 rfl hi6 dX3_productOfFirst_54 ?_
    obtain ⟨hi7, h⟩ := pz_rdE h
    refine pz_iald hB hK hP 4 rfl hi7 dX3_productOfFirst_55 ?_
    refine lv_aload_n hx hb dX3_productOfFirst_56 rfl (lv_at hl 2 rfl) ?_
    refine pz_get pFX3_15 hB hK hP 0 rfl rfl dX3_productOfFirst_57 ?_
    refine pz_getN pFX3_72 hB hK hP 2 rfl rfl dX3_productOfFirst_60 ?_
    refine lv_aload_n hx hb dX3_productOfFirst_63 rfl (lv_at hl 2 rfl) ?_
    refine pz_get pFX3_9 hB hK hP 0 rfl rfl dX3_productOfFirst_64 ?_
    refine lv_iconst (v := (1 : Int32)) hx hb dX3_productOfFirst_67 (by decide) ?_
    obtain ⟨hi8, h⟩ := pz_rdE h
    refine pz_iald hB hK hP 1 rfl hi8 dX3_productOfFirst_68 ?_
    obtain ⟨hi9, h⟩ := pz_rdE h
    refine pz_iald hB hK hP 4 rfl hi9 dX3_productOfFirst_69 ?_
    obtain ⟨t10, ht10, h⟩ := pz_bnd h
    refine pz_callIr (rest := [.int t5, .ref q_g]) pCX3_68 (kX1_product l D cyI q_g q_g_products q_g_inverses q_g_orders q_g_conjugates q_g_spans g_family g_n g_size g_products g_inverses g_orders g_conjugates g_spans (g_inverses (Int32.toNatClampNeg (r_elements (Int32.toNatClampNeg (0 : Int32))))) (g_inverses (Int32.toNatClampNeg (r_elements (Int32.toNatClampNeg (1 : Int32))))) ht10) hB hK hP hD hS hA hl rfl rfl rfl ⟨Nat.le_of_ble_eq_true rfl, Nat.le_of_ble_eq_true rfl⟩ rfl rfl [2, 3, 4, 5, 6, 7] rfl (by decide) (Nat.le_of_ble_eq_true rfl) dX3_productOfFirst_70 (Nat.zero_le _) (Nat.zero_le _) rfl (fun H locs hP hS => ?_)
    obtain ⟨t11, ht11, h⟩ := pz_bnd h
    refine pz_callIr (rest := []) pCX3_68 (kX1_product l D cyI q_g q_g_products q_g_inverses q_g_orders q_g_conjugates q_g_spans g_family g_n g_size g_products g_inverses g_orders g_conjugates g_spans t5 t10 ht11) hB hK hP hD hS hA hl rfl rfl rfl ⟨Nat.le_of_ble_eq_true rfl, Nat.le_of_ble_eq_true rfl⟩ rfl rfl [2, 3, 4, 5, 6, 7] rfl (by decide) (Nat.le_of_ble_eq_true rfl) dX3_productOfFirst_73 (Nat.zero_le _) (Nat.zero_le _) rfl (fun H locs hP hS => ?_)
    refine lv_istore_n (lv' := [(2, .int t11), (3, .int t5), (0, .ref q_r), (1, .int x1)]) hx hb dX3_productOfFirst_76 rfl hl (by decide) rfl (fun ls hl => ?_)
    exact hJ77 t11 _ _ _ hP hD hS (lv_sub hl [2, 3, 0] rfl) h
set_option maxRecDepth 100000 in
set_option maxHeartbeats 4000000 in
theorem kX3_isWhole (l : Launch) (D : va_G) (cyI : ClassId) (q_r q_r_elements q_g q_g_products q_g_inverses q_g_orders q_g_conjugates q_g_spans q_s q_s_periods : Nat) (r_elements : Nat → Int32) (g_family : Int32) (g_n : Int32) (g_size : Int32) (g_products : Nat → Int32) (g_inverses : Nat → Int32) (g_orders : Nat → Int32) (g_conjugates : Nat → Int32) (g_spans : Nat → Int32) (s_handles : Int32) (s_count : Int32) (s_periods : Nat → Int32) {v : Int32} (h : fX3_isWhole g_size g_spans s_handles s_count r_elements = some v) : pz_MI l yX3_isWhole cX3_isWhole 3 .boolean ({ frames := 1, cells := 0, slots := 0, locals := 21 } : Room) [.ref q_r] D cyI [(q_r, .inr (3, [.ref q_g, .ref q_s, .ref q_r_elements])), (q_r_elements, .inl (cyI, 4, .inl r_elements)), (q_g, .inr (1, [.int g_family, .int g_n, .int g_size, .ref q_g_products, .ref q_g_inverses, .ref q_g_orders, .ref q_g_conjugates, .ref q_g_spans])), (q_g_products, .inl (cyI, 64, .inl g_products)), (q_g_inverses, .inl (cyI, 8, .inl g_inverses)), (q_g_orders, .inl (cyI, 8, .inl g_orders)), (q_g_conjugates, .inl (cyI, 64, .inl g_conjugates)), (q_g_spans, .inl (cyI, 256, .inl g_spans)), (q_s, .inr (4, [.int s_handles, .int s_count, .ref q_s_periods])), (q_s_periods, .inl (cyI, 4, .inl s_periods))] v [(q_r, .inr (3, [.ref q_g, .ref q_s, .ref q_r_elements])), (q_r_elements, .inl (cyI, 4, .inl r_elements)), (q_g, .inr (1, [.int g_family, .int g_n, .int g_size, .ref q_g_products, .ref q_g_inverses, .ref q_g_orders, .ref q_g_conjugates, .ref q_g_spans])), (q_g_products, .inl (cyI, 64, .inl g_products)), (q_g_inverses, .inl (cyI, 8, .inl g_inverses)), (q_g_orders, .inl (cyI, 8, .inl g_orders)), (q_g_conjugates, .inl (cyI, 64, .inl g_conjugates)), (q_g_spans, .inl (cyI, 256, .inl g_spans)), (q_s, .inr (4, [.int s_handles, .int s_count, .ref q_s_periods])), (q_s_periods, .inl (cyI, 4, .inl s_periods))] := by
  refine pz_ofI (by decide) (Nat.le_of_ble_eq_true rfl) ?_
  intro p e s m args below meth c A ls hB hP hK hD hS hA hl
  have hl : lv_has ls 3 [(0, .ref q_r)] := hl
  have hx := hB.1
  have hb := hB.2.1
  unfold fX3_isWhole at h
  generalize hQ : pz_QI below args s D A v [(q_r, .inr (3, [.ref q_g, .ref q_s, .ref q_r_elements])), (q_r_elements, .inl (cyI, 4, .inl r_elements)), (q_g, .inr (1, [.int g_family, .int g_n, .int g_size, .ref q_g_products, .ref q_g_inverses, .ref q_g_orders, .ref q_g_conjugates, .ref q_g_spans])), (q_g_products, .inl (cyI, 64, .inl g_products)), (q_g_inverses, .inl (cyI, 8, .inl g_inverses)), (q_g_orders, .inl (cyI, 8, .inl g_orders)), (q_g_conjugates, .inl (cyI, 64, .inl g_conjugates)), (q_g_spans, .inl (cyI, 256, .inl g_spans)), (q_s, .inr (4, [.int s_handles, .int s_count, .ref q_s_periods])), (q_s_periods, .inl (cyI, 4, .inl s_periods))] = Q
  refine lv_iconst (v := (0 : Int32)) hx hb dX3_isWhole_0 (by decide) ?_
  refine lv_istore_n (lv' := [(1, .int (0 : Int32)), (0, .ref q_r)]) hx hb dX3_isWhole_1 rfl hl (by decide) rfl (fun ls hl => ?_)
  refine lv_iconst (v := (0 : Int32)) hx hb dX3_isWhole_2 (by decide) ?_
  refine lv_istore_n (lv' := [(2, .int (0 : Int32)), (1, .int (0 : Int32)), (0, .ref q_r)]) hx hb dX3_isWhole_3 rfl hl (by decide) rfl (fun ls hl => ?_)
  obtain ⟨u_4, hu_4, h⟩ := pz_bnd h
  have hE4 : ∀ (H : Heap) (locs : List Loc) (ls : Array Slot), va_P D vwCl [(q_r, .inr (3, [.ref q_g, .ref q_s, .ref q_r_elements])), (q_r_elements, .inl (cyI, 4, .inl r_elements)), (q_g, .inr (1, [.int g_family, .int g_n, .int g_size, .ref q_g_products, .ref q_g_inverses, .ref q_g_orders, .ref q_g_conjugates, .ref q_g_spans])), (q_g_products, .inl (cyI, 64, .inl g_products)), (q_g_inverses, .inl (cyI, 8, .inl g_inverses)), (q_g_orders, .inl (cyI, 8, .inl g_orders)), (q_g_conjugates, .inl (cyI, 64, .inl g_conjugates)), (q_g_spans, .inl (cyI, 256, .inl g_spans)), (q_s, .inr (4, [.int s_handles, .int s_count, .ref q_s_periods])), (q_s_periods, .inl (cyI, 4, .inl s_periods))] H → va_D A [(q_r, .inr (3, [.ref q_g, .ref q_s, .ref q_r_elements])), (q_r_elements, .inl (cyI, 4, .inl r_elements)), (q_g, .inr (1, [.int g_family, .int g_n, .int g_size, .ref q_g_products, .ref q_g_inverses, .ref q_g_orders, .ref q_g_conjugates, .ref q_g_spans])), (q_g_products, .inl (cyI, 64, .inl g_products)), (q_g_inverses, .inl (cyI, 8, .inl g_inverses)), (q_g_orders, .inl (cyI, 8, .inl g_orders)), (q_g_conjugates, .inl (cyI, 64, .inl g_conjugates)), (q_g_spans, .inl (cyI, 256, .inl g_spans)), (q_s, .inr (4, [.int s_handles, .int s_count, .ref q_s_periods])), (q_s_periods, .inl (cyI, 4, .inl s_periods))] → va_S A s.heap H locs → lv_has ls 3 [(0, .ref q_r), (1, .int u_4)] → W p l e ({ frames := 1, cells := 0, slots := 0, locals := 21 } : Room) s m args below meth c H locs 0 0 Q (F0 m 32 ls []) := by
    intro H locs ls hP hD hS hl
    refine lv_aload_n hx hb dX3_isWhole_32 rfl (lv_at hl 0 rfl) ?_
    refine pz_get pFX3_15 hB hK hP 0 rfl rfl dX3_isWhole_33 ?_
    refine lv_iload_n hx hb dX3_isWhole_36 rfl (lv_at hl 1 rfl) ?_
    obtain ⟨t1, ht1, h⟩ := pz_bnd h
    refine pz_callIr (rest := []) pCX3_53 (kX1_spanOf l D cyI q_g q_g_products q_g_inverses q_g_orders q_g_conjugates q_g_spans g_family g_n g_size g_products g_inverses g_orders g_conjugates g_spans u_4 ht1) hB hK hP hD hS hA hl rfl rfl rfl ⟨Nat.le_of_ble_eq_true rfl, Nat.le_of_ble_eq_true rfl⟩ rfl rfl [2, 3, 4, 5, 6, 7] rfl (by decide) (Nat.le_of_ble_eq_true rfl) dX3_isWhole_37 (Nat.zero_le _) (Nat.zero_le _) rfl (fun H locs hP hS => ?_)
    refine lv_aload_n hx hb dX3_isWhole_40 rfl (lv_at hl 0 rfl) ?_
    refine pz_get pFX3_15 hB hK hP 0 rfl rfl dX3_isWhole_41 ?_
    obtain ⟨t2, ht2, h⟩ := pz_bnd h
    refine pz_callIr (rest := [.int t1]) pCX3_56 (kX1_whole l D cyI q_g q_g_products q_g_inverses q_g_orders q_g_conjugates q_g_spans g_family g_n g_size g_products g_inverses g_orders g_conjugates g_spans ht2) hB hK hP hD hS hA hl rfl rfl rfl ⟨Nat.le_of_ble_eq_true rfl, Nat.le_of_ble_eq_true rfl⟩ rfl rfl [2, 3, 4, 5, 6, 7] rfl (by decide) (Nat.le_of_ble_eq_true rfl) dX3_isWhole_44 (Nat.zero_le _) (Nat.zero_le _) rfl (fun H locs hP hS => ?_)
    refine lv_icmp_ne (tgt := 54) hx hb dX3_isWhole_47 (by decide) (fun hc47 => ?_) (fun hc47 => ?_)
    · have h := pz_itF hc47 h
      refine lv_iconst (v := (0 : Int32)) hx hb dX3_isWhole_54 (by decide) ?_
      obtain rfl := Option.some.inj h
      rw [← hQ]
      exact pz_zret hB (Or.inl rfl) hP hD hS dX3_isWhole_55
    · have h := pz_itT hc47 h
      refine lv_iconst (v := (1 : Int32)) hx hb dX3_isWhole_50 (by decide) ?_
      refine lv_goto (tgt := 55) hx hb dX3_isWhole_51 (by decide) ?_
      obtain rfl := Option.some.inj h
      rw [← hQ]
      exact pz_zret hB (Or.inr rfl) hP hD hS dX3_isWhole_55
  have hL4 : ∀ (n : Nat) (x1_4 : Int32) (x2_4 : Int32) (H : Heap) (locs : List Loc) (ls : Array Slot), va_P D vwCl [(q_r, .inr (3, [.ref q_g, .ref q_s, .ref q_r_elements])), (q_r_elements, .inl (cyI, 4, .inl r_elements)), (q_g, .inr (1, [.int g_family, .int g_n, .int g_size, .ref q_g_products, .ref q_g_inverses, .ref q_g_orders, .ref q_g_conjugates, .ref q_g_spans])), (q_g_products, .inl (cyI, 64, .inl g_products)), (q_g_inverses, .inl (cyI, 8, .inl g_inverses)), (q_g_orders, .inl (cyI, 8, .inl g_orders)), (q_g_conjugates, .inl (cyI, 64, .inl g_conjugates)), (q_g_spans, .inl (cyI, 256, .inl g_spans)), (q_s, .inr (4, [.int s_handles, .int s_count, .ref q_s_periods])), (q_s_periods, .inl (cyI, 4, .inl s_periods))] H → va_D A [(q_r, .inr (3, [.ref q_g, .ref q_s, .ref q_r_elements])), (q_r_elements, .inl (cyI, 4, .inl r_elements)), (q_g, .inr (1, [.int g_family, .int g_n, .int g_size, .ref q_g_products, .ref q_g_inverses, .ref q_g_orders, .ref q_g_conjugates, .ref q_g_spans])), (q_g_products, .inl (cyI, 64, .inl g_products)), (q_g_inverses, .inl (cyI, 8, .inl g_inverses)), (q_g_orders, .inl (cyI, 8, .inl g_orders)), (q_g_conjugates, .inl (cyI, 64, .inl g_conjugates)), (q_g_spans, .inl (cyI, 256, .inl g_spans)), (q_s, .inr (4, [.int s_handles, .int s_count, .ref q_s_periods])), (q_s_periods, .inl (cyI, 4, .inl s_periods))] → va_S A s.heap H locs → lv_has ls 3 [(0, .ref q_r), (1, .int x1_4), (2, .int x2_4)] → pz_iter (fun (σ : Int32 × Int32) => fX3_isWhole_L4 s_handles s_count r_elements σ.1 σ.2) n (x1_4, x2_4) = some u_4 → W p l e ({ frames := 1, cells := 0, slots := 0, locals := 21 } : Room) s m args below meth c H locs 0 0 Q (F0 m 4 ls []) := by
    intro n
    induction n with
    | zero => intro x1_4 x2_4 H locs ls hP hD hS hl h; exact (pz_it0 h).elim
    | succ n ih =>
      intro x1_4 x2_4 H locs ls hP hD hS hl h
      obtain ⟨y_4, h, hk4⟩ := pz_itS h
      have h : fX3_isWhole_L4 s_handles s_count r_elements x1_4 x2_4 = some y_4 := h
      unfold fX3_isWhole_L4 at h
      refine lv_iload_n hx hb dX3_isWhole_4 rfl (lv_at hl 2 rfl) ?_
      refine lv_aload_n hx hb dX3_isWhole_5 rfl (lv_at hl 0 rfl) ?_
      refine pz_get pFX3_19 hB hK hP 0 rfl rfl dX3_isWhole_6 ?_
      obtain ⟨t3, ht3, h⟩ := pz_bnd h
      refine pz_callIr (rest := [.int x2_4]) pCX3_23 (kX4_digits l D cyI q_s q_s_periods s_handles s_count s_periods ht3) hB hK hP hD hS hA hl rfl rfl rfl ⟨Nat.le_of_ble_eq_true rfl, Nat.le_of_ble_eq_true rfl⟩ rfl rfl [8, 9] rfl (by decide) (Nat.le_of_ble_eq_true rfl) dX3_isWhole_9 (Nat.zero_le _) (Nat.zero_le _) rfl (fun H locs hP hS => ?_)
      refine lv_icmp_ge (tgt := 32) hx hb dX3_isWhole_12 (by decide) (fun hc12 => ?_) (fun hc12 => ?_)
      · have h := pz_itT hc12 h
        obtain rfl := Option.some.inj h
        obtain rfl := pz_exit hk4
        exact hE4 _ _ _ hP hD hS (lv_sub hl [0, 1] rfl)
      · have h := pz_itF hc12 h
        refine lv_iload_n hx hb dX3_isWhole_15 rfl (lv_at hl 1 rfl) ?_
        refine lv_iconst (v := (1 : Int32)) hx hb dX3_isWhole_16 (by decide) ?_
        refine lv_aload_n hx hb dX3_isWhole_17 rfl (lv_at hl 0 rfl) ?_
        refine pz_get pFX3_9 hB hK hP 0 rfl rfl dX3_isWhole_18 ?_
        refine lv_iload_n hx hb dX3_isWhole_21 rfl (lv_at hl 2 rfl) ?_
        obtain ⟨hi4, h⟩ := pz_rdE h
        refine pz_iald hB hK hP 1 rfl hi4 dX3_isWhole_22 ?_
        refine lv_ishl hx hb dX3_isWhole_23 ?_
        refine lv_ior hx hb dX3_isWhole_24 ?_
        refine lv_istore_n (lv' := [(1, .int (x1_4 ||| ((1 : Int32) <<< ((r_elements (Int32.toNatClampNeg x2_4)) &&& 31)))), (0, .ref q_r), (2, .int x2_4)]) hx hb dX3_isWhole_25 rfl hl (by decide) rfl (fun ls hl => ?_)
        refine lv_iinc (v := (x2_4 + (1 : Int32))) (lv' := [(2, .int (x2_4 + (1 : Int32))), (1, .int (x1_4 ||| ((1 : Int32) <<< ((r_elements (Int32.toNatClampNeg x2_4)) &&& 31)))), (0, .ref q_r)]) hx hb dX3_isWhole_26 hl (k := 2) rfl (by rfl) (by decide) rfl (fun ls hl => ?_)
        refine lv_goto (tgt := 4) hx hb dX3_isWhole_29 (by decide) ?_
        obtain rfl := Option.some.inj h
        exact ih (x1_4 ||| ((1 : Int32) <<< ((r_elements (Int32.toNatClampNeg x2_4)) &&& 31))) (x2_4 + (1 : Int32)) _ _ _ hP hD hS (lv_sub hl [2, 1, 0] rfl) hk4
  exact hL4 pz_FUEL (0 : Int32) (0 : Int32) _ _ _ hP hD hS (lv_sub hl [2, 1, 0] rfl) hu_4
set_option maxRecDepth 100000 in
set_option maxHeartbeats 4000000 in
theorem kX3_kind (l : Launch) (D : va_G) (cyI : ClassId) (q_r q_r_elements q_g q_g_products q_g_inverses q_g_orders q_g_conjugates q_g_spans q_s q_s_periods : Nat) (r_elements : Nat → Int32) (g_family : Int32) (g_n : Int32) (g_size : Int32) (g_products : Nat → Int32) (g_inverses : Nat → Int32) (g_orders : Nat → Int32) (g_conjugates : Nat → Int32) (g_spans : Nat → Int32) (s_handles : Int32) (s_count : Int32) (s_periods : Nat → Int32) {v : Int32} (h : fX3_kind g_size g_products g_inverses g_orders g_spans s_handles s_count s_periods r_elements = some v) : pz_MI l yX3_kind cX3_kind 1 .int ({ frames := 2, cells := 0, slots := 0, locals := 45 } : Room) [.ref q_r] D cyI [(q_r, .inr (3, [.ref q_g, .ref q_s, .ref q_r_elements])), (q_r_elements, .inl (cyI, 4, .inl r_elements)), (q_g, .inr (1, [.int g_family, .int g_n, .int g_size, .ref q_g_products, .ref q_g_inverses, .ref q_g_orders, .ref q_g_conjugates, .ref q_g_spans])), (q_g_products, .inl (cyI, 64, .inl g_products)), (q_g_inverses, .inl (cyI, 8, .inl g_inverses)), (q_g_orders, .inl (cyI, 8, .inl g_orders)), (q_g_conjugates, .inl (cyI, 64, .inl g_conjugates)), (q_g_spans, .inl (cyI, 256, .inl g_spans)), (q_s, .inr (4, [.int s_handles, .int s_count, .ref q_s_periods])), (q_s_periods, .inl (cyI, 4, .inl s_periods))] v [(q_r, .inr (3, [.ref q_g, .ref q_s, .ref q_r_elements])), (q_r_elements, .inl (cyI, 4, .inl r_elements)), (q_g, .inr (1, [.int g_family, .int g_n, .int g_size, .ref q_g_products, .ref q_g_inverses, .ref q_g_orders, .ref q_g_conjugates, .ref q_g_spans])), (q_g_products, .inl (cyI, 64, .inl g_products)), (q_g_inverses, .inl (cyI, 8, .inl g_inverses)), (q_g_orders, .inl (cyI, 8, .inl g_orders)), (q_g_conjugates, .inl (cyI, 64, .inl g_conjugates)), (q_g_spans, .inl (cyI, 256, .inl g_spans)), (q_s, .inr (4, [.int s_handles, .int s_count, .ref q_s_periods])), (q_s_periods, .inl (cyI, 4, .inl s_periods))] := by
  refine pz_ofI (by decide) (Nat.le_of_ble_eq_true rfl) ?_
  intro p e s m args below meth c A ls hB hP hK hD hS hA hl
  have hl : lv_has ls 1 [(0, .ref q_r)] := hl
  have hx := hB.1
  have hb := hB.2.1
  unfold fX3_kind at h
  generalize hQ : pz_QI below args s D A v [(q_r, .inr (3, [.ref q_g, .ref q_s, .ref q_r_elements])), (q_r_elements, .inl (cyI, 4, .inl r_elements)), (q_g, .inr (1, [.int g_family, .int g_n, .int g_size, .ref q_g_products, .ref q_g_inverses, .ref q_g_orders, .ref q_g_conjugates, .ref q_g_spans])), (q_g_products, .inl (cyI, 64, .inl g_products)), (q_g_inverses, .inl (cyI, 8, .inl g_inverses)), (q_g_orders, .inl (cyI, 8, .inl g_orders)), (q_g_conjugates, .inl (cyI, 64, .inl g_conjugates)), (q_g_spans, .inl (cyI, 256, .inl g_spans)), (q_s, .inr (4, [.int s_handles, .int s_count, .ref q_s_periods])), (q_s_periods, .inl (cyI, 4, .inl s_periods))] = Q
  refine lv_aload_n hx hb dX3_kind_0 rfl (lv_at hl 0 rfl) ?_
  refine lv_aload_n hx hb dX3_kind_1 rfl (lv_at hl 0 rfl) ?_
  refine pz_get pFX3_19 hB hK hP 0 rfl rfl dX3_kind_2 ?_
  refine pz_getN pFX3_39 hB hK hP 8 rfl rfl dX3_kind_5 ?_
  obtain ⟨t1, ht1, h⟩ := pz_bnd h
  refine pz_callIr (rest := []) pCX3_42 (kX3_hasOrders l D cyI q_r q_r_elements q_g q_g_products q_g_inverses q_g_orders q_g_conjugates q_g_spans q_s q_s_periods r_elements g_family g_n g_size g_products g_inverses g_orders g_conjugates g_spans s_handles s_count s_periods s_count ht1) hB hK hP hD hS hA hl rfl rfl rfl ⟨Nat.le_of_ble_eq_true rfl, Nat.le_of_ble_eq_true rfl⟩ rfl rfl [0, 1, 2, 3, 4, 5, 6, 7, 8, 9] rfl (by decide) (Nat.le_of_ble_eq_true rfl) dX3_kind_8 (Nat.zero_le _) (Nat.zero_le _) rfl (fun H locs hP hS => ?_)
  refine lv_if_eq (tgt := 28) hx hb dX3_kind_11 (by decide) (fun hc11 => ?_) (fun hc11 => ?_)
  · have h := pz_itT hc11 h
    refine lv_iconst (v := (0 : Int32)) hx hb dX3_kind_28 (by decide) ?_
    obtain rfl := Option.some.inj h
    rw [← hQ]
    exact pz_iret hB hP hD hS dX3_kind_29
  · have h := pz_itF hc11 h
    refine lv_aload_n hx hb dX3_kind_14 rfl (lv_at hl 0 rfl) ?_
    refine lv_aload_n hx hb dX3_kind_15 rfl (lv_at hl 0 rfl) ?_
    refine pz_get pFX3_19 hB hK hP 0 rfl rfl dX3_kind_16 ?_
    refine pz_getN pFX3_39 hB hK hP 8 rfl rfl dX3_kind_19 ?_
    obtain ⟨t2, ht2, h⟩ := pz_bnd h
    refine pz_callIr (rest := []) pCX3_45 (kX3_productOfFirst l D cyI q_r q_r_elements q_g q_g_products q_g_inverses q_g_orders q_g_conjugates q_g_spans q_s q_s_periods r_elements g_family g_n g_size g_products g_inverses g_orders g_conjugates g_spans s_handles s_count s_periods s_count ht2) hB hK hP hD hS hA hl rfl rfl rfl ⟨Nat.le_of_ble_eq_true rfl, Nat.le_of_ble_eq_true rfl⟩ rfl rfl [0, 1, 2, 3, 4, 5, 6, 7, 8, 9] rfl (by decide) (Nat.le_of_ble_eq_true rfl) dX3_kind_22 (Nat.zero_le _) (Nat.zero_le _) rfl (fun H locs hP hS => ?_)
    refine lv_if_eq (tgt := 30) hx hb dX3_kind_25 (by decide) (fun hc25 => ?_) (fun hc25 => ?_)
    · have h := pz_itT hc25 h
      refine lv_aload_n hx hb dX3_kind_30 rfl (lv_at hl 0 rfl) ?_
      obtain ⟨t3, ht3, h⟩ := pz_bnd h
      refine pz_callIr (rest := []) pCX3_49 (kX3_isWhole l D cyI q_r q_r_elements q_g q_g_products q_g_inverses q_g_orders q_g_conjugates q_g_spans q_s q_s_periods r_elements g_family g_n g_size g_products g_inverses g_orders g_conjugates g_spans s_handles s_count s_periods ht3) hB hK hP hD hS hA hl rfl rfl rfl ⟨Nat.le_of_ble_eq_true rfl, Nat.le_of_ble_eq_true rfl⟩ rfl rfl [0, 1, 2, 3, 4, 5, 6, 7, 8, 9] rfl (by decide) (Nat.le_of_ble_eq_true rfl) dX3_kind_31 (Nat.zero_le _) (Nat.zero_le _) rfl (fun H locs hP hS => ?_)
      refine lv_if_eq (tgt := 41) hx hb dX3_kind_34 (by decide) (fun hc34 => ?_) (fun hc34 => ?_)
      · have h := pz_itT hc34 h
        refine lv_iconst (v := (1 : Int32)) hx hb dX3_kind_41 (by decide) ?_
        obtain rfl := Option.some.inj h
        rw [← hQ]
        exact pz_iret hB hP hD hS dX3_kind_42
      · have h := pz_itF hc34 h
        refine lv_iconst (v := (2 : Int32)) hx hb dX3_kind_37 (by decide) ?_
        refine lv_goto (tgt := 42) hx hb dX3_kind_38 (by decide) ?_
        obtain rfl := Option.some.inj h
        rw [← hQ]
        exact pz_iret hB hP hD hS dX3_kind_42
    · have h := pz_itF hc25 h
      refine lv_iconst (v := (0 : Int32)) hx hb dX3_kind_28 (by decide) ?_
      obtain rfl := Option.some.inj h
      rw [← hQ]
      exact pz_iret hB hP hD hS dX3_kind_29
set_option maxRecDepth 100000 in
set_option maxHeartbeats 4000000 in
theorem kX3_freeDigits (l : Launch) (D : va_G) (cyI : ClassId) (q_r q_r_elements q_g q_g_products q_g_inverses q_g_orders q_g_conjugates q_g_spans q_s q_s_periods : Nat) (r_elements : Nat → Int32) (g_family : Int32) (g_n : Int32) (g_size : Int32) (g_products : Nat → Int32) (g_inverses : Nat → Int32) (g_orders : Nat → Int32) (g_conjugates : Nat → Int32) (g_spans : Nat → Int32) (s_handles : Int32) (s_count : Int32) (s_periods : Nat → Int32) {v : Int32} (h : fX3_freeDigits s_handles s_count = some v) : pz_MI l yX3_freeDigits cX3_freeDigits 1 .int ({ frames := 1, cells := 0, slots := 0, locals := 20 } : Room) [.ref q_r] D cyI [(q_r, .inr (3, [.ref q_g, .ref q_s, .ref q_r_elements])), (q_r_elements, .inl (cyI, 4, .inl r_elements)), (q_g, .inr (1, [.int g_family, .int g_n, .int g_size, .ref q_g_products, .ref q_g_inverses, .ref q_g_orders, .ref q_g_conjugates, .ref q_g_spans])), (q_g_products, .inl (cyI, 64, .inl g_products)), (q_g_inverses, .inl (cyI, 8, .inl g_inverses)), (q_g_orders, .inl (cyI, 8, .inl g_orders)), (q_g_conjugates, .inl (cyI, 64, .inl g_conjugates)), (q_g_spans, .inl (cyI, 256, .inl g_spans)), (q_s, .inr (4, [.int s_handles, .int s_count, .ref q_s_periods])), (q_s_periods, .inl (cyI, 4, .inl s_periods))] v [(q_r, .inr (3, [.ref q_g, .ref q_s, .ref q_r_elements])), (q_r_elements, .inl (cyI, 4, .inl r_elements)), (q_g, .inr (1, [.int g_family, .int g_n, .int g_size, .ref q_g_products, .ref q_g_inverses, .ref q_g_orders, .ref q_g_conjugates, .ref q_g_spans])), (q_g_products, .inl (cyI, 64, .inl g_products)), (q_g_inverses, .inl (cyI, 8, .inl g_inverses)), (q_g_orders, .inl (cyI, 8, .inl g_orders)), (q_g_conjugates, .inl (cyI, 64, .inl g_conjugates)), (q_g_spans, .inl (cyI, 256, .inl g_spans)), (q_s, .inr (4, [.int s_handles, .int s_count, .ref q_s_periods])), (q_s_periods, .inl (cyI, 4, .inl s_periods))] := by
  refine pz_ofI (by decide) (Nat.le_of_ble_eq_true rfl) ?_
  intro p e s m args below meth c A ls hB hP hK hD hS hA hl
  have hl : lv_has ls 1 [(0, .ref q_r)] := hl
  have hx := hB.1
  have hb := hB.2.1
  unfold fX3_freeDigits at h
  generalize hQ : pz_QI below args s D A v [(q_r, .inr (3, [.ref q_g, .ref q_s, .ref q_r_elements])), (q_r_elements, .inl (cyI, 4, .inl r_elements)), (q_g, .inr (1, [.int g_family, .int g_n, .int g_size, .ref q_g_products, .ref q_g_inverses, .ref q_g_orders, .ref q_g_conjugates, .ref q_g_spans])), (q_g_products, .inl (cyI, 64, .inl g_products)), (q_g_inverses, .inl (cyI, 8, .inl g_inverses)), (q_g_orders, .inl (cyI, 8, .inl g_orders)), (q_g_conjugates, .inl (cyI, 64, .inl g_conjugates)), (q_g_spans, .inl (cyI, 256, .inl g_spans)), (q_s, .inr (4, [.int s_handles, .int s_count, .ref q_s_periods])), (q_s_periods, .inl (cyI, 4, .inl s_periods))] = Q
  refine lv_aload_n hx hb dX3_freeDigits_0 rfl (lv_at hl 0 rfl) ?_
  refine pz_get pFX3_19 hB hK hP 0 rfl rfl dX3_freeDigits_1 ?_
  refine pz_getN pFX3_39 hB hK hP 8 rfl rfl dX3_freeDigits_4 ?_
  refine lv_if_le (tgt := 22) hx hb dX3_freeDigits_7 (by decide) (fun hc7 => ?_) (fun hc7 => ?_)
  · have h := pz_itT hc7 h
    refine lv_aload_n hx hb dX3_freeDigits_22 rfl (lv_at hl 0 rfl) ?_
    refine pz_get pFX3_19 hB hK hP 0 rfl rfl dX3_freeDigits_23 ?_
    obtain ⟨t1, ht1, h⟩ := pz_bnd h
    refine pz_callIr (rest := []) pCX3_23 (kX4_digits l D cyI q_s q_s_periods s_handles s_count s_periods ht1) hB hK hP hD hS hA hl rfl rfl rfl ⟨Nat.le_of_ble_eq_true rfl, Nat.le_of_ble_eq_true rfl⟩ rfl rfl [8, 9] rfl (by decide) (Nat.le_of_ble_eq_true rfl) dX3_freeDigits_26 (Nat.zero_le _) (Nat.zero_le _) rfl (fun H locs hP hS => ?_)
    obtain rfl := Option.some.inj h
    rw [← hQ]
    exact pz_iret hB hP hD hS dX3_freeDigits_29
  · have h := pz_itF hc7 h
    refine lv_aload_n hx hb dX3_freeDigits_10 rfl (lv_at hl 0 rfl) ?_
    refine pz_get pFX3_19 hB hK hP 0 rfl rfl dX3_freeDigits_11 ?_
    obtain ⟨t2, ht2, h⟩ := pz_bnd h
    refine pz_callIr (rest := []) pCX3_23 (kX4_digits l D cyI q_s q_s_periods s_handles s_count s_periods ht2) hB hK hP hD hS hA hl rfl rfl rfl ⟨Nat.le_of_ble_eq_true rfl, Nat.le_of_ble_eq_true rfl⟩ rfl rfl [8, 9] rfl (by decide) (Nat.le_of_ble_eq_true rfl) dX3_freeDigits_14 (Nat.zero_le _) (Nat.zero_le _) rfl (fun H locs hP hS => ?_)
    refine lv_iconst (v := (1 : Int32)) hx hb dX3_freeDigits_17 (by decide) ?_
    refine lv_isub hx hb dX3_freeDigits_18 ?_
    refine lv_goto (tgt := 29) hx hb dX3_freeDigits_19 (by decide) ?_
    obtain rfl := Option.some.inj h
    rw [← hQ]
    exact pz_iret hB hP hD hS dX3_freeDigits_29
set_option maxRecDepth 100000 in
set_option maxHeartbeats 4000000 in
theorem kX3_startFree (l : Launch) (D : va_G) (cyI : ClassId) (q_r q_r_elements q_g q_g_products q_g_inverses q_g_orders q_g_conjugates q_g_spans q_s q_s_periods : Nat) (r_elements : Nat → Int32) (g_family : Int32) (g_n : Int32) (g_size : Int32) (g_products : Nat → Int32) (g_inverses : Nat → Int32) (g_orders : Nat → Int32) (g_conjugates : Nat → Int32) (g_spans : Nat → Int32) (s_handles : Int32) (s_count : Int32) (s_periods : Nat → Int32) {v : (Nat → Int32)} (h : fX3_startFree r_elements = some v) : pz_MV l yX3_startFree cX3_startFree 1 ({ frames := 1, cells := 0, slots := 0, locals := 23 } : Room) [.ref q_r] D cyI [(q_r, .inr (3, [.ref q_g, .ref q_s, .ref q_r_elements])), (q_r_elements, .inl (cyI, 4, .inl r_elements)), (q_g, .inr (1, [.int g_family, .int g_n, .int g_size, .ref q_g_products, .ref q_g_inverses, .ref q_g_orders, .ref q_g_conjugates, .ref q_g_spans])), (q_g_products, .inl (cyI, 64, .inl g_products)), (q_g_inverses, .inl (cyI, 8, .inl g_inverses)), (q_g_orders, .inl (cyI, 8, .inl g_orders)), (q_g_conjugates, .inl (cyI, 64, .inl g_conjugates)), (q_g_spans, .inl (cyI, 256, .inl g_spans)), (q_s, .inr (4, [.int s_handles, .int s_count, .ref q_s_periods])), (q_s_periods, .inl (cyI, 4, .inl s_periods))] [(q_r, .inr (3, [.ref q_g, .ref q_s, .ref q_r_elements])), (q_r_elements, .inl (cyI, 4, .inl v)), (q_g, .inr (1, [.int g_family, .int g_n, .int g_size, .ref q_g_products, .ref q_g_inverses, .ref q_g_orders, .ref q_g_conjugates, .ref q_g_spans])), (q_g_products, .inl (cyI, 64, .inl g_products)), (q_g_inverses, .inl (cyI, 8, .inl g_inverses)), (q_g_orders, .inl (cyI, 8, .inl g_orders)), (q_g_conjugates, .inl (cyI, 64, .inl g_conjugates)), (q_g_spans, .inl (cyI, 256, .inl g_spans)), (q_s, .inr (4, [.int s_handles, .int s_count, .ref q_s_periods])), (q_s_periods, .inl (cyI, 4, .inl s_periods))] := by
  refine pz_ofV (by decide) (Nat.le_of_ble_eq_true rfl) ?_
  intro p e s m args below meth c A ls hB hP hK hD hS hA hl
  have hl : lv_has ls 1 [(0, .ref q_r)] := hl
  have hx := hB.1
  have hb := hB.2.1
  unfold fX3_startFree at h
  generalize hQ : pz_QV below args s D A [(q_r, .inr (3, [.ref q_g, .ref q_s, .ref q_r_elements])), (q_r_elements, .inl (cyI, 4, .inl v)), (q_g, .inr (1, [.int g_family, .int g_n, .int g_size, .ref q_g_products, .ref q_g_inverses, .ref q_g_orders, .ref q_g_conjugates, .ref q_g_spans])), (q_g_products, .inl (cyI, 64, .inl g_products)), (q_g_inverses, .inl (cyI, 8, .inl g_inverses)), (q_g_orders, .inl (cyI, 8, .inl g_orders)), (q_g_conjugates, .inl (cyI, 64, .inl g_conjugates)), (q_g_spans, .inl (cyI, 256, .inl g_spans)), (q_s, .inr (4, [.int s_handles, .int s_count, .ref q_s_periods])), (q_s_periods, .inl (cyI, 4, .inl s_periods))] = Q
  refine lv_aload_n hx hb dX3_startFree_0 rfl (lv_at hl 0 rfl) ?_
  refine pz_get pFX3_9 hB hK hP 0 rfl rfl dX3_startFree_1 ?_
  refine lv_iconst (v := (0 : Int32)) hx hb dX3_startFree_4 (by decide) ?_
  obtain ⟨t1, ht1, h⟩ := pz_bnd h
  refine pz_callSV (rest := []) (wr := [(q_r, .inr (3, [.ref q_g, .ref q_s, .ref q_r_elements])), (q_g, .inr (1, [.int g_family, .int g_n, .int g_size, .ref q_g_products, .ref q_g_inverses, .ref q_g_orders, .ref q_g_conjugates, .ref q_g_spans])), (q_g_products, .inl (cyI, 64, .inl g_products)), (q_g_inverses, .inl (cyI, 8, .inl g_inverses)), (q_g_orders, .inl (cyI, 8, .inl g_orders)), (q_g_conjugates, .inl (cyI, 64, .inl g_conjugates)), (q_g_spans, .inl (cyI, 256, .inl g_spans)), (q_s, .inr (4, [.int s_handles, .int s_count, .ref q_s_periods])), (q_s_periods, .inl (cyI, 4, .inl s_periods))]) (ws2 := [(q_r, .inr (3, [.ref q_g, .ref q_s, .ref q_r_elements])), (q_r_elements, .inl (cyI, 4, .inl t1)), (q_g, .inr (1, [.int g_family, .int g_n, .int g_size, .ref q_g_products, .ref q_g_inverses, .ref q_g_orders, .ref q_g_conjugates, .ref q_g_spans])), (q_g_products, .inl (cyI, 64, .inl g_products)), (q_g_inverses, .inl (cyI, 8, .inl g_inverses)), (q_g_orders, .inl (cyI, 8, .inl g_orders)), (q_g_conjugates, .inl (cyI, 64, .inl g_conjugates)), (q_g_spans, .inl (cyI, 256, .inl g_spans)), (q_s, .inr (4, [.int s_handles, .int s_count, .ref q_s_periods])), (q_s_periods, .inl (cyI, 4, .inl s_periods))]) pCX3_75 (kJ7_fill_53178 l D cyI q_r_elements r_elements 4 (0 : Int32) ht1) hB hK hP hD hS hA hl rfl rfl rfl ⟨Nat.le_of_ble_eq_true rfl, Nat.le_of_ble_eq_true rfl⟩ [1] [0, 2, 3, 4, 5, 6, 7, 8, 9] [0, 9, 1, 2, 3, 4, 5, 6, 7, 8] rfl rfl (by decide) (by decide) (by decide) (by decide) rfl (Nat.le_of_ble_eq_true rfl) dX3_startFree_5 (Nat.zero_le _) (Nat.zero_le _) rfl (fun H locs hP hD hS => ?_)
  obtain rfl := Option.some.inj h
  rw [← hQ]
  exact pz_vret hB hP hD hS dX3_startFree_8
set_option maxRecDepth 100000 in
set_option maxHeartbeats 4000000 in
theorem kX3_advanceFree (l : Launch) (D : va_G) (cyI : ClassId) (q_r q_r_elements q_g q_g_products q_g_inverses q_g_orders q_g_conjugates q_g_spans q_s q_s_periods : Nat) (r_elements : Nat → Int32) (g_family : Int32) (g_n : Int32) (g_size : Int32) (g_products : Nat → Int32) (g_inverses : Nat → Int32) (g_orders : Nat → Int32) (g_conjugates : Nat → Int32) (g_spans : Nat → Int32) (s_handles : Int32) (s_count : Int32) (s_periods : Nat → Int32) {v : Int32 × (Nat → Int32)} (h : fX3_advanceFree g_size s_handles s_count r_elements = some v) : pz_MI l yX3_advanceFree cX3_advanceFree 2 .boolean ({ frames := 2, cells := 0, slots := 0, locals := 40 } : Room) [.ref q_r] D cyI [(q_r, .inr (3, [.ref q_g, .ref q_s, .ref q_r_elements])), (q_r_elements, .inl (cyI, 4, .inl r_elements)), (q_g, .inr (1, [.int g_family, .int g_n, .int g_size, .ref q_g_products, .ref q_g_inverses, .ref q_g_orders, .ref q_g_conjugates, .ref q_g_spans])), (q_g_products, .inl (cyI, 64, .inl g_products)), (q_g_inverses, .inl (cyI, 8, .inl g_inverses)), (q_g_orders, .inl (cyI, 8, .inl g_orders)), (q_g_conjugates, .inl (cyI, 64, .inl g_conjugates)), (q_g_spans, .inl (cyI, 256, .inl g_spans)), (q_s, .inr (4, [.int s_handles, .int s_count, .ref q_s_periods])), (q_s_periods, .inl (cyI, 4, .inl s_periods))] v.1 [(q_r, .inr (3, [.ref q_g, .ref q_s, .ref q_r_elements])), (q_r_elements, .inl (cyI, 4, .inl v.2)), (q_g, .inr (1, [.int g_family, .int g_n, .int g_size, .ref q_g_products, .ref q_g_inverses, .ref q_g_orders, .ref q_g_conjugates, .ref q_g_spans])), (q_g_products, .inl (cyI, 64, .inl g_products)), (q_g_inverses, .inl (cyI, 8, .inl g_inverses)), (q_g_orders, .inl (cyI, 8, .inl g_orders)), (q_g_conjugates, .inl (cyI, 64, .inl g_conjugates)), (q_g_spans, .inl (cyI, 256, .inl g_spans)), (q_s, .inr (4, [.int s_handles, .int s_count, .ref q_s_periods])), (q_s_periods, .inl (cyI, 4, .inl s_periods))] := by
  refine pz_ofI (by decide) (Nat.le_of_ble_eq_true rfl) ?_
  intro p e s m args below meth c A ls hB hP hK hD hS hA hl
  have hl : lv_has ls 2 [(0, .ref q_r)] := hl
  have hx := hB.1
  have hb := hB.2.1
  unfold fX3_advanceFree at h
  generalize hQ : pz_QI below args s D A v.1 [(q_r, .inr (3, [.ref q_g, .ref q_s, .ref q_r_elements])), (q_r_elements, .inl (cyI, 4, .inl v.2)), (q_g, .inr (1, [.int g_family, .int g_n, .int g_size, .ref q_g_products, .ref q_g_inverses, .ref q_g_orders, .ref q_g_conjugates, .ref q_g_spans])), (q_g_products, .inl (cyI, 64, .inl g_products)), (q_g_inverses, .inl (cyI, 8, .inl g_inverses)), (q_g_orders, .inl (cyI, 8, .inl g_orders)), (q_g_conjugates, .inl (cyI, 64, .inl g_conjugates)), (q_g_spans, .inl (cyI, 256, .inl g_spans)), (q_s, .inr (4, [.int s_handles, .int s_count, .ref q_s_periods])), (q_s_periods, .inl (cyI, 4, .inl s_periods))] = Q
  refine lv_aload_n hx hb dX3_advanceFree_0 rfl (lv_at hl 0 rfl) ?_
  obtain ⟨t1, ht1, h⟩ := pz_bnd h
  refine pz_callIr (rest := []) pCX3_81 (kX3_freeDigits l D cyI q_r q_r_elements q_g q_g_products q_g_inverses q_g_orders q_g_conjugates q_g_spans q_s q_s_periods r_elements g_family g_n g_size g_products g_inverses g_orders g_conjugates g_spans s_handles s_count s_periods ht1) hB hK hP hD hS hA hl rfl rfl rfl ⟨Nat.le_of_ble_eq_true rfl, Nat.le_of_ble_eq_true rfl⟩ rfl rfl [0, 1, 2, 3, 4, 5, 6, 7, 8, 9] rfl (by decide) (Nat.le_of_ble_eq_true rfl) dX3_advanceFree_1 (Nat.zero_le _) (Nat.zero_le _) rfl (fun H locs hP hS => ?_)
  refine lv_iconst (v := (1 : Int32)) hx hb dX3_advanceFree_4 (by decide) ?_
  refine lv_isub hx hb dX3_advanceFree_5 ?_
  refine lv_istore_n (lv' := [(1, .int (t1 - (1 : Int32))), (0, .ref q_r)]) hx hb dX3_advanceFree_6 rfl hl (by decide) rfl (fun ls hl => ?_)
  obtain ⟨u_7, hu_7, h⟩ := pz_bnd h
  have hE7 : ∀ (H : Heap) (locs : List Loc) (ls : Array Slot), va_P D vwCl [(q_r, .inr (3, [.ref q_g, .ref q_s, .ref q_r_elements])), (q_r_elements, .inl (cyI, 4, .inl u_7.2)), (q_g, .inr (1, [.int g_family, .int g_n, .int g_size, .ref q_g_products, .ref q_g_inverses, .ref q_g_orders, .ref q_g_conjugates, .ref q_g_spans])), (q_g_products, .inl (cyI, 64, .inl g_products)), (q_g_inverses, .inl (cyI, 8, .inl g_inverses)), (q_g_orders, .inl (cyI, 8, .inl g_orders)), (q_g_conjugates, .inl (cyI, 64, .inl g_conjugates)), (q_g_spans, .inl (cyI, 256, .inl g_spans)), (q_s, .inr (4, [.int s_handles, .int s_count, .ref q_s_periods])), (q_s_periods, .inl (cyI, 4, .inl s_periods))] H → va_D A [(q_r, .inr (3, [.ref q_g, .ref q_s, .ref q_r_elements])), (q_r_elements, .inl (cyI, 4, .inl u_7.2)), (q_g, .inr (1, [.int g_family, .int g_n, .int g_size, .ref q_g_products, .ref q_g_inverses, .ref q_g_orders, .ref q_g_conjugates, .ref q_g_spans])), (q_g_products, .inl (cyI, 64, .inl g_products)), (q_g_inverses, .inl (cyI, 8, .inl g_inverses)), (q_g_orders, .inl (cyI, 8, .inl g_orders)), (q_g_conjugates, .inl (cyI, 64, .inl g_conjugates)), (q_g_spans, .inl (cyI, 256, .inl g_spans)), (q_s, .inr (4, [.int s_handles, .int s_count, .ref q_s_periods])), (q_s_periods, .inl (cyI, 4, .inl s_periods))] → va_S A s.heap H locs → lv_has ls 2 [(0, .ref q_r), (1, .int u_7.1)] → W p l e ({ frames := 2, cells := 0, slots := 0, locals := 40 } : Room) s m args below meth c H locs 0 0 Q (F0 m 42 ls []) := by
    intro H locs ls hP hD hS hl
    refine lv_iload_n hx hb dX3_advanceFree_42 rfl (lv_at hl 1 rfl) ?_
    refine lv_if_ge (tgt := 48) hx hb dX3_advanceFree_43 (by decide) (fun hc43 => ?_) (fun hc43 => ?_)
    · have h := pz_itT hc43 h
      refine lv_aload_n hx hb dX3_advanceFree_48 rfl (lv_at hl 0 rfl) ?_
      refine pz_get pFX3_9 hB hK hP 0 rfl rfl dX3_advanceFree_49 ?_
      refine lv_iload_n hx hb dX3_advanceFree_52 rfl (lv_at hl 1 rfl) ?_
      refine lv_dup2_11 hx hb dX3_advanceFree_53 rfl rfl ?_
      obtain ⟨hi2, h⟩ := pz_rdE h
      refine pz_iald hB hK hP 1 rfl hi2 dX3_advanceFree_54 ?_
      refine lv_iconst (v := (1 : Int32)) hx hb dX3_advanceFree_55 (by decide) ?_
      refine lv_iadd hx hb dX3_advanceFree_56 ?_
      obtain ⟨hi3, h⟩ := pz_wrE h
      refine pz_iast hB hK hP hD hS 1 rfl hi3 dX3_advanceFree_57 [(q_r, .inr (3, [.ref q_g, .ref q_s, .ref q_r_elements])), (q_r_elements, .inl (cyI, 4, .inl (upd u_7.2 (Int32.toNatClampNeg u_7.1) ((u_7.2 (Int32.toNatClampNeg u_7.1)) + (1 : Int32))))), (q_g, .inr (1, [.int g_family, .int g_n, .int g_size, .ref q_g_products, .ref q_g_inverses, .ref q_g_orders, .ref q_g_conjugates, .ref q_g_spans])), (q_g_products, .inl (cyI, 64, .inl g_products)), (q_g_inverses, .inl (cyI, 8, .inl g_inverses)), (q_g_orders, .inl (cyI, 8, .inl g_orders)), (q_g_conjugates, .inl (cyI, 64, .inl g_conjugates)), (q_g_spans, .inl (cyI, 256, .inl g_spans)), (q_s, .inr (4, [.int s_handles, .int s_count, .ref q_s_periods])), (q_s_periods, .inl (cyI, 4, .inl s_periods))] rfl (fun H locs hP hD hS => ?_)
      refine lv_iconst (v := (1 : Int32)) hx hb dX3_advanceFree_58 (by decide) ?_
      obtain rfl := Option.some.inj h
      rw [← hQ]
      exact pz_zret hB (Or.inr rfl) hP hD hS dX3_advanceFree_59
    · have h := pz_itF hc43 h
      refine lv_iconst (v := (0 : Int32)) hx hb dX3_advanceFree_46 (by decide) ?_
      obtain rfl := Option.some.inj h
      rw [← hQ]
      exact pz_zret hB (Or.inl rfl) hP hD hS dX3_advanceFree_47
  have hL7 : ∀ (n : Nat) (x1_7 : Int32) (r_elements_7 : Nat → Int32) (H : Heap) (locs : List Loc) (ls : Array Slot), va_P D vwCl [(q_r, .inr (3, [.ref q_g, .ref q_s, .ref q_r_elements])), (q_r_elements, .inl (cyI, 4, .inl r_elements_7)), (q_g, .inr (1, [.int g_family, .int g_n, .int g_size, .ref q_g_products, .ref q_g_inverses, .ref q_g_orders, .ref q_g_conjugates, .ref q_g_spans])), (q_g_products, .inl (cyI, 64, .inl g_products)), (q_g_inverses, .inl (cyI, 8, .inl g_inverses)), (q_g_orders, .inl (cyI, 8, .inl g_orders)), (q_g_conjugates, .inl (cyI, 64, .inl g_conjugates)), (q_g_spans, .inl (cyI, 256, .inl g_spans)), (q_s, .inr (4, [.int s_handles, .int s_count, .ref q_s_periods])), (q_s_periods, .inl (cyI, 4, .inl s_periods))] H → va_D A [(q_r, .inr (3, [.ref q_g, .ref q_s, .ref q_r_elements])), (q_r_elements, .inl (cyI, 4, .inl r_elements_7)), (q_g, .inr (1, [.int g_family, .int g_n, .int g_size, .ref q_g_products, .ref q_g_inverses, .ref q_g_orders, .ref q_g_conjugates, .ref q_g_spans])), (q_g_products, .inl (cyI, 64, .inl g_products)), (q_g_inverses, .inl (cyI, 8, .inl g_inverses)), (q_g_orders, .inl (cyI, 8, .inl g_orders)), (q_g_conjugates, .inl (cyI, 64, .inl g_conjugates)), (q_g_spans, .inl (cyI, 256, .inl g_spans)), (q_s, .inr (4, [.int s_handles, .int s_count, .ref q_s_periods])), (q_s_periods, .inl (cyI, 4, .inl s_periods))] → va_S A s.heap H locs → lv_has ls 2 [(0, .ref q_r), (1, .int x1_7)] → pz_iter (fun (σ : Int32 × (Nat → Int32)) => fX3_advanceFree_L7 g_size σ.1 σ.2) n (x1_7, r_elements_7) = some u_7 → W p l e ({ frames := 2, cells := 0, slots := 0, locals := 40 } : Room) s m args below meth c H locs 0 0 Q (F0 m 7 ls []) := by
    intro n
    induction n with
    | zero => intro x1_7 r_elements_7 H locs ls hP hD hS hl h; exact (pz_it0 h).elim
    | succ n ih =>
      intro x1_7 r_elements_7 H locs ls hP hD hS hl h
      obtain ⟨y_7, h, hk7⟩ := pz_itS h
      have h : fX3_advanceFree_L7 g_size x1_7 r_elements_7 = some y_7 := h
      unfold fX3_advanceFree_L7 at h
      refine lv_iload_n hx hb dX3_advanceFree_7 rfl (lv_at hl 1 rfl) ?_
      refine lv_if_lt (tgt := 42) hx hb dX3_advanceFree_8 (by decide) (fun hc8 => ?_) (fun hc8 => ?_)
      · have h := pz_itT hc8 h
        obtain rfl := Option.some.inj h
        obtain rfl := pz_exit hk7
        exact hE7 _ _ _ hP hD hS (lv_sub hl [0, 1] rfl)
      · have h := pz_itF hc8 h
        refine lv_aload_n hx hb dX3_advanceFree_11 rfl (lv_at hl 0 rfl) ?_
        refine pz_get pFX3_9 hB hK hP 0 rfl rfl dX3_advanceFree_12 ?_
        refine lv_iload_n hx hb dX3_advanceFree_15 rfl (lv_at hl 1 rfl) ?_
        obtain ⟨hi4, h⟩ := pz_rdE h
        refine pz_iald hB hK hP 1 rfl hi4 dX3_advanceFree_16 ?_
        refine lv_aload_n hx hb dX3_advanceFree_17 rfl (lv_at hl 0 rfl) ?_
        refine pz_get pFX3_15 hB hK hP 0 rfl rfl dX3_advanceFree_18 ?_
        refine pz_getN pFX3_84 hB hK hP 2 rfl rfl dX3_advanceFree_21 ?_
        refine lv_iconst (v := (1 : Int32)) hx hb dX3_advanceFree_24 (by decide) ?_
        refine lv_isub hx hb dX3_advanceFree_25 ?_
        refine lv_icmp_lt (tgt := 42) hx hb dX3_advanceFree_26 (by decide) (fun hc26 => ?_) (fun hc26 => ?_)
        · have h := pz_itT hc26 h
          obtain rfl := Option.some.inj h
          obtain rfl := pz_exit hk7
          exact hE7 _ _ _ hP hD hS (lv_sub hl [0, 1] rfl)
        · have h := pz_itF hc26 h
          refine lv_aload_n hx hb dX3_advanceFree_29 rfl (lv_at hl 0 rfl) ?_
          refine pz_get pFX3_9 hB hK hP 0 rfl rfl dX3_advanceFree_30 ?_
          refine lv_iload_n hx hb dX3_advanceFree_33 rfl (lv_at hl 1 rfl) ?_
          refine lv_iconst (v := (0 : Int32)) hx hb dX3_advanceFree_34 (by decide) ?_
          obtain ⟨hi5, h⟩ := pz_wrE h
          refine pz_iast hB hK hP hD hS 1 rfl hi5 dX3_advanceFree_35 [(q_r, .inr (3, [.ref q_g, .ref q_s, .ref q_r_elements])), (q_r_elements, .inl (cyI, 4, .inl (upd r_elements_7 (Int32.toNatClampNeg x1_7) (0 : Int32)))), (q_g, .inr (1, [.int g_family, .int g_n, .int g_size, .ref q_g_products, .ref q_g_inverses, .ref q_g_orders, .ref q_g_conjugates, .ref q_g_spans])), (q_g_products, .inl (cyI, 64, .inl g_products)), (q_g_inverses, .inl (cyI, 8, .inl g_inverses)), (q_g_orders, .inl (cyI, 8, .inl g_orders)), (q_g_conjugates, .inl (cyI, 64, .inl g_conjugates)), (q_g_spans, .inl (cyI, 256, .inl g_spans)), (q_s, .inr (4, [.int s_handles, .int s_count, .ref q_s_periods])), (q_s_periods, .inl (cyI, 4, .inl s_periods))] rfl (fun H locs hP hD hS => ?_)
          refine lv_iinc (v := (x1_7 + (-1 : Int32))) (lv' := [(1, .int (x1_7 + (-1 : Int32))), (0, .ref q_r)]) hx hb dX3_advanceFree_36 hl (k := 1) rfl (by rfl) (by decide) rfl (fun ls hl => ?_)
          refine lv_goto (tgt := 7) hx hb dX3_advanceFree_39 (by decide) ?_
          obtain rfl := Option.some.inj h
          exact ih (x1_7 + (-1 : Int32)) (upd r_elements_7 (Int32.toNatClampNeg x1_7) (0 : Int32)) _ _ _ hP hD hS (lv_sub hl [1, 0] rfl) hk7
  exact hL7 pz_FUEL (t1 - (1 : Int32)) r_elements _ _ _ hP hD hS (lv_sub hl [1, 0] rfl) hu_7
set_option maxRecDepth 100000 in
set_option maxHeartbeats 4000000 in
theorem kX3_completesMap (l : Launch) (D : va_G) (cyI : ClassId) (q_r q_r_elements q_g q_g_products q_g_inverses q_g_orders q_g_conjugates q_g_spans q_s q_s_periods : Nat) (r_elements : Nat → Int32) (g_family : Int32) (g_n : Int32) (g_size : Int32) (g_products : Nat → Int32) (g_inverses : Nat → Int32) (g_orders : Nat → Int32) (g_conjugates : Nat → Int32) (g_spans : Nat → Int32) (s_handles : Int32) (s_count : Int32) (s_periods : Nat → Int32) {v : Int32 × (Nat → Int32)} (h : fX3_completesMap g_size g_products g_inverses g_orders g_spans s_handles s_count s_periods r_elements = some v) : pz_MI l yX3_completesMap cX3_completesMap 2 .boolean ({ frames := 2, cells := 0, slots := 0, locals := 45 } : Room) [.ref q_r] D cyI [(q_r, .inr (3, [.ref q_g, .ref q_s, .ref q_r_elements])), (q_r_elements, .inl (cyI, 4, .inl r_elements)), (q_g, .inr (1, [.int g_family, .int g_n, .int g_size, .ref q_g_products, .ref q_g_inverses, .ref q_g_orders, .ref q_g_conjugates, .ref q_g_spans])), (q_g_products, .inl (cyI, 64, .inl g_products)), (q_g_inverses, .inl (cyI, 8, .inl g_inverses)), (q_g_orders, .inl (cyI, 8, .inl g_orders)), (q_g_conjugates, .inl (cyI, 64, .inl g_conjugates)), (q_g_spans, .inl (cyI, 256, .inl g_spans)), (q_s, .inr (4, [.int s_handles, .int s_count, .ref q_s_periods])), (q_s_periods, .inl (cyI, 4, .inl s_periods))] v.1 [(q_r, .inr (3, [.ref q_g, .ref q_s, .ref q_r_elements])), (q_r_elements, .inl (cyI, 4, .inl v.2)), (q_g, .inr (1, [.int g_family, .int g_n, .int g_size, .ref q_g_products, .ref q_g_inverses, .ref q_g_orders, .ref q_g_conjugates, .ref q_g_spans])), (q_g_products, .inl (cyI, 64, .inl g_products)), (q_g_inverses, .inl (cyI, 8, .inl g_inverses)), (q_g_orders, .inl (cyI, 8, .inl g_orders)), (q_g_conjugates, .inl (cyI, 64, .inl g_conjugates)), (q_g_spans, .inl (cyI, 256, .inl g_spans)), (q_s, .inr (4, [.int s_handles, .int s_count, .ref q_s_periods])), (q_s_periods, .inl (cyI, 4, .inl s_periods))] := by
  refine pz_ofI (by decide) (Nat.le_of_ble_eq_true rfl) ?_
  intro p e s m args below meth c A ls hB hP hK hD hS hA hl
  have hl : lv_has ls 2 [(0, .ref q_r)] := hl
  have hx := hB.1
  have hb := hB.2.1
  unfold fX3_completesMap at h
  generalize hQ : pz_QI below args s D A v.1 [(q_r, .inr (3, [.ref q_g, .ref q_s, .ref q_r_elements])), (q_r_elements, .inl (cyI, 4, .inl v.2)), (q_g, .inr (1, [.int g_family, .int g_n, .int g_size, .ref q_g_products, .ref q_g_inverses, .ref q_g_orders, .ref q_g_conjugates, .ref q_g_spans])), (q_g_products, .inl (cyI, 64, .inl g_products)), (q_g_inverses, .inl (cyI, 8, .inl g_inverses)), (q_g_orders, .inl (cyI, 8, .inl g_orders)), (q_g_conjugates, .inl (cyI, 64, .inl g_conjugates)), (q_g_spans, .inl (cyI, 256, .inl g_spans)), (q_s, .inr (4, [.int s_handles, .int s_count, .ref q_s_periods])), (q_s_periods, .inl (cyI, 4, .inl s_periods))] = Q
  refine lv_aload_n hx hb dX3_completesMap_0 rfl (lv_at hl 0 rfl) ?_
  refine pz_get pFX3_19 hB hK hP 0 rfl rfl dX3_completesMap_1 ?_
  refine pz_getN pFX3_39 hB hK hP 8 rfl rfl dX3_completesMap_4 ?_
  refine lv_iconst (v := (1 : Int32)) hx hb dX3_completesMap_7 (by decide) ?_
  refine lv_isub hx hb dX3_completesMap_8 ?_
  refine lv_istore_n (lv' := [(1, .int (s_count - (1 : Int32))), (0, .ref q_r)]) hx hb dX3_completesMap_9 rfl hl (by decide) rfl (fun ls hl => ?_)
  refine lv_iload_n hx hb dX3_completesMap_10 rfl (lv_at hl 0 rfl) ?_
  refine lv_if_ge (tgt := 35) hx hb dX3_completesMap_11 (by decide) (fun hc11 => ?_) (fun hc11 => ?_)
  · have h := pz_itT hc11 h
    refine lv_aload_n hx hb dX3_completesMap_35 rfl (lv_at hl 1 rfl) ?_
    refine lv_iload_n hx hb dX3_completesMap_36 rfl (lv_at hl 0 rfl) ?_
    obtain ⟨t1, ht1, h⟩ := pz_bnd h
    refine pz_callIr (rest := []) pCX3_42 (kX3_hasOrders l D cyI q_r q_r_elements q_g q_g_products q_g_inverses q_g_orders q_g_conjugates q_g_spans q_s q_s_periods r_elements g_family g_n g_size g_products g_inverses g_orders g_conjugates g_spans s_handles s_count s_periods (s_count - (1 : Int32)) ht1) hB hK hP hD hS hA hl rfl rfl rfl ⟨Nat.le_of_ble_eq_true rfl, Nat.le_of_ble_eq_true rfl⟩ rfl rfl [0, 1, 2, 3, 4, 5, 6, 7, 8, 9] rfl (by decide) (Nat.le_of_ble_eq_true rfl) dX3_completesMap_37 (Nat.zero_le _) (Nat.zero_le _) rfl (fun H locs hP hS => ?_)
    refine lv_if_ne (tgt := 45) hx hb dX3_completesMap_40 (by decide) (fun hc40 => ?_) (fun hc40 => ?_)
    · have h := pz_itF hc40 h
      refine lv_aload_n hx hb dX3_completesMap_45 rfl (lv_at hl 1 rfl) ?_
      refine pz_get pFX3_9 hB hK hP 0 rfl rfl dX3_completesMap_46 ?_
      refine lv_iconst (v := (2 : Int32)) hx hb dX3_completesMap_49 (by decide) ?_
      refine lv_aload_n hx hb dX3_completesMap_50 rfl (lv_at hl 1 rfl) ?_
      refine pz_get pFX3_19 hB hK hP 0 rfl rfl dX3_completesMap_51 ?_
      refine pz_getN pFX3_35 hB hK hP 8 rfl rfl dX3_completesMap_54 ?_
      refine lv_imul hx hb dX3_completesMap_57 ?_
      refine lv_iload_n hx hb dX3_completesMap_58 rfl (lv_at hl 0 rfl) ?_
      refine lv_iadd hx hb dX3_completesMap_59 ?_
      refine lv_aload_n hx hb dX3_completesMap_60 rfl (lv_at hl 1 rfl) ?_
      refine pz_get pFX3_15 hB hK hP 0 rfl rfl dX3_completesMap_61 ?_
      refine pz_getN pFX3_72 hB hK hP 2 rfl rfl dX3_completesMap_64 ?_
      refine lv_aload_n hx hb dX3_completesMap_67 rfl (lv_at hl 1 rfl) ?_
      refine lv_iload_n hx hb dX3_completesMap_68 rfl (lv_at hl 0 rfl) ?_
      obtain ⟨t2, ht2, h⟩ := pz_bnd h
      refine pz_callIr (rest := [.ref q_g_inverses, .int (((2 : Int32) * s_handles) + (s_count - (1 : Int32))), .ref q_r_elements]) pCX3_45 (kX3_productOfFirst l D cyI q_r q_r_elements q_g q_g_products q_g_inverses q_g_orders q_g_conjugates q_g_spans q_s q_s_periods r_elements g_family g_n g_size g_products g_inverses g_orders g_conjugates g_spans s_handles s_count s_periods (s_count - (1 : Int32)) ht2) hB hK hP hD hS hA hl rfl rfl rfl ⟨Nat.le_of_ble_eq_true rfl, Nat.le_of_ble_eq_true rfl⟩ rfl rfl [0, 1, 2, 3, 4, 5, 6, 7, 8, 9] rfl (by decide) (Nat.le_of_ble_eq_true rfl) dX3_completesMap_69 (Nat.zero_le _) (Nat.zero_le _) rfl (fun H locs hP hS => ?_)
      obtain ⟨hi3, h⟩ := pz_rdE h
      refine pz_iald hB hK hP 4 rfl hi3 dX3_completesMap_72 ?_
      obtain ⟨hi4, h⟩ := pz_wrE h
      refine pz_iast hB hK hP hD hS 1 rfl hi4 dX3_completesMap_73 [(q_r, .inr (3, [.ref q_g, .ref q_s, .ref q_r_elements])), (q_r_elements, .inl (cyI, 4, .inl (upd r_elements (Int32.toNatClampNeg (((2 : Int32) * s_handles) + (s_count - (1 : Int32)))) (g_inverses (Int32.toNatClampNeg t2))))), (q_g, .inr (1, [.int g_family, .int g_n, .int g_size, .ref q_g_products, .ref q_g_inverses, .ref q_g_orders, .ref q_g_conjugates, .ref q_g_spans])), (q_g_products, .inl (cyI, 64, .inl g_products)), (q_g_inverses, .inl (cyI, 8, .inl g_inverses)), (q_g_orders, .inl (cyI, 8, .inl g_orders)), (q_g_conjugates, .inl (cyI, 64, .inl g_conjugates)), (q_g_spans, .inl (cyI, 256, .inl g_spans)), (q_s, .inr (4, [.int s_handles, .int s_count, .ref q_s_periods])), (q_s_periods, .inl (cyI, 4, .inl s_periods))] rfl (fun H locs hP hD hS => ?_)
      refine lv_aload_n hx hb dX3_completesMap_74 rfl (lv_at hl 1 rfl) ?_
      refine lv_aload_n hx hb dX3_completesMap_75 rfl (lv_at hl 1 rfl) ?_
      refine pz_get pFX3_19 hB hK hP 0 rfl rfl dX3_completesMap_76 ?_
      refine pz_getN pFX3_39 hB hK hP 8 rfl rfl dX3_completesMap_79 ?_
      obtain ⟨t5, ht5, h⟩ := pz_bnd h
      refine pz_callIr (rest := []) pCX3_42 (kX3_hasOrders l D cyI q_r q_r_elements q_g q_g_products q_g_inverses q_g_orders q_g_conjugates q_g_spans q_s q_s_periods (upd r_elements (Int32.toNatClampNeg (((2 : Int32) * s_handles) + (s_count - (1 : Int32)))) (g_inverses (Int32.toNatClampNeg t2))) g_family g_n g_size g_products g_inverses g_orders g_conjugates g_spans s_handles s_count s_periods s_count ht5) hB hK hP hD hS hA hl rfl rfl rfl ⟨Nat.le_of_ble_eq_true rfl, Nat.le_of_ble_eq_true rfl⟩ rfl rfl [0, 1, 2, 3, 4, 5, 6, 7, 8, 9] rfl (by decide) (Nat.le_of_ble_eq_true rfl) dX3_completesMap_82 (Nat.zero_le _) (Nat.zero_le _) rfl (fun H locs hP hS => ?_)
      refine lv_if_eq (tgt := 99) hx hb dX3_completesMap_85 (by decide) (fun hc85 => ?_) (fun hc85 => ?_)
      · have h := pz_itT hc85 h
        refine lv_iconst (v := (0 : Int32)) hx hb dX3_completesMap_99 (by decide) ?_
        obtain rfl := Option.some.inj h
        rw [← hQ]
        exact pz_zret hB (Or.inl rfl) hP hD hS dX3_completesMap_100
      · have h := pz_itF hc85 h
        refine lv_aload_n hx hb dX3_completesMap_88 rfl (lv_at hl 1 rfl) ?_
        obtain ⟨t6, ht6, h⟩ := pz_bnd h
        refine pz_callIr (rest := []) pCX3_49 (kX3_isWhole l D cyI q_r q_r_elements q_g q_g_products q_g_inverses q_g_orders q_g_conjugates q_g_spans q_s q_s_periods (upd r_elements (Int32.toNatClampNeg (((2 : Int32) * s_handles) + (s_count - (1 : Int32)))) (g_inverses (Int32.toNatClampNeg t2))) g_family g_n g_size g_products g_inverses g_orders g_conjugates g_spans s_handles s_count s_periods ht6) hB hK hP hD hS hA hl rfl rfl rfl ⟨Nat.le_of_ble_eq_true rfl, Nat.le_of_ble_eq_true rfl⟩ rfl rfl [0, 1, 2, 3, 4, 5, 6, 7, 8, 9] rfl (by decide) (Nat.le_of_ble_eq_true rfl) dX3_completesMap_89 (Nat.zero_le _) (Nat.zero_le _) rfl (fun H locs hP hS => ?_)
        refine lv_if_eq (tgt := 99) hx hb dX3_completesMap_92 (by decide) (fun hc92 => ?_) (fun hc92 => ?_)
        · have h := pz_itT hc92 h
          refine lv_iconst (v := (0 : Int32)) hx hb dX3_completesMap_99 (by decide) ?_
          obtain rfl := Option.some.inj h
          rw [← hQ]
          exact pz_zret hB (Or.inl rfl) hP hD hS dX3_completesMap_100
        · have h := pz_itF hc92 h
          refine lv_iconst (v := (1 : Int32)) hx hb dX3_completesMap_95 (by decide) ?_
          refine lv_goto (tgt := 100) hx hb dX3_completesMap_96 (by decide) ?_
          obtain rfl := Option.some.inj h
          rw [← hQ]
          exact pz_zret hB (Or.inr rfl) hP hD hS dX3_completesMap_100
    · have h := pz_itT hc40 h
      refine lv_iconst (v := (0 : Int32)) hx hb dX3_completesMap_43 (by decide) ?_
      obtain rfl := Option.some.inj h
      rw [← hQ]
      exact pz_zret hB (Or.inl rfl) hP hD hS dX3_completesMap_44
  · have h := pz_itF hc11 h
    refine lv_aload_n hx hb dX3_completesMap_14 rfl (lv_at hl 1 rfl) ?_
    refine lv_iconst (v := (0 : Int32)) hx hb dX3_completesMap_15 (by decide) ?_
    obtain ⟨t7, ht7, h⟩ := pz_bnd h
    refine pz_callIr (rest := []) pCX3_45 (kX3_productOfFirst l D cyI q_r q_r_elements q_g q_g_products q_g_inverses q_g_orders q_g_conjugates q_g_spans q_s q_s_periods r_elements g_family g_n g_size g_products g_inverses g_orders g_conjugates g_spans s_handles s_count s_periods (0 : Int32) ht7) hB hK hP hD hS hA hl rfl rfl rfl ⟨Nat.le_of_ble_eq_true rfl, Nat.le_of_ble_eq_true rfl⟩ rfl rfl [0, 1, 2, 3, 4, 5, 6, 7, 8, 9] rfl (by decide) (Nat.le_of_ble_eq_true rfl) dX3_completesMap_16 (Nat.zero_le _) (Nat.zero_le _) rfl (fun H locs hP hS => ?_)
    refine lv_if_ne (tgt := 33) hx hb dX3_completesMap_19 (by decide) (fun hc19 => ?_) (fun hc19 => ?_)
    · have h := pz_itF hc19 h
      refine lv_iconst (v := (0 : Int32)) hx hb dX3_completesMap_33 (by decide) ?_
      obtain rfl := Option.some.inj h
      rw [← hQ]
      exact pz_zret hB (Or.inl rfl) hP hD hS dX3_completesMap_34
    · have h := pz_itT hc19 h
      refine lv_aload_n hx hb dX3_completesMap_22 rfl (lv_at hl 1 rfl) ?_
      obtain ⟨t8, ht8, h⟩ := pz_bnd h
      refine pz_callIr (rest := []) pCX3_49 (kX3_isWhole l D cyI q_r q_r_elements q_g q_g_products q_g_inverses q_g_orders q_g_conjugates q_g_spans q_s q_s_periods r_elements g_family g_n g_size g_products g_inverses g_orders g_conjugates g_spans s_handles s_count s_periods ht8) hB hK hP hD hS hA hl rfl rfl rfl ⟨Nat.le_of_ble_eq_true rfl, Nat.le_of_ble_eq_true rfl⟩ rfl rfl [0, 1, 2, 3, 4, 5, 6, 7, 8, 9] rfl (by decide) (Nat.le_of_ble_eq_true rfl) dX3_completesMap_23 (Nat.zero_le _) (Nat.zero_le _) rfl (fun H locs hP hS => ?_)
      refine lv_if_eq (tgt := 33) hx hb dX3_completesMap_26 (by decide) (fun hc26 => ?_) (fun hc26 => ?_)
      · have h := pz_itT hc26 h
        refine lv_iconst (v := (0 : Int32)) hx hb dX3_completesMap_33 (by decide) ?_
        obtain rfl := Option.some.inj h
        rw [← hQ]
        exact pz_zret hB (Or.inl rfl) hP hD hS dX3_completesMap_34
      · have h := pz_itF hc26 h
        refine lv_iconst (v := (1 : Int32)) hx hb dX3_completesMap_29 (by decide) ?_
        refine lv_goto (tgt := 34) hx hb dX3_completesMap_30 (by decide) ?_
        obtain rfl := Option.some.inj h
        rw [← hQ]
        exact pz_zret hB (Or.inr rfl) hP hD hS dX3_completesMap_34
set_option maxRecDepth 100000 in
set_option maxHeartbeats 4000000 in
theorem kX3_movesOfNeighbours (l : Launch) (D : va_G) (cyI : ClassId) (q_r q_r_elements q_g q_g_products q_g_inverses q_g_orders q_g_conjugates q_g_spans q_s q_s_periods : Nat) (r_elements : Nat → Int32) (g_family : Int32) (g_n : Int32) (g_size : Int32) (g_products : Nat → Int32) (g_inverses : Nat → Int32) (g_orders : Nat → Int32) (g_conjugates : Nat → Int32) (g_spans : Nat → Int32) (s_handles : Int32) (s_count : Int32) (s_periods : Nat → Int32) {v : Int32} (h : fX3_movesOfNeighbours s_count = some v) : pz_MI l yX3_movesOfNeighbours cX3_movesOfNeighbours 1 .int ({ frames := 1, cells := 0, slots := 0, locals := 24 } : Room) [.ref q_r] D cyI [(q_r, .inr (3, [.ref q_g, .ref q_s, .ref q_r_elements])), (q_r_elements, .inl (cyI, 4, .inl r_elements)), (q_g, .inr (1, [.int g_family, .int g_n, .int g_size, .ref q_g_products, .ref q_g_inverses, .ref q_g_orders, .ref q_g_conjugates, .ref q_g_spans])), (q_g_products, .inl (cyI, 64, .inl g_products)), (q_g_inverses, .inl (cyI, 8, .inl g_inverses)), (q_g_orders, .inl (cyI, 8, .inl g_orders)), (q_g_conjugates, .inl (cyI, 64, .inl g_conjugates)), (q_g_spans, .inl (cyI, 256, .inl g_spans)), (q_s, .inr (4, [.int s_handles, .int s_count, .ref q_s_periods])), (q_s_periods, .inl (cyI, 4, .inl s_periods))] v [(q_r, .inr (3, [.ref q_g, .ref q_s, .ref q_r_elements])), (q_r_elements, .inl (cyI, 4, .inl r_elements)), (q_g, .inr (1, [.int g_family, .int g_n, .int g_size, .ref q_g_products, .ref q_g_inverses, .ref q_g_orders, .ref q_g_conjugates, .ref q_g_spans])), (q_g_products, .inl (cyI, 64, .inl g_products)), (q_g_inverses, .inl (cyI, 8, .inl g_inverses)), (q_g_orders, .inl (cyI, 8, .inl g_orders)), (q_g_conjugates, .inl (cyI, 64, .inl g_conjugates)), (q_g_spans, .inl (cyI, 256, .inl g_spans)), (q_s, .inr (4, [.int s_handles, .int s_count, .ref q_s_periods])), (q_s_periods, .inl (cyI, 4, .inl s_periods))] := by
  refine pz_ofI (by decide) (Nat.le_of_ble_eq_true rfl) ?_
  intro p e s m args below meth c A ls hB hP hK hD hS hA hl
  have hl : lv_has ls 1 [(0, .ref q_r)] := hl
  have hx := hB.1
  have hb := hB.2.1
  unfold fX3_movesOfNeighbours at h
  generalize hQ : pz_QI below args s D A v [(q_r, .inr (3, [.ref q_g, .ref q_s, .ref q_r_elements])), (q_r_elements, .inl (cyI, 4, .inl r_elements)), (q_g, .inr (1, [.int g_family, .int g_n, .int g_size, .ref q_g_products, .ref q_g_inverses, .ref q_g_orders, .ref q_g_conjugates, .ref q_g_spans])), (q_g_products, .inl (cyI, 64, .inl g_products)), (q_g_inverses, .inl (cyI, 8, .inl g_inverses)), (q_g_orders, .inl (cyI, 8, .inl g_orders)), (q_g_conjugates, .inl (cyI, 64, .inl g_conjugates)), (q_g_spans, .inl (cyI, 256, .inl g_spans)), (q_s, .inr (4, [.int s_handles, .int s_count, .ref q_s_periods])), (q_s_periods, .inl (cyI, 4, .inl s_periods))] = Q
  refine lv_iconst (v := (0 : Int32)) hx hb dX3_movesOfNeighbours_0 (by decide) ?_
  refine lv_aload_n hx hb dX3_movesOfNeighbours_1 rfl (lv_at hl 0 rfl) ?_
  refine pz_get pFX3_19 hB hK hP 0 rfl rfl dX3_movesOfNeighbours_2 ?_
  refine pz_getN pFX3_39 hB hK hP 8 rfl rfl dX3_movesOfNeighbours_5 ?_
  refine lv_iconst (v := (1 : Int32)) hx hb dX3_movesOfNeighbours_8 (by decide) ?_
  refine lv_isub hx hb dX3_movesOfNeighbours_9 ?_
  refine va_mmax hx hb (hB.2.2.2.1.trans hl.1.symm) hB.2.2.2.2.1 (hB.2.2.2.2.2.1 _ (pz_w3 52 rfl rfl)) (hB.2.2.2.2.2.1 _ (pz_w1 157 rfl rfl)) (hB.2.2.2.2.2.1 _ (pz_w1 6 rfl rfl)) (hB.2.2.2.2.2.1 _ (pz_w1 158 rfl rfl)) (Nat.le_of_ble_eq_true rfl) (Nat.le_of_ble_eq_true rfl) (Nat.zero_le _) (Nat.zero_le _) dX3_movesOfNeighbours_10 ?_
  obtain rfl := Option.some.inj h
  rw [← hQ]
  exact pz_iret hB hP hD hS dX3_movesOfNeighbours_13
set_option maxRecDepth 100000 in
set_option maxHeartbeats 4000000 in
theorem kX3_moveCount (l : Launch) (D : va_G) (cyI : ClassId) (q_r q_r_elements q_g q_g_products q_g_inverses q_g_orders q_g_conjugates q_g_spans q_s q_s_periods : Nat) (r_elements : Nat → Int32) (g_family : Int32) (g_n : Int32) (g_size : Int32) (g_products : Nat → Int32) (g_inverses : Nat → Int32) (g_orders : Nat → Int32) (g_conjugates : Nat → Int32) (g_spans : Nat → Int32) (s_handles : Int32) (s_count : Int32) (s_periods : Nat → Int32) {v : Int32} (h : fX3_moveCount g_size s_handles s_count = some v) : pz_MI l yX3_moveCount cX3_moveCount 1 .int ({ frames := 2, cells := 0, slots := 0, locals := 44 } : Room) [.ref q_r] D cyI [(q_r, .inr (3, [.ref q_g, .ref q_s, .ref q_r_elements])), (q_r_elements, .inl (cyI, 4, .inl r_elements)), (q_g, .inr (1, [.int g_family, .int g_n, .int g_size, .ref q_g_products, .ref q_g_inverses, .ref q_g_orders, .ref q_g_conjugates, .ref q_g_spans])), (q_g_products, .inl (cyI, 64, .inl g_products)), (q_g_inverses, .inl (cyI, 8, .inl g_inverses)), (q_g_orders, .inl (cyI, 8, .inl g_orders)), (q_g_conjugates, .inl (cyI, 64, .inl g_conjugates)), (q_g_spans, .inl (cyI, 256, .inl g_spans)), (q_s, .inr (4, [.int s_handles, .int s_count, .ref q_s_periods])), (q_s_periods, .inl (cyI, 4, .inl s_periods))] v [(q_r, .inr (3, [.ref q_g, .ref q_s, .ref q_r_elements])), (q_r_elements, .inl (cyI, 4, .inl r_elements)), (q_g, .inr (1, [.int g_family, .int g_n, .int g_size, .ref q_g_products, .ref q_g_inverses, .ref q_g_orders, .ref q_g_conjugates, .ref q_g_spans])), (q_g_products, .inl (cyI, 64, .inl g_products)), (q_g_inverses, .inl (cyI, 8, .inl g_inverses)), (q_g_orders, .inl (cyI, 8, .inl g_orders)), (q_g_conjugates, .inl (cyI, 64, .inl g_conjugates)), (q_g_spans, .inl (cyI, 256, .inl g_spans)), (q_s, .inr (4, [.int s_handles, .int s_count, .ref q_s_periods])), (q_s_periods, .inl (cyI, 4, .inl s_periods))] := by
  refine pz_ofI (by decide) (Nat.le_of_ble_eq_true rfl) ?_
  intro p e s m args below meth c A ls hB hP hK hD hS hA hl
  have hl : lv_has ls 1 [(0, .ref q_r)] := hl
  have hx := hB.1
  have hb := hB.2.1
  unfold fX3_moveCount at h
  generalize hQ : pz_QI below args s D A v [(q_r, .inr (3, [.ref q_g, .ref q_s, .ref q_r_elements])), (q_r_elements, .inl (cyI, 4, .inl r_elements)), (q_g, .inr (1, [.int g_family, .int g_n, .int g_size, .ref q_g_products, .ref q_g_inverses, .ref q_g_orders, .ref q_g_conjugates, .ref q_g_spans])), (q_g_products, .inl (cyI, 64, .inl g_products)), (q_g_inverses, .inl (cyI, 8, .inl g_inverses)), (q_g_orders, .inl (cyI, 8, .inl g_orders)), (q_g_conjugates, .inl (cyI, 64, .inl g_conjugates)), (q_g_spans, .inl (cyI, 256, .inl g_spans)), (q_s, .inr (4, [.int s_handles, .int s_count, .ref q_s_periods])), (q_s_periods, .inl (cyI, 4, .inl s_periods))] = Q
  refine lv_aload_n hx hb dX3_moveCount_0 rfl (lv_at hl 0 rfl) ?_
  obtain ⟨t1, ht1, h⟩ := pz_bnd h
  refine pz_callIr (rest := []) pCX3_92 (kX3_movesOfNeighbours l D cyI q_r q_r_elements q_g q_g_products q_g_inverses q_g_orders q_g_conjugates q_g_spans q_s q_s_periods r_elements g_family g_n g_size g_products g_inverses g_orders g_conjugates g_spans s_handles s_count s_periods ht1) hB hK hP hD hS hA hl rfl rfl rfl ⟨Nat.le_of_ble_eq_true rfl, Nat.le_of_ble_eq_true rfl⟩ rfl rfl [0, 1, 2, 3, 4, 5, 6, 7, 8, 9] rfl (by decide) (Nat.le_of_ble_eq_true rfl) dX3_moveCount_1 (Nat.zero_le _) (Nat.zero_le _) rfl (fun H locs hP hS => ?_)
  refine lv_aload_n hx hb dX3_moveCount_4 rfl (lv_at hl 0 rfl) ?_
  refine pz_get pFX3_15 hB hK hP 0 rfl rfl dX3_moveCount_5 ?_
  refine pz_getN pFX3_84 hB hK hP 2 rfl rfl dX3_moveCount_8 ?_
  refine lv_iadd hx hb dX3_moveCount_11 ?_
  refine lv_iconst (v := (2 : Int32)) hx hb dX3_moveCount_12 (by decide) ?_
  refine lv_aload_n hx hb dX3_moveCount_13 rfl (lv_at hl 0 rfl) ?_
  refine pz_get pFX3_19 hB hK hP 0 rfl rfl dX3_moveCount_14 ?_
  refine pz_getN pFX3_35 hB hK hP 8 rfl rfl dX3_moveCount_17 ?_
  refine lv_imul hx hb dX3_moveCount_20 ?_
  refine lv_iadd hx hb dX3_moveCount_21 ?_
  obtain rfl := Option.some.inj h
  rw [← hQ]
  exact pz_iret hB hP hD hS dX3_moveCount_22
set_option maxRecDepth 100000 in
set_option maxHeartbeats 4000000 in
theorem kX3_moveAt (l : Launch) (D : va_G) (cyI : ClassId) (q_r q_r_elements q_g q_g_products q_g_inverses q_g_orders q_g_conjugates q_g_spans q_s q_s_periods : Nat) (r_elements : Nat → Int32) (g_family : Int32) (g_n : Int32) (g_size : Int32) (g_products : Nat → Int32) (g_inverses : Nat → Int32) (g_orders : Nat → Int32) (g_conjugates : Nat → Int32) (g_spans : Nat → Int32) (s_handles : Int32) (s_count : Int32) (s_periods : Nat → Int32) (x1 : Int32) {v : Int32} (h : fX3_moveAt x1 g_size s_count = some v) : pz_MI l yX3_moveAt cX3_moveAt 3 .int ({ frames := 2, cells := 0, slots := 0, locals := 44 } : Room) [.ref q_r, .int x1] D cyI [(q_r, .inr (3, [.ref q_g, .ref q_s, .ref q_r_elements])), (q_r_elements, .inl (cyI, 4, .inl r_elements)), (q_g, .inr (1, [.int g_family, .int g_n, .int g_size, .ref q_g_products, .ref q_g_inverses, .ref q_g_orders, .ref q_g_conjugates, .ref q_g_spans])), (q_g_products, .inl (cyI, 64, .inl g_products)), (q_g_inverses, .inl (cyI, 8, .inl g_inverses)), (q_g_orders, .inl (cyI, 8, .inl g_orders)), (q_g_conjugates, .inl (cyI, 64, .inl g_conjugates)), (q_g_spans, .inl (cyI, 256, .inl g_spans)), (q_s, .inr (4, [.int s_handles, .int s_count, .ref q_s_periods])), (q_s_periods, .inl (cyI, 4, .inl s_periods))] v [(q_r, .inr (3, [.ref q_g, .ref q_s, .ref q_r_elements])), (q_r_elements, .inl (cyI, 4, .inl r_elements)), (q_g, .inr (1, [.int g_family, .int g_n, .int g_size, .ref q_g_products, .ref q_g_inverses, .ref q_g_orders, .ref q_g_conjugates, .ref q_g_spans])), (q_g_products, .inl (cyI, 64, .inl g_products)), (q_g_inverses, .inl (cyI, 8, .inl g_inverses)), (q_g_orders, .inl (cyI, 8, .inl g_orders)), (q_g_conjugates, .inl (cyI, 64, .inl g_conjugates)), (q_g_spans, .inl (cyI, 256, .inl g_spans)), (q_s, .inr (4, [.int s_handles, .int s_count, .ref q_s_periods])), (q_s_periods, .inl (cyI, 4, .inl s_periods))] := by
  refine pz_ofI (by decide) (Nat.le_of_ble_eq_true rfl) ?_
  intro p e s m args below meth c A ls hB hP hK hD hS hA hl
  have hl : lv_has ls 3 [(0, .ref q_r), (1, .int x1)] := hl
  have hx := hB.1
  have hb := hB.2.1
  unfold fX3_moveAt at h
  generalize hQ : pz_QI below args s D A v [(q_r, .inr (3, [.ref q_g, .ref q_s, .ref q_r_elements])), (q_r_elements, .inl (cyI, 4, .inl r_elements)), (q_g, .inr (1, [.int g_family, .int g_n, .int g_size, .ref q_g_products, .ref q_g_inverses, .ref q_g_orders, .ref q_g_conjugates, .ref q_g_spans])), (q_g_products, .inl (cyI, 64, .inl g_products)), (q_g_inverses, .inl (cyI, 8, .inl g_inverses)), (q_g_orders, .inl (cyI, 8, .inl g_orders)), (q_g_conjugates, .inl (cyI, 64, .inl g_conjugates)), (q_g_spans, .inl (cyI, 256, .inl g_spans)), (q_s, .inr (4, [.int s_handles, .int s_count, .ref q_s_periods])), (q_s_periods, .inl (cyI, 4, .inl s_periods))] = Q
  refine lv_iload_n hx hb dX3_moveAt_0 rfl (lv_at hl 1 rfl) ?_
  refine lv_aload_n hx hb dX3_moveAt_1 rfl (lv_at hl 0 rfl) ?_
  obtain ⟨t1, ht1, h⟩ := pz_bnd h
  refine pz_callIr (rest := [.int x1]) pCX3_92 (kX3_movesOfNeighbours l D cyI q_r q_r_elements q_g q_g_products q_g_inverses q_g_orders q_g_conjugates q_g_spans q_s q_s_periods r_elements g_family g_n g_size g_products g_inverses g_orders g_conjugates g_spans s_handles s_count s_periods ht1) hB hK hP hD hS hA hl rfl rfl rfl ⟨Nat.le_of_ble_eq_true rfl, Nat.le_of_ble_eq_true rfl⟩ rfl rfl [0, 1, 2, 3, 4, 5, 6, 7, 8, 9] rfl (by decide) (Nat.le_of_ble_eq_true rfl) dX3_moveAt_2 (Nat.zero_le _) (Nat.zero_le _) rfl (fun H locs hP hS => ?_)
  refine lv_isub hx hb dX3_moveAt_5 ?_
  refine lv_istore_n (lv' := [(2, .int (x1 - t1)), (0, .ref q_r), (1, .int x1)]) hx hb dX3_moveAt_6 rfl hl (by decide) rfl (fun ls hl => ?_)
  refine lv_iload_n hx hb dX3_moveAt_7 rfl (lv_at hl 0 rfl) ?_
  refine lv_if_ge (tgt := 15) hx hb dX3_moveAt_8 (by decide) (fun hc8 => ?_) (fun hc8 => ?_)
  · have h := pz_itT hc8 h
    refine lv_iload_n hx hb dX3_moveAt_15 rfl (lv_at hl 0 rfl) ?_
    refine lv_aload_n hx hb dX3_moveAt_16 rfl (lv_at hl 1 rfl) ?_
    refine pz_get pFX3_15 hB hK hP 0 rfl rfl dX3_moveAt_17 ?_
    refine pz_getN pFX3_84 hB hK hP 2 rfl rfl dX3_moveAt_20 ?_
    refine lv_icmp_ge (tgt := 33) hx hb dX3_moveAt_23 (by decide) (fun hc23 => ?_) (fun hc23 => ?_)
    · have h := pz_itT hc23 h
      refine lv_bipush (v := (20 : Int32)) hx hb dX3_moveAt_33 (by decide) ?_
      refine lv_iload_n hx hb dX3_moveAt_35 rfl (lv_at hl 0 rfl) ?_
      refine lv_iadd hx hb dX3_moveAt_36 ?_
      refine lv_aload_n hx hb dX3_moveAt_37 rfl (lv_at hl 1 rfl) ?_
      refine pz_get pFX3_15 hB hK hP 0 rfl rfl dX3_moveAt_38 ?_
      refine pz_getN pFX3_84 hB hK hP 2 rfl rfl dX3_moveAt_41 ?_
      refine lv_isub hx hb dX3_moveAt_44 ?_
      obtain rfl := Option.some.inj h
      rw [← hQ]
      exact pz_iret hB hP hD hS dX3_moveAt_45
    · have h := pz_itF hc23 h
      refine lv_bipush (v := (10 : Int32)) hx hb dX3_moveAt_26 (by decide) ?_
      refine lv_iload_n hx hb dX3_moveAt_28 rfl (lv_at hl 0 rfl) ?_
      refine lv_iadd hx hb dX3_moveAt_29 ?_
      refine lv_goto (tgt := 45) hx hb dX3_moveAt_30 (by decide) ?_
      obtain rfl := Option.some.inj h
      rw [← hQ]
      exact pz_iret hB hP hD hS dX3_moveAt_45
  · have h := pz_itF hc8 h
    refine lv_iload_n hx hb dX3_moveAt_11 rfl (lv_at hl 2 rfl) ?_
    refine lv_iconst (v := (1 : Int32)) hx hb dX3_moveAt_12 (by decide) ?_
    refine lv_iadd hx hb dX3_moveAt_13 ?_
    obtain rfl := Option.some.inj h
    rw [← hQ]
    exact pz_iret hB hP hD hS dX3_moveAt_14
set_option maxRecDepth 100000 in
set_option maxHeartbeats 4000000 in
theorem kX3_swapNeighbours (l : Launch) (D : va_G) (cyI : ClassId) (q_r q_r_elements q_g q_g_products q_g_inverses q_g_orders q_g_conjugates q_g_spans q_s q_s_periods : Nat) (r_elements : Nat → Int32) (g_family : Int32) (g_n : Int32) (g_size : Int32) (g_products : Nat → Int32) (g_inverses : Nat → Int32) (g_orders : Nat → Int32) (g_conjugates : Nat → Int32) (g_spans : Nat → Int32) (s_handles : Int32) (s_count : Int32) (s_periods : Nat → Int32) (x1 : Int32) {v : (Nat → Int32)} (h : fX3_swapNeighbours x1 g_conjugates r_elements = some v) : pz_MV l yX3_swapNeighbours cX3_swapNeighbours 3 ({ frames := 1, cells := 0, slots := 0, locals := 22 } : Room) [.ref q_r, .int x1] D cyI [(q_r, .inr (3, [.ref q_g, .ref q_s, .ref q_r_elements])), (q_r_elements, .inl (cyI, 4, .inl r_elements)), (q_g, .inr (1, [.int g_family, .int g_n, .int g_size, .ref q_g_products, .ref q_g_inverses, .ref q_g_orders, .ref q_g_conjugates, .ref q_g_spans])), (q_g_products, .inl (cyI, 64, .inl g_products)), (q_g_inverses, .inl (cyI, 8, .inl g_inverses)), (q_g_orders, .inl (cyI, 8, .inl g_orders)), (q_g_conjugates, .inl (cyI, 64, .inl g_conjugates)), (q_g_spans, .inl (cyI, 256, .inl g_spans)), (q_s, .inr (4, [.int s_handles, .int s_count, .ref q_s_periods])), (q_s_periods, .inl (cyI, 4, .inl s_periods))] [(q_r, .inr (3, [.ref q_g, .ref q_s, .ref q_r_elements])), (q_r_elements, .inl (cyI, 4, .inl v)), (q_g, .inr (1, [.int g_family, .int g_n, .int g_size, .ref q_g_products, .ref q_g_inverses, .ref q_g_orders, .ref q_g_conjugates, .ref q_g_spans])), (q_g_products, .inl (cyI, 64, .inl g_products)), (q_g_inverses, .inl (cyI, 8, .inl g_inverses)), (q_g_orders, .inl (cyI, 8, .inl g_orders)), (q_g_conjugates, .inl (cyI, 64, .inl g_conjugates)), (q_g_spans, .inl (cyI, 256, .inl g_spans)), (q_s, .inr (4, [.int s_handles, .int s_count, .ref q_s_periods])), (q_s_periods, .inl (cyI, 4, .inl s_periods))] := by
  refine pz_ofV (by decide) (Nat.le_of_ble_eq_true rfl) ?_
  intro p e s m args below meth c A ls hB hP hK hD hS hA hl
  have hl : lv_has ls 3 [(0, .ref q_r), (1, .int x1)] := hl
  have hx := hB.1
  have hb := hB.2.1
  unfold fX3_swapNeighbours at h
  generalize hQ : pz_QV below args s D A [(q_r, .inr (3, [.ref q_g, .ref q_s, .ref q_r_elements])), (q_r_elements, .inl (cyI, 4, .inl v)), (q_g, .inr (1, [.int g_family, .int g_n, .int g_size, .ref q_g_products, .ref q_g_inverses, .ref q_g_orders, .ref q_g_conjugates, .ref q_g_spans])), (q_g_products, .inl (cyI, 64, .inl g_products)), (q_g_inverses, .inl (cyI, 8, .inl g_inverses)), (q_g_orders, .inl (cyI, 8, .inl g_orders)), (q_g_conjugates, .inl (cyI, 64, .inl g_conjugates)), (q_g_spans, .inl (cyI, 256, .inl g_spans)), (q_s, .inr (4, [.int s_handles, .int s_count, .ref q_s_periods])), (q_s_periods, .inl (cyI, 4, .inl s_periods))] = Q
  refine lv_aload_n hx hb dX3_swapNeighbours_0 rfl (lv_at hl 0 rfl) ?_
  refine pz_get pFX3_9 hB hK hP 0 rfl rfl dX3_swapNeighbours_1 ?_
  refine lv_iload_n hx hb dX3_swapNeighbours_4 rfl (lv_at hl 1 rfl) ?_
  refine lv_iconst (v := (1 : Int32)) hx hb dX3_swapNeighbours_5 (by decide) ?_
  refine lv_isub hx hb dX3_swapNeighbours_6 ?_
  obtain ⟨hi1, h⟩ := pz_rdE h
  refine pz_iald hB hK hP 1 rfl hi1 dX3_swapNeighbours_7 ?_
  refine lv_istore_n (lv' := [(2, .int (r_elements (Int32.toNatClampNeg (x1 - (1 : Int32))))), (0, .ref q_r), (1, .int x1)]) hx hb dX3_swapNeighbours_8 rfl hl (by decide) rfl (fun ls hl => ?_)
  refine lv_aload_n hx hb dX3_swapNeighbours_9 rfl (lv_at hl 1 rfl) ?_
  refine pz_get pFX3_9 hB hK hP 0 rfl rfl dX3_swapNeighbours_10 ?_
  refine lv_iload_n hx hb dX3_swapNeighbours_13 rfl (lv_at hl 2 rfl) ?_
  refine lv_iconst (v := (1 : Int32)) hx hb dX3_swapNeighbours_14 (by decide) ?_
  refine lv_isub hx hb dX3_swapNeighbours_15 ?_
  refine lv_aload_n hx hb dX3_swapNeighbours_16 rfl (lv_at hl 1 rfl) ?_
  refine pz_get pFX3_9 hB hK hP 0 rfl rfl dX3_swapNeighbours_17 ?_
  refine lv_iload_n hx hb dX3_swapNeighbours_20 rfl (lv_at hl 2 rfl) ?_
  obtain ⟨hi2, h⟩ := pz_rdE h
  refine pz_iald hB hK hP 1 rfl hi2 dX3_swapNeighbours_21 ?_
  obtain ⟨hi3, h⟩ := pz_wrE h
  refine pz_iast hB hK hP hD hS 1 rfl hi3 dX3_swapNeighbours_22 [(q_r, .inr (3, [.ref q_g, .ref q_s, .ref q_r_elements])), (q_r_elements, .inl (cyI, 4, .inl (upd r_elements (Int32.toNatClampNeg (x1 - (1 : Int32))) (r_elements (Int32.toNatClampNeg x1))))), (q_g, .inr (1, [.int g_family, .int g_n, .int g_size, .ref q_g_products, .ref q_g_inverses, .ref q_g_orders, .ref q_g_conjugates, .ref q_g_spans])), (q_g_products, .inl (cyI, 64, .inl g_products)), (q_g_inverses, .inl (cyI, 8, .inl g_inverses)), (q_g_orders, .inl (cyI, 8, .inl g_orders)), (q_g_conjugates, .inl (cyI, 64, .inl g_conjugates)), (q_g_spans, .inl (cyI, 256, .inl g_spans)), (q_s, .inr (4, [.int s_handles, .int s_count, .ref q_s_periods])), (q_s_periods, .inl (cyI, 4, .inl s_periods))] rfl (fun H locs hP hD hS => ?_)
  refine lv_aload_n hx hb dX3_swapNeighbours_23 rfl (lv_at hl 1 rfl) ?_
  refine pz_get pFX3_9 hB hK hP 0 rfl rfl dX3_swapNeighbours_24 ?_
  refine lv_iload_n hx hb dX3_swapNeighbours_27 rfl (lv_at hl 2 rfl) ?_
  refine lv_aload_n hx hb dX3_swapNeighbours_28 rfl (lv_at hl 1 rfl) ?_
  refine pz_get pFX3_15 hB hK hP 0 rfl rfl dX3_swapNeighbours_29 ?_
  refine lv_iload_n hx hb dX3_swapNeighbours_32 rfl (lv_at hl 0 rfl) ?_
  refine lv_aload_n hx hb dX3_swapNeighbours_33 rfl (lv_at hl 1 rfl) ?_
  refine pz_get pFX3_9 hB hK hP 0 rfl rfl dX3_swapNeighbours_34 ?_
  refine lv_iload_n hx hb dX3_swapNeighbours_37 rfl (lv_at hl 2 rfl) ?_
  obtain ⟨hi4, h⟩ := pz_rdE h
  refine pz_iald hB hK hP 1 rfl hi4 dX3_swapNeighbours_38 ?_
  obtain ⟨t5, ht5, h⟩ := pz_bnd h
  refine pz_callIr (rest := [.int x1, .ref q_r_elements]) pCX3_105 (kX1_conjugated l D cyI q_g q_g_products q_g_inverses q_g_orders q_g_conjugates q_g_spans g_family g_n g_size g_products g_inverses g_orders g_conjugates g_spans (r_elements (Int32.toNatClampNeg (x1 - (1 : Int32)))) ((upd r_elements (Int32.toNatClampNeg (x1 - (1 : Int32))) (r_elements (Int32.toNatClampNeg x1))) (Int32.toNatClampNeg x1)) ht5) hB hK hP hD hS hA hl rfl rfl rfl ⟨Nat.le_of_ble_eq_true rfl, Nat.le_of_ble_eq_true rfl⟩ rfl rfl [2, 3, 4, 5, 6, 7] rfl (by decide) (Nat.le_of_ble_eq_true rfl) dX3_swapNeighbours_39 (Nat.zero_le _) (Nat.zero_le _) rfl (fun H locs hP hS => ?_)
  obtain ⟨hi6, h⟩ := pz_wrE h
  refine pz_iast hB hK hP hD hS 1 rfl hi6 dX3_swapNeighbours_42 [(q_r, .inr (3, [.ref q_g, .ref q_s, .ref q_r_elements])), (q_r_elements, .inl (cyI, 4, .inl (upd (upd r_elements (Int32.toNatClampNeg (x1 - (1 : Int32))) (r_elements (Int32.toNatClampNeg x1))) (Int32.toNatClampNeg x1) t5))), (q_g, .inr (1, [.int g_family, .int g_n, .int g_size, .ref q_g_products, .ref q_g_inverses, .ref q_g_orders, .ref q_g_conjugates, .ref q_g_spans])), (q_g_products, .inl (cyI, 64, .inl g_products)), (q_g_inverses, .inl (cyI, 8, .inl g_inverses)), (q_g_orders, .inl (cyI, 8, .inl g_orders)), (q_g_conjugates, .inl (cyI, 64, .inl g_conjugates)), (q_g_spans, .inl (cyI, 256, .inl g_spans)), (q_s, .inr (4, [.int s_handles, .int s_count, .ref q_s_periods])), (q_s_periods, .inl (cyI, 4, .inl s_periods))] rfl (fun H locs hP hD hS => ?_)
  obtain rfl := Option.some.inj h
  rw [← hQ]
  exact pz_vret hB hP hD hS dX3_swapNeighbours_43
set_option maxRecDepth 100000 in
set_option maxHeartbeats 4000000 in
theorem kX3_moveNeighbours (l : Launch) (D : va_G) (cyI : ClassId) (q_r q_r_elements q_g q_g_products q_g_inverses q_g_orders q_g_conjugates q_g_spans q_s q_s_periods : Nat) (r_elements : Nat → Int32) (g_family : Int32) (g_n : Int32) (g_size : Int32) (g_products : Nat → Int32) (g_inverses : Nat → Int32) (g_orders : Nat → Int32) (g_conjugates : Nat → Int32) (g_spans : Nat → Int32) (s_handles : Int32) (s_count : Int32) (s_periods : Nat → Int32) (x1 : Int32) {v : (Nat → Int32)} (h : fX3_moveNeighbours x1 g_conjugates s_handles s_periods r_elements = some v) : pz_MV l yX3_moveNeighbours cX3_moveNeighbours 2 ({ frames := 2, cells := 0, slots := 0, locals := 44 } : Room) [.ref q_r, .int x1] D cyI [(q_r, .inr (3, [.ref q_g, .ref q_s, .ref q_r_elements])), (q_r_elements, .inl (cyI, 4, .inl r_elements)), (q_g, .inr (1, [.int g_family, .int g_n, .int g_size, .ref q_g_products, .ref q_g_inverses, .ref q_g_orders, .ref q_g_conjugates, .ref q_g_spans])), (q_g_products, .inl (cyI, 64, .inl g_products)), (q_g_inverses, .inl (cyI, 8, .inl g_inverses)), (q_g_orders, .inl (cyI, 8, .inl g_orders)), (q_g_conjugates, .inl (cyI, 64, .inl g_conjugates)), (q_g_spans, .inl (cyI, 256, .inl g_spans)), (q_s, .inr (4, [.int s_handles, .int s_count, .ref q_s_periods])), (q_s_periods, .inl (cyI, 4, .inl s_periods))] [(q_r, .inr (3, [.ref q_g, .ref q_s, .ref q_r_elements])), (q_r_elements, .inl (cyI, 4, .inl v)), (q_g, .inr (1, [.int g_family, .int g_n, .int g_size, .ref q_g_products, .ref q_g_inverses, .ref q_g_orders, .ref q_g_conjugates, .ref q_g_spans])), (q_g_products, .inl (cyI, 64, .inl g_products)), (q_g_inverses, .inl (cyI, 8, .inl g_inverses)), (q_g_orders, .inl (cyI, 8, .inl g_orders)), (q_g_conjugates, .inl (cyI, 64, .inl g_conjugates)), (q_g_spans, .inl (cyI, 256, .inl g_spans)), (q_s, .inr (4, [.int s_handles, .int s_count, .ref q_s_periods])), (q_s_periods, .inl (cyI, 4, .inl s_periods))] := by
  refine pz_ofV (by decide) (Nat.le_of_ble_eq_true rfl) ?_
  intro p e s m args below meth c A ls hB hP hK hD hS hA hl
  have hl : lv_has ls 2 [(0, .ref q_r), (1, .int x1)] := hl
  have hx := hB.1
  have hb := hB.2.1
  unfold fX3_moveNeighbours at h
  generalize hQ : pz_QV below args s D A [(q_r, .inr (3, [.ref q_g, .ref q_s, .ref q_r_elements])), (q_r_elements, .inl (cyI, 4, .inl v)), (q_g, .inr (1, [.int g_family, .int g_n, .int g_size, .ref q_g_products, .ref q_g_inverses, .ref q_g_orders, .ref q_g_conjugates, .ref q_g_spans])), (q_g_products, .inl (cyI, 64, .inl g_products)), (q_g_inverses, .inl (cyI, 8, .inl g_inverses)), (q_g_orders, .inl (cyI, 8, .inl g_orders)), (q_g_conjugates, .inl (cyI, 64, .inl g_conjugates)), (q_g_spans, .inl (cyI, 256, .inl g_spans)), (q_s, .inr (4, [.int s_handles, .int s_count, .ref q_s_periods])), (q_s_periods, .inl (cyI, 4, .inl s_periods))] = Q
  refine lv_aload_n hx hb dX3_moveNeighbours_0 rfl (lv_at hl 0 rfl) ?_
  refine lv_iconst (v := (2 : Int32)) hx hb dX3_moveNeighbours_1 (by decide) ?_
  refine lv_aload_n hx hb dX3_moveNeighbours_2 rfl (lv_at hl 0 rfl) ?_
  refine pz_get pFX3_19 hB hK hP 0 rfl rfl dX3_moveNeighbours_3 ?_
  refine pz_getN pFX3_35 hB hK hP 8 rfl rfl dX3_moveNeighbours_6 ?_
  refine lv_imul hx hb dX3_moveNeighbours_9 ?_
  refine lv_iload_n hx hb dX3_moveNeighbours_10 rfl (lv_at hl 1 rfl) ?_
  refine lv_iadd hx hb dX3_moveNeighbours_11 ?_
  obtain ⟨t1, ht1, h⟩ := pz_bnd h
  refine pz_callV (rest := []) (wr := []) (ws2 := [(q_r, .inr (3, [.ref q_g, .ref q_s, .ref q_r_elements])), (q_r_elements, .inl (cyI, 4, .inl t1)), (q_g, .inr (1, [.int g_family, .int g_n, .int g_size, .ref q_g_products, .ref q_g_inverses, .ref q_g_orders, .ref q_g_conjugates, .ref q_g_spans])), (q_g_products, .inl (cyI, 64, .inl g_products)), (q_g_inverses, .inl (cyI, 8, .inl g_inverses)), (q_g_orders, .inl (cyI, 8, .inl g_orders)), (q_g_conjugates, .inl (cyI, 64, .inl g_conjugates)), (q_g_spans, .inl (cyI, 256, .inl g_spans)), (q_s, .inr (4, [.int s_handles, .int s_count, .ref q_s_periods])), (q_s_periods, .inl (cyI, 4, .inl s_periods))]) pCX3_102 (kX3_swapNeighbours l D cyI q_r q_r_elements q_g q_g_products q_g_inverses q_g_orders q_g_conjugates q_g_spans q_s q_s_periods r_elements g_family g_n g_size g_products g_inverses g_orders g_conjugates g_spans s_handles s_count s_periods (((2 : Int32) * s_handles) + x1) ht1) hB hK hP hD hS hA hl rfl rfl rfl ⟨Nat.le_of_ble_eq_true rfl, Nat.le_of_ble_eq_true rfl⟩ rfl rfl [0, 1, 2, 3, 4, 5, 6, 7, 8, 9] [] [0, 1, 2, 3, 4, 5, 6, 7, 8, 9] rfl rfl (by decide) (by decide) (by decide) (by decide) rfl (Nat.le_of_ble_eq_true rfl) dX3_moveNeighbours_12 (Nat.zero_le _) (Nat.zero_le _) rfl (fun H locs hP hD hS => ?_)
  refine lv_aload_n hx hb dX3_moveNeighbours_15 rfl (lv_at hl 0 rfl) ?_
  refine pz_get pFX3_19 hB hK hP 0 rfl rfl dX3_moveNeighbours_16 ?_
  refine pz_getN pFX3_65 hB hK hP 8 rfl rfl dX3_moveNeighbours_19 ?_
  refine lv_iload_n hx hb dX3_moveNeighbours_22 rfl (lv_at hl 1 rfl) ?_
  refine lv_iconst (v := (1 : Int32)) hx hb dX3_moveNeighbours_23 (by decide) ?_
  refine lv_isub hx hb dX3_moveNeighbours_24 ?_
  obtain ⟨hi2, h⟩ := pz_rdE h
  refine pz_iald hB hK hP 9 rfl hi2 dX3_moveNeighbours_25 ?_
  refine lv_aload_n hx hb dX3_moveNeighbours_26 rfl (lv_at hl 0 rfl) ?_
  refine pz_get pFX3_19 hB hK hP 0 rfl rfl dX3_moveNeighbours_27 ?_
  refine pz_getN pFX3_65 hB hK hP 8 rfl rfl dX3_moveNeighbours_30 ?_
  refine lv_iload_n hx hb dX3_moveNeighbours_33 rfl (lv_at hl 1 rfl) ?_
  obtain ⟨hi3, h⟩ := pz_rdE h
  refine pz_iald hB hK hP 9 rfl hi3 dX3_moveNeighbours_34 ?_
  refine lv_icmp_eq (tgt := 53) hx hb dX3_moveNeighbours_35 (by decide) (fun hc35 => ?_) (fun hc35 => ?_)
  · have h := pz_itT hc35 h
    obtain rfl := Option.some.inj h
    rw [← hQ]
    exact pz_vret hB hP hD hS dX3_moveNeighbours_53
  · have h := pz_itF hc35 h
    refine lv_aload_n hx hb dX3_moveNeighbours_38 rfl (lv_at hl 0 rfl) ?_
    refine lv_iconst (v := (2 : Int32)) hx hb dX3_moveNeighbours_39 (by decide) ?_
    refine lv_aload_n hx hb dX3_moveNeighbours_40 rfl (lv_at hl 0 rfl) ?_
    refine pz_get pFX3_19 hB hK hP 0 rfl rfl dX3_moveNeighbours_41 ?_
    refine pz_getN pFX3_35 hB hK hP 8 rfl rfl dX3_moveNeighbours_44 ?_
    refine lv_imul hx hb dX3_moveNeighbours_47 ?_
    refine lv_iload_n hx hb dX3_moveNeighbours_48 rfl (lv_at hl 1 rfl) ?_
    refine lv_iadd hx hb dX3_moveNeighbours_49 ?_
    obtain ⟨t4, ht4, h⟩ := pz_bnd h
    refine pz_callV (rest := []) (wr := []) (ws2 := [(q_r, .inr (3, [.ref q_g, .ref q_s, .ref q_r_elements])), (q_r_elements, .inl (cyI, 4, .inl t4)), (q_g, .inr (1, [.int g_family, .int g_n, .int g_size, .ref q_g_products, .ref q_g_inverses, .ref q_g_orders, .ref q_g_conjugates, .ref q_g_spans])), (q_g_products, .inl (cyI, 64, .inl g_products)), (q_g_inverses, .inl (cyI, 8, .inl g_inverses)), (q_g_orders, .inl (cyI, 8, .inl g_orders)), (q_g_conjugates, .inl (cyI, 64, .inl g_conjugates)), (q_g_spans, .inl (cyI, 256, .inl g_spans)), (q_s, .inr (4, [.int s_handles, .int s_count, .ref q_s_periods])), (q_s_periods, .inl (cyI, 4, .inl s_periods))]) pCX3_102 (kX3_swapNeighbours l D cyI q_r q_r_elements q_g q_g_products q_g_inverses q_g_orders q_g_conjugates q_g_spans q_s q_s_periods t1 g_family g_n g_size g_products g_inverses g_orders g_conjugates g_spans s_handles s_count s_periods (((2 : Int32) * s_handles) + x1) ht4) hB hK hP hD hS hA hl rfl rfl rfl ⟨Nat.le_of_ble_eq_true rfl, Nat.le_of_ble_eq_true rfl⟩ rfl rfl [0, 1, 2, 3, 4, 5, 6, 7, 8, 9] [] [0, 1, 2, 3, 4, 5, 6, 7, 8, 9] rfl rfl (by decide) (by decide) (by decide) (by decide) rfl (Nat.le_of_ble_eq_true rfl) dX3_moveNeighbours_50 (Nat.zero_le _) (Nat.zero_le _) rfl (fun H locs hP hD hS => ?_)
    obtain rfl := Option.some.inj h
    rw [← hQ]
    exact pz_vret hB hP hD hS dX3_moveNeighbours_53
set_option maxRecDepth 100000 in
set_option maxHeartbeats 4000000 in
theorem kX3_moveByElement (l : Launch) (D : va_G) (cyI : ClassId) (q_r q_r_elements q_g q_g_products q_g_inverses q_g_orders q_g_conjugates q_g_spans q_s q_s_periods : Nat) (r_elements : Nat → Int32) (g_family : Int32) (g_n : Int32) (g_size : Int32) (g_products : Nat → Int32) (g_inverses : Nat → Int32) (g_orders : Nat → Int32) (g_conjugates : Nat → Int32) (g_spans : Nat → Int32) (s_handles : Int32) (s_count : Int32) (s_periods : Nat → Int32) (x1 : Int32) {v : (Nat → Int32)} (h : fX3_moveByElement x1 g_conjugates s_handles s_count r_elements = some v) : pz_MV l yX3_moveByElement cX3_moveByElement 3 ({ frames := 1, cells := 0, slots := 0, locals := 22 } : Room) [.ref q_r, .int x1] D cyI [(q_r, .inr (3, [.ref q_g, .ref q_s, .ref q_r_elements])), (q_r_elements, .inl (cyI, 4, .inl r_elements)), (q_g, .inr (1, [.int g_family, .int g_n, .int g_size, .ref q_g_products, .ref q_g_inverses, .ref q_g_orders, .ref q_g_conjugates, .ref q_g_spans])), (q_g_products, .inl (cyI, 64, .inl g_products)), (q_g_inverses, .inl (cyI, 8, .inl g_inverses)), (q_g_orders, .inl (cyI, 8, .inl g_orders)), (q_g_conjugates, .inl (cyI, 64, .inl g_conjugates)), (q_g_spans, .inl (cyI, 256, .inl g_spans)), (q_s, .inr (4, [.int s_handles, .int s_count, .ref q_s_periods])), (q_s_periods, .inl (cyI, 4, .inl s_periods))] [(q_r, .inr (3, [.ref q_g, .ref q_s, .ref q_r_elements])), (q_r_elements, .inl (cyI, 4, .inl v)), (q_g, .inr (1, [.int g_family, .int g_n, .int g_size, .ref q_g_products, .ref q_g_inverses, .ref q_g_orders, .ref q_g_conjugates, .ref q_g_spans])), (q_g_products, .inl (cyI, 64, .inl g_products)), (q_g_inverses, .inl (cyI, 8, .inl g_inverses)), (q_g_orders, .inl (cyI, 8, .inl g_orders)), (q_g_conjugates, .inl (cyI, 64, .inl g_conjugates)), (q_g_spans, .inl (cyI, 256, .inl g_spans)), (q_s, .inr (4, [.int s_handles, .int s_count, .ref q_s_periods])), (q_s_periods, .inl (cyI, 4, .inl s_periods))] := by
  refine pz_ofV (by decide) (Nat.le_of_ble_eq_true rfl) ?_
  intro p e s m args below meth c A ls hB hP hK hD hS hA hl
  have hl : lv_has ls 3 [(0, .ref q_r), (1, .int x1)] := hl
  have hx := hB.1
  have hb := hB.2.1
  unfold fX3_moveByElement at h
  generalize hQ : pz_QV below args s D A [(q_r, .inr (3, [.ref q_g, .ref q_s, .ref q_r_elements])), (q_r_elements, .inl (cyI, 4, .inl v)), (q_g, .inr (1, [.int g_family, .int g_n, .int g_size, .ref q_g_products, .ref q_g_inverses, .ref q_g_orders, .ref q_g_conjugates, .ref q_g_spans])), (q_g_products, .inl (cyI, 64, .inl g_products)), (q_g_inverses, .inl (cyI, 8, .inl g_inverses)), (q_g_orders, .inl (cyI, 8, .inl g_orders)), (q_g_conjugates, .inl (cyI, 64, .inl g_conjugates)), (q_g_spans, .inl (cyI, 256, .inl g_spans)), (q_s, .inr (4, [.int s_handles, .int s_count, .ref q_s_periods])), (q_s_periods, .inl (cyI, 4, .inl s_periods))] = Q
  refine lv_iconst (v := (0 : Int32)) hx hb dX3_moveByElement_0 (by decide) ?_
  refine lv_istore_n (lv' := [(2, .int (0 : Int32)), (0, .ref q_r), (1, .int x1)]) hx hb dX3_moveByElement_1 rfl hl (by decide) rfl (fun ls hl => ?_)
  obtain ⟨u_2, hu_2, h⟩ := pz_bnd h
  have hE2 : ∀ (H : Heap) (locs : List Loc) (ls : Array Slot), va_P D vwCl [(q_r, .inr (3, [.ref q_g, .ref q_s, .ref q_r_elements])), (q_r_elements, .inl (cyI, 4, .inl u_2)), (q_g, .inr (1, [.int g_family, .int g_n, .int g_size, .ref q_g_products, .ref q_g_inverses, .ref q_g_orders, .ref q_g_conjugates, .ref q_g_spans])), (q_g_products, .inl (cyI, 64, .inl g_products)), (q_g_inverses, .inl (cyI, 8, .inl g_inverses)), (q_g_orders, .inl (cyI, 8, .inl g_orders)), (q_g_conjugates, .inl (cyI, 64, .inl g_conjugates)), (q_g_spans, .inl (cyI, 256, .inl g_spans)), (q_s, .inr (4, [.int s_handles, .int s_count, .ref q_s_periods])), (q_s_periods, .inl (cyI, 4, .inl s_periods))] H → va_D A [(q_r, .inr (3, [.ref q_g, .ref q_s, .ref q_r_elements])), (q_r_elements, .inl (cyI, 4, .inl u_2)), (q_g, .inr (1, [.int g_family, .int g_n, .int g_size, .ref q_g_products, .ref q_g_inverses, .ref q_g_orders, .ref q_g_conjugates, .ref q_g_spans])), (q_g_products, .inl (cyI, 64, .inl g_products)), (q_g_inverses, .inl (cyI, 8, .inl g_inverses)), (q_g_orders, .inl (cyI, 8, .inl g_orders)), (q_g_conjugates, .inl (cyI, 64, .inl g_conjugates)), (q_g_spans, .inl (cyI, 256, .inl g_spans)), (q_s, .inr (4, [.int s_handles, .int s_count, .ref q_s_periods])), (q_s_periods, .inl (cyI, 4, .inl s_periods))] → va_S A s.heap H locs → lv_has ls 3 [] → W p l e ({ frames := 1, cells := 0, slots := 0, locals := 22 } : Room) s m args below meth c H locs 0 0 Q (F0 m 39 ls []) := by
    intro H locs ls hP hD hS hl
    obtain rfl := Option.some.inj h
    rw [← hQ]
    exact pz_vret hB hP hD hS dX3_moveByElement_39
  have hL2 : ∀ (n : Nat) (x2_2 : Int32) (r_elements_2 : Nat → Int32) (H : Heap) (locs : List Loc) (ls : Array Slot), va_P D vwCl [(q_r, .inr (3, [.ref q_g, .ref q_s, .ref q_r_elements])), (q_r_elements, .inl (cyI, 4, .inl r_elements_2)), (q_g, .inr (1, [.int g_family, .int g_n, .int g_size, .ref q_g_products, .ref q_g_inverses, .ref q_g_orders, .ref q_g_conjugates, .ref q_g_spans])), (q_g_products, .inl (cyI, 64, .inl g_products)), (q_g_inverses, .inl (cyI, 8, .inl g_inverses)), (q_g_orders, .inl (cyI, 8, .inl g_orders)), (q_g_conjugates, .inl (cyI, 64, .inl g_conjugates)), (q_g_spans, .inl (cyI, 256, .inl g_spans)), (q_s, .inr (4, [.int s_handles, .int s_count, .ref q_s_periods])), (q_s_periods, .inl (cyI, 4, .inl s_periods))] H → va_D A [(q_r, .inr (3, [.ref q_g, .ref q_s, .ref q_r_elements])), (q_r_elements, .inl (cyI, 4, .inl r_elements_2)), (q_g, .inr (1, [.int g_family, .int g_n, .int g_size, .ref q_g_products, .ref q_g_inverses, .ref q_g_orders, .ref q_g_conjugates, .ref q_g_spans])), (q_g_products, .inl (cyI, 64, .inl g_products)), (q_g_inverses, .inl (cyI, 8, .inl g_inverses)), (q_g_orders, .inl (cyI, 8, .inl g_orders)), (q_g_conjugates, .inl (cyI, 64, .inl g_conjugates)), (q_g_spans, .inl (cyI, 256, .inl g_spans)), (q_s, .inr (4, [.int s_handles, .int s_count, .ref q_s_periods])), (q_s_periods, .inl (cyI, 4, .inl s_periods))] → va_S A s.heap H locs → lv_has ls 3 [(0, .ref q_r), (1, .int x1), (2, .int x2_2)] → pz_iter (fun (σ : Int32 × (Nat → Int32)) => fX3_moveByElement_L2 x1 g_conjugates s_handles s_count σ.1 σ.2) n (x2_2, r_elements_2) = some u_2 → W p l e ({ frames := 1, cells := 0, slots := 0, locals := 22 } : Room) s m args below meth c H locs 0 0 Q (F0 m 2 ls []) := by
    intro n
    induction n with
    | zero => intro x2_2 r_elements_2 H locs ls hP hD hS hl h; exact (pz_it0 h).elim
    | succ n ih =>
      intro x2_2 r_elements_2 H locs ls hP hD hS hl h
      obtain ⟨y_2, h, hk2⟩ := pz_itS h
      have h : fX3_moveByElement_L2 x1 g_conjugates s_handles s_count x2_2 r_elements_2 = some y_2 := h
      unfold fX3_moveByElement_L2 at h
      refine lv_iload_n hx hb dX3_moveByElement_2 rfl (lv_at hl 2 rfl) ?_
      refine lv_aload_n hx hb dX3_moveByElement_3 rfl (lv_at hl 0 rfl) ?_
      refine pz_get pFX3_19 hB hK hP 0 rfl rfl dX3_moveByElement_4 ?_
      obtain ⟨t1, ht1, h⟩ := pz_bnd h
      refine pz_callIr (rest := [.int x2_2]) pCX3_23 (kX4_digits l D cyI q_s q_s_periods s_handles s_count s_periods ht1) hB hK hP hD hS hA hl rfl rfl rfl ⟨Nat.le_of_ble_eq_true rfl, Nat.le_of_ble_eq_true rfl⟩ rfl rfl [8, 9] rfl (by decide) (Nat.le_of_ble_eq_true rfl) dX3_moveByElement_7 (Nat.zero_le _) (Nat.zero_le _) rfl (fun H locs hP hS => ?_)
      refine lv_icmp_ge (tgt := 39) hx hb dX3_moveByElement_10 (by decide) (fun hc10 => ?_) (fun hc10 => ?_)
      · have h := pz_itT hc10 h
        obtain rfl := Option.some.inj h
        obtain rfl := pz_exit hk2
        exact hE2 _ _ _ hP hD hS (lv_sub hl [] rfl)
      · have h := pz_itF hc10 h
        refine lv_aload_n hx hb dX3_moveByElement_13 rfl (lv_at hl 0 rfl) ?_
        refine pz_get pFX3_9 hB hK hP 0 rfl rfl dX3_moveByElement_14 ?_
        refine lv_iload_n hx hb dX3_moveByElement_17 rfl (lv_at hl 2 rfl) ?_
        refine lv_aload_n hx hb dX3_moveByElement_18 rfl (lv_at hl 0 rfl) ?_
        refine pz_get pFX3_15 hB hK hP 0 rfl rfl dX3_moveByElement_19 ?_
        refine lv_aload_n hx hb dX3_moveByElement_22 rfl (lv_at hl 0 rfl) ?_
        refine pz_get pFX3_9 hB hK hP 0 rfl rfl dX3_moveByElement_23 ?_
        refine lv_iload_n hx hb dX3_moveByElement_26 rfl (lv_at hl 2 rfl) ?_
        obtain ⟨hi2, h⟩ := pz_rdE h
        refine pz_iald hB hK hP 1 rfl hi2 dX3_moveByElement_27 ?_
        refine lv_iload_n hx hb dX3_moveByElement_28 rfl (lv_at hl 1 rfl) ?_
        obtain ⟨t3, ht3, h⟩ := pz_bnd h
        refine pz_callIr (rest := [.int x2_2, .ref q_r_elements]) pCX3_105 (kX1_conjugated l D cyI q_g q_g_products q_g_inverses q_g_orders q_g_conjugates q_g_spans g_family g_n g_size g_products g_inverses g_orders g_conjugates g_spans (r_elements_2 (Int32.toNatClampNeg x2_2)) x1 ht3) hB hK hP hD hS hA hl rfl rfl rfl ⟨Nat.le_of_ble_eq_true rfl, Nat.le_of_ble_eq_true rfl⟩ rfl rfl [2, 3, 4, 5, 6, 7] rfl (by decide) (Nat.le_of_ble_eq_true rfl) dX3_moveByElement_29 (Nat.zero_le _) (Nat.zero_le _) rfl (fun H locs hP hS => ?_)
        obtain ⟨hi4, h⟩ := pz_wrE h
        refine pz_iast hB hK hP hD hS 1 rfl hi4 dX3_moveByElement_32 [(q_r, .inr (3, [.ref q_g, .ref q_s, .ref q_r_elements])), (q_r_elements, .inl (cyI, 4, .inl (upd r_elements_2 (Int32.toNatClampNeg x2_2) t3))), (q_g, .inr (1, [.int g_family, .int g_n, .int g_size, .ref q_g_products, .ref q_g_inverses, .ref q_g_orders, .ref q_g_conjugates, .ref q_g_spans])), (q_g_products, .inl (cyI, 64, .inl g_products)), (q_g_inverses, .inl (cyI, 8, .inl g_inverses)), (q_g_orders, .inl (cyI, 8, .inl g_orders)), (q_g_conjugates, .inl (cyI, 64, .inl g_conjugates)), (q_g_spans, .inl (cyI, 256, .inl g_spans)), (q_s, .inr (4, [.int s_handles, .int s_count, .ref q_s_periods])), (q_s_periods, .inl (cyI, 4, .inl s_periods))] rfl (fun H locs hP hD hS => ?_)
        refine lv_iinc (v := (x2_2 + (1 : Int32))) (lv' := [(2, .int (x2_2 + (1 : Int32))), (0, .ref q_r), (1, .int x1)]) hx hb dX3_moveByElement_33 hl (k := 2) rfl (by rfl) (by decide) rfl (fun ls hl => ?_)
        refine lv_goto (tgt := 2) hx hb dX3_moveByElement_36 (by decide) ?_
        obtain rfl := Option.some.inj h
        exact ih (x2_2 + (1 : Int32)) (upd r_elements_2 (Int32.toNatClampNeg x2_2) t3) _ _ _ hP hD hS (lv_sub hl [1, 2, 0] rfl) hk2
  exact hL2 pz_FUEL (0 : Int32) r_elements _ _ _ hP hD hS (lv_sub hl [1, 2, 0] rfl) hu_2
set_option maxRecDepth 100000 in
set_option maxHeartbeats 4000000 in
theorem kX3_moveBy (l : Launch) (D : va_G) (cyI : ClassId) (q_r q_r_elements q_g q_g_products q_g_inverses q_g_orders q_g_conjugates q_g_spans q_s q_s_periods : Nat) (r_elements : Nat → Int32) (g_family : Int32) (g_n : Int32) (g_size : Int32) (g_products : Nat → Int32) (g_inverses : Nat → Int32) (g_orders : Nat → Int32) (g_conjugates : Nat → Int32) (g_spans : Nat → Int32) (s_handles : Int32) (s_count : Int32) (s_periods : Nat → Int32) (x1 : Int32) {v : Int32 × (Nat → Int32)} (h : fX3_moveBy x1 g_size g_products g_conjugates s_handles s_count s_periods r_elements = some v) : pz_MI l yX3_moveBy cX3_moveBy 2 .boolean ({ frames := 3, cells := 0, slots := 0, locals := 65 } : Room) [.ref q_r, .int x1] D cyI [(q_r, .inr (3, [.ref q_g, .ref q_s, .ref q_r_elements])), (q_r_elements, .inl (cyI, 4, .inl r_elements)), (q_g, .inr (1, [.int g_family, .int g_n, .int g_size, .ref q_g_products, .ref q_g_inverses, .ref q_g_orders, .ref q_g_conjugates, .ref q_g_spans])), (q_g_products, .inl (cyI, 64, .inl g_products)), (q_g_inverses, .inl (cyI, 8, .inl g_inverses)), (q_g_orders, .inl (cyI, 8, .inl g_orders)), (q_g_conjugates, .inl (cyI, 64, .inl g_conjugates)), (q_g_spans, .inl (cyI, 256, .inl g_spans)), (q_s, .inr (4, [.int s_handles, .int s_count, .ref q_s_periods])), (q_s_periods, .inl (cyI, 4, .inl s_periods))] v.1 [(q_r, .inr (3, [.ref q_g, .ref q_s, .ref q_r_elements])), (q_r_elements, .inl (cyI, 4, .inl v.2)), (q_g, .inr (1, [.int g_family, .int g_n, .int g_size, .ref q_g_products, .ref q_g_inverses, .ref q_g_orders, .ref q_g_conjugates, .ref q_g_spans])), (q_g_products, .inl (cyI, 64, .inl g_products)), (q_g_inverses, .inl (cyI, 8, .inl g_inverses)), (q_g_orders, .inl (cyI, 8, .inl g_orders)), (q_g_conjugates, .inl (cyI, 64, .inl g_conjugates)), (q_g_spans, .inl (cyI, 256, .inl g_spans)), (q_s, .inr (4, [.int s_handles, .int s_count, .ref q_s_periods])), (q_s_periods, .inl (cyI, 4, .inl s_periods))] := by
  refine pz_ofI (by decide) (Nat.le_of_ble_eq_true rfl) ?_
  intro p e s m args below meth c A ls hB hP hK hD hS hA hl
  have hl : lv_has ls 2 [(0, .ref q_r), (1, .int x1)] := hl
  have hx := hB.1
  have hb := hB.2.1
  unfold fX3_moveBy at h
  generalize hQ : pz_QI below args s D A v.1 [(q_r, .inr (3, [.ref q_g, .ref q_s, .ref q_r_elements])), (q_r_elements, .inl (cyI, 4, .inl v.2)), (q_g, .inr (1, [.int g_family, .int g_n, .int g_size, .ref q_g_products, .ref q_g_inverses, .ref q_g_orders, .ref q_g_conjugates, .ref q_g_spans])), (q_g_products, .inl (cyI, 64, .inl g_products)), (q_g_inverses, .inl (cyI, 8, .inl g_inverses)), (q_g_orders, .inl (cyI, 8, .inl g_orders)), (q_g_conjugates, .inl (cyI, 64, .inl g_conjugates)), (q_g_spans, .inl (cyI, 256, .inl g_spans)), (q_s, .inr (4, [.int s_handles, .int s_count, .ref q_s_periods])), (q_s_periods, .inl (cyI, 4, .inl s_periods))] = Q
  refine lv_iload_n hx hb dX3_moveBy_0 rfl (lv_at hl 1 rfl) ?_
  refine lv_iconst (v := (1 : Int32)) hx hb dX3_moveBy_1 (by decide) ?_
  have hJ24 : ∀ (H : Heap) (locs : List Loc) (ls : Array Slot), va_P D vwCl [(q_r, .inr (3, [.ref q_g, .ref q_s, .ref q_r_elements])), (q_r_elements, .inl (cyI, 4, .inl r_elements)), (q_g, .inr (1, [.int g_family, .int g_n, .int g_size, .ref q_g_products, .ref q_g_inverses, .ref q_g_orders, .ref q_g_conjugates, .ref q_g_spans])), (q_g_products, .inl (cyI, 64, .inl g_products)), (q_g_inverses, .inl (cyI, 8, .inl g_inverses)), (q_g_orders, .inl (cyI, 8, .inl g_orders)), (q_g_conjugates, .inl (cyI, 64, .inl g_conjugates)), (q_g_spans, .inl (cyI, 256, .inl g_spans)), (q_s, .inr (4, [.int s_handles, .int s_count, .ref q_s_periods])), (q_s_periods, .inl (cyI, 4, .inl s_periods))] H → va_D A [(q_r, .inr (3, [.ref q_g, .ref q_s, .ref q_r_elements])), (q_r_elements, .inl (cyI, 4, .inl r_elements)), (q_g, .inr (1, [.int g_family, .int g_n, .int g_size, .ref q_g_products, .ref q_g_inverses, .ref q_g_orders, .ref q_g_conjugates, .ref q_g_spans])), (q_g_products, .inl (cyI, 64, .inl g_products)), (q_g_inverses, .inl (cyI, 8, .inl g_inverses)), (q_g_orders, .inl (cyI, 8, .inl g_orders)), (q_g_conjugates, .inl (cyI, 64, .inl g_conjugates)), (q_g_spans, .inl (cyI, 256, .inl g_spans)), (q_s, .inr (4, [.int s_handles, .int s_count, .ref q_s_periods])), (q_s_periods, .inl (cyI, 4, .inl s_periods))] → va_S A s.heap H locs → lv_has ls 2 [(0, .ref q_r), (1, .int x1)] → fX3_moveBy_J24 x1 g_size g_products g_conjugates s_handles s_count r_elements = some v → W p l e ({ frames := 3, cells := 0, slots := 0, locals := 65 } : Room) s m args below meth c H locs 0 0 Q (F0 m 24 ls []) := by
    intro H locs ls hP hD hS hl h
    unfold fX3_moveBy_J24 at h
    refine lv_iload_n hx hb dX3_moveBy_24 rfl (lv_at hl 1 rfl) ?_
    refine lv_bipush (v := (10 : Int32)) hx hb dX3_moveBy_25 (by decide) ?_
    have hJ55 : ∀ (H : Heap) (locs : List Loc) (ls : Array Slot), va_P D vwCl [(q_r, .inr (3, [.ref q_g, .ref q_s, .ref q_r_elements])), (q_r_elements, .inl (cyI, 4, .inl r_elements)), (q_g, .inr (1, [.int g_family, .int g_n, .int g_size, .ref q_g_products, .ref q_g_inverses, .ref q_g_orders, .ref q_g_conjugates, .ref q_g_spans])), (q_g_products, .inl (cyI, 64, .inl g_products)), (q_g_inverses, .inl (cyI, 8, .inl g_inverses)), (q_g_orders, .inl (cyI, 8, .inl g_orders)), (q_g_conjugates, .inl (cyI, 64, .inl g_conjugates)), (q_g_spans, .inl (cyI, 256, .inl g_spans)), (q_s, .inr (4, [.int s_handles, .int s_count, .ref q_s_periods])), (q_s_periods, .inl (cyI, 4, .inl s_periods))] H → va_D A [(q_r, .inr (3, [.ref q_g, .ref q_s, .ref q_r_elements])), (q_r_elements, .inl (cyI, 4, .inl r_elements)), (q_g, .inr (1, [.int g_family, .int g_n, .int g_size, .ref q_g_products, .ref q_g_inverses, .ref q_g_orders, .ref q_g_conjugates, .ref q_g_spans])), (q_g_products, .inl (cyI, 64, .inl g_products)), (q_g_inverses, .inl (cyI, 8, .inl g_inverses)), (q_g_orders, .inl (cyI, 8, .inl g_orders)), (q_g_conjugates, .inl (cyI, 64, .inl g_conjugates)), (q_g_spans, .inl (cyI, 256, .inl g_spans)), (q_s, .inr (4, [.int s_handles, .int s_count, .ref q_s_periods])), (q_s_periods, .inl (cyI, 4, .inl s_periods))] → va_S A s.heap H locs → lv_has ls 2 [(0, .ref q_r), (1, .int x1)] → fX3_moveBy_J55 x1 g_products s_handles r_elements = some v → W p l e ({ frames := 3, cells := 0, slots := 0, locals := 65 } : Room) s m args below meth c H locs 0 0 Q (F0 m 55 ls []) := by
      intro H locs ls hP hD hS hl h
      unfold fX3_moveBy_J55 at h
      refine lv_iload_n hx hb dX3_moveBy_55 rfl (lv_at hl 1 rfl) ?_
      refine lv_bipush (v := (20 : Int32)) hx hb dX3_moveBy_56 (by decide) ?_
      have hJ100 : ∀ (H : Heap) (locs : List Loc) (ls : Array Slot), va_P D vwCl [(q_r, .inr (3, [.ref q_g, .ref q_s, .ref q_r_elements])), (q_r_elements, .inl (cyI, 4, .inl r_elements)), (q_g, .inr (1, [.int g_family, .int g_n, .int g_size, .ref q_g_products, .ref q_g_inverses, .ref q_g_orders, .ref q_g_conjugates, .ref q_g_spans])), (q_g_products, .inl (cyI, 64, .inl g_products)), (q_g_inverses, .inl (cyI, 8, .inl g_inverses)), (q_g_orders, .inl (cyI, 8, .inl g_orders)), (q_g_conjugates, .inl (cyI, 64, .inl g_conjugates)), (q_g_spans, .inl (cyI, 256, .inl g_spans)), (q_s, .inr (4, [.int s_handles, .int s_count, .ref q_s_periods])), (q_s_periods, .inl (cyI, 4, .inl s_periods))] H → va_D A [(q_r, .inr (3, [.ref q_g, .ref q_s, .ref q_r_elements])), (q_r_elements, .inl (cyI, 4, .inl r_elements)), (q_g, .inr (1, [.int g_family, .int g_n, .int g_size, .ref q_g_products, .ref q_g_inverses, .ref q_g_orders, .ref q_g_conjugates, .ref q_g_spans])), (q_g_products, .inl (cyI, 64, .inl g_products)), (q_g_inverses, .inl (cyI, 8, .inl g_inverses)), (q_g_orders, .inl (cyI, 8, .inl g_orders)), (q_g_conjugates, .inl (cyI, 64, .inl g_conjugates)), (q_g_spans, .inl (cyI, 256, .inl g_spans)), (q_s, .inr (4, [.int s_handles, .int s_count, .ref q_s_periods])), (q_s_periods, .inl (cyI, 4, .inl s_periods))] → va_S A s.heap H locs → lv_has ls 2 [(0, .ref q_r), (1, .int x1)] → fX3_moveBy_J100 x1 g_products s_handles r_elements = some v → W p l e ({ frames := 3, cells := 0, slots := 0, locals := 65 } : Room) s m args below meth c H locs 0 0 Q (F0 m 100 ls []) := by
        intro H locs ls hP hD hS hl h
        unfold fX3_moveBy_J100 at h
        refine lv_iload_n hx hb dX3_moveBy_100 rfl (lv_at hl 1 rfl) ?_
        refine lv_bipush (v := (21 : Int32)) hx hb dX3_moveBy_101 (by decide) ?_
        refine lv_icmp_ne (tgt := 145) hx hb dX3_moveBy_103 (by decide) (fun hc103 => ?_) (fun hc103 => ?_)
        · have h := pz_itF hc103 h
          refine lv_iconst (v := (0 : Int32)) hx hb dX3_moveBy_145 (by decide) ?_
          obtain rfl := Option.some.inj h
          rw [← hQ]
          exact pz_zret hB (Or.inl rfl) hP hD hS dX3_moveBy_146
        · have h := pz_itT hc103 h
          refine lv_aload_n hx hb dX3_moveBy_106 rfl (lv_at hl 0 rfl) ?_
          refine pz_get pFX3_19 hB hK hP 0 rfl rfl dX3_moveBy_107 ?_
          refine pz_getN pFX3_35 hB hK hP 8 rfl rfl dX3_moveBy_110 ?_
          refine lv_iconst (v := (1 : Int32)) hx hb dX3_moveBy_113 (by decide) ?_
          refine lv_icmp_ne (tgt := 145) hx hb dX3_moveBy_114 (by decide) (fun hc114 => ?_) (fun hc114 => ?_)
          · have h := pz_itF hc114 h
            refine lv_iconst (v := (0 : Int32)) hx hb dX3_moveBy_145 (by decide) ?_
            obtain rfl := Option.some.inj h
            rw [← hQ]
            exact pz_zret hB (Or.inl rfl) hP hD hS dX3_moveBy_146
          · have h := pz_itT hc114 h
            refine lv_aload_n hx hb dX3_moveBy_117 rfl (lv_at hl 0 rfl) ?_
            refine pz_get pFX3_9 hB hK hP 0 rfl rfl dX3_moveBy_118 ?_
            refine lv_iconst (v := (1 : Int32)) hx hb dX3_moveBy_121 (by decide) ?_
            refine lv_aload_n hx hb dX3_moveBy_122 rfl (lv_at hl 0 rfl) ?_
            refine pz_get pFX3_15 hB hK hP 0 rfl rfl dX3_moveBy_123 ?_
            refine lv_aload_n hx hb dX3_moveBy_126 rfl (lv_at hl 0 rfl) ?_
            refine pz_get pFX3_9 hB hK hP 0 rfl rfl dX3_moveBy_127 ?_
            refine lv_iconst (v := (1 : Int32)) hx hb dX3_moveBy_130 (by decide) ?_
            obtain ⟨hi1, h⟩ := pz_rdE h
            refine pz_iald hB hK hP 1 rfl hi1 dX3_moveBy_131 ?_
            refine lv_aload_n hx hb dX3_moveBy_132 rfl (lv_at hl 0 rfl) ?_
            refine pz_get pFX3_9 hB hK hP 0 rfl rfl dX3_moveBy_133 ?_
            refine lv_iconst (v := (0 : Int32)) hx hb dX3_moveBy_136 (by decide) ?_
            obtain ⟨hi2, h⟩ := pz_rdE h
            refine pz_iald hB hK hP 1 rfl hi2 dX3_moveBy_137 ?_
            obtain ⟨t3, ht3, h⟩ := pz_bnd h
            refine pz_callIr (rest := [.int (1 : Int32), .ref q_r_elements]) pCX3_68 (kX1_product l D cyI q_g q_g_products q_g_inverses q_g_orders q_g_conjugates q_g_spans g_family g_n g_size g_products g_inverses g_orders g_conjugates g_spans (r_elements (Int32.toNatClampNeg (1 : Int32))) (r_elements (Int32.toNatClampNeg (0 : Int32))) ht3) hB hK hP hD hS hA hl rfl rfl rfl ⟨Nat.le_of_ble_eq_true rfl, Nat.le_of_ble_eq_true rfl⟩ rfl rfl [2, 3, 4, 5, 6, 7] rfl (by decide) (Nat.le_of_ble_eq_true rfl) dX3_moveBy_138 (Nat.zero_le _) (Nat.zero_le _) rfl (fun H locs hP hS => ?_)
            obtain ⟨hi4, h⟩ := pz_wrE h
            refine pz_iast hB hK hP hD hS 1 rfl hi4 dX3_moveBy_141 [(q_r, .inr (3, [.ref q_g, .ref q_s, .ref q_r_elements])), (q_r_elements, .inl (cyI, 4, .inl (upd r_elements (Int32.toNatClampNeg (1 : Int32)) t3))), (q_g, .inr (1, [.int g_family, .int g_n, .int g_size, .ref q_g_products, .ref q_g_inverses, .ref q_g_orders, .ref q_g_conjugates, .ref q_g_spans])), (q_g_products, .inl (cyI, 64, .inl g_products)), (q_g_inverses, .inl (cyI, 8, .inl g_inverses)), (q_g_orders, .inl (cyI, 8, .inl g_orders)), (q_g_conjugates, .inl (cyI, 64, .inl g_conjugates)), (q_g_spans, .inl (cyI, 256, .inl g_spans)), (q_s, .inr (4, [.int s_handles, .int s_count, .ref q_s_periods])), (q_s_periods, .inl (cyI, 4, .inl s_periods))] rfl (fun H locs hP hD hS => ?_)
            refine lv_goto (tgt := 147) hx hb dX3_moveBy_142 (by decide) ?_
            refine lv_iconst (v := (1 : Int32)) hx hb dX3_moveBy_147 (by decide) ?_
            obtain rfl := Option.some.inj h
            rw [← hQ]
            exact pz_zret hB (Or.inr rfl) hP hD hS dX3_moveBy_148
      refine lv_icmp_ne (tgt := 100) hx hb dX3_moveBy_58 (by decide) (fun hc58 => ?_) (fun hc58 => ?_)
      · have h := pz_itF hc58 h
        exact hJ100 _ _ _ hP hD hS (lv_sub hl [0, 1] rfl) h
      · have h := pz_itT hc58 h
        refine lv_aload_n hx hb dX3_moveBy_61 rfl (lv_at hl 0 rfl) ?_
        refine pz_get pFX3_19 hB hK hP 0 rfl rfl dX3_moveBy_62 ?_
        refine pz_getN pFX3_35 hB hK hP 8 rfl rfl dX3_moveBy_65 ?_
        refine lv_iconst (v := (1 : Int32)) hx hb dX3_moveBy_68 (by decide) ?_
        refine lv_icmp_ne (tgt := 100) hx hb dX3_moveBy_69 (by decide) (fun hc69 => ?_) (fun hc69 => ?_)
        · have h := pz_itF hc69 h
          exact hJ100 _ _ _ hP hD hS (lv_sub hl [0, 1] rfl) h
        · have h := pz_itT hc69 h
          refine lv_aload_n hx hb dX3_moveBy_72 rfl (lv_at hl 0 rfl) ?_
          refine pz_get pFX3_9 hB hK hP 0 rfl rfl dX3_moveBy_73 ?_
          refine lv_iconst (v := (0 : Int32)) hx hb dX3_moveBy_76 (by decide) ?_
          refine lv_aload_n hx hb dX3_moveBy_77 rfl (lv_at hl 0 rfl) ?_
          refine pz_get pFX3_15 hB hK hP 0 rfl rfl dX3_moveBy_78 ?_
          refine lv_aload_n hx hb dX3_moveBy_81 rfl (lv_at hl 0 rfl) ?_
          refine pz_get pFX3_9 hB hK hP 0 rfl rfl dX3_moveBy_82 ?_
          refine lv_iconst (v := (0 : Int32)) hx hb dX3_moveBy_85 (by decide) ?_
          obtain ⟨hi5, h⟩ := pz_rdE h
          refine pz_iald hB hK hP 1 rfl hi5 dX3_moveBy_86 ?_
          refine lv_aload_n hx hb dX3_moveBy_87 rfl (lv_at hl 0 rfl) ?_
          refine pz_get pFX3_9 hB hK hP 0 rfl rfl dX3_moveBy_88 ?_
          refine lv_iconst (v := (1 : Int32)) hx hb dX3_moveBy_91 (by decide) ?_
          obtain ⟨hi6, h⟩ := pz_rdE h
          refine pz_iald hB hK hP 1 rfl hi6 dX3_moveBy_92 ?_
          obtain ⟨t7, ht7, h⟩ := pz_bnd h
          refine pz_callIr (rest := [.int (0 : Int32), .ref q_r_elements]) pCX3_68 (kX1_product l D cyI q_g q_g_products q_g_inverses q_g_orders q_g_conjugates q_g_spans g_family g_n g_size g_products g_inverses g_orders g_conjugates g_spans (r_elements (Int32.toNatClampNeg (0 : Int32))) (r_elements (Int32.toNatClampNeg (1 : Int32))) ht7) hB hK hP hD hS hA hl rfl rfl rfl ⟨Nat.le_of_ble_eq_true rfl, Nat.le_of_ble_eq_true rfl⟩ rfl rfl [2, 3, 4, 5, 6, 7] rfl (by decide) (Nat.le_of_ble_eq_true rfl) dX3_moveBy_93 (Nat.zero_le _) (Nat.zero_le _) rfl (fun H locs hP hS => ?_)
          obtain ⟨hi8, h⟩ := pz_wrE h
          refine pz_iast hB hK hP hD hS 1 rfl hi8 dX3_moveBy_96 [(q_r, .inr (3, [.ref q_g, .ref q_s, .ref q_r_elements])), (q_r_elements, .inl (cyI, 4, .inl (upd r_elements (Int32.toNatClampNeg (0 : Int32)) t7))), (q_g, .inr (1, [.int g_family, .int g_n, .int g_size, .ref q_g_products, .ref q_g_inverses, .ref q_g_orders, .ref q_g_conjugates, .ref q_g_spans])), (q_g_products, .inl (cyI, 64, .inl g_products)), (q_g_inverses, .inl (cyI, 8, .inl g_inverses)), (q_g_orders, .inl (cyI, 8, .inl g_orders)), (q_g_conjugates, .inl (cyI, 64, .inl g_conjugates)), (q_g_spans, .inl (cyI, 256, .inl g_spans)), (q_s, .inr (4, [.int s_handles, .int s_count, .ref q_s_periods])), (q_s_periods, .inl (cyI, 4, .inl s_periods))] rfl (fun H locs hP hD hS => ?_)
          refine lv_goto (tgt := 147) hx hb dX3_moveBy_97 (by decide) ?_
          refine lv_iconst (v := (1 : Int32)) hx hb dX3_moveBy_147 (by decide) ?_
          obtain rfl := Option.some.inj h
          rw [← hQ]
          exact pz_zret hB (Or.inr rfl) hP hD hS dX3_moveBy_148
    refine lv_icmp_lt (tgt := 55) hx hb dX3_moveBy_27 (by decide) (fun hc27 => ?_) (fun hc27 => ?_)
    · have h := pz_itT hc27 h
      exact hJ55 _ _ _ hP hD hS (lv_sub hl [0, 1] rfl) h
    · have h := pz_itF hc27 h
      refine lv_aload_n hx hb dX3_moveBy_30 rfl (lv_at hl 0 rfl) ?_
      refine pz_get pFX3_15 hB hK hP 0 rfl rfl dX3_moveBy_31 ?_
      refine lv_iload_n hx hb dX3_moveBy_34 rfl (lv_at hl 1 rfl) ?_
      refine lv_bipush (v := (10 : Int32)) hx hb dX3_moveBy_35 (by decide) ?_
      refine lv_isub hx hb dX3_moveBy_37 ?_
      obtain ⟨t9, ht9, h⟩ := pz_bnd h
      refine pz_callIr (rest := []) pCX3_29 (kX1_isElement l D cyI q_g q_g_products q_g_inverses q_g_orders q_g_conjugates q_g_spans g_family g_n g_size g_products g_inverses g_orders g_conjugates g_spans (x1 - (10 : Int32)) ht9) hB hK hP hD hS hA hl rfl rfl rfl ⟨Nat.le_of_ble_eq_true rfl, Nat.le_of_ble_eq_true rfl⟩ rfl rfl [2, 3, 4, 5, 6, 7] rfl (by decide) (Nat.le_of_ble_eq_true rfl) dX3_moveBy_38 (Nat.zero_le _) (Nat.zero_le _) rfl (fun H locs hP hS => ?_)
      refine lv_if_eq (tgt := 55) hx hb dX3_moveBy_41 (by decide) (fun hc41 => ?_) (fun hc41 => ?_)
      · have h := pz_itT hc41 h
        exact hJ55 _ _ _ hP hD hS (lv_sub hl [0, 1] rfl) h
      · have h := pz_itF hc41 h
        refine lv_aload_n hx hb dX3_moveBy_44 rfl (lv_at hl 0 rfl) ?_
        refine lv_iload_n hx hb dX3_moveBy_45 rfl (lv_at hl 1 rfl) ?_
        refine lv_bipush (v := (10 : Int32)) hx hb dX3_moveBy_46 (by decide) ?_
        refine lv_isub hx hb dX3_moveBy_48 ?_
        obtain ⟨t10, ht10, h⟩ := pz_bnd h
        refine pz_callV (rest := []) (wr := []) (ws2 := [(q_r, .inr (3, [.ref q_g, .ref q_s, .ref q_r_elements])), (q_r_elements, .inl (cyI, 4, .inl t10)), (q_g, .inr (1, [.int g_family, .int g_n, .int g_size, .ref q_g_products, .ref q_g_inverses, .ref q_g_orders, .ref q_g_conjugates, .ref q_g_spans])), (q_g_products, .inl (cyI, 64, .inl g_products)), (q_g_inverses, .inl (cyI, 8, .inl g_inverses)), (q_g_orders, .inl (cyI, 8, .inl g_orders)), (q_g_conjugates, .inl (cyI, 64, .inl g_conjugates)), (q_g_spans, .inl (cyI, 256, .inl g_spans)), (q_s, .inr (4, [.int s_handles, .int s_count, .ref q_s_periods])), (q_s_periods, .inl (cyI, 4, .inl s_periods))]) pCX3_99 (kX3_moveByElement l D cyI q_r q_r_elements q_g q_g_products q_g_inverses q_g_orders q_g_conjugates q_g_spans q_s q_s_periods r_elements g_family g_n g_size g_products g_inverses g_orders g_conjugates g_spans s_handles s_count s_periods (x1 - (10 : Int32)) ht10) hB hK hP hD hS hA hl rfl rfl rfl ⟨Nat.le_of_ble_eq_true rfl, Nat.le_of_ble_eq_true rfl⟩ rfl rfl [0, 1, 2, 3, 4, 5, 6, 7, 8, 9] [] [0, 1, 2, 3, 4, 5, 6, 7, 8, 9] rfl rfl (by decide) (by decide) (by decide) (by decide) rfl (Nat.le_of_ble_eq_true rfl) dX3_moveBy_49 (Nat.zero_le _) (Nat.zero_le _) rfl (fun H locs hP hD hS => ?_)
        refine lv_goto (tgt := 147) hx hb dX3_moveBy_52 (by decide) ?_
        refine lv_iconst (v := (1 : Int32)) hx hb dX3_moveBy_147 (by decide) ?_
        obtain rfl := Option.some.inj h
        rw [← hQ]
        exact pz_zret hB (Or.inr rfl) hP hD hS dX3_moveBy_148
  refine lv_icmp_lt (tgt := 24) hx hb dX3_moveBy_2 (by decide) (fun hc2 => ?_) (fun hc2 => ?_)
  · have h := pz_itT hc2 h
    exact hJ24 _ _ _ hP hD hS (lv_sub hl [0, 1] rfl) h
  · have h := pz_itF hc2 h
    refine lv_iload_n hx hb dX3_moveBy_5 rfl (lv_at hl 1 rfl) ?_
    refine lv_aload_n hx hb dX3_moveBy_6 rfl (lv_at hl 0 rfl) ?_
    refine pz_get pFX3_19 hB hK hP 0 rfl rfl dX3_moveBy_7 ?_
    refine pz_getN pFX3_39 hB hK hP 8 rfl rfl dX3_moveBy_10 ?_
    refine lv_icmp_ge (tgt := 24) hx hb dX3_moveBy_13 (by decide) (fun hc13 => ?_) (fun hc13 => ?_)
    · have h := pz_itT hc13 h
      exact hJ24 _ _ _ hP hD hS (lv_sub hl [0, 1] rfl) h
    · have h := pz_itF hc13 h
      refine lv_aload_n hx hb dX3_moveBy_16 rfl (lv_at hl 0 rfl) ?_
      refine lv_iload_n hx hb dX3_moveBy_17 rfl (lv_at hl 1 rfl) ?_
      obtain ⟨t11, ht11, h⟩ := pz_bnd h
      refine pz_callV (rest := []) (wr := []) (ws2 := [(q_r, .inr (3, [.ref q_g, .ref q_s, .ref q_r_elements])), (q_r_elements, .inl (cyI, 4, .inl t11)), (q_g, .inr (1, [.int g_family, .int g_n, .int g_size, .ref q_g_products, .ref q_g_inverses, .ref q_g_orders, .ref q_g_conjugates, .ref q_g_spans])), (q_g_products, .inl (cyI, 64, .inl g_products)), (q_g_inverses, .inl (cyI, 8, .inl g_inverses)), (q_g_orders, .inl (cyI, 8, .inl g_orders)), (q_g_conjugates, .inl (cyI, 64, .inl g_conjugates)), (q_g_spans, .inl (cyI, 256, .inl g_spans)), (q_s, .inr (4, [.int s_handles, .int s_count, .ref q_s_periods])), (q_s_periods, .inl (cyI, 4, .inl s_periods))]) pCX3_95 (kX3_moveNeighbours l D cyI q_r q_r_elements q_g q_g_products q_g_inverses q_g_orders q_g_conjugates q_g_spans q_s q_s_periods r_elements g_family g_n g_size g_products g_inverses g_orders g_conjugates g_spans s_handles s_count s_periods x1 ht11) hB hK hP hD hS hA hl rfl rfl rfl ⟨Nat.le_of_ble_eq_true rfl, Nat.le_of_ble_eq_true rfl⟩ rfl rfl [0, 1, 2, 3, 4, 5, 6, 7, 8, 9] [] [0, 1, 2, 3, 4, 5, 6, 7, 8, 9] rfl rfl (by decide) (by decide) (by decide) (by decide) rfl (Nat.le_of_ble_eq_true rfl) dX3_moveBy_18 (Nat.zero_le _) (Nat.zero_le _) rfl (fun H locs hP hD hS => ?_)
      refine lv_goto (tgt := 147) hx hb dX3_moveBy_21 (by decide) ?_
      refine lv_iconst (v := (1 : Int32)) hx hb dX3_moveBy_147 (by decide) ?_
      obtain rfl := Option.some.inj h
      rw [← hQ]
      exact pz_zret hB (Or.inr rfl) hP hD hS dX3_moveBy_148
