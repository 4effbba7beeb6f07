set_option maxRecDepth 100000 in
set_option maxHeartbeats 4000000 in
theorem kX1_exists (l : Launch) (D : va_G) (cyI : ClassId) (q_k_mostN : Nat) (x0 : Int32) (x1 : Int32) {v : Int32} (h : fX1_exists x0 x1 = some v) : pz_MIX (pz_RO D cyI q_k_mostN) l yX1_exists cX1_exists 2 .boolean ({ frames := 0, cells := 0, slots := 0, locals := 0 } : Room) [.int x0, .int x1] D cyI [] v [] := by
  refine pz_ofIX (by decide) (Nat.le_of_ble_eq_true rfl) ?_
  intro p e s m args below meth c A ls hB hP hK hD hS hA hRO hA0 hl
  have hl : lv_has ls 2 [(0, .int x0), (1, .int x1)] := hl
  have hx := hB.1
  have hb := hB.2.1
  unfold fX1_exists at h
  generalize hQ : pz_QI below args s D A v [] = Q
  refine lv_iload_n hx hb dX1_exists_0 rfl (lv_at hl 0 rfl) ?_
  refine lv_if_lt (tgt := 30) hx hb dX1_exists_1 (by decide) (fun hc1 => ?_) (fun hc1 => ?_)
  · have h := pz_itT hc1 h
    refine lv_iconst (v := (0 : Int32)) hx hb dX1_exists_30 (by decide) ?_
    obtain rfl := Option.some.inj h
    rw [← hQ]
    exact pz_zret hB (Or.inl rfl) hP hD hS dX1_exists_31
  · have h := pz_itF hc1 h
    refine lv_iload_n hx hb dX1_exists_4 rfl (lv_at hl 0 rfl) ?_
    refine va_gets hx hb (hRO.at (hA0 rfl)) hS hB.2.2.2.2.1 (hB.2.2.2.2.2.1 _ (pz_w2 16 rfl rfl)) (fun _ h => h) dX1_exists_5 ?_
    refine va_tlen hx hb (hRO.atT (hA0 rfl)) hS (v := nI 4) rfl dX1_exists_8 ?_
    refine lv_icmp_ge (tgt := 30) hx hb dX1_exists_9 (by decide) (fun hc9 => ?_) (fun hc9 => ?_)
    · have h := pz_itT hc9 h
      refine lv_iconst (v := (0 : Int32)) hx hb dX1_exists_30 (by decide) ?_
      obtain rfl := Option.some.inj h
      rw [← hQ]
      exact pz_zret hB (Or.inl rfl) hP hD hS dX1_exists_31
    · have h := pz_itF hc9 h
      refine lv_iload_n hx hb dX1_exists_12 rfl (lv_at hl 1 rfl) ?_
      refine lv_iconst (v := (1 : Int32)) hx hb dX1_exists_13 (by decide) ?_
      refine lv_icmp_lt (tgt := 30) hx hb dX1_exists_14 (by decide) (fun hc14 => ?_) (fun hc14 => ?_)
      · have h := pz_itT hc14 h
        refine lv_iconst (v := (0 : Int32)) hx hb dX1_exists_30 (by decide) ?_
        obtain rfl := Option.some.inj h
        rw [← hQ]
        exact pz_zret hB (Or.inl rfl) hP hD hS dX1_exists_31
      · have h := pz_itF hc14 h
        refine lv_iload_n hx hb dX1_exists_17 rfl (lv_at hl 1 rfl) ?_
        refine va_gets hx hb (hRO.at (hA0 rfl)) hS hB.2.2.2.2.1 (hB.2.2.2.2.2.1 _ (pz_w2 16 rfl rfl)) (fun _ h => h) dX1_exists_18 ?_
        refine lv_iload_n hx hb dX1_exists_21 rfl (lv_at hl 0 rfl) ?_
        obtain ⟨hi1, h⟩ := pz_rdE h
        refine va_ti hx hb (hRO.atT (hA0 rfl)) hS hi1 rfl dX1_exists_22 ?_
        refine lv_icmp_gt (tgt := 30) hx hb dX1_exists_23 (by decide) (fun hc23 => ?_) (fun hc23 => ?_)
        · have h := pz_itT hc23 h
          refine lv_iconst (v := (0 : Int32)) hx hb dX1_exists_30 (by decide) ?_
          obtain rfl := Option.some.inj h
          rw [← hQ]
          exact pz_zret hB (Or.inl rfl) hP hD hS dX1_exists_31
        · have h := pz_itF hc23 h
          refine lv_iconst (v := (1 : Int32)) hx hb dX1_exists_26 (by decide) ?_
          refine lv_goto (tgt := 31) hx hb dX1_exists_27 (by decide) ?_
          obtain rfl := Option.some.inj h
          rw [← hQ]
          exact pz_zret hB (Or.inr rfl) hP hD hS dX1_exists_31
set_option maxRecDepth 100000 in
set_option maxHeartbeats 4000000 in
theorem kX1_sizeByFamily (l : Launch) (D : va_G) (cyI : ClassId) (q_g q_g_products q_g_inverses q_g_orders q_g_conjugates q_g_spans : Nat) (g_family : Int32) (g_n : Int32) (g_size : Int32) (g_products : Nat → Int32) (g_inverses : Nat → Int32) (g_orders : Nat → Int32) (g_conjugates : Nat → Int32) (g_spans : Nat → Int32) {v : Int32} (h : fX1_sizeByFamily g_family g_n = some v) : pz_MI l yX1_sizeByFamily cX1_sizeByFamily 1 .int ({ frames := 0, cells := 0, slots := 0, locals := 0 } : Room) [.ref q_g] D cyI [(q_g, .inr (1, [.int g_family, .int g_n, .int g_size, .ref q_g_products, .ref q_g_inverses, .ref q_g_orders, .ref q_g_conjugates, .ref q_g_spans])), (q_g_products, .inl (cyI, 64, .inl g_products)), (q_g_inverses, .inl (cyI, 8, .inl g_inverses)), (q_g_orders, .inl (cyI, 8, .inl g_orders)), (q_g_conjugates, .inl (cyI, 64, .inl g_conjugates)), (q_g_spans, .inl (cyI, 256, .inl g_spans))] v [(q_g, .inr (1, [.int g_family, .int g_n, .int g_size, .ref q_g_products, .ref q_g_inverses, .ref q_g_orders, .ref q_g_conjugates, .ref q_g_spans])), (q_g_products, .inl (cyI, 64, .inl g_products)), (q_g_inverses, .inl (cyI, 8, .inl g_inverses)), (q_g_orders, .inl (cyI, 8, .inl g_orders)), (q_g_conjugates, .inl (cyI, 64, .inl g_conjugates)), (q_g_spans, .inl (cyI, 256, .inl g_spans))] := by
  refine pz_ofI (by decide) (Nat.le_of_ble_eq_true rfl) ?_
  intro p e s m args below meth c A ls hB hP hK hD hS hA hl
  have hl : lv_has ls 1 [(0, .ref q_g)] := hl
  have hx := hB.1
  have hb := hB.2.1
  unfold fX1_sizeByFamily at h
  generalize hQ : pz_QI below args s D A v [(q_g, .inr (1, [.int g_family, .int g_n, .int g_size, .ref q_g_products, .ref q_g_inverses, .ref q_g_orders, .ref q_g_conjugates, .ref q_g_spans])), (q_g_products, .inl (cyI, 64, .inl g_products)), (q_g_inverses, .inl (cyI, 8, .inl g_inverses)), (q_g_orders, .inl (cyI, 8, .inl g_orders)), (q_g_conjugates, .inl (cyI, 64, .inl g_conjugates)), (q_g_spans, .inl (cyI, 256, .inl g_spans))] = Q
  refine lv_aload_n hx hb dX1_sizeByFamily_0 rfl (lv_at hl 0 rfl) ?_
  refine pz_get pFX1_34 hB hK hP 0 rfl rfl dX1_sizeByFamily_1 ?_
  by_cases hq4_0 : g_family = (0 : Int32)
  · have h := pz_itT hq4_0 h
    refine lv_tableIn (tgt := 32) hx hb dX1_sizeByFamily_4 (by rw [hq4_0]; decide) (by rw [hq4_0]; decide) (by rw [hq4_0]; rfl) (by decide) ?_
    refine lv_aload_n hx hb dX1_sizeByFamily_32 rfl (lv_at hl 0 rfl) ?_
    refine pz_get pFX1_38 hB hK hP 0 rfl rfl dX1_sizeByFamily_33 ?_
    obtain rfl := Option.some.inj h
    rw [← hQ]
    exact pz_iret hB hP hD hS dX1_sizeByFamily_36
  · have h := pz_itF hq4_0 h
    by_cases hq4_1 : g_family = (1 : Int32)
    · have h := pz_itT hq4_1 h
      refine lv_tableIn (tgt := 37) hx hb dX1_sizeByFamily_4 (by rw [hq4_1]; decide) (by rw [hq4_1]; decide) (by rw [hq4_1]; rfl) (by decide) ?_
      refine lv_iconst (v := (2 : Int32)) hx hb dX1_sizeByFamily_37 (by decide) ?_
      refine lv_aload_n hx hb dX1_sizeByFamily_38 rfl (lv_at hl 0 rfl) ?_
      refine pz_get pFX1_38 hB hK hP 0 rfl rfl dX1_sizeByFamily_39 ?_
      refine lv_imul hx hb dX1_sizeByFamily_42 ?_
      obtain rfl := Option.some.inj h
      rw [← hQ]
      exact pz_iret hB hP hD hS dX1_sizeByFamily_43
    · have h := pz_itF hq4_1 h
      by_cases hq4_2 : g_family = (2 : Int32)
      · have h := pz_itT hq4_2 h
        refine lv_tableIn (tgt := 44) hx hb dX1_sizeByFamily_4 (by rw [hq4_2]; decide) (by rw [hq4_2]; decide) (by rw [hq4_2]; rfl) (by decide) ?_
        refine lv_iconst (v := (1 : Int32)) hx hb dX1_sizeByFamily_44 (by decide) ?_
        refine lv_aload_n hx hb dX1_sizeByFamily_45 rfl (lv_at hl 0 rfl) ?_
        refine pz_get pFX1_38 hB hK hP 0 rfl rfl dX1_sizeByFamily_46 ?_
        refine lv_ishl hx hb dX1_sizeByFamily_49 ?_
        obtain rfl := Option.some.inj h
        rw [← hQ]
        exact pz_iret hB hP hD hS dX1_sizeByFamily_50
      · have h := pz_itF hq4_2 h
        have hr0 := lv_neT hq4_0 (a := 0) rfl
        have hr1 := lv_neT hq4_1 (a := 1) rfl
        have hr2 := lv_neT hq4_2 (a := 2) rfl
        refine lv_tableOut (tgt := 51) hx hb dX1_sizeByFamily_4 (by omega) (by decide) ?_
        refine lv_bipush (v := (8 : Int32)) hx hb dX1_sizeByFamily_51 (by decide) ?_
        obtain rfl := Option.some.inj h
        rw [← hQ]
        exact pz_iret hB hP hD hS dX1_sizeByFamily_53
set_option maxRecDepth 100000 in
set_option maxHeartbeats 4000000 in
theorem kX1_intoRing (l : Launch) (D : va_G) (cyI : ClassId) (q_g q_g_products q_g_inverses q_g_orders q_g_conjugates q_g_spans : Nat) (g_family : Int32) (g_n : Int32) (g_size : Int32) (g_products : Nat → Int32) (g_inverses : Nat → Int32) (g_orders : Nat → Int32) (g_conjugates : Nat → Int32) (g_spans : Nat → Int32) (x1 : Int32) {v : Int32} (h : fX1_intoRing x1 g_n = some v) : pz_MI l yX1_intoRing cX1_intoRing 2 .int ({ frames := 0, cells := 0, slots := 0, locals := 0 } : Room) [.ref q_g, .int x1] D cyI [(q_g, .inr (1, [.int g_family, .int g_n, .int g_size, .ref q_g_products, .ref q_g_inverses, .ref q_g_orders, .ref q_g_conjugates, .ref q_g_spans])), (q_g_products, .inl (cyI, 64, .inl g_products)), (q_g_inverses, .inl (cyI, 8, .inl g_inverses)), (q_g_orders, .inl (cyI, 8, .inl g_orders)), (q_g_conjugates, .inl (cyI, 64, .inl g_conjugates)), (q_g_spans, .inl (cyI, 256, .inl g_spans))] v [(q_g, .inr (1, [.int g_family, .int g_n, .int g_size, .ref q_g_products, .ref q_g_inverses, .ref q_g_orders, .ref q_g_conjugates, .ref q_g_spans])), (q_g_products, .inl (cyI, 64, .inl g_products)), (q_g_inverses, .inl (cyI, 8, .inl g_inverses)), (q_g_orders, .inl (cyI, 8, .inl g_orders)), (q_g_conjugates, .inl (cyI, 64, .inl g_conjugates)), (q_g_spans, .inl (cyI, 256, .inl g_spans))] := by
  refine pz_ofI (by decide) (Nat.le_of_ble_eq_true rfl) ?_
  intro p e s m args below meth c A ls hB hP hK hD hS hA hl
  have hl : lv_has ls 2 [(0, .ref q_g), (1, .int x1)] := hl
  have hx := hB.1
  have hb := hB.2.1
  unfold fX1_intoRing at h
  generalize hQ : pz_QI below args s D A v [(q_g, .inr (1, [.int g_family, .int g_n, .int g_size, .ref q_g_products, .ref q_g_inverses, .ref q_g_orders, .ref q_g_conjugates, .ref q_g_spans])), (q_g_products, .inl (cyI, 64, .inl g_products)), (q_g_inverses, .inl (cyI, 8, .inl g_inverses)), (q_g_orders, .inl (cyI, 8, .inl g_orders)), (q_g_conjugates, .inl (cyI, 64, .inl g_conjugates)), (q_g_spans, .inl (cyI, 256, .inl g_spans))] = Q
  refine lv_iload_n hx hb dX1_intoRing_0 rfl (lv_at hl 1 rfl) ?_
  refine lv_if_ge (tgt := 11) hx hb dX1_intoRing_1 (by decide) (fun hc1 => ?_) (fun hc1 => ?_)
  · have h := pz_itT hc1 h
    refine lv_iload_n hx hb dX1_intoRing_11 rfl (lv_at hl 1 rfl) ?_
    refine lv_aload_n hx hb dX1_intoRing_12 rfl (lv_at hl 0 rfl) ?_
    refine pz_get pFX1_38 hB hK hP 0 rfl rfl dX1_intoRing_13 ?_
    refine lv_icmp_ge (tgt := 23) hx hb dX1_intoRing_16 (by decide) (fun hc16 => ?_) (fun hc16 => ?_)
    · have h := pz_itT hc16 h
      refine lv_iload_n hx hb dX1_intoRing_23 rfl (lv_at hl 1 rfl) ?_
      refine lv_aload_n hx hb dX1_intoRing_24 rfl (lv_at hl 0 rfl) ?_
      refine pz_get pFX1_38 hB hK hP 0 rfl rfl dX1_intoRing_25 ?_
      refine lv_isub hx hb dX1_intoRing_28 ?_
      obtain rfl := Option.some.inj h
      rw [← hQ]
      exact pz_iret hB hP hD hS dX1_intoRing_29
    · have h := pz_itF hc16 h
      refine lv_iload_n hx hb dX1_intoRing_19 rfl (lv_at hl 1 rfl) ?_
      refine lv_goto (tgt := 29) hx hb dX1_intoRing_20 (by decide) ?_
      obtain rfl := Option.some.inj h
      rw [← hQ]
      exact pz_iret hB hP hD hS dX1_intoRing_29
  · have h := pz_itF hc1 h
    refine lv_iload_n hx hb dX1_intoRing_4 rfl (lv_at hl 1 rfl) ?_
    refine lv_aload_n hx hb dX1_intoRing_5 rfl (lv_at hl 0 rfl) ?_
    refine pz_get pFX1_38 hB hK hP 0 rfl rfl dX1_intoRing_6 ?_
    refine lv_iadd hx hb dX1_intoRing_9 ?_
    obtain rfl := Option.some.inj h
    rw [← hQ]
    exact pz_iret hB hP hD hS dX1_intoRing_10
set_option maxRecDepth 100000 in
set_option maxHeartbeats 4000000 in
theorem kX1_mirrored (l : Launch) (D : va_G) (cyI : ClassId) (q_g q_g_products q_g_inverses q_g_orders q_g_conjugates q_g_spans : Nat) (g_family : Int32) (g_n : Int32) (g_size : Int32) (g_products : Nat → Int32) (g_inverses : Nat → Int32) (g_orders : Nat → Int32) (g_conjugates : Nat → Int32) (g_spans : Nat → Int32) (x1 : Int32) (x2 : Int32) {v : Int32} (h : fX1_mirrored x1 x2 g_n = some v) : pz_MI l yX1_mirrored cX1_mirrored 8 .int ({ frames := 1, cells := 0, slots := 0, locals := 21 } : Room) [.ref q_g, .int x1, .int x2] D cyI [(q_g, .inr (1, [.int g_family, .int g_n, .int g_size, .ref q_g_products, .ref q_g_inverses, .ref q_g_orders, .ref q_g_conjugates, .ref q_g_spans])), (q_g_products, .inl (cyI, 64, .inl g_products)), (q_g_inverses, .inl (cyI, 8, .inl g_inverses)), (q_g_orders, .inl (cyI, 8, .inl g_orders)), (q_g_conjugates, .inl (cyI, 64, .inl g_conjugates)), (q_g_spans, .inl (cyI, 256, .inl g_spans))] v [(q_g, .inr (1, [.int g_family, .int g_n, .int g_size, .ref q_g_products, .ref q_g_inverses, .ref q_g_orders, .ref q_g_conjugates, .ref q_g_spans])), (q_g_products, .inl (cyI, 64, .inl g_products)), (q_g_inverses, .inl (cyI, 8, .inl g_inverses)), (q_g_orders, .inl (cyI, 8, .inl g_orders)), (q_g_conjugates, .inl (cyI, 64, .inl g_conjugates)), (q_g_spans, .inl (cyI, 256, .inl g_spans))] := by
  refine pz_ofI (by decide) (Nat.le_of_ble_eq_true rfl) ?_
  intro p e s m args below meth c A ls hB hP hK hD hS hA hl
  have hl : lv_has ls 8 [(0, .ref q_g), (1, .int x1), (2, .int x2)] := hl
  have hx := hB.1
  have hb := hB.2.1
  unfold fX1_mirrored at h
  generalize hQ : pz_QI below args s D A v [(q_g, .inr (1, [.int g_family, .int g_n, .int g_size, .ref q_g_products, .ref q_g_inverses, .ref q_g_orders, .ref q_g_conjugates, .ref q_g_spans])), (q_g_products, .inl (cyI, 64, .inl g_products)), (q_g_inverses, .inl (cyI, 8, .inl g_inverses)), (q_g_orders, .inl (cyI, 8, .inl g_orders)), (q_g_conjugates, .inl (cyI, 64, .inl g_conjugates)), (q_g_spans, .inl (cyI, 256, .inl g_spans))] = Q
  refine lv_iload_n hx hb dX1_mirrored_0 rfl (lv_at hl 1 rfl) ?_
  refine lv_aload_n hx hb dX1_mirrored_1 rfl (lv_at hl 0 rfl) ?_
  refine pz_get pFX1_38 hB hK hP 0 rfl rfl dX1_mirrored_2 ?_
  have hJ13 : ∀ (k0_j13 : Int32) (H : Heap) (locs : List Loc) (ls : Array Slot), va_P D vwCl [(q_g, .inr (1, [.int g_family, .int g_n, .int g_size, .ref q_g_products, .ref q_g_inverses, .ref q_g_orders, .ref q_g_conjugates, .ref q_g_spans])), (q_g_products, .inl (cyI, 64, .inl g_products)), (q_g_inverses, .inl (cyI, 8, .inl g_inverses)), (q_g_orders, .inl (cyI, 8, .inl g_orders)), (q_g_conjugates, .inl (cyI, 64, .inl g_conjugates)), (q_g_spans, .inl (cyI, 256, .inl g_spans))] H → va_D A [(q_g, .inr (1, [.int g_family, .int g_n, .int g_size, .ref q_g_products, .ref q_g_inverses, .ref q_g_orders, .ref q_g_conjugates, .ref q_g_spans])), (q_g_products, .inl (cyI, 64, .inl g_products)), (q_g_inverses, .inl (cyI, 8, .inl g_inverses)), (q_g_orders, .inl (cyI, 8, .inl g_orders)), (q_g_conjugates, .inl (cyI, 64, .inl g_conjugates)), (q_g_spans, .inl (cyI, 256, .inl g_spans))] → va_S A s.heap H locs → lv_has ls 8 [(0, .ref q_g), (1, .int x1), (2, .int x2)] → fX1_mirrored_J13 x1 x2 k0_j13 g_n = some v → W p l e ({ frames := 1, cells := 0, slots := 0, locals := 21 } : Room) s m args below meth c H locs 0 0 Q (F0 m 13 ls [.int k0_j13]) := by
    intro k0_j13 H locs ls hP hD hS hl h
    unfold fX1_mirrored_J13 at h
    refine lv_istore_n (lv' := [(3, .int k0_j13), (0, .ref q_g), (1, .int x1), (2, .int x2)]) hx hb dX1_mirrored_13 rfl hl (by decide) rfl (fun ls hl => ?_)
    refine lv_iload_n hx hb dX1_mirrored_14 rfl (lv_at hl 3 rfl) ?_
    refine lv_aload_n hx hb dX1_mirrored_15 rfl (lv_at hl 1 rfl) ?_
    refine pz_get pFX1_38 hB hK hP 0 rfl rfl dX1_mirrored_16 ?_
    have hJ27 : ∀ (k0_j27 : Int32) (H : Heap) (locs : List Loc) (ls : Array Slot), va_P D vwCl [(q_g, .inr (1, [.int g_family, .int g_n, .int g_size, .ref q_g_products, .ref q_g_inverses, .ref q_g_orders, .ref q_g_conjugates, .ref q_g_spans])), (q_g_products, .inl (cyI, 64, .inl g_products)), (q_g_inverses, .inl (cyI, 8, .inl g_inverses)), (q_g_orders, .inl (cyI, 8, .inl g_orders)), (q_g_conjugates, .inl (cyI, 64, .inl g_conjugates)), (q_g_spans, .inl (cyI, 256, .inl g_spans))] H → va_D A [(q_g, .inr (1, [.int g_family, .int g_n, .int g_size, .ref q_g_products, .ref q_g_inverses, .ref q_g_orders, .ref q_g_conjugates, .ref q_g_spans])), (q_g_products, .inl (cyI, 64, .inl g_products)), (q_g_inverses, .inl (cyI, 8, .inl g_inverses)), (q_g_orders, .inl (cyI, 8, .inl g_orders)), (q_g_conjugates, .inl (cyI, 64, .inl g_conjugates)), (q_g_spans, .inl (cyI, 256, .inl g_spans))] → va_S A s.heap H locs → lv_has ls 8 [(0, .ref q_g), (1, .int x1), (2, .int x2), (3, .int k0_j13)] → fX1_mirrored_J27 x1 x2 k0_j13 k0_j27 g_n = some v → W p l e ({ frames := 1, cells := 0, slots := 0, locals := 21 } : Room) s m args below meth c H locs 0 0 Q (F0 m 27 ls [.int k0_j27]) := by
      intro k0_j27 H locs ls hP hD hS hl h
      unfold fX1_mirrored_J27 at h
      refine lv_istore (lv' := [(4, .int k0_j27), (0, .ref q_g), (1, .int x1), (2, .int x2), (3, .int k0_j13)]) hx hb dX1_mirrored_27 hl (by decide) rfl (fun ls hl => ?_)
      refine lv_iload_n hx hb dX1_mirrored_29 rfl (lv_at hl 2 rfl) ?_
      refine lv_aload_n hx hb dX1_mirrored_30 rfl (lv_at hl 1 rfl) ?_
      refine pz_get pFX1_38 hB hK hP 0 rfl rfl dX1_mirrored_31 ?_
      refine lv_iload_n hx hb dX1_mirrored_34 rfl (lv_at hl 4 rfl) ?_
      refine lv_imul hx hb dX1_mirrored_35 ?_
      refine lv_isub hx hb dX1_mirrored_36 ?_
      refine lv_istore (lv' := [(5, .int (x1 - (g_n * k0_j13))), (4, .int k0_j27), (0, .ref q_g), (1, .int x1), (2, .int x2), (3, .int k0_j13)]) hx hb dX1_mirrored_37 hl (by decide) rfl (fun ls hl => ?_)
      refine lv_iload_n hx hb dX1_mirrored_39 rfl (lv_at hl 4 rfl) ?_
      refine lv_aload_n hx hb dX1_mirrored_40 rfl (lv_at hl 2 rfl) ?_
      refine pz_get pFX1_38 hB hK hP 0 rfl rfl dX1_mirrored_41 ?_
      refine lv_iload hx hb dX1_mirrored_44 (lv_at hl 1 rfl) ?_
      refine lv_imul hx hb dX1_mirrored_46 ?_
      refine lv_isub hx hb dX1_mirrored_47 ?_
      refine lv_istore (lv' := [(6, .int (x2 - (g_n * k0_j27))), (5, .int (x1 - (g_n * k0_j13))), (4, .int k0_j27), (0, .ref q_g), (1, .int x1), (2, .int x2), (3, .int k0_j13)]) hx hb dX1_mirrored_48 hl (by decide) rfl (fun ls hl => ?_)
      refine lv_aload_n hx hb dX1_mirrored_50 rfl (lv_at hl 3 rfl) ?_
      refine lv_iload_n hx hb dX1_mirrored_51 rfl (lv_at hl 6 rfl) ?_
      have hJ68 : ∀ (k1_j68 : Int32) (H : Heap) (locs : List Loc) (ls : Array Slot), va_P D vwCl [(q_g, .inr (1, [.int g_family, .int g_n, .int g_size, .ref q_g_products, .ref q_g_inverses, .ref q_g_orders, .ref q_g_conjugates, .ref q_g_spans])), (q_g_products, .inl (cyI, 64, .inl g_products)), (q_g_inverses, .inl (cyI, 8, .inl g_inverses)), (q_g_orders, .inl (cyI, 8, .inl g_orders)), (q_g_conjugates, .inl (cyI, 64, .inl g_conjugates)), (q_g_spans, .inl (cyI, 256, .inl g_spans))] H → va_D A [(q_g, .inr (1, [.int g_family, .int g_n, .int g_size, .ref q_g_products, .ref q_g_inverses, .ref q_g_orders, .ref q_g_conjugates, .ref q_g_spans])), (q_g_products, .inl (cyI, 64, .inl g_products)), (q_g_inverses, .inl (cyI, 8, .inl g_inverses)), (q_g_orders, .inl (cyI, 8, .inl g_orders)), (q_g_conjugates, .inl (cyI, 64, .inl g_conjugates)), (q_g_spans, .inl (cyI, 256, .inl g_spans))] → va_S A s.heap H locs → lv_has ls 8 [(0, .ref q_g), (3, .int k0_j13), (4, .int k0_j27)] → fX1_mirrored_J68 k0_j13 k0_j27 k1_j68 g_n = some v → W p l e ({ frames := 1, cells := 0, slots := 0, locals := 21 } : Room) s m args below meth c H locs 0 0 Q (F0 m 68 ls [.int k1_j68, .ref q_g]) := by
        intro k1_j68 H locs ls hP hD hS hl h
        unfold fX1_mirrored_J68 at h
        obtain ⟨t1, ht1, h⟩ := pz_bnd h
        refine pz_callIr (rest := []) pCX1_62 (kX1_intoRing l D cyI q_g q_g_products q_g_inverses q_g_orders q_g_conjugates q_g_spans g_family g_n g_size g_products g_inverses g_orders g_conjugates g_spans k1_j68 ht1) hB hK hP hD hS hA hl rfl rfl rfl ⟨Nat.le_of_ble_eq_true rfl, Nat.le_of_ble_eq_true rfl⟩ rfl rfl [0, 1, 2, 3, 4, 5] rfl (by decide) (Nat.le_of_ble_eq_true rfl) dX1_mirrored_68 (Nat.zero_le _) (Nat.zero_le _) rfl (fun H locs hP hS => ?_)
        refine lv_istore (lv' := [(7, .int t1), (0, .ref q_g), (3, .int k0_j13), (4, .int k0_j27)]) hx hb dX1_mirrored_71 hl (by decide) rfl (fun ls hl => ?_)
        refine lv_iload hx hb dX1_mirrored_73 (lv_at hl 0 rfl) ?_
        refine lv_aload_n hx hb dX1_mirrored_75 rfl (lv_at hl 1 rfl) ?_
        refine pz_get pFX1_38 hB hK hP 0 rfl rfl dX1_mirrored_76 ?_
        refine lv_iload_n hx hb dX1_mirrored_79 rfl (lv_at hl 2 rfl) ?_
        refine lv_iload hx hb dX1_mirrored_80 (lv_at hl 3 rfl) ?_
        refine lv_ixor hx hb dX1_mirrored_82 ?_
        refine lv_imul hx hb dX1_mirrored_83 ?_
        refine lv_iadd hx hb dX1_mirrored_84 ?_
        obtain rfl := Option.some.inj h
        rw [← hQ]
        exact pz_iret hB hP hD hS dX1_mirrored_85
      refine lv_if_ne (tgt := 63) hx hb dX1_mirrored_52 (by decide) (fun hc52 => ?_) (fun hc52 => ?_)
      · have h := pz_itF hc52 h
        refine lv_iload hx hb dX1_mirrored_63 (lv_at hl 1 rfl) ?_
        refine lv_iload hx hb dX1_mirrored_65 (lv_at hl 0 rfl) ?_
        refine lv_isub hx hb dX1_mirrored_67 ?_
        exact hJ68 ((x1 - (g_n * k0_j13)) - (x2 - (g_n * k0_j27))) _ _ _ hP hD hS (lv_sub hl [3, 6, 2] rfl) h
      · have h := pz_itT hc52 h
        refine lv_iload hx hb dX1_mirrored_55 (lv_at hl 1 rfl) ?_
        refine lv_iload hx hb dX1_mirrored_57 (lv_at hl 0 rfl) ?_
        refine lv_iadd hx hb dX1_mirrored_59 ?_
        refine lv_goto (tgt := 68) hx hb dX1_mirrored_60 (by decide) ?_
        exact hJ68 ((x1 - (g_n * k0_j13)) + (x2 - (g_n * k0_j27))) _ _ _ hP hD hS (lv_sub hl [3, 6, 2] rfl) h
    refine lv_icmp_ge (tgt := 26) hx hb dX1_mirrored_19 (by decide) (fun hc19 => ?_) (fun hc19 => ?_)
    · have h := pz_itT hc19 h
      refine lv_iconst (v := (1 : Int32)) hx hb dX1_mirrored_26 (by decide) ?_
      exact hJ27 (1 : Int32) _ _ _ hP hD hS (lv_sub hl [1, 2, 3, 0] rfl) h
    · have h := pz_itF hc19 h
      refine lv_iconst (v := (0 : Int32)) hx hb dX1_mirrored_22 (by decide) ?_
      refine lv_goto (tgt := 27) hx hb dX1_mirrored_23 (by decide) ?_
      exact hJ27 (0 : Int32) _ _ _ hP hD hS (lv_sub hl [1, 2, 3, 0] rfl) h
  refine lv_icmp_ge (tgt := 12) hx hb dX1_mirrored_5 (by decide) (fun hc5 => ?_) (fun hc5 => ?_)
  · have h := pz_itT hc5 h
    refine lv_iconst (v := (1 : Int32)) hx hb dX1_mirrored_12 (by decide) ?_
    exact hJ13 (1 : Int32) _ _ _ hP hD hS (lv_sub hl [0, 1, 2] rfl) h
  · have h := pz_itF hc5 h
    refine lv_iconst (v := (0 : Int32)) hx hb dX1_mirrored_8 (by decide) ?_
    refine lv_goto (tgt := 13) hx hb dX1_mirrored_9 (by decide) ?_
    exact hJ13 (0 : Int32) _ _ _ hP hD hS (lv_sub hl [0, 1, 2] rfl) h
set_option maxRecDepth 100000 in
set_option maxHeartbeats 4000000 in
theorem kX1_crossed (l : Launch) (D : va_G) (cyI : ClassId) (q_g q_g_products q_g_inverses q_g_orders q_g_conjugates q_g_spans : Nat) (g_family : Int32) (g_n : Int32) (g_size : Int32) (g_products : Nat → Int32) (g_inverses : Nat → Int32) (g_orders : Nat → Int32) (g_conjugates : Nat → Int32) (g_spans : Nat → Int32) (x1 : Int32) (x2 : Int32) {v : Int32} (h : fX1_crossed x1 x2 = some v) : pz_MI l yX1_crossed cX1_crossed 8 .int ({ frames := 0, cells := 0, slots := 0, locals := 0 } : Room) [.ref q_g, .int x1, .int x2] D cyI [(q_g, .inr (1, [.int g_family, .int g_n, .int g_size, .ref q_g_products, .ref q_g_inverses, .ref q_g_orders, .ref q_g_conjugates, .ref q_g_spans])), (q_g_products, .inl (cyI, 64, .inl g_products)), (q_g_inverses, .inl (cyI, 8, .inl g_inverses)), (q_g_orders, .inl (cyI, 8, .inl g_orders)), (q_g_conjugates, .inl (cyI, 64, .inl g_conjugates)), (q_g_spans, .inl (cyI, 256, .inl g_spans))] v [(q_g, .inr (1, [.int g_family, .int g_n, .int g_size, .ref q_g_products, .ref q_g_inverses, .ref q_g_orders, .ref q_g_conjugates, .ref q_g_spans])), (q_g_products, .inl (cyI, 64, .inl g_products)), (q_g_inverses, .inl (cyI, 8, .inl g_inverses)), (q_g_orders, .inl (cyI, 8, .inl g_orders)), (q_g_conjugates, .inl (cyI, 64, .inl g_conjugates)), (q_g_spans, .inl (cyI, 256, .inl g_spans))] := by
  refine pz_ofI (by decide) (Nat.le_of_ble_eq_true rfl) ?_
  intro p e s m args below meth c A ls hB hP hK hD hS hA hl
  have hl : lv_has ls 8 [(0, .ref q_g), (1, .int x1), (2, .int x2)] := hl
  have hx := hB.1
  have hb := hB.2.1
  unfold fX1_crossed at h
  generalize hQ : pz_QI below args s D A v [(q_g, .inr (1, [.int g_family, .int g_n, .int g_size, .ref q_g_products, .ref q_g_inverses, .ref q_g_orders, .ref q_g_conjugates, .ref q_g_spans])), (q_g_products, .inl (cyI, 64, .inl g_products)), (q_g_inverses, .inl (cyI, 8, .inl g_inverses)), (q_g_orders, .inl (cyI, 8, .inl g_orders)), (q_g_conjugates, .inl (cyI, 64, .inl g_conjugates)), (q_g_spans, .inl (cyI, 256, .inl g_spans))] = Q
  refine lv_iload_n hx hb dX1_crossed_0 rfl (lv_at hl 1 rfl) ?_
  refine lv_iconst (v := (3 : Int32)) hx hb dX1_crossed_1 (by decide) ?_
  refine lv_iand hx hb dX1_crossed_2 ?_
  refine lv_istore_n (lv' := [(3, .int (x1 &&& (3 : Int32))), (0, .ref q_g), (1, .int x1), (2, .int x2)]) hx hb dX1_crossed_3 rfl hl (by decide) rfl (fun ls hl => ?_)
  refine lv_iload_n hx hb dX1_crossed_4 rfl (lv_at hl 3 rfl) ?_
  refine lv_iconst (v := (3 : Int32)) hx hb dX1_crossed_5 (by decide) ?_
  refine lv_iand hx hb dX1_crossed_6 ?_
  refine lv_istore (lv' := [(4, .int (x2 &&& (3 : Int32))), (3, .int (x1 &&& (3 : Int32))), (0, .ref q_g), (1, .int x1), (2, .int x2)]) hx hb dX1_crossed_7 hl (by decide) rfl (fun ls hl => ?_)
  refine lv_iload_n hx hb dX1_crossed_9 rfl (lv_at hl 3 rfl) ?_
  refine lv_iconst (v := (2 : Int32)) hx hb dX1_crossed_10 (by decide) ?_
  refine lv_ishr hx hb dX1_crossed_11 ?_
  refine lv_iload_n hx hb dX1_crossed_12 rfl (lv_at hl 4 rfl) ?_
  refine lv_iconst (v := (2 : Int32)) hx hb dX1_crossed_13 (by decide) ?_
  refine lv_ishr hx hb dX1_crossed_14 ?_
  refine lv_ixor hx hb dX1_crossed_15 ?_
  refine lv_istore (lv' := [(5, .int ((x1 >>> ((2 : Int32) &&& 31)) ^^^ (x2 >>> ((2 : Int32) &&& 31)))), (4, .int (x2 &&& (3 : Int32))), (3, .int (x1 &&& (3 : Int32))), (0, .ref q_g), (1, .int x1), (2, .int x2)]) hx hb dX1_crossed_16 hl (by decide) rfl (fun ls hl => ?_)
  refine lv_iload_n hx hb dX1_crossed_18 rfl (lv_at hl 2 rfl) ?_
  have hJ27 : ∀ (H : Heap) (locs : List Loc) (ls : Array Slot), va_P D vwCl [(q_g, .inr (1, [.int g_family, .int g_n, .int g_size, .ref q_g_products, .ref q_g_inverses, .ref q_g_orders, .ref q_g_conjugates, .ref q_g_spans])), (q_g_products, .inl (cyI, 64, .inl g_products)), (q_g_inverses, .inl (cyI, 8, .inl g_inverses)), (q_g_orders, .inl (cyI, 8, .inl g_orders)), (q_g_conjugates, .inl (cyI, 64, .inl g_conjugates)), (q_g_spans, .inl (cyI, 256, .inl g_spans))] H → va_D A [(q_g, .inr (1, [.int g_family, .int g_n, .int g_size, .ref q_g_products, .ref q_g_inverses, .ref q_g_orders, .ref q_g_conjugates, .ref q_g_spans])), (q_g_products, .inl (cyI, 64, .inl g_products)), (q_g_inverses, .inl (cyI, 8, .inl g_inverses)), (q_g_orders, .inl (cyI, 8, .inl g_orders)), (q_g_conjugates, .inl (cyI, 64, .inl g_conjugates)), (q_g_spans, .inl (cyI, 256, .inl g_spans))] → va_S A s.heap H locs → lv_has ls 8 [(3, .int (x1 &&& (3 : Int32))), (4, .int (x2 &&& (3 : Int32))), (5, .int ((x1 >>> ((2 : Int32) &&& 31)) ^^^ (x2 >>> ((2 : Int32) &&& 31))))] → fX1_crossed_J27 (x1 &&& (3 : Int32)) (x2 &&& (3 : Int32)) ((x1 >>> ((2 : Int32) &&& 31)) ^^^ (x2 >>> ((2 : Int32) &&& 31))) = some v → W p l e ({ frames := 0, cells := 0, slots := 0, locals := 0 } : Room) s m args below meth c H locs 0 0 Q (F0 m 27 ls []) := by
    intro H locs ls hP hD hS hl h
    unfold fX1_crossed_J27 at h
    refine lv_iload_n hx hb dX1_crossed_27 rfl (lv_at hl 0 rfl) ?_
    refine lv_iload hx hb dX1_crossed_28 (lv_at hl 1 rfl) ?_
    refine lv_iadd hx hb dX1_crossed_30 ?_
    refine lv_iconst (v := (4 : Int32)) hx hb dX1_crossed_31 (by decide) ?_
    refine lv_iload hx hb dX1_crossed_32 (lv_at hl 2 rfl) ?_
    refine lv_imul hx hb dX1_crossed_34 ?_
    refine lv_iadd hx hb dX1_crossed_35 ?_
    obtain rfl := Option.some.inj h
    rw [← hQ]
    exact pz_iret hB hP hD hS dX1_crossed_36
  refine lv_if_eq (tgt := 27) hx hb dX1_crossed_19 (by decide) (fun hc19 => ?_) (fun hc19 => ?_)
  · have h := pz_itT hc19 h
    exact hJ27 _ _ _ hP hD hS (lv_sub hl [2, 1, 0] rfl) h
  · have h := pz_itF hc19 h
    refine lv_iload hx hb dX1_crossed_22 (lv_at hl 1 rfl) ?_
    refine lv_if_ne (tgt := 37) hx hb dX1_crossed_24 (by decide) (fun hc24 => ?_) (fun hc24 => ?_)
    · have h := pz_itF hc24 h
      refine lv_iload_n hx hb dX1_crossed_37 rfl (lv_at hl 2 rfl) ?_
      refine lv_iload hx hb dX1_crossed_38 (lv_at hl 1 rfl) ?_
      refine lv_icmp_ne (tgt := 50) hx hb dX1_crossed_40 (by decide) (fun hc40 => ?_) (fun hc40 => ?_)
      · have h := pz_itF hc40 h
        refine lv_bipush (v := (6 : Int32)) hx hb dX1_crossed_50 (by decide) ?_
        refine lv_iload_n hx hb dX1_crossed_52 rfl (lv_at hl 2 rfl) ?_
        refine lv_isub hx hb dX1_crossed_53 ?_
        refine lv_iload hx hb dX1_crossed_54 (lv_at hl 1 rfl) ?_
        refine lv_isub hx hb dX1_crossed_56 ?_
        refine lv_istore (lv' := [(6, .int (((6 : Int32) - (x1 &&& (3 : Int32))) - (x2 &&& (3 : Int32)))), (5, .int ((x1 >>> ((2 : Int32) &&& 31)) ^^^ (x2 >>> ((2 : Int32) &&& 31)))), (4, .int (x2 &&& (3 : Int32))), (3, .int (x1 &&& (3 : Int32))), (0, .ref q_g), (1, .int x1), (2, .int x2)]) hx hb dX1_crossed_57 hl (by decide) rfl (fun ls hl => ?_)
        refine lv_iload_n hx hb dX1_crossed_59 rfl (lv_at hl 3 rfl) ?_
        refine lv_iconst (v := (3 : Int32)) hx hb dX1_crossed_60 (by decide) ?_
        have hJ71 : ∀ (k0_j71 : Int32) (H : Heap) (locs : List Loc) (ls : Array Slot), va_P D vwCl [(q_g, .inr (1, [.int g_family, .int g_n, .int g_size, .ref q_g_products, .ref q_g_inverses, .ref q_g_orders, .ref q_g_conjugates, .ref q_g_spans])), (q_g_products, .inl (cyI, 64, .inl g_products)), (q_g_inverses, .inl (cyI, 8, .inl g_inverses)), (q_g_orders, .inl (cyI, 8, .inl g_orders)), (q_g_conjugates, .inl (cyI, 64, .inl g_conjugates)), (q_g_spans, .inl (cyI, 256, .inl g_spans))] H → va_D A [(q_g, .inr (1, [.int g_family, .int g_n, .int g_size, .ref q_g_products, .ref q_g_inverses, .ref q_g_orders, .ref q_g_conjugates, .ref q_g_spans])), (q_g_products, .inl (cyI, 64, .inl g_products)), (q_g_inverses, .inl (cyI, 8, .inl g_inverses)), (q_g_orders, .inl (cyI, 8, .inl g_orders)), (q_g_conjugates, .inl (cyI, 64, .inl g_conjugates)), (q_g_spans, .inl (cyI, 256, .inl g_spans))] → va_S A s.heap H locs → lv_has ls 8 [(4, .int (x2 &&& (3 : Int32))), (5, .int ((x1 >>> ((2 : Int32) &&& 31)) ^^^ (x2 >>> ((2 : Int32) &&& 31)))), (6, .int (((6 : Int32) - (x1 &&& (3 : Int32))) - (x2 &&& (3 : Int32))))] → fX1_crossed_J71 (x2 &&& (3 : Int32)) ((x1 >>> ((2 : Int32) &&& 31)) ^^^ (x2 >>> ((2 : Int32) &&& 31))) (((6 : Int32) - (x1 &&& (3 : Int32))) - (x2 &&& (3 : Int32))) k0_j71 = some v → W p l e ({ frames := 0, cells := 0, slots := 0, locals := 0 } : Room) s m args below meth c H locs 0 0 Q (F0 m 71 ls [.int k0_j71]) := by
          intro k0_j71 H locs ls hP hD hS hl h
          unfold fX1_crossed_J71 at h
          refine lv_istore (lv' := [(7, .int k0_j71), (4, .int (x2 &&& (3 : Int32))), (5, .int ((x1 >>> ((2 : Int32) &&& 31)) ^^^ (x2 >>> ((2 : Int32) &&& 31)))), (6, .int (((6 : Int32) - (x1 &&& (3 : Int32))) - (x2 &&& (3 : Int32))))]) hx hb dX1_crossed_71 hl (by decide) rfl (fun ls hl => ?_)
          refine lv_iload hx hb dX1_crossed_73 (lv_at hl 3 rfl) ?_
          refine lv_iconst (v := (4 : Int32)) hx hb dX1_crossed_75 (by decide) ?_
          refine lv_iload hx hb dX1_crossed_76 (lv_at hl 1 rfl) ?_
          refine lv_iload hx hb dX1_crossed_78 (lv_at hl 0 rfl) ?_
          have hJ92 : ∀ (k0_j92 : Int32) (k1_j92 : Int32) (k2_j92 : Int32) (H : Heap) (locs : List Loc) (ls : Array Slot), va_P D vwCl [(q_g, .inr (1, [.int g_family, .int g_n, .int g_size, .ref q_g_products, .ref q_g_inverses, .ref q_g_orders, .ref q_g_conjugates, .ref q_g_spans])), (q_g_products, .inl (cyI, 64, .inl g_products)), (q_g_inverses, .inl (cyI, 8, .inl g_inverses)), (q_g_orders, .inl (cyI, 8, .inl g_orders)), (q_g_conjugates, .inl (cyI, 64, .inl g_conjugates)), (q_g_spans, .inl (cyI, 256, .inl g_spans))] H → va_D A [(q_g, .inr (1, [.int g_family, .int g_n, .int g_size, .ref q_g_products, .ref q_g_inverses, .ref q_g_orders, .ref q_g_conjugates, .ref q_g_spans])), (q_g_products, .inl (cyI, 64, .inl g_products)), (q_g_inverses, .inl (cyI, 8, .inl g_inverses)), (q_g_orders, .inl (cyI, 8, .inl g_orders)), (q_g_conjugates, .inl (cyI, 64, .inl g_conjugates)), (q_g_spans, .inl (cyI, 256, .inl g_spans))] → va_S A s.heap H locs → lv_has ls 8 [] → fX1_crossed_J92 k0_j92 k1_j92 k2_j92 = some v → W p l e ({ frames := 0, cells := 0, slots := 0, locals := 0 } : Room) s m args below meth c H locs 0 0 Q (F0 m 92 ls [.int k2_j92, .int k1_j92, .int k0_j92]) := by
            intro k0_j92 k1_j92 k2_j92 H locs ls hP hD hS hl h
            unfold fX1_crossed_J92 at h
            refine lv_imul hx hb dX1_crossed_92 ?_
            refine lv_iadd hx hb dX1_crossed_93 ?_
            obtain rfl := Option.some.inj h
            rw [← hQ]
            exact pz_iret hB hP hD hS dX1_crossed_94
          refine lv_icmp_ne (tgt := 88) hx hb dX1_crossed_80 (by decide) (fun hc80 => ?_) (fun hc80 => ?_)
          · have h := pz_itF hc80 h
            refine lv_iconst (v := (1 : Int32)) hx hb dX1_crossed_88 (by decide) ?_
            refine lv_iload hx hb dX1_crossed_89 (lv_at hl 2 rfl) ?_
            refine lv_isub hx hb dX1_crossed_91 ?_
            exact hJ92 (((6 : Int32) - (x1 &&& (3 : Int32))) - (x2 &&& (3 : Int32))) (4 : Int32) ((1 : Int32) - ((x1 >>> ((2 : Int32) &&& 31)) ^^^ (x2 >>> ((2 : Int32) &&& 31)))) _ _ _ hP hD hS (lv_sub hl [] rfl) h
          · have h := pz_itT hc80 h
            refine lv_iload hx hb dX1_crossed_83 (lv_at hl 2 rfl) ?_
            refine lv_goto (tgt := 92) hx hb dX1_crossed_85 (by decide) ?_
            exact hJ92 (((6 : Int32) - (x1 &&& (3 : Int32))) - (x2 &&& (3 : Int32))) (4 : Int32) ((x1 >>> ((2 : Int32) &&& 31)) ^^^ (x2 >>> ((2 : Int32) &&& 31))) _ _ _ hP hD hS (lv_sub hl [] rfl) h
        refine lv_icmp_ne (tgt := 68) hx hb dX1_crossed_61 (by decide) (fun hc61 => ?_) (fun hc61 => ?_)
        · have h := pz_itF hc61 h
          refine lv_iload_n hx hb dX1_crossed_68 rfl (lv_at hl 3 rfl) ?_
          refine lv_iconst (v := (1 : Int32)) hx hb dX1_crossed_69 (by decide) ?_
          refine lv_iadd hx hb dX1_crossed_70 ?_
          exact hJ71 ((x1 &&& (3 : Int32)) + (1 : Int32)) _ _ _ hP hD hS (lv_sub hl [2, 1, 0] rfl) h
        · have h := pz_itT hc61 h
          refine lv_iconst (v := (1 : Int32)) hx hb dX1_crossed_64 (by decide) ?_
          refine lv_goto (tgt := 71) hx hb dX1_crossed_65 (by decide) ?_
          exact hJ71 (1 : Int32) _ _ _ hP hD hS (lv_sub hl [2, 1, 0] rfl) h
      · have h := pz_itT hc40 h
        refine lv_iconst (v := (4 : Int32)) hx hb dX1_crossed_43 (by decide) ?_
        refine lv_iconst (v := (1 : Int32)) hx hb dX1_crossed_44 (by decide) ?_
        refine lv_iload hx hb dX1_crossed_45 (lv_at hl 0 rfl) ?_
        refine lv_isub hx hb dX1_crossed_47 ?_
        refine lv_imul hx hb dX1_crossed_48 ?_
        obtain rfl := Option.some.inj h
        rw [← hQ]
        exact pz_iret hB hP hD hS dX1_crossed_49
    · have h := pz_itT hc24 h
      exact hJ27 _ _ _ hP hD hS (lv_sub hl [2, 1, 0] rfl) h
set_option maxRecDepth 100000 in
set_option maxHeartbeats 4000000 in
theorem kX1_multiplied (l : Launch) (D : va_G) (cyI : ClassId) (q_g q_g_products q_g_inverses q_g_orders q_g_conjugates q_g_spans : Nat) (g_family : Int32) (g_n : Int32) (g_size : Int32) (g_products : Nat → Int32) (g_inverses : Nat → Int32) (g_orders : Nat → Int32) (g_conjugates : Nat → Int32) (g_spans : Nat → Int32) (x1 : Int32) (x2 : Int32) {v : Int32} (h : fX1_multiplied x1 x2 g_family g_n = some v) : pz_MI l yX1_multiplied cX1_multiplied 3 .int ({ frames := 2, cells := 0, slots := 0, locals := 48 } : Room) [.ref q_g, .int x1, .int x2] D cyI [(q_g, .inr (1, [.int g_family, .int g_n, .int g_size, .ref q_g_products, .ref q_g_inverses, .ref q_g_orders, .ref q_g_conjugates, .ref q_g_spans])), (q_g_products, .inl (cyI, 64, .inl g_products)), (q_g_inverses, .inl (cyI, 8, .inl g_inverses)), (q_g_orders, .inl (cyI, 8, .inl g_orders)), (q_g_conjugates, .inl (cyI, 64, .inl g_conjugates)), (q_g_spans, .inl (cyI, 256, .inl g_spans))] v [(q_g, .inr (1, [.int g_family, .int g_n, .int g_size, .ref q_g_products, .ref q_g_inverses, .ref q_g_orders, .ref q_g_conjugates, .ref q_g_spans])), (q_g_products, .inl (cyI, 64, .inl g_products)), (q_g_inverses, .inl (cyI, 8, .inl g_inverses)), (q_g_orders, .inl (cyI, 8, .inl g_orders)), (q_g_conjugates, .inl (cyI, 64, .inl g_conjugates)), (q_g_spans, .inl (cyI, 256, .inl g_spans))] := by
  refine pz_ofI (by decide) (Nat.le_of_ble_eq_true rfl) ?_
  intro p e s m args below meth c A ls hB hP hK hD hS hA hl
  have hl : lv_has ls 3 [(0, .ref q_g), (1, .int x1), (2, .int x2)] := hl
  have hx := hB.1
  have hb := hB.2.1
  unfold fX1_multiplied at h
  generalize hQ : pz_QI below args s D A v [(q_g, .inr (1, [.int g_family, .int g_n, .int g_size, .ref q_g_products, .ref q_g_inverses, .ref q_g_orders, .ref q_g_conjugates, .ref q_g_spans])), (q_g_products, .inl (cyI, 64, .inl g_products)), (q_g_inverses, .inl (cyI, 8, .inl g_inverses)), (q_g_orders, .inl (cyI, 8, .inl g_orders)), (q_g_conjugates, .inl (cyI, 64, .inl g_conjugates)), (q_g_spans, .inl (cyI, 256, .inl g_spans))] = Q
  refine lv_aload_n hx hb dX1_multiplied_0 rfl (lv_at hl 0 rfl) ?_
  refine pz_get pFX1_34 hB hK hP 0 rfl rfl dX1_multiplied_1 ?_
  by_cases hq4_0 : g_family = (0 : Int32)
  · have h := pz_itT hq4_0 h
    refine lv_tableIn (tgt := 32) hx hb dX1_multiplied_4 (by rw [hq4_0]; decide) (by rw [hq4_0]; decide) (by rw [hq4_0]; rfl) (by decide) ?_
    refine lv_aload_n hx hb dX1_multiplied_32 rfl (lv_at hl 0 rfl) ?_
    refine lv_iload_n hx hb dX1_multiplied_33 rfl (lv_at hl 1 rfl) ?_
    refine lv_iload_n hx hb dX1_multiplied_34 rfl (lv_at hl 2 rfl) ?_
    refine lv_iadd hx hb dX1_multiplied_35 ?_
    obtain ⟨t1, ht1, h⟩ := pz_bnd h
    refine pz_callIr (rest := []) pCX1_62 (kX1_intoRing l D cyI q_g q_g_products q_g_inverses q_g_orders q_g_conjugates q_g_spans g_family g_n g_size g_products g_inverses g_orders g_conjugates g_spans (x1 + x2) ht1) hB hK hP hD hS hA hl rfl rfl rfl ⟨Nat.le_of_ble_eq_true rfl, Nat.le_of_ble_eq_true rfl⟩ rfl rfl [0, 1, 2, 3, 4, 5] rfl (by decide) (Nat.le_of_ble_eq_true rfl) dX1_multiplied_36 (Nat.zero_le _) (Nat.zero_le _) rfl (fun H locs hP hS => ?_)
    obtain rfl := Option.some.inj h
    rw [← hQ]
    exact pz_iret hB hP hD hS dX1_multiplied_39
  · have h := pz_itF hq4_0 h
    by_cases hq4_1 : g_family = (1 : Int32)
    · have h := pz_itT hq4_1 h
      refine lv_tableIn (tgt := 40) hx hb dX1_multiplied_4 (by rw [hq4_1]; decide) (by rw [hq4_1]; decide) (by rw [hq4_1]; rfl) (by decide) ?_
      refine lv_aload_n hx hb dX1_multiplied_40 rfl (lv_at hl 0 rfl) ?_
      refine lv_iload_n hx hb dX1_multiplied_41 rfl (lv_at hl 1 rfl) ?_
      refine lv_iload_n hx hb dX1_multiplied_42 rfl (lv_at hl 2 rfl) ?_
      obtain ⟨t2, ht2, h⟩ := pz_bnd h
      refine pz_callIr (rest := []) pCX1_66 (kX1_mirrored l D cyI q_g q_g_products q_g_inverses q_g_orders q_g_conjugates q_g_spans g_family g_n g_size g_products g_inverses g_orders g_conjugates g_spans x1 x2 ht2) hB hK hP hD hS hA hl rfl rfl rfl ⟨Nat.le_of_ble_eq_true rfl, Nat.le_of_ble_eq_true rfl⟩ rfl rfl [0, 1, 2, 3, 4, 5] rfl (by decide) (Nat.le_of_ble_eq_true rfl) dX1_multiplied_43 (Nat.zero_le _) (Nat.zero_le _) rfl (fun H locs hP hS => ?_)
      obtain rfl := Option.some.inj h
      rw [← hQ]
      exact pz_iret hB hP hD hS dX1_multiplied_46
    · have h := pz_itF hq4_1 h
      by_cases hq4_2 : g_family = (2 : Int32)
      · have h := pz_itT hq4_2 h
        refine lv_tableIn (tgt := 47) hx hb dX1_multiplied_4 (by rw [hq4_2]; decide) (by rw [hq4_2]; decide) (by rw [hq4_2]; rfl) (by decide) ?_
        refine lv_iload_n hx hb dX1_multiplied_47 rfl (lv_at hl 1 rfl) ?_
        refine lv_iload_n hx hb dX1_multiplied_48 rfl (lv_at hl 2 rfl) ?_
        refine lv_ixor hx hb dX1_multiplied_49 ?_
        obtain rfl := Option.some.inj h
        rw [← hQ]
        exact pz_iret hB hP hD hS dX1_multiplied_50
      · have h := pz_itF hq4_2 h
        have hr0 := lv_neT hq4_0 (a := 0) rfl
        have hr1 := lv_neT hq4_1 (a := 1) rfl
        have hr2 := lv_neT hq4_2 (a := 2) rfl
        refine lv_tableOut (tgt := 51) hx hb dX1_multiplied_4 (by omega) (by decide) ?_
        refine lv_aload_n hx hb dX1_multiplied_51 rfl (lv_at hl 0 rfl) ?_
        refine lv_iload_n hx hb dX1_multiplied_52 rfl (lv_at hl 1 rfl) ?_
        refine lv_iload_n hx hb dX1_multiplied_53 rfl (lv_at hl 2 rfl) ?_
        obtain ⟨t3, ht3, h⟩ := pz_bnd h
        refine pz_callIr (rest := []) pCX1_69 (kX1_crossed l D cyI q_g q_g_products q_g_inverses q_g_orders q_g_conjugates q_g_spans g_family g_n g_size g_products g_inverses g_orders g_conjugates g_spans x1 x2 ht3) hB hK hP hD hS hA hl rfl rfl rfl ⟨Nat.le_of_ble_eq_true rfl, Nat.le_of_ble_eq_true rfl⟩ rfl rfl [0, 1, 2, 3, 4, 5] rfl (by decide) (Nat.le_of_ble_eq_true rfl) dX1_multiplied_54 (Nat.zero_le _) (Nat.zero_le _) rfl (fun H locs hP hS => ?_)
        obtain rfl := Option.some.inj h
        rw [← hQ]
        exact pz_iret hB hP hD hS dX1_multiplied_57
set_option maxRecDepth 100000 in
set_option maxHeartbeats 4000000 in
theorem kX1_product (l : Launch) (D : va_G) (cyI : ClassId) (q_g q_g_products q_g_inverses q_g_orders q_g_conjugates q_g_spans : Nat) (g_family : Int32) (g_n : Int32) (g_size : Int32) (g_products : Nat → Int32) (g_inverses : Nat → Int32) (g_orders : Nat → Int32) (g_conjugates : Nat → Int32) (g_spans : Nat → Int32) (x1 : Int32) (x2 : Int32) {v : Int32} (h : fX1_product x1 x2 g_products = some v) : pz_MI l yX1_product cX1_product 3 .int ({ frames := 0, cells := 0, slots := 0, locals := 0 } : Room) [.ref q_g, .int x1, .int x2] D cyI [(q_g, .inr (1, [.int g_family, .int g_n, .int g_size, .ref q_g_products, .ref q_g_inverses, .ref q_g_orders, .ref q_g_conjugates, .ref q_g_spans])), (q_g_products, .inl (cyI, 64, .inl g_products)), (q_g_inverses, .inl (cyI, 8, .inl g_inverses)), (q_g_orders, .inl (cyI, 8, .inl g_orders)), (q_g_conjugates, .inl (cyI, 64, .inl g_conjugates)), (q_g_spans, .inl (cyI, 256, .inl g_spans))] v [(q_g, .inr (1, [.int g_family, .int g_n, .int g_size, .ref q_g_products, .ref q_g_inverses, .ref q_g_orders, .ref q_g_conjugates, .ref q_g_spans])), (q_g_products, .inl (cyI, 64, .inl g_products)), (q_g_inverses, .inl (cyI, 8, .inl g_inverses)), (q_g_orders, .inl (cyI, 8, .inl g_orders)), (q_g_conjugates, .inl (cyI, 64, .inl g_conjugates)), (q_g_spans, .inl (cyI, 256, .inl g_spans))] := by
  refine pz_ofI (by decide) (Nat.le_of_ble_eq_true rfl) ?_
  intro p e s m args below meth c A ls hB hP hK hD hS hA hl
  have hl : lv_has ls 3 [(0, .ref q_g), (1, .int x1), (2, .int x2)] := hl
  have hx := hB.1
  have hb := hB.2.1
  unfold fX1_product at h
  generalize hQ : pz_QI below args s D A v [(q_g, .inr (1, [.int g_family, .int g_n, .int g_size, .ref q_g_products, .ref q_g_inverses, .ref q_g_orders, .ref q_g_conjugates, .ref q_g_spans])), (q_g_products, .inl (cyI, 64, .inl g_products)), (q_g_inverses, .inl (cyI, 8, .inl g_inverses)), (q_g_orders, .inl (cyI, 8, .inl g_orders)), (q_g_conjugates, .inl (cyI, 64, .inl g_conjugates)), (q_g_spans, .inl (cyI, 256, .inl g_spans))] = Q
  refine lv_aload_n hx hb dX1_product_0 rfl (lv_at hl 0 rfl) ?_
  refine pz_get pFX1_9 hB hK hP 0 rfl rfl dX1_product_1 ?_
  refine lv_iload_n hx hb dX1_product_4 rfl (lv_at hl 1 rfl) ?_
  refine lv_bipush (v := (8 : Int32)) hx hb dX1_product_5 (by decide) ?_
  refine lv_imul hx hb dX1_product_7 ?_
  refine lv_iload_n hx hb dX1_product_8 rfl (lv_at hl 2 rfl) ?_
  refine lv_iadd hx hb dX1_product_9 ?_
  obtain ⟨hi1, h⟩ := pz_rdE h
  refine pz_iald hB hK hP 1 rfl hi1 dX1_product_10 ?_
  obtain rfl := Option.some.inj h
  rw [← hQ]
  exact pz_iret hB hP hD hS dX1_product_11
set_option maxRecDepth 100000 in
set_option maxHeartbeats 4000000 in
theorem kX1_findInverseAndOrder (l : Launch) (D : va_G) (cyI : ClassId) (q_g q_g_products q_g_inverses q_g_orders q_g_conjugates q_g_spans : Nat) (g_family : Int32) (g_n : Int32) (g_size : Int32) (g_products : Nat → Int32) (g_inverses : Nat → Int32) (g_orders : Nat → Int32) (g_conjugates : Nat → Int32) (g_spans : Nat → Int32) (x1 : Int32) {v : (Nat → Int32) × (Nat → Int32)} (h : fX1_findInverseAndOrder x1 g_products g_inverses g_orders = some v) : pz_MV l yX1_findInverseAndOrder cX1_findInverseAndOrder 4 ({ frames := 1, cells := 0, slots := 0, locals := 22 } : Room) [.ref q_g, .int x1] D cyI [(q_g, .inr (1, [.int g_family, .int g_n, .int g_size, .ref q_g_products, .ref q_g_inverses, .ref q_g_orders, .ref q_g_conjugates, .ref q_g_spans])), (q_g_products, .inl (cyI, 64, .inl g_products)), (q_g_inverses, .inl (cyI, 8, .inl g_inverses)), (q_g_orders, .inl (cyI, 8, .inl g_orders)), (q_g_conjugates, .inl (cyI, 64, .inl g_conjugates)), (q_g_spans, .inl (cyI, 256, .inl g_spans))] [(q_g, .inr (1, [.int g_family, .int g_n, .int g_size, .ref q_g_products, .ref q_g_inverses, .ref q_g_orders, .ref q_g_conjugates, .ref q_g_spans])), (q_g_products, .inl (cyI, 64, .inl g_products)), (q_g_inverses, .inl (cyI, 8, .inl v.1)), (q_g_orders, .inl (cyI, 8, .inl v.2)), (q_g_conjugates, .inl (cyI, 64, .inl g_conjugates)), (q_g_spans, .inl (cyI, 256, .inl g_spans))] := by
  refine pz_ofV (by decide) (Nat.le_of_ble_eq_true rfl) ?_
  intro p e s m args below meth c A ls hB hP hK hD hS hA hl
  have hl : lv_has ls 4 [(0, .ref q_g), (1, .int x1)] := hl
  have hx := hB.1
  have hb := hB.2.1
  unfold fX1_findInverseAndOrder at h
  generalize hQ : pz_QV below args s D A [(q_g, .inr (1, [.int g_family, .int g_n, .int g_size, .ref q_g_products, .ref q_g_inverses, .ref q_g_orders, .ref q_g_conjugates, .ref q_g_spans])), (q_g_products, .inl (cyI, 64, .inl g_products)), (q_g_inverses, .inl (cyI, 8, .inl v.1)), (q_g_orders, .inl (cyI, 8, .inl v.2)), (q_g_conjugates, .inl (cyI, 64, .inl g_conjugates)), (q_g_spans, .inl (cyI, 256, .inl g_spans))] = Q
  refine lv_iload_n hx hb dX1_findInverseAndOrder_0 rfl (lv_at hl 1 rfl) ?_
  refine lv_istore_n (lv' := [(2, .int x1), (0, .ref q_g), (1, .int x1)]) hx hb dX1_findInverseAndOrder_1 rfl hl (by decide) rfl (fun ls hl => ?_)
  refine lv_iconst (v := (1 : Int32)) hx hb dX1_findInverseAndOrder_2 (by decide) ?_
  refine lv_istore_n (lv' := [(3, .int (1 : Int32)), (2, .int x1), (0, .ref q_g), (1, .int x1)]) hx hb dX1_findInverseAndOrder_3 rfl hl (by decide) rfl (fun ls hl => ?_)
  refine lv_aload_n hx hb dX1_findInverseAndOrder_4 rfl (lv_at hl 2 rfl) ?_
  refine pz_get pFX1_15 hB hK hP 0 rfl rfl dX1_findInverseAndOrder_5 ?_
  refine lv_iload_n hx hb dX1_findInverseAndOrder_8 rfl (lv_at hl 3 rfl) ?_
  refine lv_iconst (v := (0 : Int32)) hx hb dX1_findInverseAndOrder_9 (by decide) ?_
  obtain ⟨hi1, h⟩ := pz_wrE h
  refine pz_iast hB hK hP hD hS 2 rfl hi1 dX1_findInverseAndOrder_10 [(q_g, .inr (1, [.int g_family, .int g_n, .int g_size, .ref q_g_products, .ref q_g_inverses, .ref q_g_orders, .ref q_g_conjugates, .ref q_g_spans])), (q_g_products, .inl (cyI, 64, .inl g_products)), (q_g_inverses, .inl (cyI, 8, .inl (upd g_inverses (Int32.toNatClampNeg x1) (0 : Int32)))), (q_g_orders, .inl (cyI, 8, .inl g_orders)), (q_g_conjugates, .inl (cyI, 64, .inl g_conjugates)), (q_g_spans, .inl (cyI, 256, .inl g_spans))] rfl (fun H locs hP hD hS => ?_)
  obtain ⟨u_11, hu_11, h⟩ := pz_bnd h
  have hE11 : ∀ (H : Heap) (locs : List Loc) (ls : Array Slot), va_P D vwCl [(q_g, .inr (1, [.int g_family, .int g_n, .int g_size, .ref q_g_products, .ref q_g_inverses, .ref q_g_orders, .ref q_g_conjugates, .ref q_g_spans])), (q_g_products, .inl (cyI, 64, .inl g_products)), (q_g_inverses, .inl (cyI, 8, .inl u_11.2)), (q_g_orders, .inl (cyI, 8, .inl g_orders)), (q_g_conjugates, .inl (cyI, 64, .inl g_conjugates)), (q_g_spans, .inl (cyI, 256, .inl g_spans))] H → va_D A [(q_g, .inr (1, [.int g_family, .int g_n, .int g_size, .ref q_g_products, .ref q_g_inverses, .ref q_g_orders, .ref q_g_conjugates, .ref q_g_spans])), (q_g_products, .inl (cyI, 64, .inl g_products)), (q_g_inverses, .inl (cyI, 8, .inl u_11.2)), (q_g_orders, .inl (cyI, 8, .inl g_orders)), (q_g_conjugates, .inl (cyI, 64, .inl g_conjugates)), (q_g_spans, .inl (cyI, 256, .inl g_spans))] → va_S A s.heap H locs → lv_has ls 4 [(0, .ref q_g), (1, .int x1), (3, .int u_11.1)] → W p l e ({ frames := 1, cells := 0, slots := 0, locals := 22 } : Room) s m args below meth c H locs 0 0 Q (F0 m 41 ls []) := by
    intro H locs ls hP hD hS hl
    refine lv_aload_n hx hb dX1_findInverseAndOrder_41 rfl (lv_at hl 0 rfl) ?_
    refine pz_get pFX1_18 hB hK hP 0 rfl rfl dX1_findInverseAndOrder_42 ?_
    refine lv_iload_n hx hb dX1_findInverseAndOrder_45 rfl (lv_at hl 1 rfl) ?_
    refine lv_iload_n hx hb dX1_findInverseAndOrder_46 rfl (lv_at hl 2 rfl) ?_
    obtain ⟨hi2, h⟩ := pz_wrE h
    refine pz_iast hB hK hP hD hS 3 rfl hi2 dX1_findInverseAndOrder_47 [(q_g, .inr (1, [.int g_family, .int g_n, .int g_size, .ref q_g_products, .ref q_g_inverses, .ref q_g_orders, .ref q_g_conjugates, .ref q_g_spans])), (q_g_products, .inl (cyI, 64, .inl g_products)), (q_g_inverses, .inl (cyI, 8, .inl u_11.2)), (q_g_orders, .inl (cyI, 8, .inl (upd g_orders (Int32.toNatClampNeg x1) u_11.1))), (q_g_conjugates, .inl (cyI, 64, .inl g_conjugates)), (q_g_spans, .inl (cyI, 256, .inl g_spans))] rfl (fun H locs hP hD hS => ?_)
    obtain rfl := Option.some.inj h
    rw [← hQ]
    exact pz_vret hB hP hD hS dX1_findInverseAndOrder_48
  have hL11 : ∀ (n : Nat) (x2_11 : Int32) (x3_11 : Int32) (g_inverses_11 : Nat → Int32) (H : Heap) (locs : List Loc) (ls : Array Slot), va_P D vwCl [(q_g, .inr (1, [.int g_family, .int g_n, .int g_size, .ref q_g_products, .ref q_g_inverses, .ref q_g_orders, .ref q_g_conjugates, .ref q_g_spans])), (q_g_products, .inl (cyI, 64, .inl g_products)), (q_g_inverses, .inl (cyI, 8, .inl g_inverses_11)), (q_g_orders, .inl (cyI, 8, .inl g_orders)), (q_g_conjugates, .inl (cyI, 64, .inl g_conjugates)), (q_g_spans, .inl (cyI, 256, .inl g_spans))] H → va_D A [(q_g, .inr (1, [.int g_family, .int g_n, .int g_size, .ref q_g_products, .ref q_g_inverses, .ref q_g_orders, .ref q_g_conjugates, .ref q_g_spans])), (q_g_products, .inl (cyI, 64, .inl g_products)), (q_g_inverses, .inl (cyI, 8, .inl g_inverses_11)), (q_g_orders, .inl (cyI, 8, .inl g_orders)), (q_g_conjugates, .inl (cyI, 64, .inl g_conjugates)), (q_g_spans, .inl (cyI, 256, .inl g_spans))] → va_S A s.heap H locs → lv_has ls 4 [(0, .ref q_g), (1, .int x1), (2, .int x2_11), (3, .int x3_11)] → pz_iter (fun (σ : Int32 × Int32 × (Nat → Int32)) => fX1_findInverseAndOrder_L11 x1 g_products σ.1 σ.2.1 σ.2.2) n (x2_11, x3_11, g_inverses_11) = some u_11 → W p l e ({ frames := 1, cells := 0, slots := 0, locals := 22 } : Room) s m args below meth c H locs 0 0 Q (F0 m 11 ls []) := by
    intro n
    induction n with
    | zero => intro x2_11 x3_11 g_inverses_11 H locs ls hP hD hS hl h; exact (pz_it0 h).elim
    | succ n ih =>
      intro x2_11 x3_11 g_inverses_11 H locs ls hP hD hS hl h
      obtain ⟨y_11, h, hk11⟩ := pz_itS h
      have h : fX1_findInverseAndOrder_L11 x1 g_products x2_11 x3_11 g_inverses_11 = some y_11 := h
      unfold fX1_findInverseAndOrder_L11 at h
      refine lv_iload_n hx hb dX1_findInverseAndOrder_11 rfl (lv_at hl 2 rfl) ?_
      refine lv_if_eq (tgt := 41) hx hb dX1_findInverseAndOrder_12 (by decide) (fun hc12 => ?_) (fun hc12 => ?_)
      · have h := pz_itT hc12 h
        obtain rfl := Option.some.inj h
        obtain rfl := pz_exit hk11
        exact hE11 _ _ _ hP hD hS (lv_sub hl [0, 1, 3] rfl)
      · have h := pz_itF hc12 h
        refine lv_iload_n hx hb dX1_findInverseAndOrder_15 rfl (lv_at hl 3 rfl) ?_
        refine lv_bipush (v := (8 : Int32)) hx hb dX1_findInverseAndOrder_16 (by decide) ?_
        refine lv_icmp_ge (tgt := 41) hx hb dX1_findInverseAndOrder_18 (by decide) (fun hc18 => ?_) (fun hc18 => ?_)
        · have h := pz_itT hc18 h
          obtain rfl := Option.some.inj h
          obtain rfl := pz_exit hk11
          exact hE11 _ _ _ hP hD hS (lv_sub hl [0, 1, 3] rfl)
        · have h := pz_itF hc18 h
          refine lv_aload_n hx hb dX1_findInverseAndOrder_21 rfl (lv_at hl 0 rfl) ?_
          refine pz_get pFX1_15 hB hK hP 0 rfl rfl dX1_findInverseAndOrder_22 ?_
          refine lv_iload_n hx hb dX1_findInverseAndOrder_25 rfl (lv_at hl 1 rfl) ?_
          refine lv_iload_n hx hb dX1_findInverseAndOrder_26 rfl (lv_at hl 2 rfl) ?_
          obtain ⟨hi3, h⟩ := pz_wrE h
          refine pz_iast hB hK hP hD hS 2 rfl hi3 dX1_findInverseAndOrder_27 [(q_g, .inr (1, [.int g_family, .int g_n, .int g_size, .ref q_g_products, .ref q_g_inverses, .ref q_g_orders, .ref q_g_conjugates, .ref q_g_spans])), (q_g_products, .inl (cyI, 64, .inl g_products)), (q_g_inverses, .inl (cyI, 8, .inl (upd g_inverses_11 (Int32.toNatClampNeg x1) x2_11))), (q_g_orders, .inl (cyI, 8, .inl g_orders)), (q_g_conjugates, .inl (cyI, 64, .inl g_conjugates)), (q_g_spans, .inl (cyI, 256, .inl g_spans))] rfl (fun H locs hP hD hS => ?_)
          refine lv_aload_n hx hb dX1_findInverseAndOrder_28 rfl (lv_at hl 0 rfl) ?_
          refine lv_iload_n hx hb dX1_findInverseAndOrder_29 rfl (lv_at hl 2 rfl) ?_
          refine lv_iload_n hx hb dX1_findInverseAndOrder_30 rfl (lv_at hl 1 rfl) ?_
          obtain ⟨t4, ht4, h⟩ := pz_bnd h
          refine pz_callIr (rest := []) pCX1_72 (kX1_product l D cyI q_g q_g_products q_g_inverses q_g_orders q_g_conjugates q_g_spans g_family g_n g_size g_products (upd g_inverses_11 (Int32.toNatClampNeg x1) x2_11) g_orders g_conjugates g_spans x2_11 x1 ht4) hB hK hP hD hS hA hl rfl rfl rfl ⟨Nat.le_of_ble_eq_true rfl, Nat.le_of_ble_eq_true rfl⟩ rfl rfl [0, 1, 2, 3, 4, 5] rfl (by decide) (Nat.le_of_ble_eq_true rfl) dX1_findInverseAndOrder_31 (Nat.zero_le _) (Nat.zero_le _) rfl (fun H locs hP hS => ?_)
          refine lv_istore_n (lv' := [(2, .int t4), (0, .ref q_g), (1, .int x1), (3, .int x3_11)]) hx hb dX1_findInverseAndOrder_34 rfl hl (by decide) rfl (fun ls hl => ?_)
          refine lv_iinc (v := (x3_11 + (1 : Int32))) (lv' := [(3, .int (x3_11 + (1 : Int32))), (2, .int t4), (0, .ref q_g), (1, .int x1)]) hx hb dX1_findInverseAndOrder_35 hl (k := 3) rfl (by rfl) (by decide) rfl (fun ls hl => ?_)
          refine lv_goto (tgt := 11) hx hb dX1_findInverseAndOrder_38 (by decide) ?_
          obtain rfl := Option.some.inj h
          exact ih t4 (x3_11 + (1 : Int32)) (upd g_inverses_11 (Int32.toNatClampNeg x1) x2_11) _ _ _ hP hD hS (lv_sub hl [2, 3, 1, 0] rfl) hk11
  exact hL11 pz_FUEL x1 (1 : Int32) (upd g_inverses (Int32.toNatClampNeg x1) (0 : Int32)) _ _ _ hP hD hS (lv_sub hl [2, 3, 1, 0] rfl) hu_11
set_option maxRecDepth 100000 in
set_option maxHeartbeats 4000000 in
theorem kX1_findConjugates (l : Launch) (D : va_G) (cyI : ClassId) (q_g q_g_products q_g_inverses q_g_orders q_g_conjugates q_g_spans : Nat) (g_family : Int32) (g_n : Int32) (g_size : Int32) (g_products : Nat → Int32) (g_inverses : Nat → Int32) (g_orders : Nat → Int32) (g_conjugates : Nat → Int32) (g_spans : Nat → Int32) {v : (Nat → Int32)} (h : fX1_findConjugates g_size g_products g_inverses g_conjugates = some v) : pz_MV l yX1_findConjugates cX1_findConjugates 3 ({ frames := 1, cells := 0, slots := 0, locals := 22 } : Room) [.ref q_g] D cyI [(q_g, .inr (1, [.int g_family, .int g_n, .int g_size, .ref q_g_products, .ref q_g_inverses, .ref q_g_orders, .ref q_g_conjugates, .ref q_g_spans])), (q_g_products, .inl (cyI, 64, .inl g_products)), (q_g_inverses, .inl (cyI, 8, .inl g_inverses)), (q_g_orders, .inl (cyI, 8, .inl g_orders)), (q_g_conjugates, .inl (cyI, 64, .inl g_conjugates)), (q_g_spans, .inl (cyI, 256, .inl g_spans))] [(q_g, .inr (1, [.int g_family, .int g_n, .int g_size, .ref q_g_products, .ref q_g_inverses, .ref q_g_orders, .ref q_g_conjugates, .ref q_g_spans])), (q_g_products, .inl (cyI, 64, .inl g_products)), (q_g_inverses, .inl (cyI, 8, .inl g_inverses)), (q_g_orders, .inl (cyI, 8, .inl g_orders)), (q_g_conjugates, .inl (cyI, 64, .inl v)), (q_g_spans, .inl (cyI, 256, .inl g_spans))] := by
  refine pz_ofV (by decide) (Nat.le_of_ble_eq_true rfl) ?_
  intro p e s m args below meth c A ls hB hP hK hD hS hA hl
  have hl : lv_has ls 3 [(0, .ref q_g)] := hl
  have hx := hB.1
  have hb := hB.2.1
  unfold fX1_findConjugates at h
  generalize hQ : pz_QV below args s D A [(q_g, .inr (1, [.int g_family, .int g_n, .int g_size, .ref q_g_products, .ref q_g_inverses, .ref q_g_orders, .ref q_g_conjugates, .ref q_g_spans])), (q_g_products, .inl (cyI, 64, .inl g_products)), (q_g_inverses, .inl (cyI, 8, .inl g_inverses)), (q_g_orders, .inl (cyI, 8, .inl g_orders)), (q_g_conjugates, .inl (cyI, 64, .inl v)), (q_g_spans, .inl (cyI, 256, .inl g_spans))] = Q
  refine lv_iconst (v := (0 : Int32)) hx hb dX1_findConjugates_0 (by decide) ?_
  refine lv_istore_n (lv' := [(1, .int (0 : Int32)), (0, .ref q_g)]) hx hb dX1_findConjugates_1 rfl hl (by decide) rfl (fun ls hl => ?_)
  obtain ⟨u_2, hu_2, h⟩ := pz_bnd h
  have hE2 : ∀ (H : Heap) (locs : List Loc) (ls : Array Slot), va_P D vwCl [(q_g, .inr (1, [.int g_family, .int g_n, .int g_size, .ref q_g_products, .ref q_g_inverses, .ref q_g_orders, .ref q_g_conjugates, .ref q_g_spans])), (q_g_products, .inl (cyI, 64, .inl g_products)), (q_g_inverses, .inl (cyI, 8, .inl g_inverses)), (q_g_orders, .inl (cyI, 8, .inl g_orders)), (q_g_conjugates, .inl (cyI, 64, .inl u_2)), (q_g_spans, .inl (cyI, 256, .inl g_spans))] H → va_D A [(q_g, .inr (1, [.int g_family, .int g_n, .int g_size, .ref q_g_products, .ref q_g_inverses, .ref q_g_orders, .ref q_g_conjugates, .ref q_g_spans])), (q_g_products, .inl (cyI, 64, .inl g_products)), (q_g_inverses, .inl (cyI, 8, .inl g_inverses)), (q_g_orders, .inl (cyI, 8, .inl g_orders)), (q_g_conjugates, .inl (cyI, 64, .inl u_2)), (q_g_spans, .inl (cyI, 256, .inl g_spans))] → va_S A s.heap H locs → lv_has ls 3 [] → W p l e ({ frames := 1, cells := 0, slots := 0, locals := 22 } : Room) s m args below meth c H locs 0 0 Q (F0 m 59 ls []) := by
    intro H locs ls hP hD hS hl
    obtain rfl := Option.some.inj h
    rw [← hQ]
    exact pz_vret hB hP hD hS dX1_findConjugates_59
  have hL2 : ∀ (n : Nat) (x1_2 : Int32) (g_conjugates_2 : Nat → Int32) (H : Heap) (locs : List Loc) (ls : Array Slot), va_P D vwCl [(q_g, .inr (1, [.int g_family, .int g_n, .int g_size, .ref q_g_products, .ref q_g_inverses, .ref q_g_orders, .ref q_g_conjugates, .ref q_g_spans])), (q_g_products, .inl (cyI, 64, .inl g_products)), (q_g_inverses, .inl (cyI, 8, .inl g_inverses)), (q_g_orders, .inl (cyI, 8, .inl g_orders)), (q_g_conjugates, .inl (cyI, 64, .inl g_conjugates_2)), (q_g_spans, .inl (cyI, 256, .inl g_spans))] H → va_D A [(q_g, .inr (1, [.int g_family, .int g_n, .int g_size, .ref q_g_products, .ref q_g_inverses, .ref q_g_orders, .ref q_g_conjugates, .ref q_g_spans])), (q_g_products, .inl (cyI, 64, .inl g_products)), (q_g_inverses, .inl (cyI, 8, .inl g_inverses)), (q_g_orders, .inl (cyI, 8, .inl g_orders)), (q_g_conjugates, .inl (cyI, 64, .inl g_conjugates_2)), (q_g_spans, .inl (cyI, 256, .inl g_spans))] → va_S A s.heap H locs → lv_has ls 3 [(0, .ref q_g), (1, .int x1_2)] → pz_iter (fun (σ : Int32 × (Nat → Int32)) => fX1_findConjugates_L2 g_size g_products g_inverses σ.1 σ.2) n (x1_2, g_conjugates_2) = some u_2 → W p l e ({ frames := 1, cells := 0, slots := 0, locals := 22 } : Room) s m args below meth c H locs 0 0 Q (F0 m 2 ls []) := by
    intro n
    induction n with
    | zero => intro x1_2 g_conjugates_2 H locs ls hP hD hS hl h; exact (pz_it0 h).elim
    | succ n ih =>
      intro x1_2 g_conjugates_2 H locs ls hP hD hS hl h
      obtain ⟨y_2, h, hk2⟩ := pz_itS h
      have h : fX1_findConjugates_L2 g_size g_products g_inverses x1_2 g_conjugates_2 = some y_2 := h
      unfold fX1_findConjugates_L2 at h
      refine lv_iload_n hx hb dX1_findConjugates_2 rfl (lv_at hl 1 rfl) ?_
      refine lv_aload_n hx hb dX1_findConjugates_3 rfl (lv_at hl 0 rfl) ?_
      refine pz_get pFX1_45 hB hK hP 0 rfl rfl dX1_findConjugates_4 ?_
      refine lv_icmp_ge (tgt := 59) hx hb dX1_findConjugates_7 (by decide) (fun hc7 => ?_) (fun hc7 => ?_)
      · have h := pz_itT hc7 h
        obtain rfl := Option.some.inj h
        obtain rfl := pz_exit hk2
        exact hE2 _ _ _ hP hD hS (lv_sub hl [] rfl)
      · have h := pz_itF hc7 h
        refine lv_iconst (v := (0 : Int32)) hx hb dX1_findConjugates_10 (by decide) ?_
        refine lv_istore_n (lv' := [(2, .int (0 : Int32)), (0, .ref q_g), (1, .int x1_2)]) hx hb dX1_findConjugates_11 rfl hl (by decide) rfl (fun ls hl => ?_)
        obtain ⟨u_12, hu_12, h⟩ := pz_bnd h
        have hE12 : ∀ (H : Heap) (locs : List Loc) (ls : Array Slot), va_P D vwCl [(q_g, .inr (1, [.int g_family, .int g_n, .int g_size, .ref q_g_products, .ref q_g_inverses, .ref q_g_orders, .ref q_g_conjugates, .ref q_g_spans])), (q_g_products, .inl (cyI, 64, .inl g_products)), (q_g_inverses, .inl (cyI, 8, .inl g_inverses)), (q_g_orders, .inl (cyI, 8, .inl g_orders)), (q_g_conjugates, .inl (cyI, 64, .inl u_12)), (q_g_spans, .inl (cyI, 256, .inl g_spans))] H → va_D A [(q_g, .inr (1, [.int g_family, .int g_n, .int g_size, .ref q_g_products, .ref q_g_inverses, .ref q_g_orders, .ref q_g_conjugates, .ref q_g_spans])), (q_g_products, .inl (cyI, 64, .inl g_products)), (q_g_inverses, .inl (cyI, 8, .inl g_inverses)), (q_g_orders, .inl (cyI, 8, .inl g_orders)), (q_g_conjugates, .inl (cyI, 64, .inl u_12)), (q_g_spans, .inl (cyI, 256, .inl g_spans))] → va_S A s.heap H locs → lv_has ls 3 [(0, .ref q_g), (1, .int x1_2)] → W p l e ({ frames := 1, cells := 0, slots := 0, locals := 22 } : Room) s m args below meth c H locs 0 0 Q (F0 m 53 ls []) := by
          intro H locs ls hP hD hS hl
          refine lv_iinc (v := (x1_2 + (1 : Int32))) (lv' := [(1, .int (x1_2 + (1 : Int32))), (0, .ref q_g)]) hx hb dX1_findConjugates_53 hl (k := 1) rfl (by rfl) (by decide) rfl (fun ls hl => ?_)
          refine lv_goto (tgt := 2) hx hb dX1_findConjugates_56 (by decide) ?_
          obtain rfl := Option.some.inj h
          exact ih (x1_2 + (1 : Int32)) u_12 _ _ _ hP hD hS (lv_sub hl [1, 0] rfl) hk2
        have hL12 : ∀ (n : Nat) (x2_12 : Int32) (g_conjugates_12 : Nat → Int32) (H : Heap) (locs : List Loc) (ls : Array Slot), va_P D vwCl [(q_g, .inr (1, [.int g_family, .int g_n, .int g_size, .ref q_g_products, .ref q_g_inverses, .ref q_g_orders, .ref q_g_conjugates, .ref q_g_spans])), (q_g_products, .inl (cyI, 64, .inl g_products)), (q_g_inverses, .inl (cyI, 8, .inl g_inverses)), (q_g_orders, .inl (cyI, 8, .inl g_orders)), (q_g_conjugates, .inl (cyI, 64, .inl g_conjugates_12)), (q_g_spans, .inl (cyI, 256, .inl g_spans))] H → va_D A [(q_g, .inr (1, [.int g_family, .int g_n, .int g_size, .ref q_g_products, .ref q_g_inverses, .ref q_g_orders, .ref q_g_conjugates, .ref q_g_spans])), (q_g_products, .inl (cyI, 64, .inl g_products)), (q_g_inverses, .inl (cyI, 8, .inl g_inverses)), (q_g_orders, .inl (cyI, 8, .inl g_orders)), (q_g_conjugates, .inl (cyI, 64, .inl g_conjugates_12)), (q_g_spans, .inl (cyI, 256, .inl g_spans))] → va_S A s.heap H locs → lv_has ls 3 [(0, .ref q_g), (1, .int x1_2), (2, .int x2_12)] → pz_iter (fun (σ : Int32 × (Nat → Int32)) => fX1_findConjugates_L12 x1_2 g_size g_products g_inverses σ.1 σ.2) n (x2_12, g_conjugates_12) = some u_12 → W p l e ({ frames := 1, cells := 0, slots := 0, locals := 22 } : Room) s m args below meth c H locs 0 0 Q (F0 m 12 ls []) := by
          intro n
          induction n with
          | zero => intro x2_12 g_conjugates_12 H locs ls hP hD hS hl h; exact (pz_it0 h).elim
          | succ n ih =>
            intro x2_12 g_conjugates_12 H locs ls hP hD hS hl h
            obtain ⟨y_12, h, hk12⟩ := pz_itS h
            have h : fX1_findConjugates_L12 x1_2 g_size g_products g_inverses x2_12 g_conjugates_12 = some y_12 := h
            unfold fX1_findConjugates_L12 at h
            refine lv_iload_n hx hb dX1_findConjugates_12 rfl (lv_at hl 2 rfl) ?_
            refine lv_aload_n hx hb dX1_findConjugates_13 rfl (lv_at hl 0 rfl) ?_
            refine pz_get pFX1_45 hB hK hP 0 rfl rfl dX1_findConjugates_14 ?_
            refine lv_icmp_ge (tgt := 53) hx hb dX1_findConjugates_17 (by decide) (fun hc17 => ?_) (fun hc17 => ?_)
            · have h := pz_itT hc17 h
              obtain rfl := Option.some.inj h
              obtain rfl := pz_exit hk12
              exact hE12 _ _ _ hP hD hS (lv_sub hl [0, 1] rfl)
            · have h := pz_itF hc17 h
              refine lv_aload_n hx hb dX1_findConjugates_20 rfl (lv_at hl 0 rfl) ?_
              refine pz_get pFX1_21 hB hK hP 0 rfl rfl dX1_findConjugates_21 ?_
              refine lv_iload_n hx hb dX1_findConjugates_24 rfl (lv_at hl 1 rfl) ?_
              refine lv_bipush (v := (8 : Int32)) hx hb dX1_findConjugates_25 (by decide) ?_
              refine lv_imul hx hb dX1_findConjugates_27 ?_
              refine lv_iload_n hx hb dX1_findConjugates_28 rfl (lv_at hl 2 rfl) ?_
              refine lv_iadd hx hb dX1_findConjugates_29 ?_
              refine lv_aload_n hx hb dX1_findConjugates_30 rfl (lv_at hl 0 rfl) ?_
              refine lv_aload_n hx hb dX1_findConjugates_31 rfl (lv_at hl 0 rfl) ?_
              refine lv_aload_n hx hb dX1_findConjugates_32 rfl (lv_at hl 0 rfl) ?_
              refine pz_get pFX1_15 hB hK hP 0 rfl rfl dX1_findConjugates_33 ?_
              refine lv_iload_n hx hb dX1_findConjugates_36 rfl (lv_at hl 2 rfl) ?_
              obtain ⟨hi1, h⟩ := pz_rdE h
              refine pz_iald hB hK hP 2 rfl hi1 dX1_findConjugates_37 ?_
              refine lv_iload_n hx hb dX1_findConjugates_38 rfl (lv_at hl 1 rfl) ?_
              obtain ⟨t2, ht2, h⟩ := pz_bnd h
              refine pz_callIr (rest := [.ref q_g, .int ((x1_2 * (8 : Int32)) + x2_12), .ref q_g_conjugates]) pCX1_72 (kX1_product l D cyI q_g q_g_products q_g_inverses q_g_orders q_g_conjugates q_g_spans g_family g_n g_size g_products g_inverses g_orders g_conjugates_12 g_spans (g_inverses (Int32.toNatClampNeg x2_12)) x1_2 ht2) hB hK hP hD hS hA hl rfl rfl rfl ⟨Nat.le_of_ble_eq_true rfl, Nat.le_of_ble_eq_true rfl⟩ rfl rfl [0, 1, 2, 3, 4, 5] rfl (by decide) (Nat.le_of_ble_eq_true rfl) dX1_findConjugates_39 (Nat.zero_le _) (Nat.zero_le _) rfl (fun H locs hP hS => ?_)
              refine lv_iload_n hx hb dX1_findConjugates_42 rfl (lv_at hl 2 rfl) ?_
              obtain ⟨t3, ht3, h⟩ := pz_bnd h
              refine pz_callIr (rest := [.int ((x1_2 * (8 : Int32)) + x2_12), .ref q_g_conjugates]) pCX1_72 (kX1_product l D cyI q_g q_g_products q_g_inverses q_g_orders q_g_conjugates q_g_spans g_family g_n g_size g_products g_inverses g_orders g_conjugates_12 g_spans t2 x2_12 ht3) hB hK hP hD hS hA hl rfl rfl rfl ⟨Nat.le_of_ble_eq_true rfl, Nat.le_of_ble_eq_true rfl⟩ rfl rfl [0, 1, 2, 3, 4, 5] rfl (by decide) (Nat.le_of_ble_eq_true rfl) dX1_findConjugates_43 (Nat.zero_le _) (Nat.zero_le _) rfl (fun H locs hP hS => ?_)
              obtain ⟨hi4, h⟩ := pz_wrE h
              refine pz_iast hB hK hP hD hS 4 rfl hi4 dX1_findConjugates_46 [(q_g, .inr (1, [.int g_family, .int g_n, .int g_size, .ref q_g_products, .ref q_g_inverses, .ref q_g_orders, .ref q_g_conjugates, .ref q_g_spans])), (q_g_products, .inl (cyI, 64, .inl g_products)), (q_g_inverses, .inl (cyI, 8, .inl g_inverses)), (q_g_orders, .inl (cyI, 8, .inl g_orders)), (q_g_conjugates, .inl (cyI, 64, .inl (upd g_conjugates_12 (Int32.toNatClampNeg ((x1_2 * (8 : Int32)) + x2_12)) t3))), (q_g_spans, .inl (cyI, 256, .inl g_spans))] rfl (fun H locs hP hD hS => ?_)
              refine lv_iinc (v := (x2_12 + (1 : Int32))) (lv' := [(2, .int (x2_12 + (1 : Int32))), (0, .ref q_g), (1, .int x1_2)]) hx hb dX1_findConjugates_47 hl (k := 2) rfl (by rfl) (by decide) rfl (fun ls hl => ?_)
              refine lv_goto (tgt := 12) hx hb dX1_findConjugates_50 (by decide) ?_
              obtain rfl := Option.some.inj h
              exact ih (x2_12 + (1 : Int32)) (upd g_conjugates_12 (Int32.toNatClampNeg ((x1_2 * (8 : Int32)) + x2_12)) t3) _ _ _ hP hD hS (lv_sub hl [1, 2, 0] rfl) hk12
        exact hL12 pz_FUEL (0 : Int32) g_conjugates_2 _ _ _ hP hD hS (lv_sub hl [1, 2, 0] rfl) hu_12
  exact hL2 pz_FUEL (0 : Int32) g_conjugates _ _ _ hP hD hS (lv_sub hl [1, 0] rfl) hu_2
set_option maxRecDepth 100000 in
set_option maxHeartbeats 4000000 in
theorem kX1_productWithSet (l : Launch) (D : va_G) (cyI : ClassId) (q_g q_g_products q_g_inverses q_g_orders q_g_conjugates q_g_spans : Nat) (g_family : Int32) (g_n : Int32) (g_size : Int32) (g_products : Nat → Int32) (g_inverses : Nat → Int32) (g_orders : Nat → Int32) (g_conjugates : Nat → Int32) (g_spans : Nat → Int32) (x1 : Int32) (x2 : Int32) {v : Int32} (h : fX1_productWithSet x1 x2 g_size g_products = some v) : pz_MI l yX1_productWithSet cX1_productWithSet 5 .int ({ frames := 0, cells := 0, slots := 0, locals := 0 } : Room) [.ref q_g, .int x1, .int x2] D cyI [(q_g, .inr (1, [.int g_family, .int g_n, .int g_size, .ref q_g_products, .ref q_g_inverses, .ref q_g_orders, .ref q_g_conjugates, .ref q_g_spans])), (q_g_products, .inl (cyI, 64, .inl g_products)), (q_g_inverses, .inl (cyI, 8, .inl g_inverses)), (q_g_orders, .inl (cyI, 8, .inl g_orders)), (q_g_conjugates, .inl (cyI, 64, .inl g_conjugates)), (q_g_spans, .inl (cyI, 256, .inl g_spans))] v [(q_g, .inr (1, [.int g_family, .int g_n, .int g_size, .ref q_g_products, .ref q_g_inverses, .ref q_g_orders, .ref q_g_conjugates, .ref q_g_spans])), (q_g_products, .inl (cyI, 64, .inl g_products)), (q_g_inverses, .inl (cyI, 8, .inl g_inverses)), (q_g_orders, .inl (cyI, 8, .inl g_orders)), (q_g_conjugates, .inl (cyI, 64, .inl g_conjugates)), (q_g_spans, .inl (cyI, 256, .inl g_spans))] := by
  refine pz_ofI (by decide) (Nat.le_of_ble_eq_true rfl) ?_
  intro p e s m args below meth c A ls hB hP hK hD hS hA hl
  have hl : lv_has ls 5 [(0, .ref q_g), (1, .int x1), (2, .int x2)] := hl
  have hx := hB.1
  have hb := hB.2.1
  unfold fX1_productWithSet at h
  generalize hQ : pz_QI below args s D A v [(q_g, .inr (1, [.int g_family, .int g_n, .int g_size, .ref q_g_products, .ref q_g_inverses, .ref q_g_orders, .ref q_g_conjugates, .ref q_g_spans])), (q_g_products, .inl (cyI, 64, .inl g_products)), (q_g_inverses, .inl (cyI, 8, .inl g_inverses)), (q_g_orders, .inl (cyI, 8, .inl g_orders)), (q_g_conjugates, .inl (cyI, 64, .inl g_conjugates)), (q_g_spans, .inl (cyI, 256, .inl g_spans))] = Q
  refine lv_iconst (v := (0 : Int32)) hx hb dX1_productWithSet_0 (by decide) ?_
  refine lv_istore_n (lv' := [(3, .int (0 : Int32)), (0, .ref q_g), (1, .int x1), (2, .int x2)]) hx hb dX1_productWithSet_1 rfl hl (by decide) rfl (fun ls hl => ?_)
  refine lv_iconst (v := (0 : Int32)) hx hb dX1_productWithSet_2 (by decide) ?_
  refine lv_istore (lv' := [(4, .int (0 : Int32)), (3, .int (0 : Int32)), (0, .ref q_g), (1, .int x1), (2, .int x2)]) hx hb dX1_productWithSet_3 hl (by decide) rfl (fun ls hl => ?_)
  obtain ⟨u_5, hu_5, h⟩ := pz_bnd h
  have hE5 : ∀ (H : Heap) (locs : List Loc) (ls : Array Slot), va_P D vwCl [(q_g, .inr (1, [.int g_family, .int g_n, .int g_size, .ref q_g_products, .ref q_g_inverses, .ref q_g_orders, .ref q_g_conjugates, .ref q_g_spans])), (q_g_products, .inl (cyI, 64, .inl g_products)), (q_g_inverses, .inl (cyI, 8, .inl g_inverses)), (q_g_orders, .inl (cyI, 8, .inl g_orders)), (q_g_conjugates, .inl (cyI, 64, .inl g_conjugates)), (q_g_spans, .inl (cyI, 256, .inl g_spans))] H → va_D A [(q_g, .inr (1, [.int g_family, .int g_n, .int g_size, .ref q_g_products, .ref q_g_inverses, .ref q_g_orders, .ref q_g_conjugates, .ref q_g_spans])), (q_g_products, .inl (cyI, 64, .inl g_products)), (q_g_inverses, .inl (cyI, 8, .inl g_inverses)), (q_g_orders, .inl (cyI, 8, .inl g_orders)), (q_g_conjugates, .inl (cyI, 64, .inl g_conjugates)), (q_g_spans, .inl (cyI, 256, .inl g_spans))] → va_S A s.heap H locs → lv_has ls 5 [(3, .int u_5)] → W p l e ({ frames := 0, cells := 0, slots := 0, locals := 0 } : Room) s m args below meth c H locs 0 0 Q (F0 m 47 ls []) := by
    intro H locs ls hP hD hS hl
    refine lv_iload_n hx hb dX1_productWithSet_47 rfl (lv_at hl 0 rfl) ?_
    obtain rfl := Option.some.inj h
    rw [← hQ]
    exact pz_iret hB hP hD hS dX1_productWithSet_48
  have hL5 : ∀ (n : Nat) (x3_5 : Int32) (x4_5 : Int32) (H : Heap) (locs : List Loc) (ls : Array Slot), va_P D vwCl [(q_g, .inr (1, [.int g_family, .int g_n, .int g_size, .ref q_g_products, .ref q_g_inverses, .ref q_g_orders, .ref q_g_conjugates, .ref q_g_spans])), (q_g_products, .inl (cyI, 64, .inl g_products)), (q_g_inverses, .inl (cyI, 8, .inl g_inverses)), (q_g_orders, .inl (cyI, 8, .inl g_orders)), (q_g_conjugates, .inl (cyI, 64, .inl g_conjugates)), (q_g_spans, .inl (cyI, 256, .inl g_spans))] H → va_D A [(q_g, .inr (1, [.int g_family, .int g_n, .int g_size, .ref q_g_products, .ref q_g_inverses, .ref q_g_orders, .ref q_g_conjugates, .ref q_g_spans])), (q_g_products, .inl (cyI, 64, .inl g_products)), (q_g_inverses, .inl (cyI, 8, .inl g_inverses)), (q_g_orders, .inl (cyI, 8, .inl g_orders)), (q_g_conjugates, .inl (cyI, 64, .inl g_conjugates)), (q_g_spans, .inl (cyI, 256, .inl g_spans))] → va_S A s.heap H locs → lv_has ls 5 [(0, .ref q_g), (1, .int x1), (2, .int x2), (3, .int x3_5), (4, .int x4_5)] → pz_iter (fun (σ : Int32 × Int32) => fX1_productWithSet_L5 x1 x2 g_size g_products σ.1 σ.2) n (x3_5, x4_5) = some u_5 → W p l e ({ frames := 0, cells := 0, slots := 0, locals := 0 } : Room) s m args below meth c H locs 0 0 Q (F0 m 5 ls []) := by
    intro n
    induction n with
    | zero => intro x3_5 x4_5 H locs ls hP hD hS hl h; exact (pz_it0 h).elim
    | succ n ih =>
      intro x3_5 x4_5 H locs ls hP hD hS hl h
      obtain ⟨y_5, h, hk5⟩ := pz_itS h
      have h : fX1_productWithSet_L5 x1 x2 g_size g_products x3_5 x4_5 = some y_5 := h
      unfold fX1_productWithSet_L5 at h
      refine lv_iload hx hb dX1_productWithSet_5 (lv_at hl 4 rfl) ?_
      refine lv_aload_n hx hb dX1_productWithSet_7 rfl (lv_at hl 0 rfl) ?_
      refine pz_get pFX1_45 hB hK hP 0 rfl rfl dX1_productWithSet_8 ?_
      refine lv_icmp_ge (tgt := 47) hx hb dX1_productWithSet_11 (by decide) (fun hc11 => ?_) (fun hc11 => ?_)
      · have h := pz_itT hc11 h
        obtain rfl := Option.some.inj h
        obtain rfl := pz_exit hk5
        exact hE5 _ _ _ hP hD hS (lv_sub hl [3] rfl)
      · have h := pz_itF hc11 h
        refine lv_iload_n hx hb dX1_productWithSet_14 rfl (lv_at hl 2 rfl) ?_
        refine lv_iload hx hb dX1_productWithSet_15 (lv_at hl 4 rfl) ?_
        refine lv_ishr hx hb dX1_productWithSet_17 ?_
        refine lv_iconst (v := (1 : Int32)) hx hb dX1_productWithSet_18 (by decide) ?_
        refine lv_iand hx hb dX1_productWithSet_19 ?_
        refine lv_iconst (v := (1 : Int32)) hx hb dX1_productWithSet_20 (by decide) ?_
        have hJ41 : ∀ (x3_j41 : Int32) (H : Heap) (locs : List Loc) (ls : Array Slot), va_P D vwCl [(q_g, .inr (1, [.int g_family, .int g_n, .int g_size, .ref q_g_products, .ref q_g_inverses, .ref q_g_orders, .ref q_g_conjugates, .ref q_g_spans])), (q_g_products, .inl (cyI, 64, .inl g_products)), (q_g_inverses, .inl (cyI, 8, .inl g_inverses)), (q_g_orders, .inl (cyI, 8, .inl g_orders)), (q_g_conjugates, .inl (cyI, 64, .inl g_conjugates)), (q_g_spans, .inl (cyI, 256, .inl g_spans))] H → va_D A [(q_g, .inr (1, [.int g_family, .int g_n, .int g_size, .ref q_g_products, .ref q_g_inverses, .ref q_g_orders, .ref q_g_conjugates, .ref q_g_spans])), (q_g_products, .inl (cyI, 64, .inl g_products)), (q_g_inverses, .inl (cyI, 8, .inl g_inverses)), (q_g_orders, .inl (cyI, 8, .inl g_orders)), (q_g_conjugates, .inl (cyI, 64, .inl g_conjugates)), (q_g_spans, .inl (cyI, 256, .inl g_spans))] → va_S A s.heap H locs → lv_has ls 5 [(0, .ref q_g), (1, .int x1), (2, .int x2), (3, .int x3_j41), (4, .int x4_5)] → fX1_productWithSet_J41L5 x3_j41 x4_5 = some y_5 → W p l e ({ frames := 0, cells := 0, slots := 0, locals := 0 } : Room) s m args below meth c H locs 0 0 Q (F0 m 41 ls []) := by
          intro x3_j41 H locs ls hP hD hS hl h
          unfold fX1_productWithSet_J41L5 at h
          refine lv_iinc (v := (x4_5 + (1 : Int32))) (lv' := [(4, .int (x4_5 + (1 : Int32))), (0, .ref q_g), (1, .int x1), (2, .int x2), (3, .int x3_j41)]) hx hb dX1_productWithSet_41 hl (k := 4) rfl (by rfl) (by decide) rfl (fun ls hl => ?_)
          refine lv_goto (tgt := 5) hx hb dX1_productWithSet_44 (by decide) ?_
          obtain rfl := Option.some.inj h
          exact ih x3_j41 (x4_5 + (1 : Int32)) _ _ _ hP hD hS (lv_sub hl [1, 2, 3, 4, 0] rfl) hk5
        refine lv_icmp_ne (tgt := 41) hx hb dX1_productWithSet_21 (by decide) (fun hc21 => ?_) (fun hc21 => ?_)
        · have h := pz_itF hc21 h
          exact hJ41 x3_5 _ _ _ hP hD hS (lv_sub hl [0, 1, 2, 3, 4] rfl) h
        · have h := pz_itT hc21 h
          refine lv_iload_n hx hb dX1_productWithSet_24 rfl (lv_at hl 3 rfl) ?_
          refine lv_iconst (v := (1 : Int32)) hx hb dX1_productWithSet_25 (by decide) ?_
          refine lv_aload_n hx hb dX1_productWithSet_26 rfl (lv_at hl 0 rfl) ?_
          refine pz_get pFX1_9 hB hK hP 0 rfl rfl dX1_productWithSet_27 ?_
          refine lv_iload_n hx hb dX1_productWithSet_30 rfl (lv_at hl 1 rfl) ?_
          refine lv_bipush (v := (8 : Int32)) hx hb dX1_productWithSet_31 (by decide) ?_
          refine lv_imul hx hb dX1_productWithSet_33 ?_
          refine lv_iload hx hb dX1_productWithSet_34 (lv_at hl 4 rfl) ?_
          refine lv_iadd hx hb dX1_productWithSet_36 ?_
          obtain ⟨hi1, h⟩ := pz_rdE h
          refine pz_iald hB hK hP 1 rfl hi1 dX1_productWithSet_37 ?_
          refine lv_ishl hx hb dX1_productWithSet_38 ?_
          refine lv_ior hx hb dX1_productWithSet_39 ?_
          refine lv_istore_n (lv' := [(3, .int (x3_5 ||| ((1 : Int32) <<< ((g_products (Int32.toNatClampNeg ((x1 * (8 : Int32)) + x4_5))) &&& 31)))), (0, .ref q_g), (1, .int x1), (2, .int x2), (4, .int x4_5)]) hx hb dX1_productWithSet_40 rfl hl (by decide) rfl (fun ls hl => ?_)
          exact hJ41 (x3_5 ||| ((1 : Int32) <<< ((g_products (Int32.toNatClampNeg ((x1 * (8 : Int32)) + x4_5))) &&& 31))) _ _ _ hP hD hS (lv_sub hl [1, 2, 3, 0, 4] rfl) h
  exact hL5 pz_FUEL (0 : Int32) (0 : Int32) _ _ _ hP hD hS (lv_sub hl [2, 3, 4, 1, 0] rfl) hu_5
set_option maxRecDepth 100000 in
set_option maxHeartbeats 4000000 in
theorem kX1_productOfSets (l : Launch) (D : va_G) (cyI : ClassId) (q_g q_g_products q_g_inverses q_g_orders q_g_conjugates q_g_spans : Nat) (g_family : Int32) (g_n : Int32) (g_size : Int32) (g_products : Nat → Int32) (g_inverses : Nat → Int32) (g_orders : Nat → Int32) (g_conjugates : Nat → Int32) (g_spans : Nat → Int32) (x1 : Int32) (x2 : Int32) {v : Int32} (h : fX1_productOfSets x1 x2 g_size g_products = some v) : pz_MI l yX1_productOfSets cX1_productOfSets 5 .int ({ frames := 1, cells := 0, slots := 0, locals := 24 } : Room) [.ref q_g, .int x1, .int x2] D cyI [(q_g, .inr (1, [.int g_family, .int g_n, .int g_size, .ref q_g_products, .ref q_g_inverses, .ref q_g_orders, .ref q_g_conjugates, .ref q_g_spans])), (q_g_products, .inl (cyI, 64, .inl g_products)), (q_g_inverses, .inl (cyI, 8, .inl g_inverses)), (q_g_orders, .inl (cyI, 8, .inl g_orders)), (q_g_conjugates, .inl (cyI, 64, .inl g_conjugates)), (q_g_spans, .inl (cyI, 256, .inl g_spans))] v [(q_g, .inr (1, [.int g_family, .int g_n, .int g_size, .ref q_g_products, .ref q_g_inverses, .ref q_g_orders, .ref q_g_conjugates, .ref q_g_spans])), (q_g_products, .inl (cyI, 64, .inl g_products)), (q_g_inverses, .inl (cyI, 8, .inl g_inverses)), (q_g_orders, .inl (cyI, 8, .inl g_orders)), (q_g_conjugates, .inl (cyI, 64, .inl g_conjugates)), (q_g_spans, .inl (cyI, 256, .inl g_spans))] := by
  refine pz_ofI (by decide) (Nat.le_of_ble_eq_true rfl) ?_
  intro p e s m args below meth c A ls hB hP hK hD hS hA hl
  have hl : lv_has ls 5 [(0, .ref q_g), (1, .int x1), (2, .int x2)] := hl
  have hx := hB.1
  have hb := hB.2.1
  unfold fX1_productOfSets at h
  generalize hQ : pz_QI below args s D A v [(q_g, .inr (1, [.int g_family, .int g_n, .int g_size, .ref q_g_products, .ref q_g_inverses, .ref q_g_orders, .ref q_g_conjugates, .ref q_g_spans])), (q_g_products, .inl (cyI, 64, .inl g_products)), (q_g_inverses, .inl (cyI, 8, .inl g_inverses)), (q_g_orders, .inl (cyI, 8, .inl g_orders)), (q_g_conjugates, .inl (cyI, 64, .inl g_conjugates)), (q_g_spans, .inl (cyI, 256, .inl g_spans))] = Q
  refine lv_iconst (v := (0 : Int32)) hx hb dX1_productOfSets_0 (by decide) ?_
  refine lv_istore_n (lv' := [(3, .int (0 : Int32)), (0, .ref q_g), (1, .int x1), (2, .int x2)]) hx hb dX1_productOfSets_1 rfl hl (by decide) rfl (fun ls hl => ?_)
  refine lv_iconst (v := (0 : Int32)) hx hb dX1_productOfSets_2 (by decide) ?_
  refine lv_istore (lv' := [(4, .int (0 : Int32)), (3, .int (0 : Int32)), (0, .ref q_g), (1, .int x1), (2, .int x2)]) hx hb dX1_productOfSets_3 hl (by decide) rfl (fun ls hl => ?_)
  obtain ⟨u_5, hu_5, h⟩ := pz_bnd h
  have hE5 : ∀ (H : Heap) (locs : List Loc) (ls : Array Slot), va_P D vwCl [(q_g, .inr (1, [.int g_family, .int g_n, .int g_size, .ref q_g_products, .ref q_g_inverses, .ref q_g_orders, .ref q_g_conjugates, .ref q_g_spans])), (q_g_products, .inl (cyI, 64, .inl g_products)), (q_g_inverses, .inl (cyI, 8, .inl g_inverses)), (q_g_orders, .inl (cyI, 8, .inl g_orders)), (q_g_conjugates, .inl (cyI, 64, .inl g_conjugates)), (q_g_spans, .inl (cyI, 256, .inl g_spans))] H → va_D A [(q_g, .inr (1, [.int g_family, .int g_n, .int g_size, .ref q_g_products, .ref q_g_inverses, .ref q_g_orders, .ref q_g_conjugates, .ref q_g_spans])), (q_g_products, .inl (cyI, 64, .inl g_products)), (q_g_inverses, .inl (cyI, 8, .inl g_inverses)), (q_g_orders, .inl (cyI, 8, .inl g_orders)), (q_g_conjugates, .inl (cyI, 64, .inl g_conjugates)), (q_g_spans, .inl (cyI, 256, .inl g_spans))] → va_S A s.heap H locs → lv_has ls 5 [(3, .int u_5)] → W p l e ({ frames := 1, cells := 0, slots := 0, locals := 24 } : Room) s m args below meth c H locs 0 0 Q (F0 m 40 ls []) := by
    intro H locs ls hP hD hS hl
    refine lv_iload_n hx hb dX1_productOfSets_40 rfl (lv_at hl 0 rfl) ?_
    obtain rfl := Option.some.inj h
    rw [← hQ]
    exact pz_iret hB hP hD hS dX1_productOfSets_41
  have hL5 : ∀ (n : Nat) (x3_5 : Int32) (x4_5 : Int32) (H : Heap) (locs : List Loc) (ls : Array Slot), va_P D vwCl [(q_g, .inr (1, [.int g_family, .int g_n, .int g_size, .ref q_g_products, .ref q_g_inverses, .ref q_g_orders, .ref q_g_conjugates, .ref q_g_spans])), (q_g_products, .inl (cyI, 64, .inl g_products)), (q_g_inverses, .inl (cyI, 8, .inl g_inverses)), (q_g_orders, .inl (cyI, 8, .inl g_orders)), (q_g_conjugates, .inl (cyI, 64, .inl g_conjugates)), (q_g_spans, .inl (cyI, 256, .inl g_spans))] H → va_D A [(q_g, .inr (1, [.int g_family, .int g_n, .int g_size, .ref q_g_products, .ref q_g_inverses, .ref q_g_orders, .ref q_g_conjugates, .ref q_g_spans])), (q_g_products, .inl (cyI, 64, .inl g_products)), (q_g_inverses, .inl (cyI, 8, .inl g_inverses)), (q_g_orders, .inl (cyI, 8, .inl g_orders)), (q_g_conjugates, .inl (cyI, 64, .inl g_conjugates)), (q_g_spans, .inl (cyI, 256, .inl g_spans))] → va_S A s.heap H locs → lv_has ls 5 [(0, .ref q_g), (1, .int x1), (2, .int x2), (3, .int x3_5), (4, .int x4_5)] → pz_iter (fun (σ : Int32 × Int32) => fX1_productOfSets_L5 x1 x2 g_size g_products σ.1 σ.2) n (x3_5, x4_5) = some u_5 → W p l e ({ frames := 1, cells := 0, slots := 0, locals := 24 } : Room) s m args below meth c H locs 0 0 Q (F0 m 5 ls []) := by
    intro n
    induction n with
    | zero => intro x3_5 x4_5 H locs ls hP hD hS hl h; exact (pz_it0 h).elim
    | succ n ih =>
      intro x3_5 x4_5 H locs ls hP hD hS hl h
      obtain ⟨y_5, h, hk5⟩ := pz_itS h
      have h : fX1_productOfSets_L5 x1 x2 g_size g_products x3_5 x4_5 = some y_5 := h
      unfold fX1_productOfSets_L5 at h
      refine lv_iload hx hb dX1_productOfSets_5 (lv_at hl 4 rfl) ?_
      refine lv_aload_n hx hb dX1_productOfSets_7 rfl (lv_at hl 0 rfl) ?_
      refine pz_get pFX1_45 hB hK hP 0 rfl rfl dX1_productOfSets_8 ?_
      refine lv_icmp_ge (tgt := 40) hx hb dX1_productOfSets_11 (by decide) (fun hc11 => ?_) (fun hc11 => ?_)
      · have h := pz_itT hc11 h
        obtain rfl := Option.some.inj h
        obtain rfl := pz_exit hk5
        exact hE5 _ _ _ hP hD hS (lv_sub hl [3] rfl)
      · have h := pz_itF hc11 h
        refine lv_iload_n hx hb dX1_productOfSets_14 rfl (lv_at hl 1 rfl) ?_
        refine lv_iload hx hb dX1_productOfSets_15 (lv_at hl 4 rfl) ?_
        refine lv_ishr hx hb dX1_productOfSets_17 ?_
        refine lv_iconst (v := (1 : Int32)) hx hb dX1_productOfSets_18 (by decide) ?_
        refine lv_iand hx hb dX1_productOfSets_19 ?_
        refine lv_iconst (v := (1 : Int32)) hx hb dX1_productOfSets_20 (by decide) ?_
        have hJ34 : ∀ (x3_j34 : Int32) (H : Heap) (locs : List Loc) (ls : Array Slot), va_P D vwCl [(q_g, .inr (1, [.int g_family, .int g_n, .int g_size, .ref q_g_products, .ref q_g_inverses, .ref q_g_orders, .ref q_g_conjugates, .ref q_g_spans])), (q_g_products, .inl (cyI, 64, .inl g_products)), (q_g_inverses, .inl (cyI, 8, .inl g_inverses)), (q_g_orders, .inl (cyI, 8, .inl g_orders)), (q_g_conjugates, .inl (cyI, 64, .inl g_conjugates)), (q_g_spans, .inl (cyI, 256, .inl g_spans))] H → va_D A [(q_g, .inr (1, [.int g_family, .int g_n, .int g_size, .ref q_g_products, .ref q_g_inverses, .ref q_g_orders, .ref q_g_conjugates, .ref q_g_spans])), (q_g_products, .inl (cyI, 64, .inl g_products)), (q_g_inverses, .inl (cyI, 8, .inl g_inverses)), (q_g_orders, .inl (cyI, 8, .inl g_orders)), (q_g_conjugates, .inl (cyI, 64, .inl g_conjugates)), (q_g_spans, .inl (cyI, 256, .inl g_spans))] → va_S A s.heap H locs → lv_has ls 5 [(0, .ref q_g), (1, .int x1), (2, .int x2), (3, .int x3_j34), (4, .int x4_5)] → fX1_productOfSets_J34L5 x3_j34 x4_5 = some y_5 → W p l e ({ frames := 1, cells := 0, slots := 0, locals := 24 } : Room) s m args below meth c H locs 0 0 Q (F0 m 34 ls []) := by
          intro x3_j34 H locs ls hP hD hS hl h
          unfold fX1_productOfSets_J34L5 at h
          refine lv_iinc (v := (x4_5 + (1 : Int32))) (lv' := [(4, .int (x4_5 + (1 : Int32))), (0, .ref q_g), (1, .int x1), (2, .int x2), (3, .int x3_j34)]) hx hb dX1_productOfSets_34 hl (k := 4) rfl (by rfl) (by decide) rfl (fun ls hl => ?_)
          refine lv_goto (tgt := 5) hx hb dX1_productOfSets_37 (by decide) ?_
          obtain rfl := Option.some.inj h
          exact ih x3_j34 (x4_5 + (1 : Int32)) _ _ _ hP hD hS (lv_sub hl [1, 2, 3, 4, 0] rfl) hk5
        refine lv_icmp_ne (tgt := 34) hx hb dX1_productOfSets_21 (by decide) (fun hc21 => ?_) (fun hc21 => ?_)
        · have h := pz_itF hc21 h
          exact hJ34 x3_5 _ _ _ hP hD hS (lv_sub hl [0, 1, 2, 3, 4] rfl) h
        · have h := pz_itT hc21 h
          refine lv_iload_n hx hb dX1_productOfSets_24 rfl (lv_at hl 3 rfl) ?_
          refine lv_aload_n hx hb dX1_productOfSets_25 rfl (lv_at hl 0 rfl) ?_
          refine lv_iload hx hb dX1_productOfSets_26 (lv_at hl 4 rfl) ?_
          refine lv_iload_n hx hb dX1_productOfSets_28 rfl (lv_at hl 2 rfl) ?_
          obtain ⟨t1, ht1, h⟩ := pz_bnd h
          refine pz_callIr (rest := [.int x3_5]) pCX1_90 (kX1_productWithSet l D cyI q_g q_g_products q_g_inverses q_g_orders q_g_conjugates q_g_spans g_family g_n g_size g_products g_inverses g_orders g_conjugates g_spans x4_5 x2 ht1) hB hK hP hD hS hA hl rfl rfl rfl ⟨Nat.le_of_ble_eq_true rfl, Nat.le_of_ble_eq_true rfl⟩ rfl rfl [0, 1, 2, 3, 4, 5] rfl (by decide) (Nat.le_of_ble_eq_true rfl) dX1_productOfSets_29 (Nat.zero_le _) (Nat.zero_le _) rfl (fun H locs hP hS => ?_)
          refine lv_ior hx hb dX1_productOfSets_32 ?_
          refine lv_istore_n (lv' := [(3, .int (x3_5 ||| t1)), (0, .ref q_g), (1, .int x1), (2, .int x2), (4, .int x4_5)]) hx hb dX1_productOfSets_33 rfl hl (by decide) rfl (fun ls hl => ?_)
          exact hJ34 (x3_5 ||| t1) _ _ _ hP hD hS (lv_sub hl [1, 2, 3, 0, 4] rfl) h
  exact hL5 pz_FUEL (0 : Int32) (0 : Int32) _ _ _ hP hD hS (lv_sub hl [2, 3, 4, 1, 0] rfl) hu_5
set_option maxRecDepth 100000 in
set_option maxHeartbeats 4000000 in
theorem kX1_grownToSpan (l : Launch) (D : va_G) (cyI : ClassId) (q_g q_g_products q_g_inverses q_g_orders q_g_conjugates q_g_spans : Nat) (g_family : Int32) (g_n : Int32) (g_size : Int32) (g_products : Nat → Int32) (g_inverses : Nat → Int32) (g_orders : Nat → Int32) (g_conjugates : Nat → Int32) (g_spans : Nat → Int32) (x1 : Int32) {v : Int32} (h : fX1_grownToSpan x1 g_size g_products = some v) : pz_MI l yX1_grownToSpan cX1_grownToSpan 5 .int ({ frames := 2, cells := 0, slots := 0, locals := 48 } : Room) [.ref q_g, .int x1] D cyI [(q_g, .inr (1, [.int g_family, .int g_n, .int g_size, .ref q_g_products, .ref q_g_inverses, .ref q_g_orders, .ref q_g_conjugates, .ref q_g_spans])), (q_g_products, .inl (cyI, 64, .inl g_products)), (q_g_inverses, .inl (cyI, 8, .inl g_inverses)), (q_g_orders, .inl (cyI, 8, .inl g_orders)), (q_g_conjugates, .inl (cyI, 64, .inl g_conjugates)), (q_g_spans, .inl (cyI, 256, .inl g_spans))] v [(q_g, .inr (1, [.int g_family, .int g_n, .int g_size, .ref q_g_products, .ref q_g_inverses, .ref q_g_orders, .ref q_g_conjugates, .ref q_g_spans])), (q_g_products, .inl (cyI, 64, .inl g_products)), (q_g_inverses, .inl (cyI, 8, .inl g_inverses)), (q_g_orders, .inl (cyI, 8, .inl g_orders)), (q_g_conjugates, .inl (cyI, 64, .inl g_conjugates)), (q_g_spans, .inl (cyI, 256, .inl g_spans))] := by
  refine pz_ofI (by decide) (Nat.le_of_ble_eq_true rfl) ?_
  intro p e s m args below meth c A ls hB hP hK hD hS hA hl
  have hl : lv_has ls 5 [(0, .ref q_g), (1, .int x1)] := hl
  have hx := hB.1
  have hb := hB.2.1
  unfold fX1_grownToSpan at h
  generalize hQ : pz_QI below args s D A v [(q_g, .inr (1, [.int g_family, .int g_n, .int g_size, .ref q_g_products, .ref q_g_inverses, .ref q_g_orders, .ref q_g_conjugates, .ref q_g_spans])), (q_g_products, .inl (cyI, 64, .inl g_products)), (q_g_inverses, .inl (cyI, 8, .inl g_inverses)), (q_g_orders, .inl (cyI, 8, .inl g_orders)), (q_g_conjugates, .inl (cyI, 64, .inl g_conjugates)), (q_g_spans, .inl (cyI, 256, .inl g_spans))] = Q
  refine lv_iload_n hx hb dX1_grownToSpan_0 rfl (lv_at hl 1 rfl) ?_
  refine lv_istore_n (lv' := [(2, .int x1), (0, .ref q_g), (1, .int x1)]) hx hb dX1_grownToSpan_1 rfl hl (by decide) rfl (fun ls hl => ?_)
  refine lv_iconst (v := (0 : Int32)) hx hb dX1_grownToSpan_2 (by decide) ?_
  refine lv_istore_n (lv' := [(3, .int (0 : Int32)), (2, .int x1), (0, .ref q_g), (1, .int x1)]) hx hb dX1_grownToSpan_3 rfl hl (by decide) rfl (fun ls hl => ?_)
  obtain ⟨u_4, hu_4, h⟩ := pz_bnd h
  have hz4 := h
  have hE4 : ∀ (uu_4 : Int32), u_4 = Sum.inl uu_4 → ∀ (H : Heap) (locs : List Loc) (ls : Array Slot), va_P D vwCl [(q_g, .inr (1, [.int g_family, .int g_n, .int g_size, .ref q_g_products, .ref q_g_inverses, .ref q_g_orders, .ref q_g_conjugates, .ref q_g_spans])), (q_g_products, .inl (cyI, 64, .inl g_products)), (q_g_inverses, .inl (cyI, 8, .inl g_inverses)), (q_g_orders, .inl (cyI, 8, .inl g_orders)), (q_g_conjugates, .inl (cyI, 64, .inl g_conjugates)), (q_g_spans, .inl (cyI, 256, .inl g_spans))] H → va_D A [(q_g, .inr (1, [.int g_family, .int g_n, .int g_size, .ref q_g_products, .ref q_g_inverses, .ref q_g_orders, .ref q_g_conjugates, .ref q_g_spans])), (q_g_products, .inl (cyI, 64, .inl g_products)), (q_g_inverses, .inl (cyI, 8, .inl g_inverses)), (q_g_orders, .inl (cyI, 8, .inl g_orders)), (q_g_conjugates, .inl (cyI, 64, .inl g_conjugates)), (q_g_spans, .inl (cyI, 256, .inl g_spans))] → va_S A s.heap H locs → lv_has ls 5 [(2, .int uu_4)] → W p l e ({ frames := 2, cells := 0, slots := 0, locals := 48 } : Room) s m args below meth c H locs 0 0 Q (F0 m 36 ls []) := by
    intro uu_4 huu H locs ls hP hD hS hl
    have h := pz_elimL huu hz4
    refine lv_iload_n hx hb dX1_grownToSpan_36 rfl (lv_at hl 0 rfl) ?_
    obtain rfl := Option.some.inj h
    rw [← hQ]
    exact pz_iret hB hP hD hS dX1_grownToSpan_37
  have hL4 : ∀ (n : Nat) (x2_4 : Int32) (x3_4 : Int32) (H : Heap) (locs : List Loc) (ls : Array Slot), va_P D vwCl [(q_g, .inr (1, [.int g_family, .int g_n, .int g_size, .ref q_g_products, .ref q_g_inverses, .ref q_g_orders, .ref q_g_conjugates, .ref q_g_spans])), (q_g_products, .inl (cyI, 64, .inl g_products)), (q_g_inverses, .inl (cyI, 8, .inl g_inverses)), (q_g_orders, .inl (cyI, 8, .inl g_orders)), (q_g_conjugates, .inl (cyI, 64, .inl g_conjugates)), (q_g_spans, .inl (cyI, 256, .inl g_spans))] H → va_D A [(q_g, .inr (1, [.int g_family, .int g_n, .int g_size, .ref q_g_products, .ref q_g_inverses, .ref q_g_orders, .ref q_g_conjugates, .ref q_g_spans])), (q_g_products, .inl (cyI, 64, .inl g_products)), (q_g_inverses, .inl (cyI, 8, .inl g_inverses)), (q_g_orders, .inl (cyI, 8, .inl g_orders)), (q_g_conjugates, .inl (cyI, 64, .inl g_conjugates)), (q_g_spans, .inl (cyI, 256, .inl g_spans))] → va_S A s.heap H locs → lv_has ls 5 [(0, .ref q_g), (2, .int x2_4), (3, .int x3_4)] → pz_iter (fun (σ : Int32 × Int32) => fX1_grownToSpan_L4 g_size g_products σ.1 σ.2) n (x2_4, x3_4) = some u_4 → W p l e ({ frames := 2, cells := 0, slots := 0, locals := 48 } : Room) s m args below meth c H locs 0 0 Q (F0 m 4 ls []) := by
    intro n
    induction n with
    | zero => intro x2_4 x3_4 H locs ls hP hD hS hl h; exact (pz_it0 h).elim
    | succ n ih =>
      intro x2_4 x3_4 H locs ls hP hD hS hl h
      obtain ⟨y_4, h, hk4⟩ := pz_itS h
      have h : fX1_grownToSpan_L4 g_size g_products x2_4 x3_4 = some y_4 := h
      unfold fX1_grownToSpan_L4 at h
      refine lv_iload_n hx hb dX1_grownToSpan_4 rfl (lv_at hl 2 rfl) ?_
      refine lv_bipush (v := (8 : Int32)) hx hb dX1_grownToSpan_5 (by decide) ?_
      refine lv_icmp_ge (tgt := 36) hx hb dX1_grownToSpan_7 (by decide) (fun hc7 => ?_) (fun hc7 => ?_)
      · have h := pz_itT hc7 h
        obtain rfl := Option.some.inj h
        exact hE4 x2_4 (pz_exitI hk4) _ _ _ hP hD hS (lv_sub hl [1] rfl)
      · have h := pz_itF hc7 h
        refine lv_aload_n hx hb dX1_grownToSpan_10 rfl (lv_at hl 0 rfl) ?_
        refine lv_iload_n hx hb dX1_grownToSpan_11 rfl (lv_at hl 1 rfl) ?_
        refine lv_iload_n hx hb dX1_grownToSpan_12 rfl (lv_at hl 1 rfl) ?_
        obtain ⟨t1, ht1, h⟩ := pz_bnd h
        refine pz_callIr (rest := []) pCX1_78 (kX1_productOfSets l D cyI q_g q_g_products q_g_inverses q_g_orders q_g_conjugates q_g_spans g_family g_n g_size g_products g_inverses g_orders g_conjugates g_spans x2_4 x2_4 ht1) hB hK hP hD hS hA hl rfl rfl rfl ⟨Nat.le_of_ble_eq_true rfl, Nat.le_of_ble_eq_true rfl⟩ rfl rfl [0, 1, 2, 3, 4, 5] rfl (by decide) (Nat.le_of_ble_eq_true rfl) dX1_grownToSpan_13 (Nat.zero_le _) (Nat.zero_le _) rfl (fun H locs hP hS => ?_)
        refine lv_istore (lv' := [(4, .int t1), (0, .ref q_g), (2, .int x2_4), (3, .int x3_4)]) hx hb dX1_grownToSpan_16 hl (by decide) rfl (fun ls hl => ?_)
        refine lv_iload hx hb dX1_grownToSpan_18 (lv_at hl 0 rfl) ?_
        refine lv_iload_n hx hb dX1_grownToSpan_20 rfl (lv_at hl 2 rfl) ?_
        refine lv_icmp_ne (tgt := 27) hx hb dX1_grownToSpan_21 (by decide) (fun hc21 => ?_) (fun hc21 => ?_)
        · have h := pz_itF hc21 h
          refine lv_iload hx hb dX1_grownToSpan_27 (lv_at hl 0 rfl) ?_
          refine lv_istore_n (lv' := [(2, .int t1), (4, .int t1), (0, .ref q_g), (3, .int x3_4)]) hx hb dX1_grownToSpan_29 rfl hl (by decide) rfl (fun ls hl => ?_)
          refine lv_iinc (v := (x3_4 + (1 : Int32))) (lv' := [(3, .int (x3_4 + (1 : Int32))), (2, .int t1), (4, .int t1), (0, .ref q_g)]) hx hb dX1_grownToSpan_30 hl (k := 3) rfl (by rfl) (by decide) rfl (fun ls hl => ?_)
          refine lv_goto (tgt := 4) hx hb dX1_grownToSpan_33 (by decide) ?_
          obtain rfl := Option.some.inj h
          exact ih t1 (x3_4 + (1 : Int32)) _ _ _ hP hD hS (lv_sub hl [3, 1, 0] rfl) hk4
        · have h := pz_itT hc21 h
          refine lv_goto (tgt := 36) hx hb dX1_grownToSpan_24 (by decide) ?_
          obtain rfl := Option.some.inj h
          exact hE4 x2_4 (pz_exitI hk4) _ _ _ hP hD hS (lv_sub hl [2] rfl)
  exact hL4 pz_FUEL x1 (0 : Int32) _ _ _ hP hD hS (lv_sub hl [2, 1, 0] rfl) hu_4
set_option maxRecDepth 100000 in
set_option maxHeartbeats 4000000 in
theorem kX1_findSpans (l : Launch) (D : va_G) (cyI : ClassId) (q_g q_g_products q_g_inverses q_g_orders q_g_conjugates q_g_spans : Nat) (g_family : Int32) (g_n : Int32) (g_size : Int32) (g_products : Nat → Int32) (g_inverses : Nat → Int32) (g_orders : Nat → Int32) (g_conjugates : Nat → Int32) (g_spans : Nat → Int32) {v : (Nat → Int32)} (h : fX1_findSpans g_size g_products g_spans = some v) : pz_MV l yX1_findSpans cX1_findSpans 5 ({ frames := 3, cells := 0, slots := 0, locals := 72 } : Room) [.ref q_g] D cyI [(q_g, .inr (1, [.int g_family, .int g_n, .int g_size, .ref q_g_products, .ref q_g_inverses, .ref q_g_orders, .ref q_g_conjugates, .ref q_g_spans])), (q_g_products, .inl (cyI, 64, .inl g_products)), (q_g_inverses, .inl (cyI, 8, .inl g_inverses)), (q_g_orders, .inl (cyI, 8, .inl g_orders)), (q_g_conjugates, .inl (cyI, 64, .inl g_conjugates)), (q_g_spans, .inl (cyI, 256, .inl g_spans))] [(q_g, .inr (1, [.int g_family, .int g_n, .int g_size, .ref q_g_products, .ref q_g_inverses, .ref q_g_orders, .ref q_g_conjugates, .ref q_g_spans])), (q_g_products, .inl (cyI, 64, .inl g_products)), (q_g_inverses, .inl (cyI, 8, .inl g_inverses)), (q_g_orders, .inl (cyI, 8, .inl g_orders)), (q_g_conjugates, .inl (cyI, 64, .inl g_conjugates)), (q_g_spans, .inl (cyI, 256, .inl v))] := by
  refine pz_ofV (by decide) (Nat.le_of_ble_eq_true rfl) ?_
  intro p e s m args below meth c A ls hB hP hK hD hS hA hl
  have hl : lv_has ls 5 [(0, .ref q_g)] := hl
  have hx := hB.1
  have hb := hB.2.1
  unfold fX1_findSpans at h
  generalize hQ : pz_QV below args s D A [(q_g, .inr (1, [.int g_family, .int g_n, .int g_size, .ref q_g_products, .ref q_g_inverses, .ref q_g_orders, .ref q_g_conjugates, .ref q_g_spans])), (q_g_products, .inl (cyI, 64, .inl g_products)), (q_g_inverses, .inl (cyI, 8, .inl g_inverses)), (q_g_orders, .inl (cyI, 8, .inl g_orders)), (q_g_conjugates, .inl (cyI, 64, .inl g_conjugates)), (q_g_spans, .inl (cyI, 256, .inl v))] = Q
  refine lv_aload_n hx hb dX1_findSpans_0 rfl (lv_at hl 0 rfl) ?_
  refine pz_get pFX1_24 hB hK hP 0 rfl rfl dX1_findSpans_1 ?_
  refine lv_iconst (v := (0 : Int32)) hx hb dX1_findSpans_4 (by decide) ?_
  refine lv_iconst (v := (1 : Int32)) hx hb dX1_findSpans_5 (by decide) ?_
  obtain ⟨hi1, h⟩ := pz_wrE h
  refine pz_iast hB hK hP hD hS 5 rfl hi1 dX1_findSpans_6 [(q_g, .inr (1, [.int g_family, .int g_n, .int g_size, .ref q_g_products, .ref q_g_inverses, .ref q_g_orders, .ref q_g_conjugates, .ref q_g_spans])), (q_g_products, .inl (cyI, 64, .inl g_products)), (q_g_inverses, .inl (cyI, 8, .inl g_inverses)), (q_g_orders, .inl (cyI, 8, .inl g_orders)), (q_g_conjugates, .inl (cyI, 64, .inl g_conjugates)), (q_g_spans, .inl (cyI, 256, .inl (upd g_spans (Int32.toNatClampNeg (0 : Int32)) (1 : Int32))))] rfl (fun H locs hP hD hS => ?_)
  refine lv_iconst (v := (0 : Int32)) hx hb dX1_findSpans_7 (by decide) ?_
  refine lv_istore_n (lv' := [(1, .int (0 : Int32)), (0, .ref q_g)]) hx hb dX1_findSpans_8 rfl hl (by decide) rfl (fun ls hl => ?_)
  obtain ⟨u_9, hu_9, h⟩ := pz_bnd h
  have hE9 : ∀ (H : Heap) (locs : List Loc) (ls : Array Slot), va_P D vwCl [(q_g, .inr (1, [.int g_family, .int g_n, .int g_size, .ref q_g_products, .ref q_g_inverses, .ref q_g_orders, .ref q_g_conjugates, .ref q_g_spans])), (q_g_products, .inl (cyI, 64, .inl g_products)), (q_g_inverses, .inl (cyI, 8, .inl g_inverses)), (q_g_orders, .inl (cyI, 8, .inl g_orders)), (q_g_conjugates, .inl (cyI, 64, .inl g_conjugates)), (q_g_spans, .inl (cyI, 256, .inl u_9))] H → va_D A [(q_g, .inr (1, [.int g_family, .int g_n, .int g_size, .ref q_g_products, .ref q_g_inverses, .ref q_g_orders, .ref q_g_conjugates, .ref q_g_spans])), (q_g_products, .inl (cyI, 64, .inl g_products)), (q_g_inverses, .inl (cyI, 8, .inl g_inverses)), (q_g_orders, .inl (cyI, 8, .inl g_orders)), (q_g_conjugates, .inl (cyI, 64, .inl g_conjugates)), (q_g_spans, .inl (cyI, 256, .inl u_9))] → va_S A s.heap H locs → lv_has ls 5 [] → W p l e ({ frames := 3, cells := 0, slots := 0, locals := 72 } : Room) s m args below meth c H locs 0 0 Q (F0 m 76 ls []) := by
    intro H locs ls hP hD hS hl
    obtain rfl := Option.some.inj h
    rw [← hQ]
    exact pz_vret hB hP hD hS dX1_findSpans_76
  have hL9 : ∀ (n : Nat) (x1_9 : Int32) (g_spans_9 : Nat → Int32) (H : Heap) (locs : List Loc) (ls : Array Slot), va_P D vwCl [(q_g, .inr (1, [.int g_family, .int g_n, .int g_size, .ref q_g_products, .ref q_g_inverses, .ref q_g_orders, .ref q_g_conjugates, .ref q_g_spans])), (q_g_products, .inl (cyI, 64, .inl g_products)), (q_g_inverses, .inl (cyI, 8, .inl g_inverses)), (q_g_orders, .inl (cyI, 8, .inl g_orders)), (q_g_conjugates, .inl (cyI, 64, .inl g_conjugates)), (q_g_spans, .inl (cyI, 256, .inl g_spans_9))] H → va_D A [(q_g, .inr (1, [.int g_family, .int g_n, .int g_size, .ref q_g_products, .ref q_g_inverses, .ref q_g_orders, .ref q_g_conjugates, .ref q_g_spans])), (q_g_products, .inl (cyI, 64, .inl g_products)), (q_g_inverses, .inl (cyI, 8, .inl g_inverses)), (q_g_orders, .inl (cyI, 8, .inl g_orders)), (q_g_conjugates, .inl (cyI, 64, .inl g_conjugates)), (q_g_spans, .inl (cyI, 256, .inl g_spans_9))] → va_S A s.heap H locs → lv_has ls 5 [(0, .ref q_g), (1, .int x1_9)] → pz_iter (fun (σ : Int32 × (Nat → Int32)) => fX1_findSpans_L9 g_size g_products σ.1 σ.2) n (x1_9, g_spans_9) = some u_9 → W p l e ({ frames := 3, cells := 0, slots := 0, locals := 72 } : Room) s m args below meth c H locs 0 0 Q (F0 m 9 ls []) := by
    intro n
    induction n with
    | zero => intro x1_9 g_spans_9 H locs ls hP hD hS hl h; exact (pz_it0 h).elim
    | succ n ih =>
      intro x1_9 g_spans_9 H locs ls hP hD hS hl h
      obtain ⟨y_9, h, hk9⟩ := pz_itS h
      have h : fX1_findSpans_L9 g_size g_products x1_9 g_spans_9 = some y_9 := h
      unfold fX1_findSpans_L9 at h
      refine lv_iload_n hx hb dX1_findSpans_9 rfl (lv_at hl 1 rfl) ?_
      refine lv_aload_n hx hb dX1_findSpans_10 rfl (lv_at hl 0 rfl) ?_
      refine pz_get pFX1_45 hB hK hP 0 rfl rfl dX1_findSpans_11 ?_
      refine lv_icmp_ge (tgt := 76) hx hb dX1_findSpans_14 (by decide) (fun hc14 => ?_) (fun hc14 => ?_)
      · have h := pz_itT hc14 h
        obtain rfl := Option.some.inj h
        obtain rfl := pz_exit hk9
        exact hE9 _ _ _ hP hD hS (lv_sub hl [] rfl)
      · have h := pz_itF hc14 h
        refine lv_iconst (v := (1 : Int32)) hx hb dX1_findSpans_17 (by decide) ?_
        refine lv_iload_n hx hb dX1_findSpans_18 rfl (lv_at hl 1 rfl) ?_
        refine lv_ishl hx hb dX1_findSpans_19 ?_
        refine lv_istore_n (lv' := [(2, .int ((1 : Int32) <<< (x1_9 &&& 31))), (0, .ref q_g), (1, .int x1_9)]) hx hb dX1_findSpans_20 rfl hl (by decide) rfl (fun ls hl => ?_)
        refine lv_iconst (v := (0 : Int32)) hx hb dX1_findSpans_21 (by decide) ?_
        refine lv_istore_n (lv' := [(3, .int (0 : Int32)), (2, .int ((1 : Int32) <<< (x1_9 &&& 31))), (0, .ref q_g), (1, .int x1_9)]) hx hb dX1_findSpans_22 rfl hl (by decide) rfl (fun ls hl => ?_)
        obtain ⟨u_23, hu_23, h⟩ := pz_bnd h
        have hE23 : ∀ (H : Heap) (locs : List Loc) (ls : Array Slot), va_P D vwCl [(q_g, .inr (1, [.int g_family, .int g_n, .int g_size, .ref q_g_products, .ref q_g_inverses, .ref q_g_orders, .ref q_g_conjugates, .ref q_g_spans])), (q_g_products, .inl (cyI, 64, .inl g_products)), (q_g_inverses, .inl (cyI, 8, .inl g_inverses)), (q_g_orders, .inl (cyI, 8, .inl g_orders)), (q_g_conjugates, .inl (cyI, 64, .inl g_conjugates)), (q_g_spans, .inl (cyI, 256, .inl u_23))] H → va_D A [(q_g, .inr (1, [.int g_family, .int g_n, .int g_size, .ref q_g_products, .ref q_g_inverses, .ref q_g_orders, .ref q_g_conjugates, .ref q_g_spans])), (q_g_products, .inl (cyI, 64, .inl g_products)), (q_g_inverses, .inl (cyI, 8, .inl g_inverses)), (q_g_orders, .inl (cyI, 8, .inl g_orders)), (q_g_conjugates, .inl (cyI, 64, .inl g_conjugates)), (q_g_spans, .inl (cyI, 256, .inl u_23))] → va_S A s.heap H locs → lv_has ls 5 [(0, .ref q_g), (1, .int x1_9)] → W p l e ({ frames := 3, cells := 0, slots := 0, locals := 72 } : Room) s m args below meth c H locs 0 0 Q (F0 m 70 ls []) := by
          intro H locs ls hP hD hS hl
          refine lv_iinc (v := (x1_9 + (1 : Int32))) (lv' := [(1, .int (x1_9 + (1 : Int32))), (0, .ref q_g)]) hx hb dX1_findSpans_70 hl (k := 1) rfl (by rfl) (by decide) rfl (fun ls hl => ?_)
          refine lv_goto (tgt := 9) hx hb dX1_findSpans_73 (by decide) ?_
          obtain rfl := Option.some.inj h
          exact ih (x1_9 + (1 : Int32)) u_23 _ _ _ hP hD hS (lv_sub hl [1, 0] rfl) hk9
        have hL23 : ∀ (n : Nat) (x3_23 : Int32) (g_spans_23 : Nat → Int32) (H : Heap) (locs : List Loc) (ls : Array Slot), va_P D vwCl [(q_g, .inr (1, [.int g_family, .int g_n, .int g_size, .ref q_g_products, .ref q_g_inverses, .ref q_g_orders, .ref q_g_conjugates, .ref q_g_spans])), (q_g_products, .inl (cyI, 64, .inl g_products)), (q_g_inverses, .inl (cyI, 8, .inl g_inverses)), (q_g_orders, .inl (cyI, 8, .inl g_orders)), (q_g_conjugates, .inl (cyI, 64, .inl g_conjugates)), (q_g_spans, .inl (cyI, 256, .inl g_spans_23))] H → va_D A [(q_g, .inr (1, [.int g_family, .int g_n, .int g_size, .ref q_g_products, .ref q_g_inverses, .ref q_g_orders, .ref q_g_conjugates, .ref q_g_spans])), (q_g_products, .inl (cyI, 64, .inl g_products)), (q_g_inverses, .inl (cyI, 8, .inl g_inverses)), (q_g_orders, .inl (cyI, 8, .inl g_orders)), (q_g_conjugates, .inl (cyI, 64, .inl g_conjugates)), (q_g_spans, .inl (cyI, 256, .inl g_spans_23))] → va_S A s.heap H locs → lv_has ls 5 [(0, .ref q_g), (1, .int x1_9), (2, .int ((1 : Int32) <<< (x1_9 &&& 31))), (3, .int x3_23)] → pz_iter (fun (σ : Int32 × (Nat → Int32)) => fX1_findSpans_L23 ((1 : Int32) <<< (x1_9 &&& 31)) g_size g_products σ.1 σ.2) n (x3_23, g_spans_23) = some u_23 → W p l e ({ frames := 3, cells := 0, slots := 0, locals := 72 } : Room) s m args below meth c H locs 0 0 Q (F0 m 23 ls []) := by
          intro n
          induction n with
          | zero => intro x3_23 g_spans_23 H locs ls hP hD hS hl h; exact (pz_it0 h).elim
          | succ n ih =>
            intro x3_23 g_spans_23 H locs ls hP hD hS hl h
            obtain ⟨y_23, h, hk23⟩ := pz_itS h
            have h : fX1_findSpans_L23 ((1 : Int32) <<< (x1_9 &&& 31)) g_size g_products x3_23 g_spans_23 = some y_23 := h
            unfold fX1_findSpans_L23 at h
            refine lv_iload_n hx hb dX1_findSpans_23 rfl (lv_at hl 3 rfl) ?_
            refine lv_iload_n hx hb dX1_findSpans_24 rfl (lv_at hl 2 rfl) ?_
            refine lv_icmp_ge (tgt := 70) hx hb dX1_findSpans_25 (by decide) (fun hc25 => ?_) (fun hc25 => ?_)
            · have h := pz_itT hc25 h
              obtain rfl := Option.some.inj h
              obtain rfl := pz_exit hk23
              exact hE23 _ _ _ hP hD hS (lv_sub hl [0, 1] rfl)
            · have h := pz_itF hc25 h
              refine lv_aload_n hx hb dX1_findSpans_28 rfl (lv_at hl 0 rfl) ?_
              refine pz_get pFX1_24 hB hK hP 0 rfl rfl dX1_findSpans_29 ?_
              refine lv_iload_n hx hb dX1_findSpans_32 rfl (lv_at hl 3 rfl) ?_
              obtain ⟨hi2, h⟩ := pz_rdE h
              refine pz_iald hB hK hP 5 rfl hi2 dX1_findSpans_33 ?_
              refine lv_istore (lv' := [(4, .int (g_spans_23 (Int32.toNatClampNeg x3_23))), (0, .ref q_g), (1, .int x1_9), (2, .int ((1 : Int32) <<< (x1_9 &&& 31))), (3, .int x3_23)]) hx hb dX1_findSpans_34 hl (by decide) rfl (fun ls hl => ?_)
              refine lv_aload_n hx hb dX1_findSpans_36 rfl (lv_at hl 1 rfl) ?_
              refine pz_get pFX1_24 hB hK hP 0 rfl rfl dX1_findSpans_37 ?_
              refine lv_iload_n hx hb dX1_findSpans_40 rfl (lv_at hl 4 rfl) ?_
              refine lv_iload_n hx hb dX1_findSpans_41 rfl (lv_at hl 3 rfl) ?_
              refine lv_ior hx hb dX1_findSpans_42 ?_
              refine lv_iload hx hb dX1_findSpans_43 (lv_at hl 0 rfl) ?_
              refine lv_iload_n hx hb dX1_findSpans_45 rfl (lv_at hl 3 rfl) ?_
              refine lv_iand hx hb dX1_findSpans_46 ?_
              have hJ63 : ∀ (k1_j63 : Int32) (k2_j63 : Int32) (H : Heap) (locs : List Loc) (ls : Array Slot), va_P D vwCl [(q_g, .inr (1, [.int g_family, .int g_n, .int g_size, .ref q_g_products, .ref q_g_inverses, .ref q_g_orders, .ref q_g_conjugates, .ref q_g_spans])), (q_g_products, .inl (cyI, 64, .inl g_products)), (q_g_inverses, .inl (cyI, 8, .inl g_inverses)), (q_g_orders, .inl (cyI, 8, .inl g_orders)), (q_g_conjugates, .inl (cyI, 64, .inl g_conjugates)), (q_g_spans, .inl (cyI, 256, .inl g_spans_23))] H → va_D A [(q_g, .inr (1, [.int g_family, .int g_n, .int g_size, .ref q_g_products, .ref q_g_inverses, .ref q_g_orders, .ref q_g_conjugates, .ref q_g_spans])), (q_g_products, .inl (cyI, 64, .inl g_products)), (q_g_inverses, .inl (cyI, 8, .inl g_inverses)), (q_g_orders, .inl (cyI, 8, .inl g_orders)), (q_g_conjugates, .inl (cyI, 64, .inl g_conjugates)), (q_g_spans, .inl (cyI, 256, .inl g_spans_23))] → va_S A s.heap H locs → lv_has ls 5 [(0, .ref q_g), (1, .int x1_9), (2, .int ((1 : Int32) <<< (x1_9 &&& 31))), (3, .int x3_23)] → fX1_findSpans_J63L23 x3_23 k1_j63 k2_j63 g_spans_23 = some y_23 → W p l e ({ frames := 3, cells := 0, slots := 0, locals := 72 } : Room) s m args below meth c H locs 0 0 Q (F0 m 63 ls [.int k2_j63, .int k1_j63, .ref q_g_spans]) := by
                intro k1_j63 k2_j63 H locs ls hP hD hS hl h
                unfold fX1_findSpans_J63L23 at h
                obtain ⟨hi3, h⟩ := pz_wrE h
                refine pz_iast hB hK hP hD hS 5 rfl hi3 dX1_findSpans_63 [(q_g, .inr (1, [.int g_family, .int g_n, .int g_size, .ref q_g_products, .ref q_g_inverses, .ref q_g_orders, .ref q_g_conjugates, .ref q_g_spans])), (q_g_products, .inl (cyI, 64, .inl g_products)), (q_g_inverses, .inl (cyI, 8, .inl g_inverses)), (q_g_orders, .inl (cyI, 8, .inl g_orders)), (q_g_conjugates, .inl (cyI, 64, .inl g_conjugates)), (q_g_spans, .inl (cyI, 256, .inl (upd g_spans_23 (Int32.toNatClampNeg k1_j63) k2_j63)))] rfl (fun H locs hP hD hS => ?_)
                refine lv_iinc (v := (x3_23 + (1 : Int32))) (lv' := [(3, .int (x3_23 + (1 : Int32))), (0, .ref q_g), (1, .int x1_9), (2, .int ((1 : Int32) <<< (x1_9 &&& 31)))]) hx hb dX1_findSpans_64 hl (k := 3) rfl (by rfl) (by decide) rfl (fun ls hl => ?_)
                refine lv_goto (tgt := 23) hx hb dX1_findSpans_67 (by decide) ?_
                obtain rfl := Option.some.inj h
                exact ih (x3_23 + (1 : Int32)) (upd g_spans_23 (Int32.toNatClampNeg k1_j63) k2_j63) _ _ _ hP hD hS (lv_sub hl [1, 2, 3, 0] rfl) hk23
              refine lv_if_ne (tgt := 61) hx hb dX1_findSpans_47 (by decide) (fun hc47 => ?_) (fun hc47 => ?_)
              · have h := pz_itF hc47 h
                refine lv_iload hx hb dX1_findSpans_61 (lv_at hl 0 rfl) ?_
                exact hJ63 (x3_23 ||| ((1 : Int32) <<< (x1_9 &&& 31))) (g_spans_23 (Int32.toNatClampNeg x3_23)) _ _ _ hP hD hS (lv_sub hl [1, 2, 3, 4] rfl) h
              · have h := pz_itT hc47 h
                refine lv_aload_n hx hb dX1_findSpans_50 rfl (lv_at hl 1 rfl) ?_
                refine lv_iload hx hb dX1_findSpans_51 (lv_at hl 0 rfl) ?_
                refine lv_iload_n hx hb dX1_findSpans_53 rfl (lv_at hl 3 rfl) ?_
                refine lv_ior hx hb dX1_findSpans_54 ?_
                obtain ⟨t4, ht4, h⟩ := pz_bnd h
                refine pz_callIr (rest := [.int (x3_23 ||| ((1 : Int32) <<< (x1_9 &&& 31))), .ref q_g_spans]) pCX1_75 (kX1_grownToSpan l D cyI q_g q_g_products q_g_inverses q_g_orders q_g_conjugates q_g_spans g_family g_n g_size g_products g_inverses g_orders g_conjugates g_spans_23 ((g_spans_23 (Int32.toNatClampNeg x3_23)) ||| ((1 : Int32) <<< (x1_9 &&& 31))) ht4) hB hK hP hD hS hA hl rfl rfl rfl ⟨Nat.le_of_ble_eq_true rfl, Nat.le_of_ble_eq_true rfl⟩ rfl rfl [0, 1, 2, 3, 4, 5] rfl (by decide) (Nat.le_of_ble_eq_true rfl) dX1_findSpans_55 (Nat.zero_le _) (Nat.zero_le _) rfl (fun H locs hP hS => ?_)
                refine lv_goto (tgt := 63) hx hb dX1_findSpans_58 (by decide) ?_
                exact hJ63 (x3_23 ||| ((1 : Int32) <<< (x1_9 &&& 31))) t4 _ _ _ hP hD hS (lv_sub hl [1, 2, 3, 4] rfl) h
        exact hL23 pz_FUEL (0 : Int32) g_spans_9 _ _ _ hP hD hS (lv_sub hl [2, 3, 1, 0] rfl) hu_23
  exact hL9 pz_FUEL (0 : Int32) (upd g_spans (Int32.toNatClampNeg (0 : Int32)) (1 : Int32)) _ _ _ hP hD hS (lv_sub hl [1, 0] rfl) hu_9
set_option maxRecDepth 100000 in
set_option maxHeartbeats 4000000 in
theorem kX1_become (l : Launch) (D : va_G) (cyI : ClassId) (q_g q_g_products q_g_inverses q_g_orders q_g_conjugates q_g_spans : Nat) (g_family : Int32) (g_n : Int32) (g_size : Int32) (g_products : Nat → Int32) (g_inverses : Nat → Int32) (g_orders : Nat → Int32) (g_conjugates : Nat → Int32) (g_spans : Nat → Int32) (x1 : Int32) (x2 : Int32) {v : Int32 × Int32 × Int32 × (Nat → Int32) × (Nat → Int32) × (Nat → Int32) × (Nat → Int32) × (Nat → Int32)} (h : fX1_become x1 x2 g_products g_inverses g_orders g_conjugates g_spans = some v) : pz_MV l yX1_become cX1_become 5 ({ frames := 4, cells := 0, slots := 0, locals := 96 } : Room) [.ref q_g, .int x1, .int x2] D cyI [(q_g, .inr (1, [.int g_family, .int g_n, .int g_size, .ref q_g_products, .ref q_g_inverses, .ref q_g_orders, .ref q_g_conjugates, .ref q_g_spans])), (q_g_products, .inl (cyI, 64, .inl g_products)), (q_g_inverses, .inl (cyI, 8, .inl g_inverses)), (q_g_orders, .inl (cyI, 8, .inl g_orders)), (q_g_conjugates, .inl (cyI, 64, .inl g_conjugates)), (q_g_spans, .inl (cyI, 256, .inl g_spans))] [(q_g, .inr (1, [.int v.1, .int v.2.1, .int v.2.2.1, .ref q_g_products, .ref q_g_inverses, .ref q_g_orders, .ref q_g_conjugates, .ref q_g_spans])), (q_g_products, .inl (cyI, 64, .inl v.2.2.2.1)), (q_g_inverses, .inl (cyI, 8, .inl v.2.2.2.2.1)), (q_g_orders, .inl (cyI, 8, .inl v.2.2.2.2.2.1)), (q_g_conjugates, .inl (cyI, 64, .inl v.2.2.2.2.2.2.1)), (q_g_spans, .inl (cyI, 256, .inl v.2.2.2.2.2.2.2))] := by
  refine pz_ofV (by decide) (Nat.le_of_ble_eq_true rfl) ?_
  intro p e s m args below meth c A ls hB hP hK hD hS hA hl
  have hl : lv_has ls 5 [(0, .ref q_g), (1, .int x1), (2, .int x2)] := hl
  have hx := hB.1
  have hb := hB.2.1
  unfold fX1_become at h
  generalize hQ : pz_QV below args s D A [(q_g, .inr (1, [.int v.1, .int v.2.1, .int v.2.2.1, .ref q_g_products, .ref q_g_inverses, .ref q_g_orders, .ref q_g_conjugates, .ref q_g_spans])), (q_g_products, .inl (cyI, 64, .inl v.2.2.2.1)), (q_g_inverses, .inl (cyI, 8, .inl v.2.2.2.2.1)), (q_g_orders, .inl (cyI, 8, .inl v.2.2.2.2.2.1)), (q_g_conjugates, .inl (cyI, 64, .inl v.2.2.2.2.2.2.1)), (q_g_spans, .inl (cyI, 256, .inl v.2.2.2.2.2.2.2))] = Q
  refine lv_aload_n hx hb dX1_become_0 rfl (lv_at hl 0 rfl) ?_
  refine lv_iload_n hx hb dX1_become_1 rfl (lv_at hl 1 rfl) ?_
  refine pz_put pFX1_34 pTX1_family hB hK hP hD hS 0 rfl rfl rfl (Nat.le_of_ble_eq_true rfl) dX1_become_2 [(q_g, .inr (1, [.int x1, .int g_n, .int g_size, .ref q_g_products, .ref q_g_inverses, .ref q_g_orders, .ref q_g_conjugates, .ref q_g_spans])), (q_g_products, .inl (cyI, 64, .inl g_products)), (q_g_inverses, .inl (cyI, 8, .inl g_inverses)), (q_g_orders, .inl (cyI, 8, .inl g_orders)), (q_g_conjugates, .inl (cyI, 64, .inl g_conjugates)), (q_g_spans, .inl (cyI, 256, .inl g_spans))] rfl (fun H locs hP hD hS => ?_)
  refine lv_aload_n hx hb dX1_become_5 rfl (lv_at hl 0 rfl) ?_
  refine lv_iload_n hx hb dX1_become_6 rfl (lv_at hl 2 rfl) ?_
  refine pz_put pFX1_38 pTX1_n hB hK hP hD hS 0 rfl rfl rfl (Nat.le_of_ble_eq_true rfl) dX1_become_7 [(q_g, .inr (1, [.int x1, .int x2, .int g_size, .ref q_g_products, .ref q_g_inverses, .ref q_g_orders, .ref q_g_conjugates, .ref q_g_spans])), (q_g_products, .inl (cyI, 64, .inl g_products)), (q_g_inverses, .inl (cyI, 8, .inl g_inverses)), (q_g_orders, .inl (cyI, 8, .inl g_orders)), (q_g_conjugates, .inl (cyI, 64, .inl g_conjugates)), (q_g_spans, .inl (cyI, 256, .inl g_spans))] rfl (fun H locs hP hD hS => ?_)
  refine lv_aload_n hx hb dX1_become_10 rfl (lv_at hl 0 rfl) ?_
  refine lv_aload_n hx hb dX1_become_11 rfl (lv_at hl 0 rfl) ?_
  obtain ⟨t1, ht1, h⟩ := pz_bnd h
  refine pz_callIr (rest := [.ref q_g]) pCX1_41 (kX1_sizeByFamily l D cyI q_g q_g_products q_g_inverses q_g_orders q_g_conjugates q_g_spans x1 x2 g_size g_products g_inverses g_orders g_conjugates g_spans ht1) hB hK hP hD hS hA hl rfl rfl rfl ⟨Nat.le_of_ble_eq_true rfl, Nat.le_of_ble_eq_true rfl⟩ rfl rfl [0, 1, 2, 3, 4, 5] rfl (by decide) (Nat.le_of_ble_eq_true rfl) dX1_become_12 (Nat.zero_le _) (Nat.zero_le _) rfl (fun H locs hP hS => ?_)
  refine pz_put pFX1_45 pTX1_size hB hK hP hD hS 0 rfl rfl rfl (Nat.le_of_ble_eq_true rfl) dX1_become_15 [(q_g, .inr (1, [.int x1, .int x2, .int t1, .ref q_g_products, .ref q_g_inverses, .ref q_g_orders, .ref q_g_conjugates, .ref q_g_spans])), (q_g_products, .inl (cyI, 64, .inl g_products)), (q_g_inverses, .inl (cyI, 8, .inl g_inverses)), (q_g_orders, .inl (cyI, 8, .inl g_orders)), (q_g_conjugates, .inl (cyI, 64, .inl g_conjugates)), (q_g_spans, .inl (cyI, 256, .inl g_spans))] rfl (fun H locs hP hD hS => ?_)
  refine lv_iconst (v := (0 : Int32)) hx hb dX1_become_18 (by decide) ?_
  refine lv_istore_n (lv' := [(3, .int (0 : Int32)), (0, .ref q_g), (1, .int x1), (2, .int x2)]) hx hb dX1_become_19 rfl hl (by decide) rfl (fun ls hl => ?_)
  obtain ⟨u_20, hu_20, h⟩ := pz_bnd h
  have hE20 : ∀ (H : Heap) (locs : List Loc) (ls : Array Slot), va_P D vwCl [(q_g, .inr (1, [.int x1, .int x2, .int t1, .ref q_g_products, .ref q_g_inverses, .ref q_g_orders, .ref q_g_conjugates, .ref q_g_spans])), (q_g_products, .inl (cyI, 64, .inl u_20)), (q_g_inverses, .inl (cyI, 8, .inl g_inverses)), (q_g_orders, .inl (cyI, 8, .inl g_orders)), (q_g_conjugates, .inl (cyI, 64, .inl g_conjugates)), (q_g_spans, .inl (cyI, 256, .inl g_spans))] H → va_D A [(q_g, .inr (1, [.int x1, .int x2, .int t1, .ref q_g_products, .ref q_g_inverses, .ref q_g_orders, .ref q_g_conjugates, .ref q_g_spans])), (q_g_products, .inl (cyI, 64, .inl u_20)), (q_g_inverses, .inl (cyI, 8, .inl g_inverses)), (q_g_orders, .inl (cyI, 8, .inl g_orders)), (q_g_conjugates, .inl (cyI, 64, .inl g_conjugates)), (q_g_spans, .inl (cyI, 256, .inl g_spans))] → va_S A s.heap H locs → lv_has ls 5 [(0, .ref q_g)] → W p l e ({ frames := 4, cells := 0, slots := 0, locals := 96 } : Room) s m args below meth c H locs 0 0 Q (F0 m 71 ls []) := by
    intro H locs ls hP hD hS hl
    refine lv_iconst (v := (0 : Int32)) hx hb dX1_become_71 (by decide) ?_
    refine lv_istore_n (lv' := [(3, .int (0 : Int32)), (0, .ref q_g)]) hx hb dX1_become_72 rfl hl (by decide) rfl (fun ls hl => ?_)
    obtain ⟨u_73, hu_73, h⟩ := pz_bnd h
    have hE73 : ∀ (H : Heap) (locs : List Loc) (ls : Array Slot), va_P D vwCl [(q_g, .inr (1, [.int x1, .int x2, .int t1, .ref q_g_products, .ref q_g_inverses, .ref q_g_orders, .ref q_g_conjugates, .ref q_g_spans])), (q_g_products, .inl (cyI, 64, .inl u_20)), (q_g_inverses, .inl (cyI, 8, .inl u_73.1)), (q_g_orders, .inl (cyI, 8, .inl u_73.2)), (q_g_conjugates, .inl (cyI, 64, .inl g_conjugates)), (q_g_spans, .inl (cyI, 256, .inl g_spans))] H → va_D A [(q_g, .inr (1, [.int x1, .int x2, .int t1, .ref q_g_products, .ref q_g_inverses, .ref q_g_orders, .ref q_g_conjugates, .ref q_g_spans])), (q_g_products, .inl (cyI, 64, .inl u_20)), (q_g_inverses, .inl (cyI, 8, .inl u_73.1)), (q_g_orders, .inl (cyI, 8, .inl u_73.2)), (q_g_conjugates, .inl (cyI, 64, .inl g_conjugates)), (q_g_spans, .inl (cyI, 256, .inl g_spans))] → va_S A s.heap H locs → lv_has ls 5 [(0, .ref q_g)] → W p l e ({ frames := 4, cells := 0, slots := 0, locals := 96 } : Room) s m args below meth c H locs 0 0 Q (F0 m 92 ls []) := by
      intro H locs ls hP hD hS hl
      refine lv_aload_n hx hb dX1_become_92 rfl (lv_at hl 0 rfl) ?_
      obtain ⟨t2, ht2, h⟩ := pz_bnd h
      refine pz_callV (rest := []) (wr := []) (ws2 := [(q_g, .inr (1, [.int x1, .int x2, .int t1, .ref q_g_products, .ref q_g_inverses, .ref q_g_orders, .ref q_g_conjugates, .ref q_g_spans])), (q_g_products, .inl (cyI, 64, .inl u_20)), (q_g_inverses, .inl (cyI, 8, .inl u_73.1)), (q_g_orders, .inl (cyI, 8, .inl u_73.2)), (q_g_conjugates, .inl (cyI, 64, .inl t2)), (q_g_spans, .inl (cyI, 256, .inl g_spans))]) pCX1_56 (kX1_findConjugates l D cyI q_g q_g_products q_g_inverses q_g_orders q_g_conjugates q_g_spans x1 x2 t1 u_20 u_73.1 u_73.2 g_conjugates g_spans ht2) hB hK hP hD hS hA hl rfl rfl rfl ⟨Nat.le_of_ble_eq_true rfl, Nat.le_of_ble_eq_true rfl⟩ rfl rfl [0, 1, 2, 3, 4, 5] [] [0, 1, 2, 3, 4, 5] rfl rfl (by decide) (by decide) (by decide) (by decide) rfl (Nat.le_of_ble_eq_true rfl) dX1_become_93 (Nat.zero_le _) (Nat.zero_le _) rfl (fun H locs hP hD hS => ?_)
      refine lv_aload_n hx hb dX1_become_96 rfl (lv_at hl 0 rfl) ?_
      obtain ⟨t3, ht3, h⟩ := pz_bnd h
      refine pz_callV (rest := []) (wr := []) (ws2 := [(q_g, .inr (1, [.int x1, .int x2, .int t1, .ref q_g_products, .ref q_g_inverses, .ref q_g_orders, .ref q_g_conjugates, .ref q_g_spans])), (q_g_products, .inl (cyI, 64, .inl u_20)), (q_g_inverses, .inl (cyI, 8, .inl u_73.1)), (q_g_orders, .inl (cyI, 8, .inl u_73.2)), (q_g_conjugates, .inl (cyI, 64, .inl t2)), (q_g_spans, .inl (cyI, 256, .inl t3))]) pCX1_59 (kX1_findSpans l D cyI q_g q_g_products q_g_inverses q_g_orders q_g_conjugates q_g_spans x1 x2 t1 u_20 u_73.1 u_73.2 t2 g_spans ht3) hB hK hP hD hS hA hl rfl rfl rfl ⟨Nat.le_of_ble_eq_true rfl, Nat.le_of_ble_eq_true rfl⟩ rfl rfl [0, 1, 2, 3, 4, 5] [] [0, 1, 2, 3, 4, 5] rfl rfl (by decide) (by decide) (by decide) (by decide) rfl (Nat.le_of_ble_eq_true rfl) dX1_become_97 (Nat.zero_le _) (Nat.zero_le _) rfl (fun H locs hP hD hS => ?_)
      obtain rfl := Option.some.inj h
      rw [← hQ]
      exact pz_vret hB hP hD hS dX1_become_100
    have hL73 : ∀ (n : Nat) (x3_73 : Int32) (g_inverses_73 : Nat → Int32) (g_orders_73 : Nat → Int32) (H : Heap) (locs : List Loc) (ls : Array Slot), va_P D vwCl [(q_g, .inr (1, [.int x1, .int x2, .int t1, .ref q_g_products, .ref q_g_inverses, .ref q_g_orders, .ref q_g_conjugates, .ref q_g_spans])), (q_g_products, .inl (cyI, 64, .inl u_20)), (q_g_inverses, .inl (cyI, 8, .inl g_inverses_73)), (q_g_orders, .inl (cyI, 8, .inl g_orders_73)), (q_g_conjugates, .inl (cyI, 64, .inl g_conjugates)), (q_g_spans, .inl (cyI, 256, .inl g_spans))] H → va_D A [(q_g, .inr (1, [.int x1, .int x2, .int t1, .ref q_g_products, .ref q_g_inverses, .ref q_g_orders, .ref q_g_conjugates, .ref q_g_spans])), (q_g_products, .inl (cyI, 64, .inl u_20)), (q_g_inverses, .inl (cyI, 8, .inl g_inverses_73)), (q_g_orders, .inl (cyI, 8, .inl g_orders_73)), (q_g_conjugates, .inl (cyI, 64, .inl g_conjugates)), (q_g_spans, .inl (cyI, 256, .inl g_spans))] → va_S A s.heap H locs → lv_has ls 5 [(0, .ref q_g), (3, .int x3_73)] → pz_iter (fun (σ : Int32 × (Nat → Int32) × (Nat → Int32)) => fX1_become_L73 t1 u_20 σ.1 σ.2.1 σ.2.2) n (x3_73, g_inverses_73, g_orders_73) = some u_73 → W p l e ({ frames := 4, cells := 0, slots := 0, locals := 96 } : Room) s m args below meth c H locs 0 0 Q (F0 m 73 ls []) := by
      intro n
      induction n with
      | zero => intro x3_73 g_inverses_73 g_orders_73 H locs ls hP hD hS hl h; exact (pz_it0 h).elim
      | succ n ih =>
        intro x3_73 g_inverses_73 g_orders_73 H locs ls hP hD hS hl h
        obtain ⟨y_73, h, hk73⟩ := pz_itS h
        have h : fX1_become_L73 t1 u_20 x3_73 g_inverses_73 g_orders_73 = some y_73 := h
        unfold fX1_become_L73 at h
        refine lv_iload_n hx hb dX1_become_73 rfl (lv_at hl 1 rfl) ?_
        refine lv_aload_n hx hb dX1_become_74 rfl (lv_at hl 0 rfl) ?_
        refine pz_get pFX1_45 hB hK hP 0 rfl rfl dX1_become_75 ?_
        refine lv_icmp_ge (tgt := 92) hx hb dX1_become_78 (by decide) (fun hc78 => ?_) (fun hc78 => ?_)
        · have h := pz_itT hc78 h
          obtain rfl := Option.some.inj h
          obtain rfl := pz_exit hk73
          exact hE73 _ _ _ hP hD hS (lv_sub hl [0] rfl)
        · have h := pz_itF hc78 h
          refine lv_aload_n hx hb dX1_become_81 rfl (lv_at hl 0 rfl) ?_
          refine lv_iload_n hx hb dX1_become_82 rfl (lv_at hl 1 rfl) ?_
          obtain ⟨t4, ht4, h⟩ := pz_bnd h
          refine pz_callV (rest := []) (wr := []) (ws2 := [(q_g, .inr (1, [.int x1, .int x2, .int t1, .ref q_g_products, .ref q_g_inverses, .ref q_g_orders, .ref q_g_conjugates, .ref q_g_spans])), (q_g_products, .inl (cyI, 64, .inl u_20)), (q_g_inverses, .inl (cyI, 8, .inl t4.1)), (q_g_orders, .inl (cyI, 8, .inl t4.2)), (q_g_conjugates, .inl (cyI, 64, .inl g_conjugates)), (q_g_spans, .inl (cyI, 256, .inl g_spans))]) pCX1_52 (kX1_findInverseAndOrder l D cyI q_g q_g_products q_g_inverses q_g_orders q_g_conjugates q_g_spans x1 x2 t1 u_20 g_inverses_73 g_orders_73 g_conjugates g_spans x3_73 ht4) hB hK hP hD hS hA hl rfl rfl rfl ⟨Nat.le_of_ble_eq_true rfl, Nat.le_of_ble_eq_true rfl⟩ rfl rfl [0, 1, 2, 3, 4, 5] [] [0, 1, 2, 3, 4, 5] rfl rfl (by decide) (by decide) (by decide) (by decide) rfl (Nat.le_of_ble_eq_true rfl) dX1_become_83 (Nat.zero_le _) (Nat.zero_le _) rfl (fun H locs hP hD hS => ?_)
          refine lv_iinc (v := (x3_73 + (1 : Int32))) (lv' := [(3, .int (x3_73 + (1 : Int32))), (0, .ref q_g)]) hx hb dX1_become_86 hl (k := 1) rfl (by rfl) (by decide) rfl (fun ls hl => ?_)
          refine lv_goto (tgt := 73) hx hb dX1_become_89 (by decide) ?_
          obtain rfl := Option.some.inj h
          exact ih (x3_73 + (1 : Int32)) t4.1 t4.2 _ _ _ hP hD hS (lv_sub hl [1, 0] rfl) hk73
    exact hL73 pz_FUEL (0 : Int32) g_inverses g_orders _ _ _ hP hD hS (lv_sub hl [1, 0] rfl) hu_73
  have hL20 : ∀ (n : Nat) (x3_20 : Int32) (g_products_20 : Nat → Int32) (H : Heap) (locs : List Loc) (ls : Array Slot), va_P D vwCl [(q_g, .inr (1, [.int x1, .int x2, .int t1, .ref q_g_products, .ref q_g_inverses, .ref q_g_orders, .ref q_g_conjugates, .ref q_g_spans])), (q_g_products, .inl (cyI, 64, .inl g_products_20)), (q_g_inverses, .inl (cyI, 8, .inl g_inverses)), (q_g_orders, .inl (cyI, 8, .inl g_orders)), (q_g_conjugates, .inl (cyI, 64, .inl g_conjugates)), (q_g_spans, .inl (cyI, 256, .inl g_spans))] H → va_D A [(q_g, .inr (1, [.int x1, .int x2, .int t1, .ref q_g_products, .ref q_g_inverses, .ref q_g_orders, .ref q_g_conjugates, .ref q_g_spans])), (q_g_products, .inl (cyI, 64, .inl g_products_20)), (q_g_inverses, .inl (cyI, 8, .inl g_inverses)), (q_g_orders, .inl (cyI, 8, .inl g_orders)), (q_g_conjugates, .inl (cyI, 64, .inl g_conjugates)), (q_g_spans, .inl (cyI, 256, .inl g_spans))] → va_S A s.heap H locs → lv_has ls 5 [(0, .ref q_g), (3, .int x3_20)] → pz_iter (fun (σ : Int32 × (Nat → Int32)) => fX1_become_L20 x1 x2 t1 σ.1 σ.2) n (x3_20, g_products_20) = some u_20 → W p l e ({ frames := 4, cells := 0, slots := 0, locals := 96 } : Room) s m args below meth c H locs 0 0 Q (F0 m 20 ls []) := by
    intro n
    induction n with
    | zero => intro x3_20 g_products_20 H locs ls hP hD hS hl h; exact (pz_it0 h).elim
    | succ n ih =>
      intro x3_20 g_products_20 H locs ls hP hD hS hl h
      obtain ⟨y_20, h, hk20⟩ := pz_itS h
      have h : fX1_become_L20 x1 x2 t1 x3_20 g_products_20 = some y_20 := h
      unfold fX1_become_L20 at h
      refine lv_iload_n hx hb dX1_become_20 rfl (lv_at hl 1 rfl) ?_
      refine lv_aload_n hx hb dX1_become_21 rfl (lv_at hl 0 rfl) ?_
      refine pz_get pFX1_45 hB hK hP 0 rfl rfl dX1_become_22 ?_
      refine lv_icmp_ge (tgt := 71) hx hb dX1_become_25 (by decide) (fun hc25 => ?_) (fun hc25 => ?_)
      · have h := pz_itT hc25 h
        obtain rfl := Option.some.inj h
        obtain rfl := pz_exit hk20
        exact hE20 _ _ _ hP hD hS (lv_sub hl [0] rfl)
      · have h := pz_itF hc25 h
        refine lv_iconst (v := (0 : Int32)) hx hb dX1_become_28 (by decide) ?_
        refine lv_istore (lv' := [(4, .int (0 : Int32)), (0, .ref q_g), (3, .int x3_20)]) hx hb dX1_become_29 hl (by decide) rfl (fun ls hl => ?_)
        obtain ⟨u_31, hu_31, h⟩ := pz_bnd h
        have hE31 : ∀ (H : Heap) (locs : List Loc) (ls : Array Slot), va_P D vwCl [(q_g, .inr (1, [.int x1, .int x2, .int t1, .ref q_g_products, .ref q_g_inverses, .ref q_g_orders, .ref q_g_conjugates, .ref q_g_spans])), (q_g_products, .inl (cyI, 64, .inl u_31)), (q_g_inverses, .inl (cyI, 8, .inl g_inverses)), (q_g_orders, .inl (cyI, 8, .inl g_orders)), (q_g_conjugates, .inl (cyI, 64, .inl g_conjugates)), (q_g_spans, .inl (cyI, 256, .inl g_spans))] H → va_D A [(q_g, .inr (1, [.int x1, .int x2, .int t1, .ref q_g_products, .ref q_g_inverses, .ref q_g_orders, .ref q_g_conjugates, .ref q_g_spans])), (q_g_products, .inl (cyI, 64, .inl u_31)), (q_g_inverses, .inl (cyI, 8, .inl g_inverses)), (q_g_orders, .inl (cyI, 8, .inl g_orders)), (q_g_conjugates, .inl (cyI, 64, .inl g_conjugates)), (q_g_spans, .inl (cyI, 256, .inl g_spans))] → va_S A s.heap H locs → lv_has ls 5 [(0, .ref q_g), (3, .int x3_20)] → W p l e ({ frames := 4, cells := 0, slots := 0, locals := 96 } : Room) s m args below meth c H locs 0 0 Q (F0 m 65 ls []) := by
          intro H locs ls hP hD hS hl
          refine lv_iinc (v := (x3_20 + (1 : Int32))) (lv' := [(3, .int (x3_20 + (1 : Int32))), (0, .ref q_g)]) hx hb dX1_become_65 hl (k := 1) rfl (by rfl) (by decide) rfl (fun ls hl => ?_)
          refine lv_goto (tgt := 20) hx hb dX1_become_68 (by decide) ?_
          obtain rfl := Option.some.inj h
          exact ih (x3_20 + (1 : Int32)) u_31 _ _ _ hP hD hS (lv_sub hl [1, 0] rfl) hk20
        have hL31 : ∀ (n : Nat) (x4_31 : Int32) (g_products_31 : Nat → Int32) (H : Heap) (locs : List Loc) (ls : Array Slot), va_P D vwCl [(q_g, .inr (1, [.int x1, .int x2, .int t1, .ref q_g_products, .ref q_g_inverses, .ref q_g_orders, .ref q_g_conjugates, .ref q_g_spans])), (q_g_products, .inl (cyI, 64, .inl g_products_31)), (q_g_inverses, .inl (cyI, 8, .inl g_inverses)), (q_g_orders, .inl (cyI, 8, .inl g_orders)), (q_g_conjugates, .inl (cyI, 64, .inl g_conjugates)), (q_g_spans, .inl (cyI, 256, .inl g_spans))] H → va_D A [(q_g, .inr (1, [.int x1, .int x2, .int t1, .ref q_g_products, .ref q_g_inverses, .ref q_g_orders, .ref q_g_conjugates, .ref q_g_spans])), (q_g_products, .inl (cyI, 64, .inl g_products_31)), (q_g_inverses, .inl (cyI, 8, .inl g_inverses)), (q_g_orders, .inl (cyI, 8, .inl g_orders)), (q_g_conjugates, .inl (cyI, 64, .inl g_conjugates)), (q_g_spans, .inl (cyI, 256, .inl g_spans))] → va_S A s.heap H locs → lv_has ls 5 [(0, .ref q_g), (3, .int x3_20), (4, .int x4_31)] → pz_iter (fun (σ : Int32 × (Nat → Int32)) => fX1_become_L31 x3_20 x1 x2 t1 σ.1 σ.2) n (x4_31, g_products_31) = some u_31 → W p l e ({ frames := 4, cells := 0, slots := 0, locals := 96 } : Room) s m args below meth c H locs 0 0 Q (F0 m 31 ls []) := by
          intro n
          induction n with
          | zero => intro x4_31 g_products_31 H locs ls hP hD hS hl h; exact (pz_it0 h).elim
          | succ n ih =>
            intro x4_31 g_products_31 H locs ls hP hD hS hl h
            obtain ⟨y_31, h, hk31⟩ := pz_itS h
            have h : fX1_become_L31 x3_20 x1 x2 t1 x4_31 g_products_31 = some y_31 := h
            unfold fX1_become_L31 at h
            refine lv_iload hx hb dX1_become_31 (lv_at hl 2 rfl) ?_
            refine lv_aload_n hx hb dX1_become_33 rfl (lv_at hl 0 rfl) ?_
            refine pz_get pFX1_45 hB hK hP 0 rfl rfl dX1_become_34 ?_
            refine lv_icmp_ge (tgt := 65) hx hb dX1_become_37 (by decide) (fun hc37 => ?_) (fun hc37 => ?_)
            · have h := pz_itT hc37 h
              obtain rfl := Option.some.inj h
              obtain rfl := pz_exit hk31
              exact hE31 _ _ _ hP hD hS (lv_sub hl [0, 1] rfl)
            · have h := pz_itF hc37 h
              refine lv_aload_n hx hb dX1_become_40 rfl (lv_at hl 0 rfl) ?_
              refine pz_get pFX1_9 hB hK hP 0 rfl rfl dX1_become_41 ?_
              refine lv_iload_n hx hb dX1_become_44 rfl (lv_at hl 1 rfl) ?_
              refine lv_bipush (v := (8 : Int32)) hx hb dX1_become_45 (by decide) ?_
              refine lv_imul hx hb dX1_become_47 ?_
              refine lv_iload hx hb dX1_become_48 (lv_at hl 2 rfl) ?_
              refine lv_iadd hx hb dX1_become_50 ?_
              refine lv_aload_n hx hb dX1_become_51 rfl (lv_at hl 0 rfl) ?_
              refine lv_iload_n hx hb dX1_become_52 rfl (lv_at hl 1 rfl) ?_
              refine lv_iload hx hb dX1_become_53 (lv_at hl 2 rfl) ?_
              obtain ⟨t5, ht5, h⟩ := pz_bnd h
              refine pz_callIr (rest := [.int ((x3_20 * (8 : Int32)) + x4_31), .ref q_g_products]) pCX1_48 (kX1_multiplied l D cyI q_g q_g_products q_g_inverses q_g_orders q_g_conjugates q_g_spans x1 x2 t1 g_products_31 g_inverses g_orders g_conjugates g_spans x3_20 x4_31 ht5) hB hK hP hD hS hA hl rfl rfl rfl ⟨Nat.le_of_ble_eq_true rfl, Nat.le_of_ble_eq_true rfl⟩ rfl rfl [0, 1, 2, 3, 4, 5] rfl (by decide) (Nat.le_of_ble_eq_true rfl) dX1_become_55 (Nat.zero_le _) (Nat.zero_le _) rfl (fun H locs hP hS => ?_)
              obtain ⟨hi6, h⟩ := pz_wrE h
              refine pz_iast hB hK hP hD hS 1 rfl hi6 dX1_become_58 [(q_g, .inr (1, [.int x1, .int x2, .int t1, .ref q_g_products, .ref q_g_inverses, .ref q_g_orders, .ref q_g_conjugates, .ref q_g_spans])), (q_g_products, .inl (cyI, 64, .inl (upd g_products_31 (Int32.toNatClampNeg ((x3_20 * (8 : Int32)) + x4_31)) t5))), (q_g_inverses, .inl (cyI, 8, .inl g_inverses)), (q_g_orders, .inl (cyI, 8, .inl g_orders)), (q_g_conjugates, .inl (cyI, 64, .inl g_conjugates)), (q_g_spans, .inl (cyI, 256, .inl g_spans))] rfl (fun H locs hP hD hS => ?_)
              refine lv_iinc (v := (x4_31 + (1 : Int32))) (lv' := [(4, .int (x4_31 + (1 : Int32))), (0, .ref q_g), (3, .int x3_20)]) hx hb dX1_become_59 hl (k := 2) rfl (by rfl) (by decide) rfl (fun ls hl => ?_)
              refine lv_goto (tgt := 31) hx hb dX1_become_62 (by decide) ?_
              obtain rfl := Option.some.inj h
              exact ih (x4_31 + (1 : Int32)) (upd g_products_31 (Int32.toNatClampNeg ((x3_20 * (8 : Int32)) + x4_31)) t5) _ _ _ hP hD hS (lv_sub hl [1, 2, 0] rfl) hk31
        exact hL31 pz_FUEL (0 : Int32) g_products_20 _ _ _ hP hD hS (lv_sub hl [1, 2, 0] rfl) hu_31
  exact hL20 pz_FUEL (0 : Int32) g_products _ _ _ hP hD hS (lv_sub hl [1, 0] rfl) hu_20
set_option maxRecDepth 100000 in
set_option maxHeartbeats 4000000 in
theorem kX1_isElement (l : Launch) (D : va_G) (cyI : ClassId) (q_g q_g_products q_g_inverses q_g_orders q_g_conjugates q_g_spans : Nat) (g_family : Int32) (g_n : Int32) (g_size : Int32) (g_products : Nat → Int32) (g_inverses : Nat → Int32) (g_orders : Nat → Int32) (g_conjugates : Nat → Int32) (g_spans : Nat → Int32) (x1 : Int32) {v : Int32} (h : fX1_isElement x1 g_size = some v) : pz_MI l yX1_isElement cX1_isElement 2 .boolean ({ frames := 0, cells := 0, slots := 0, locals := 0 } : Room) [.ref q_g, .int x1] D cyI [(q_g, .inr (1, [.int g_family, .int g_n, .int g_size, .ref q_g_products, .ref q_g_inverses, .ref q_g_orders, .ref q_g_conjugates, .ref q_g_spans])), (q_g_products, .inl (cyI, 64, .inl g_products)), (q_g_inverses, .inl (cyI, 8, .inl g_inverses)), (q_g_orders, .inl (cyI, 8, .inl g_orders)), (q_g_conjugates, .inl (cyI, 64, .inl g_conjugates)), (q_g_spans, .inl (cyI, 256, .inl g_spans))] v [(q_g, .inr (1, [.int g_family, .int g_n, .int g_size, .ref q_g_products, .ref q_g_inverses, .ref q_g_orders, .ref q_g_conjugates, .ref q_g_spans])), (q_g_products, .inl (cyI, 64, .inl g_products)), (q_g_inverses, .inl (cyI, 8, .inl g_inverses)), (q_g_orders, .inl (cyI, 8, .inl g_orders)), (q_g_conjugates, .inl (cyI, 64, .inl g_conjugates)), (q_g_spans, .inl (cyI, 256, .inl g_spans))] := by
  refine pz_ofI (by decide) (Nat.le_of_ble_eq_true rfl) ?_
  intro p e s m args below meth c A ls hB hP hK hD hS hA hl
  have hl : lv_has ls 2 [(0, .ref q_g), (1, .int x1)] := hl
  have hx := hB.1
  have hb := hB.2.1
  unfold fX1_isElement at h
  generalize hQ : pz_QI below args s D A v [(q_g, .inr (1, [.int g_family, .int g_n, .int g_size, .ref q_g_products, .ref q_g_inverses, .ref q_g_orders, .ref q_g_conjugates, .ref q_g_spans])), (q_g_products, .inl (cyI, 64, .inl g_products)), (q_g_inverses, .inl (cyI, 8, .inl g_inverses)), (q_g_orders, .inl (cyI, 8, .inl g_orders)), (q_g_conjugates, .inl (cyI, 64, .inl g_conjugates)), (q_g_spans, .inl (cyI, 256, .inl g_spans))] = Q
  refine lv_iload_n hx hb dX1_isElement_0 rfl (lv_at hl 1 rfl) ?_
  refine lv_if_lt (tgt := 16) hx hb dX1_isElement_1 (by decide) (fun hc1 => ?_) (fun hc1 => ?_)
  · have h := pz_itT hc1 h
    refine lv_iconst (v := (0 : Int32)) hx hb dX1_isElement_16 (by decide) ?_
    obtain rfl := Option.some.inj h
    rw [← hQ]
    exact pz_zret hB (Or.inl rfl) hP hD hS dX1_isElement_17
  · have h := pz_itF hc1 h
    refine lv_iload_n hx hb dX1_isElement_4 rfl (lv_at hl 1 rfl) ?_
    refine lv_aload_n hx hb dX1_isElement_5 rfl (lv_at hl 0 rfl) ?_
    refine pz_get pFX1_45 hB hK hP 0 rfl rfl dX1_isElement_6 ?_
    refine lv_icmp_ge (tgt := 16) hx hb dX1_isElement_9 (by decide) (fun hc9 => ?_) (fun hc9 => ?_)
    · have h := pz_itT hc9 h
      refine lv_iconst (v := (0 : Int32)) hx hb dX1_isElement_16 (by decide) ?_
      obtain rfl := Option.some.inj h
      rw [← hQ]
      exact pz_zret hB (Or.inl rfl) hP hD hS dX1_isElement_17
    · have h := pz_itF hc9 h
      refine lv_iconst (v := (1 : Int32)) hx hb dX1_isElement_12 (by decide) ?_
      refine lv_goto (tgt := 17) hx hb dX1_isElement_13 (by decide) ?_
      obtain rfl := Option.some.inj h
      rw [← hQ]
      exact pz_zret hB (Or.inr rfl) hP hD hS dX1_isElement_17
set_option maxRecDepth 100000 in
set_option maxHeartbeats 4000000 in
theorem kX1_whole (l : Launch) (D : va_G) (cyI : ClassId) (q_g q_g_products q_g_inverses q_g_orders q_g_conjugates q_g_spans : Nat) (g_family : Int32) (g_n : Int32) (g_size : Int32) (g_products : Nat → Int32) (g_inverses : Nat → Int32) (g_orders : Nat → Int32) (g_conjugates : Nat → Int32) (g_spans : Nat → Int32) {v : Int32} (h : fX1_whole g_size = some v) : pz_MI l yX1_whole cX1_whole 1 .int ({ frames := 0, cells := 0, slots := 0, locals := 0 } : Room) [.ref q_g] D cyI [(q_g, .inr (1, [.int g_family, .int g_n, .int g_size, .ref q_g_products, .ref q_g_inverses, .ref q_g_orders, .ref q_g_conjugates, .ref q_g_spans])), (q_g_products, .inl (cyI, 64, .inl g_products)), (q_g_inverses, .inl (cyI, 8, .inl g_inverses)), (q_g_orders, .inl (cyI, 8, .inl g_orders)), (q_g_conjugates, .inl (cyI, 64, .inl g_conjugates)), (q_g_spans, .inl (cyI, 256, .inl g_spans))] v [(q_g, .inr (1, [.int g_family, .int g_n, .int g_size, .ref q_g_products, .ref q_g_inverses, .ref q_g_orders, .ref q_g_conjugates, .ref q_g_spans])), (q_g_products, .inl (cyI, 64, .inl g_products)), (q_g_inverses, .inl (cyI, 8, .inl g_inverses)), (q_g_orders, .inl (cyI, 8, .inl g_orders)), (q_g_conjugates, .inl (cyI, 64, .inl g_conjugates)), (q_g_spans, .inl (cyI, 256, .inl g_spans))] := by
  refine pz_ofI (by decide) (Nat.le_of_ble_eq_true rfl) ?_
  intro p e s m args below meth c A ls hB hP hK hD hS hA hl
  have hl : lv_has ls 1 [(0, .ref q_g)] := hl
  have hx := hB.1
  have hb := hB.2.1
  unfold fX1_whole at h
  generalize hQ : pz_QI below args s D A v [(q_g, .inr (1, [.int g_family, .int g_n, .int g_size, .ref q_g_products, .ref q_g_inverses, .ref q_g_orders, .ref q_g_conjugates, .ref q_g_spans])), (q_g_products, .inl (cyI, 64, .inl g_products)), (q_g_inverses, .inl (cyI, 8, .inl g_inverses)), (q_g_orders, .inl (cyI, 8, .inl g_orders)), (q_g_conjugates, .inl (cyI, 64, .inl g_conjugates)), (q_g_spans, .inl (cyI, 256, .inl g_spans))] = Q
  refine lv_iconst (v := (1 : Int32)) hx hb dX1_whole_0 (by decide) ?_
  refine lv_aload_n hx hb dX1_whole_1 rfl (lv_at hl 0 rfl) ?_
  refine pz_get pFX1_45 hB hK hP 0 rfl rfl dX1_whole_2 ?_
  refine lv_ishl hx hb dX1_whole_5 ?_
  refine lv_iconst (v := (1 : Int32)) hx hb dX1_whole_6 (by decide) ?_
  refine lv_isub hx hb dX1_whole_7 ?_
  obtain rfl := Option.some.inj h
  rw [← hQ]
  exact pz_iret hB hP hD hS dX1_whole_8
set_option maxRecDepth 100000 in
set_option maxHeartbeats 4000000 in
theorem kX1_isSet (l : Launch) (D : va_G) (cyI : ClassId) (q_g q_g_products q_g_inverses q_g_orders q_g_conjugates q_g_spans : Nat) (g_family : Int32) (g_n : Int32) (g_size : Int32) (g_products : Nat → Int32) (g_inverses : Nat → Int32) (g_orders : Nat → Int32) (g_conjugates : Nat → Int32) (g_spans : Nat → Int32) (x1 : Int32) {v : Int32} (h : fX1_isSet x1 g_size = some v) : pz_MI l yX1_isSet cX1_isSet 2 .boolean ({ frames := 1, cells := 0, slots := 0, locals := 20 } : Room) [.ref q_g, .int x1] D cyI [(q_g, .inr (1, [.int g_family, .int g_n, .int g_size, .ref q_g_products, .ref q_g_inverses, .ref q_g_orders, .ref q_g_conjugates, .ref q_g_spans])), (q_g_products, .inl (cyI, 64, .inl g_products)), (q_g_inverses, .inl (cyI, 8, .inl g_inverses)), (q_g_orders, .inl (cyI, 8, .inl g_orders)), (q_g_conjugates, .inl (cyI, 64, .inl g_conjugates)), (q_g_spans, .inl (cyI, 256, .inl g_spans))] v [(q_g, .inr (1, [.int g_family, .int g_n, .int g_size, .ref q_g_products, .ref q_g_inverses, .ref q_g_orders, .ref q_g_conjugates, .ref q_g_spans])), (q_g_products, .inl (cyI, 64, .inl g_products)), (q_g_inverses, .inl (cyI, 8, .inl g_inverses)), (q_g_orders, .inl (cyI, 8, .inl g_orders)), (q_g_conjugates, .inl (cyI, 64, .inl g_conjugates)), (q_g_spans, .inl (cyI, 256, .inl g_spans))] := by
  refine pz_ofI (by decide) (Nat.le_of_ble_eq_true rfl) ?_
  intro p e s m args below meth c A ls hB hP hK hD hS hA hl
  have hl : lv_has ls 2 [(0, .ref q_g), (1, .int x1)] := hl
  have hx := hB.1
  have hb := hB.2.1
  unfold fX1_isSet at h
  generalize hQ : pz_QI below args s D A v [(q_g, .inr (1, [.int g_family, .int g_n, .int g_size, .ref q_g_products, .ref q_g_inverses, .ref q_g_orders, .ref q_g_conjugates, .ref q_g_spans])), (q_g_products, .inl (cyI, 64, .inl g_products)), (q_g_inverses, .inl (cyI, 8, .inl g_inverses)), (q_g_orders, .inl (cyI, 8, .inl g_orders)), (q_g_conjugates, .inl (cyI, 64, .inl g_conjugates)), (q_g_spans, .inl (cyI, 256, .inl g_spans))] = Q
  refine lv_iload_n hx hb dX1_isSet_0 rfl (lv_at hl 1 rfl) ?_
  refine lv_if_lt (tgt := 16) hx hb dX1_isSet_1 (by decide) (fun hc1 => ?_) (fun hc1 => ?_)
  · have h := pz_itT hc1 h
    refine lv_iconst (v := (0 : Int32)) hx hb dX1_isSet_16 (by decide) ?_
    obtain rfl := Option.some.inj h
    rw [← hQ]
    exact pz_zret hB (Or.inl rfl) hP hD hS dX1_isSet_17
  · have h := pz_itF hc1 h
    refine lv_iload_n hx hb dX1_isSet_4 rfl (lv_at hl 1 rfl) ?_
    refine lv_aload_n hx hb dX1_isSet_5 rfl (lv_at hl 0 rfl) ?_
    obtain ⟨t1, ht1, h⟩ := pz_bnd h
    refine pz_callIr (rest := [.int x1]) pCX1_81 (kX1_whole l D cyI q_g q_g_products q_g_inverses q_g_orders q_g_conjugates q_g_spans g_family g_n g_size g_products g_inverses g_orders g_conjugates g_spans ht1) hB hK hP hD hS hA hl rfl rfl rfl ⟨Nat.le_of_ble_eq_true rfl, Nat.le_of_ble_eq_true rfl⟩ rfl rfl [0, 1, 2, 3, 4, 5] rfl (by decide) (Nat.le_of_ble_eq_true rfl) dX1_isSet_6 (Nat.zero_le _) (Nat.zero_le _) rfl (fun H locs hP hS => ?_)
    refine lv_icmp_gt (tgt := 16) hx hb dX1_isSet_9 (by decide) (fun hc9 => ?_) (fun hc9 => ?_)
    · have h := pz_itT hc9 h
      refine lv_iconst (v := (0 : Int32)) hx hb dX1_isSet_16 (by decide) ?_
      obtain rfl := Option.some.inj h
      rw [← hQ]
      exact pz_zret hB (Or.inl rfl) hP hD hS dX1_isSet_17
    · have h := pz_itF hc9 h
      refine lv_iconst (v := (1 : Int32)) hx hb dX1_isSet_12 (by decide) ?_
      refine lv_goto (tgt := 17) hx hb dX1_isSet_13 (by decide) ?_
      obtain rfl := Option.some.inj h
      rw [← hQ]
      exact pz_zret hB (Or.inr rfl) hP hD hS dX1_isSet_17
set_option maxRecDepth 100000 in
set_option maxHeartbeats 4000000 in
theorem kX1_powerOf (l : Launch) (D : va_G) (cyI : ClassId) (q_g q_g_products q_g_inverses q_g_orders q_g_conjugates q_g_spans : Nat) (g_family : Int32) (g_n : Int32) (g_size : Int32) (g_products : Nat → Int32) (g_inverses : Nat → Int32) (g_orders : Nat → Int32) (g_conjugates : Nat → Int32) (g_spans : Nat → Int32) (x1 : Int32) (x2 : Int32) {v : Int32} (h : fX1_powerOf x1 x2 g_products = some v) : pz_MI l yX1_powerOf cX1_powerOf 5 .int ({ frames := 1, cells := 0, slots := 0, locals := 22 } : Room) [.ref q_g, .int x1, .int x2] D cyI [(q_g, .inr (1, [.int g_family, .int g_n, .int g_size, .ref q_g_products, .ref q_g_inverses, .ref q_g_orders, .ref q_g_conjugates, .ref q_g_spans])), (q_g_products, .inl (cyI, 64, .inl g_products)), (q_g_inverses, .inl (cyI, 8, .inl g_inverses)), (q_g_orders, .inl (cyI, 8, .inl g_orders)), (q_g_conjugates, .inl (cyI, 64, .inl g_conjugates)), (q_g_spans, .inl (cyI, 256, .inl g_spans))] v [(q_g, .inr (1, [.int g_family, .int g_n, .int g_size, .ref q_g_products, .ref q_g_inverses, .ref q_g_orders, .ref q_g_conjugates, .ref q_g_spans])), (q_g_products, .inl (cyI, 64, .inl g_products)), (q_g_inverses, .inl (cyI, 8, .inl g_inverses)), (q_g_orders, .inl (cyI, 8, .inl g_orders)), (q_g_conjugates, .inl (cyI, 64, .inl g_conjugates)), (q_g_spans, .inl (cyI, 256, .inl g_spans))] := by
  refine pz_ofI (by decide) (Nat.le_of_ble_eq_true rfl) ?_
  intro p e s m args below meth c A ls hB hP hK hD hS hA hl
  have hl : lv_has ls 5 [(0, .ref q_g), (1, .int x1), (2, .int x2)] := hl
  have hx := hB.1
  have hb := hB.2.1
  unfold fX1_powerOf at h
  generalize hQ : pz_QI below args s D A v [(q_g, .inr (1, [.int g_family, .int g_n, .int g_size, .ref q_g_products, .ref q_g_inverses, .ref q_g_orders, .ref q_g_conjugates, .ref q_g_spans])), (q_g_products, .inl (cyI, 64, .inl g_products)), (q_g_inverses, .inl (cyI, 8, .inl g_inverses)), (q_g_orders, .inl (cyI, 8, .inl g_orders)), (q_g_conjugates, .inl (cyI, 64, .inl g_conjugates)), (q_g_spans, .inl (cyI, 256, .inl g_spans))] = Q
  refine lv_iconst (v := (0 : Int32)) hx hb dX1_powerOf_0 (by decide) ?_
  refine lv_istore_n (lv' := [(3, .int (0 : Int32)), (0, .ref q_g), (1, .int x1), (2, .int x2)]) hx hb dX1_powerOf_1 rfl hl (by decide) rfl (fun ls hl => ?_)
  refine lv_iconst (v := (0 : Int32)) hx hb dX1_powerOf_2 (by decide) ?_
  refine lv_istore (lv' := [(4, .int (0 : Int32)), (3, .int (0 : Int32)), (0, .ref q_g), (1, .int x1), (2, .int x2)]) hx hb dX1_powerOf_3 hl (by decide) rfl (fun ls hl => ?_)
  obtain ⟨u_5, hu_5, h⟩ := pz_bnd h
  have hE5 : ∀ (H : Heap) (locs : List Loc) (ls : Array Slot), va_P D vwCl [(q_g, .inr (1, [.int g_family, .int g_n, .int g_size, .ref q_g_products, .ref q_g_inverses, .ref q_g_orders, .ref q_g_conjugates, .ref q_g_spans])), (q_g_products, .inl (cyI, 64, .inl g_products)), (q_g_inverses, .inl (cyI, 8, .inl g_inverses)), (q_g_orders, .inl (cyI, 8, .inl g_orders)), (q_g_conjugates, .inl (cyI, 64, .inl g_conjugates)), (q_g_spans, .inl (cyI, 256, .inl g_spans))] H → va_D A [(q_g, .inr (1, [.int g_family, .int g_n, .int g_size, .ref q_g_products, .ref q_g_inverses, .ref q_g_orders, .ref q_g_conjugates, .ref q_g_spans])), (q_g_products, .inl (cyI, 64, .inl g_products)), (q_g_inverses, .inl (cyI, 8, .inl g_inverses)), (q_g_orders, .inl (cyI, 8, .inl g_orders)), (q_g_conjugates, .inl (cyI, 64, .inl g_conjugates)), (q_g_spans, .inl (cyI, 256, .inl g_spans))] → va_S A s.heap H locs → lv_has ls 5 [(3, .int u_5)] → W p l e ({ frames := 1, cells := 0, slots := 0, locals := 22 } : Room) s m args below meth c H locs 0 0 Q (F0 m 24 ls []) := by
    intro H locs ls hP hD hS hl
    refine lv_iload_n hx hb dX1_powerOf_24 rfl (lv_at hl 0 rfl) ?_
    obtain rfl := Option.some.inj h
    rw [← hQ]
    exact pz_iret hB hP hD hS dX1_powerOf_25
  have hL5 : ∀ (n : Nat) (x3_5 : Int32) (x4_5 : Int32) (H : Heap) (locs : List Loc) (ls : Array Slot), va_P D vwCl [(q_g, .inr (1, [.int g_family, .int g_n, .int g_size, .ref q_g_products, .ref q_g_inverses, .ref q_g_orders, .ref q_g_conjugates, .ref q_g_spans])), (q_g_products, .inl (cyI, 64, .inl g_products)), (q_g_inverses, .inl (cyI, 8, .inl g_inverses)), (q_g_orders, .inl (cyI, 8, .inl g_orders)), (q_g_conjugates, .inl (cyI, 64, .inl g_conjugates)), (q_g_spans, .inl (cyI, 256, .inl g_spans))] H → va_D A [(q_g, .inr (1, [.int g_family, .int g_n, .int g_size, .ref q_g_products, .ref q_g_inverses, .ref q_g_orders, .ref q_g_conjugates, .ref q_g_spans])), (q_g_products, .inl (cyI, 64, .inl g_products)), (q_g_inverses, .inl (cyI, 8, .inl g_inverses)), (q_g_orders, .inl (cyI, 8, .inl g_orders)), (q_g_conjugates, .inl (cyI, 64, .inl g_conjugates)), (q_g_spans, .inl (cyI, 256, .inl g_spans))] → va_S A s.heap H locs → lv_has ls 5 [(0, .ref q_g), (1, .int x1), (2, .int x2), (3, .int x3_5), (4, .int x4_5)] → pz_iter (fun (σ : Int32 × Int32) => fX1_powerOf_L5 x1 x2 g_products σ.1 σ.2) n (x3_5, x4_5) = some u_5 → W p l e ({ frames := 1, cells := 0, slots := 0, locals := 22 } : Room) s m args below meth c H locs 0 0 Q (F0 m 5 ls []) := by
    intro n
    induction n with
    | zero => intro x3_5 x4_5 H locs ls hP hD hS hl h; exact (pz_it0 h).elim
    | succ n ih =>
      intro x3_5 x4_5 H locs ls hP hD hS hl h
      obtain ⟨y_5, h, hk5⟩ := pz_itS h
      have h : fX1_powerOf_L5 x1 x2 g_products x3_5 x4_5 = some y_5 := h
      unfold fX1_powerOf_L5 at h
      refine lv_iload hx hb dX1_powerOf_5 (lv_at hl 4 rfl) ?_
      refine lv_iload_n hx hb dX1_powerOf_7 rfl (lv_at hl 2 rfl) ?_
      refine lv_icmp_ge (tgt := 24) hx hb dX1_powerOf_8 (by decide) (fun hc8 => ?_) (fun hc8 => ?_)
      · have h := pz_itT hc8 h
        obtain rfl := Option.some.inj h
        obtain rfl := pz_exit hk5
        exact hE5 _ _ _ hP hD hS (lv_sub hl [3] rfl)
      · have h := pz_itF hc8 h
        refine lv_aload_n hx hb dX1_powerOf_11 rfl (lv_at hl 0 rfl) ?_
        refine lv_iload_n hx hb dX1_powerOf_12 rfl (lv_at hl 3 rfl) ?_
        refine lv_iload_n hx hb dX1_powerOf_13 rfl (lv_at hl 1 rfl) ?_
        obtain ⟨t1, ht1, h⟩ := pz_bnd h
        refine pz_callIr (rest := []) pCX1_72 (kX1_product l D cyI q_g q_g_products q_g_inverses q_g_orders q_g_conjugates q_g_spans g_family g_n g_size g_products g_inverses g_orders g_conjugates g_spans x3_5 x1 ht1) hB hK hP hD hS hA hl rfl rfl rfl ⟨Nat.le_of_ble_eq_true rfl, Nat.le_of_ble_eq_true rfl⟩ rfl rfl [0, 1, 2, 3, 4, 5] rfl (by decide) (Nat.le_of_ble_eq_true rfl) dX1_powerOf_14 (Nat.zero_le _) (Nat.zero_le _) rfl (fun H locs hP hS => ?_)
        refine lv_istore_n (lv' := [(3, .int t1), (0, .ref q_g), (1, .int x1), (2, .int x2), (4, .int x4_5)]) hx hb dX1_powerOf_17 rfl hl (by decide) rfl (fun ls hl => ?_)
        refine lv_iinc (v := (x4_5 + (1 : Int32))) (lv' := [(4, .int (x4_5 + (1 : Int32))), (3, .int t1), (0, .ref q_g), (1, .int x1), (2, .int x2)]) hx hb dX1_powerOf_18 hl (k := 4) rfl (by rfl) (by decide) rfl (fun ls hl => ?_)
        refine lv_goto (tgt := 5) hx hb dX1_powerOf_21 (by decide) ?_
        obtain rfl := Option.some.inj h
        exact ih t1 (x4_5 + (1 : Int32)) _ _ _ hP hD hS (lv_sub hl [2, 3, 4, 1, 0] rfl) hk5
  exact hL5 pz_FUEL (0 : Int32) (0 : Int32) _ _ _ hP hD hS (lv_sub hl [2, 3, 4, 1, 0] rfl) hu_5
set_option maxRecDepth 100000 in
set_option maxHeartbeats 4000000 in
theorem kX1_conjugated (l : Launch) (D : va_G) (cyI : ClassId) (q_g q_g_products q_g_inverses q_g_orders q_g_conjugates q_g_spans : Nat) (g_family : Int32) (g_n : Int32) (g_size : Int32) (g_products : Nat → Int32) (g_inverses : Nat → Int32) (g_orders : Nat → Int32) (g_conjugates : Nat → Int32) (g_spans : Nat → Int32) (x1 : Int32) (x2 : Int32) {v : Int32} (h : fX1_conjugated x1 x2 g_conjugates = some v) : pz_MI l yX1_conjugated cX1_conjugated 3 .int ({ frames := 0, cells := 0, slots := 0, locals := 0 } : Room) [.ref q_g, .int x1, .int x2] D cyI [(q_g, .inr (1, [.int g_family, .int g_n, .int g_size, .ref q_g_products, .ref q_g_inverses, .ref q_g_orders, .ref q_g_conjugates, .ref q_g_spans])), (q_g_products, .inl (cyI, 64, .inl g_products)), (q_g_inverses, .inl (cyI, 8, .inl g_inverses)), (q_g_orders, .inl (cyI, 8, .inl g_orders)), (q_g_conjugates, .inl (cyI, 64, .inl g_conjugates)), (q_g_spans, .inl (cyI, 256, .inl g_spans))] v [(q_g, .inr (1, [.int g_family, .int g_n, .int g_size, .ref q_g_products, .ref q_g_inverses, .ref q_g_orders, .ref q_g_conjugates, .ref q_g_spans])), (q_g_products, .inl (cyI, 64, .inl g_products)), (q_g_inverses, .inl (cyI, 8, .inl g_inverses)), (q_g_orders, .inl (cyI, 8, .inl g_orders)), (q_g_conjugates, .inl (cyI, 64, .inl g_conjugates)), (q_g_spans, .inl (cyI, 256, .inl g_spans))] := by
  refine pz_ofI (by decide) (Nat.le_of_ble_eq_true rfl) ?_
  intro p e s m args below meth c A ls hB hP hK hD hS hA hl
  have hl : lv_has ls 3 [(0, .ref q_g), (1, .int x1), (2, .int x2)] := hl
  have hx := hB.1
  have hb := hB.2.1
  unfold fX1_conjugated at h
  generalize hQ : pz_QI below args s D A v [(q_g, .inr (1, [.int g_family, .int g_n, .int g_size, .ref q_g_products, .ref q_g_inverses, .ref q_g_orders, .ref q_g_conjugates, .ref q_g_spans])), (q_g_products, .inl (cyI, 64, .inl g_products)), (q_g_inverses, .inl (cyI, 8, .inl g_inverses)), (q_g_orders, .inl (cyI, 8, .inl g_orders)), (q_g_conjugates, .inl (cyI, 64, .inl g_conjugates)), (q_g_spans, .inl (cyI, 256, .inl g_spans))] = Q
  refine lv_aload_n hx hb dX1_conjugated_0 rfl (lv_at hl 0 rfl) ?_
  refine pz_get pFX1_21 hB hK hP 0 rfl rfl dX1_conjugated_1 ?_
  refine lv_iload_n hx hb dX1_conjugated_4 rfl (lv_at hl 1 rfl) ?_
  refine lv_bipush (v := (8 : Int32)) hx hb dX1_conjugated_5 (by decide) ?_
  refine lv_imul hx hb dX1_conjugated_7 ?_
  refine lv_iload_n hx hb dX1_conjugated_8 rfl (lv_at hl 2 rfl) ?_
  refine lv_iadd hx hb dX1_conjugated_9 ?_
  obtain ⟨hi1, h⟩ := pz_rdE h
  refine pz_iald hB hK hP 4 rfl hi1 dX1_conjugated_10 ?_
  obtain rfl := Option.some.inj h
  rw [← hQ]
  exact pz_iret hB hP hD hS dX1_conjugated_11
set_option maxRecDepth 100000 in
set_option maxHeartbeats 4000000 in
theorem kX1_conjugatesOf (l : Launch) (D : va_G) (cyI : ClassId) (q_g q_g_products q_g_inverses q_g_orders q_g_conjugates q_g_spans : Nat) (g_family : Int32) (g_n : Int32) (g_size : Int32) (g_products : Nat → Int32) (g_inverses : Nat → Int32) (g_orders : Nat → Int32) (g_conjugates : Nat → Int32) (g_spans : Nat → Int32) (x1 : Int32) {v : Int32} (h : fX1_conjugatesOf x1 g_size g_conjugates = some v) : pz_MI l yX1_conjugatesOf cX1_conjugatesOf 4 .int ({ frames := 1, cells := 0, slots := 0, locals := 22 } : Room) [.ref q_g, .int x1] D cyI [(q_g, .inr (1, [.int g_family, .int g_n, .int g_size, .ref q_g_products, .ref q_g_inverses, .ref q_g_orders, .ref q_g_conjugates, .ref q_g_spans])), (q_g_products, .inl (cyI, 64, .inl g_products)), (q_g_inverses, .inl (cyI, 8, .inl g_inverses)), (q_g_orders, .inl (cyI, 8, .inl g_orders)), (q_g_conjugates, .inl (cyI, 64, .inl g_conjugates)), (q_g_spans, .inl (cyI, 256, .inl g_spans))] v [(q_g, .inr (1, [.int g_family, .int g_n, .int g_size, .ref q_g_products, .ref q_g_inverses, .ref q_g_orders, .ref q_g_conjugates, .ref q_g_spans])), (q_g_products, .inl (cyI, 64, .inl g_products)), (q_g_inverses, .inl (cyI, 8, .inl g_inverses)), (q_g_orders, .inl (cyI, 8, .inl g_orders)), (q_g_conjugates, .inl (cyI, 64, .inl g_conjugates)), (q_g_spans, .inl (cyI, 256, .inl g_spans))] := by
  refine pz_ofI (by decide) (Nat.le_of_ble_eq_true rfl) ?_
  intro p e s m args below meth c A ls hB hP hK hD hS hA hl
  have hl : lv_has ls 4 [(0, .ref q_g), (1, .int x1)] := hl
  have hx := hB.1
  have hb := hB.2.1
  unfold fX1_conjugatesOf at h
  generalize hQ : pz_QI below args s D A v [(q_g, .inr (1, [.int g_family, .int g_n, .int g_size, .ref q_g_products, .ref q_g_inverses, .ref q_g_orders, .ref q_g_conjugates, .ref q_g_spans])), (q_g_products, .inl (cyI, 64, .inl g_products)), (q_g_inverses, .inl (cyI, 8, .inl g_inverses)), (q_g_orders, .inl (cyI, 8, .inl g_orders)), (q_g_conjugates, .inl (cyI, 64, .inl g_conjugates)), (q_g_spans, .inl (cyI, 256, .inl g_spans))] = Q
  refine lv_iconst (v := (0 : Int32)) hx hb dX1_conjugatesOf_0 (by decide) ?_
  refine lv_istore_n (lv' := [(2, .int (0 : Int32)), (0, .ref q_g), (1, .int x1)]) hx hb dX1_conjugatesOf_1 rfl hl (by decide) rfl (fun ls hl => ?_)
  refine lv_iconst (v := (0 : Int32)) hx hb dX1_conjugatesOf_2 (by decide) ?_
  refine lv_istore_n (lv' := [(3, .int (0 : Int32)), (2, .int (0 : Int32)), (0, .ref q_g), (1, .int x1)]) hx hb dX1_conjugatesOf_3 rfl hl (by decide) rfl (fun ls hl => ?_)
  obtain ⟨u_4, hu_4, h⟩ := pz_bnd h
  have hE4 : ∀ (H : Heap) (locs : List Loc) (ls : Array Slot), va_P D vwCl [(q_g, .inr (1, [.int g_family, .int g_n, .int g_size, .ref q_g_products, .ref q_g_inverses, .ref q_g_orders, .ref q_g_conjugates, .ref q_g_spans])), (q_g_products, .inl (cyI, 64, .inl g_products)), (q_g_inverses, .inl (cyI, 8, .inl g_inverses)), (q_g_orders, .inl (cyI, 8, .inl g_orders)), (q_g_conjugates, .inl (cyI, 64, .inl g_conjugates)), (q_g_spans, .inl (cyI, 256, .inl g_spans))] H → va_D A [(q_g, .inr (1, [.int g_family, .int g_n, .int g_size, .ref q_g_products, .ref q_g_inverses, .ref q_g_orders, .ref q_g_conjugates, .ref q_g_spans])), (q_g_products, .inl (cyI, 64, .inl g_products)), (q_g_inverses, .inl (cyI, 8, .inl g_inverses)), (q_g_orders, .inl (cyI, 8, .inl g_orders)), (q_g_conjugates, .inl (cyI, 64, .inl g_conjugates)), (q_g_spans, .inl (cyI, 256, .inl g_spans))] → va_S A s.heap H locs → lv_has ls 4 [(2, .int u_4)] → W p l e ({ frames := 1, cells := 0, slots := 0, locals := 22 } : Room) s m args below meth c H locs 0 0 Q (F0 m 29 ls []) := by
    intro H locs ls hP hD hS hl
    refine lv_iload_n hx hb dX1_conjugatesOf_29 rfl (lv_at hl 0 rfl) ?_
    obtain rfl := Option.some.inj h
    rw [← hQ]
    exact pz_iret hB hP hD hS dX1_conjugatesOf_30
  have hL4 : ∀ (n : Nat) (x2_4 : Int32) (x3_4 : Int32) (H : Heap) (locs : List Loc) (ls : Array Slot), va_P D vwCl [(q_g, .inr (1, [.int g_family, .int g_n, .int g_size, .ref q_g_products, .ref q_g_inverses, .ref q_g_orders, .ref q_g_conjugates, .ref q_g_spans])), (q_g_products, .inl (cyI, 64, .inl g_products)), (q_g_inverses, .inl (cyI, 8, .inl g_inverses)), (q_g_orders, .inl (cyI, 8, .inl g_orders)), (q_g_conjugates, .inl (cyI, 64, .inl g_conjugates)), (q_g_spans, .inl (cyI, 256, .inl g_spans))] H → va_D A [(q_g, .inr (1, [.int g_family, .int g_n, .int g_size, .ref q_g_products, .ref q_g_inverses, .ref q_g_orders, .ref q_g_conjugates, .ref q_g_spans])), (q_g_products, .inl (cyI, 64, .inl g_products)), (q_g_inverses, .inl (cyI, 8, .inl g_inverses)), (q_g_orders, .inl (cyI, 8, .inl g_orders)), (q_g_conjugates, .inl (cyI, 64, .inl g_conjugates)), (q_g_spans, .inl (cyI, 256, .inl g_spans))] → va_S A s.heap H locs → lv_has ls 4 [(0, .ref q_g), (1, .int x1), (2, .int x2_4), (3, .int x3_4)] → pz_iter (fun (σ : Int32 × Int32) => fX1_conjugatesOf_L4 x1 g_size g_conjugates σ.1 σ.2) n (x2_4, x3_4) = some u_4 → W p l e ({ frames := 1, cells := 0, slots := 0, locals := 22 } : Room) s m args below meth c H locs 0 0 Q (F0 m 4 ls []) := by
    intro n
    induction n with
    | zero => intro x2_4 x3_4 H locs ls hP hD hS hl h; exact (pz_it0 h).elim
    | succ n ih =>
      intro x2_4 x3_4 H locs ls hP hD hS hl h
      obtain ⟨y_4, h, hk4⟩ := pz_itS h
      have h : fX1_conjugatesOf_L4 x1 g_size g_conjugates x2_4 x3_4 = some y_4 := h
      unfold fX1_conjugatesOf_L4 at h
      refine lv_iload_n hx hb dX1_conjugatesOf_4 rfl (lv_at hl 3 rfl) ?_
      refine lv_aload_n hx hb dX1_conjugatesOf_5 rfl (lv_at hl 0 rfl) ?_
      refine pz_get pFX1_45 hB hK hP 0 rfl rfl dX1_conjugatesOf_6 ?_
      refine lv_icmp_ge (tgt := 29) hx hb dX1_conjugatesOf_9 (by decide) (fun hc9 => ?_) (fun hc9 => ?_)
      · have h := pz_itT hc9 h
        obtain rfl := Option.some.inj h
        obtain rfl := pz_exit hk4
        exact hE4 _ _ _ hP hD hS (lv_sub hl [2] rfl)
      · have h := pz_itF hc9 h
        refine lv_iload_n hx hb dX1_conjugatesOf_12 rfl (lv_at hl 2 rfl) ?_
        refine lv_iconst (v := (1 : Int32)) hx hb dX1_conjugatesOf_13 (by decide) ?_
        refine lv_aload_n hx hb dX1_conjugatesOf_14 rfl (lv_at hl 0 rfl) ?_
        refine lv_iload_n hx hb dX1_conjugatesOf_15 rfl (lv_at hl 1 rfl) ?_
        refine lv_iload_n hx hb dX1_conjugatesOf_16 rfl (lv_at hl 3 rfl) ?_
        obtain ⟨t1, ht1, h⟩ := pz_bnd h
        refine pz_callIr (rest := [.int (1 : Int32), .int x2_4]) pCX1_84 (kX1_conjugated l D cyI q_g q_g_products q_g_inverses q_g_orders q_g_conjugates q_g_spans g_family g_n g_size g_products g_inverses g_orders g_conjugates g_spans x1 x3_4 ht1) hB hK hP hD hS hA hl rfl rfl rfl ⟨Nat.le_of_ble_eq_true rfl, Nat.le_of_ble_eq_true rfl⟩ rfl rfl [0, 1, 2, 3, 4, 5] rfl (by decide) (Nat.le_of_ble_eq_true rfl) dX1_conjugatesOf_17 (Nat.zero_le _) (Nat.zero_le _) rfl (fun H locs hP hS => ?_)
        refine lv_ishl hx hb dX1_conjugatesOf_20 ?_
        refine lv_ior hx hb dX1_conjugatesOf_21 ?_
        refine lv_istore_n (lv' := [(2, .int (x2_4 ||| ((1 : Int32) <<< (t1 &&& 31)))), (0, .ref q_g), (1, .int x1), (3, .int x3_4)]) hx hb dX1_conjugatesOf_22 rfl hl (by decide) rfl (fun ls hl => ?_)
        refine lv_iinc (v := (x3_4 + (1 : Int32))) (lv' := [(3, .int (x3_4 + (1 : Int32))), (2, .int (x2_4 ||| ((1 : Int32) <<< (t1 &&& 31)))), (0, .ref q_g), (1, .int x1)]) hx hb dX1_conjugatesOf_23 hl (k := 3) rfl (by rfl) (by decide) rfl (fun ls hl => ?_)
        refine lv_goto (tgt := 4) hx hb dX1_conjugatesOf_26 (by decide) ?_
        obtain rfl := Option.some.inj h
        exact ih (x2_4 ||| ((1 : Int32) <<< (t1 &&& 31))) (x3_4 + (1 : Int32)) _ _ _ hP hD hS (lv_sub hl [2, 3, 1, 0] rfl) hk4
  exact hL4 pz_FUEL (0 : Int32) (0 : Int32) _ _ _ hP hD hS (lv_sub hl [2, 3, 1, 0] rfl) hu_4
set_option maxRecDepth 100000 in
set_option maxHeartbeats 4000000 in
theorem kX1_centreSet (l : Launch) (D : va_G) (cyI : ClassId) (q_g q_g_products q_g_inverses q_g_orders q_g_conjugates q_g_spans : Nat) (g_family : Int32) (g_n : Int32) (g_size : Int32) (g_products : Nat → Int32) (g_inverses : Nat → Int32) (g_orders : Nat → Int32) (g_conjugates : Nat → Int32) (g_spans : Nat → Int32) {v : Int32} (h : fX1_centreSet g_size g_conjugates = some v) : pz_MI l yX1_centreSet cX1_centreSet 3 .int ({ frames := 2, cells := 0, slots := 0, locals := 45 } : Room) [.ref q_g] D cyI [(q_g, .inr (1, [.int g_family, .int g_n, .int g_size, .ref q_g_products, .ref q_g_inverses, .ref q_g_orders, .ref q_g_conjugates, .ref q_g_spans])), (q_g_products, .inl (cyI, 64, .inl g_products)), (q_g_inverses, .inl (cyI, 8, .inl g_inverses)), (q_g_orders, .inl (cyI, 8, .inl g_orders)), (q_g_conjugates, .inl (cyI, 64, .inl g_conjugates)), (q_g_spans, .inl (cyI, 256, .inl g_spans))] v [(q_g, .inr (1, [.int g_family, .int g_n, .int g_size, .ref q_g_products, .ref q_g_inverses, .ref q_g_orders, .ref q_g_conjugates, .ref q_g_spans])), (q_g_products, .inl (cyI, 64, .inl g_products)), (q_g_inverses, .inl (cyI, 8, .inl g_inverses)), (q_g_orders, .inl (cyI, 8, .inl g_orders)), (q_g_conjugates, .inl (cyI, 64, .inl g_conjugates)), (q_g_spans, .inl (cyI, 256, .inl g_spans))] := by
  refine pz_ofI (by decide) (Nat.le_of_ble_eq_true rfl) ?_
  intro p e s m args below meth c A ls hB hP hK hD hS hA hl
  have hl : lv_has ls 3 [(0, .ref q_g)] := hl
  have hx := hB.1
  have hb := hB.2.1
  unfold fX1_centreSet at h
  generalize hQ : pz_QI below args s D A v [(q_g, .inr (1, [.int g_family, .int g_n, .int g_size, .ref q_g_products, .ref q_g_inverses, .ref q_g_orders, .ref q_g_conjugates, .ref q_g_spans])), (q_g_products, .inl (cyI, 64, .inl g_products)), (q_g_inverses, .inl (cyI, 8, .inl g_inverses)), (q_g_orders, .inl (cyI, 8, .inl g_orders)), (q_g_conjugates, .inl (cyI, 64, .inl g_conjugates)), (q_g_spans, .inl (cyI, 256, .inl g_spans))] = Q
  refine lv_iconst (v := (0 : Int32)) hx hb dX1_centreSet_0 (by decide) ?_
  refine lv_istore_n (lv' := [(1, .int (0 : Int32)), (0, .ref q_g)]) hx hb dX1_centreSet_1 rfl hl (by decide) rfl (fun ls hl => ?_)
  refine lv_iconst (v := (0 : Int32)) hx hb dX1_centreSet_2 (by decide) ?_
  refine lv_istore_n (lv' := [(2, .int (0 : Int32)), (1, .int (0 : Int32)), (0, .ref q_g)]) hx hb dX1_centreSet_3 rfl hl (by decide) rfl (fun ls hl => ?_)
  obtain ⟨u_4, hu_4, h⟩ := pz_bnd h
  have hE4 : ∀ (H : Heap) (locs : List Loc) (ls : Array Slot), va_P D vwCl [(q_g, .inr (1, [.int g_family, .int g_n, .int g_size, .ref q_g_products, .ref q_g_inverses, .ref q_g_orders, .ref q_g_conjugates, .ref q_g_spans])), (q_g_products, .inl (cyI, 64, .inl g_products)), (q_g_inverses, .inl (cyI, 8, .inl g_inverses)), (q_g_orders, .inl (cyI, 8, .inl g_orders)), (q_g_conjugates, .inl (cyI, 64, .inl g_conjugates)), (q_g_spans, .inl (cyI, 256, .inl g_spans))] H → va_D A [(q_g, .inr (1, [.int g_family, .int g_n, .int g_size, .ref q_g_products, .ref q_g_inverses, .ref q_g_orders, .ref q_g_conjugates, .ref q_g_spans])), (q_g_products, .inl (cyI, 64, .inl g_products)), (q_g_inverses, .inl (cyI, 8, .inl g_inverses)), (q_g_orders, .inl (cyI, 8, .inl g_orders)), (q_g_conjugates, .inl (cyI, 64, .inl g_conjugates)), (q_g_spans, .inl (cyI, 256, .inl g_spans))] → va_S A s.heap H locs → lv_has ls 3 [(1, .int u_4)] → W p l e ({ frames := 2, cells := 0, slots := 0, locals := 45 } : Room) s m args below meth c H locs 0 0 Q (F0 m 35 ls []) := by
    intro H locs ls hP hD hS hl
    refine lv_iload_n hx hb dX1_centreSet_35 rfl (lv_at hl 0 rfl) ?_
    obtain rfl := Option.some.inj h
    rw [← hQ]
    exact pz_iret hB hP hD hS dX1_centreSet_36
  have hL4 : ∀ (n : Nat) (x1_4 : Int32) (x2_4 : Int32) (H : Heap) (locs : List Loc) (ls : Array Slot), va_P D vwCl [(q_g, .inr (1, [.int g_family, .int g_n, .int g_size, .ref q_g_products, .ref q_g_inverses, .ref q_g_orders, .ref q_g_conjugates, .ref q_g_spans])), (q_g_products, .inl (cyI, 64, .inl g_products)), (q_g_inverses, .inl (cyI, 8, .inl g_inverses)), (q_g_orders, .inl (cyI, 8, .inl g_orders)), (q_g_conjugates, .inl (cyI, 64, .inl g_conjugates)), (q_g_spans, .inl (cyI, 256, .inl g_spans))] H → va_D A [(q_g, .inr (1, [.int g_family, .int g_n, .int g_size, .ref q_g_products, .ref q_g_inverses, .ref q_g_orders, .ref q_g_conjugates, .ref q_g_spans])), (q_g_products, .inl (cyI, 64, .inl g_products)), (q_g_inverses, .inl (cyI, 8, .inl g_inverses)), (q_g_orders, .inl (cyI, 8, .inl g_orders)), (q_g_conjugates, .inl (cyI, 64, .inl g_conjugates)), (q_g_spans, .inl (cyI, 256, .inl g_spans))] → va_S A s.heap H locs → lv_has ls 3 [(0, .ref q_g), (1, .int x1_4), (2, .int x2_4)] → pz_iter (fun (σ : Int32 × Int32) => fX1_centreSet_L4 g_size g_conjugates σ.1 σ.2) n (x1_4, x2_4) = some u_4 → W p l e ({ frames := 2, cells := 0, slots := 0, locals := 45 } : Room) s m args below meth c H locs 0 0 Q (F0 m 4 ls []) := by
    intro n
    induction n with
    | zero => intro x1_4 x2_4 H locs ls hP hD hS hl h; exact (pz_it0 h).elim
    | succ n ih =>
      intro x1_4 x2_4 H locs ls hP hD hS hl h
      obtain ⟨y_4, h, hk4⟩ := pz_itS h
      have h : fX1_centreSet_L4 g_size g_conjugates x1_4 x2_4 = some y_4 := h
      unfold fX1_centreSet_L4 at h
      refine lv_iload_n hx hb dX1_centreSet_4 rfl (lv_at hl 2 rfl) ?_
      refine lv_aload_n hx hb dX1_centreSet_5 rfl (lv_at hl 0 rfl) ?_
      refine pz_get pFX1_45 hB hK hP 0 rfl rfl dX1_centreSet_6 ?_
      refine lv_icmp_ge (tgt := 35) hx hb dX1_centreSet_9 (by decide) (fun hc9 => ?_) (fun hc9 => ?_)
      · have h := pz_itT hc9 h
        obtain rfl := Option.some.inj h
        obtain rfl := pz_exit hk4
        exact hE4 _ _ _ hP hD hS (lv_sub hl [1] rfl)
      · have h := pz_itF hc9 h
        refine lv_aload_n hx hb dX1_centreSet_12 rfl (lv_at hl 0 rfl) ?_
        refine lv_iload_n hx hb dX1_centreSet_13 rfl (lv_at hl 2 rfl) ?_
        obtain ⟨t1, ht1, h⟩ := pz_bnd h
        refine pz_callIr (rest := []) pCX1_87 (kX1_conjugatesOf l D cyI q_g q_g_products q_g_inverses q_g_orders q_g_conjugates q_g_spans g_family g_n g_size g_products g_inverses g_orders g_conjugates g_spans x2_4 ht1) hB hK hP hD hS hA hl rfl rfl rfl ⟨Nat.le_of_ble_eq_true rfl, Nat.le_of_ble_eq_true rfl⟩ rfl rfl [0, 1, 2, 3, 4, 5] rfl (by decide) (Nat.le_of_ble_eq_true rfl) dX1_centreSet_14 (Nat.zero_le _) (Nat.zero_le _) rfl (fun H locs hP hS => ?_)
        refine lv_iconst (v := (1 : Int32)) hx hb dX1_centreSet_17 (by decide) ?_
        refine lv_iload_n hx hb dX1_centreSet_18 rfl (lv_at hl 2 rfl) ?_
        refine lv_ishl hx hb dX1_centreSet_19 ?_
        have hJ29 : ∀ (x1_j29 : Int32) (H : Heap) (locs : List Loc) (ls : Array Slot), va_P D vwCl [(q_g, .inr (1, [.int g_family, .int g_n, .int g_size, .ref q_g_products, .ref q_g_inverses, .ref q_g_orders, .ref q_g_conjugates, .ref q_g_spans])), (q_g_products, .inl (cyI, 64, .inl g_products)), (q_g_inverses, .inl (cyI, 8, .inl g_inverses)), (q_g_orders, .inl (cyI, 8, .inl g_orders)), (q_g_conjugates, .inl (cyI, 64, .inl g_conjugates)), (q_g_spans, .inl (cyI, 256, .inl g_spans))] H → va_D A [(q_g, .inr (1, [.int g_family, .int g_n, .int g_size, .ref q_g_products, .ref q_g_inverses, .ref q_g_orders, .ref q_g_conjugates, .ref q_g_spans])), (q_g_products, .inl (cyI, 64, .inl g_products)), (q_g_inverses, .inl (cyI, 8, .inl g_inverses)), (q_g_orders, .inl (cyI, 8, .inl g_orders)), (q_g_conjugates, .inl (cyI, 64, .inl g_conjugates)), (q_g_spans, .inl (cyI, 256, .inl g_spans))] → va_S A s.heap H locs → lv_has ls 3 [(0, .ref q_g), (1, .int x1_j29), (2, .int x2_4)] → fX1_centreSet_J29L4 x1_j29 x2_4 = some y_4 → W p l e ({ frames := 2, cells := 0, slots := 0, locals := 45 } : Room) s m args below meth c H locs 0 0 Q (F0 m 29 ls []) := by
          intro x1_j29 H locs ls hP hD hS hl h
          unfold fX1_centreSet_J29L4 at h
          refine lv_iinc (v := (x2_4 + (1 : Int32))) (lv' := [(2, .int (x2_4 + (1 : Int32))), (0, .ref q_g), (1, .int x1_j29)]) hx hb dX1_centreSet_29 hl (k := 2) rfl (by rfl) (by decide) rfl (fun ls hl => ?_)
          refine lv_goto (tgt := 4) hx hb dX1_centreSet_32 (by decide) ?_
          obtain rfl := Option.some.inj h
          exact ih x1_j29 (x2_4 + (1 : Int32)) _ _ _ hP hD hS (lv_sub hl [1, 2, 0] rfl) hk4
        refine lv_icmp_ne (tgt := 29) hx hb dX1_centreSet_20 (by decide) (fun hc20 => ?_) (fun hc20 => ?_)
        · have h := pz_itF hc20 h
          exact hJ29 x1_4 _ _ _ hP hD hS (lv_sub hl [0, 1, 2] rfl) h
        · have h := pz_itT hc20 h
          refine lv_iload_n hx hb dX1_centreSet_23 rfl (lv_at hl 1 rfl) ?_
          refine lv_iconst (v := (1 : Int32)) hx hb dX1_centreSet_24 (by decide) ?_
          refine lv_iload_n hx hb dX1_centreSet_25 rfl (lv_at hl 2 rfl) ?_
          refine lv_ishl hx hb dX1_centreSet_26 ?_
          refine lv_ior hx hb dX1_centreSet_27 ?_
          refine lv_istore_n (lv' := [(1, .int (x1_4 ||| ((1 : Int32) <<< (x2_4 &&& 31)))), (0, .ref q_g), (2, .int x2_4)]) hx hb dX1_centreSet_28 rfl hl (by decide) rfl (fun ls hl => ?_)
          exact hJ29 (x1_4 ||| ((1 : Int32) <<< (x2_4 &&& 31))) _ _ _ hP hD hS (lv_sub hl [1, 0, 2] rfl) h
  exact hL4 pz_FUEL (0 : Int32) (0 : Int32) _ _ _ hP hD hS (lv_sub hl [2, 1, 0] rfl) hu_4
set_option maxRecDepth 100000 in
set_option maxHeartbeats 4000000 in
theorem kX1_countOfOrder (l : Launch) (D : va_G) (cyI : ClassId) (q_g q_g_products q_g_inverses q_g_orders q_g_conjugates q_g_spans : Nat) (g_family : Int32) (g_n : Int32) (g_size : Int32) (g_products : Nat → Int32) (g_inverses : Nat → Int32) (g_orders : Nat → Int32) (g_conjugates : Nat → Int32) (g_spans : Nat → Int32) (x1 : Int32) {v : Int32} (h : fX1_countOfOrder x1 g_size g_orders = some v) : pz_MI l yX1_countOfOrder cX1_countOfOrder 4 .int ({ frames := 0, cells := 0, slots := 0, locals := 0 } : Room) [.ref q_g, .int x1] D cyI [(q_g, .inr (1, [.int g_family, .int g_n, .int g_size, .ref q_g_products, .ref q_g_inverses, .ref q_g_orders, .ref q_g_conjugates, .ref q_g_spans])), (q_g_products, .inl (cyI, 64, .inl g_products)), (q_g_inverses, .inl (cyI, 8, .inl g_inverses)), (q_g_orders, .inl (cyI, 8, .inl g_orders)), (q_g_conjugates, .inl (cyI, 64, .inl g_conjugates)), (q_g_spans, .inl (cyI, 256, .inl g_spans))] v [(q_g, .inr (1, [.int g_family, .int g_n, .int g_size, .ref q_g_products, .ref q_g_inverses, .ref q_g_orders, .ref q_g_conjugates, .ref q_g_spans])), (q_g_products, .inl (cyI, 64, .inl g_products)), (q_g_inverses, .inl (cyI, 8, .inl g_inverses)), (q_g_orders, .inl (cyI, 8, .inl g_orders)), (q_g_conjugates, .inl (cyI, 64, .inl g_conjugates)), (q_g_spans, .inl (cyI, 256, .inl g_spans))] := by
  refine pz_ofI (by decide) (Nat.le_of_ble_eq_true rfl) ?_
  intro p e s m args below meth c A ls hB hP hK hD hS hA hl
  have hl : lv_has ls 4 [(0, .ref q_g), (1, .int x1)] := hl
  have hx := hB.1
  have hb := hB.2.1
  unfold fX1_countOfOrder at h
  generalize hQ : pz_QI below args s D A v [(q_g, .inr (1, [.int g_family, .int g_n, .int g_size, .ref q_g_products, .ref q_g_inverses, .ref q_g_orders, .ref q_g_conjugates, .ref q_g_spans])), (q_g_products, .inl (cyI, 64, .inl g_products)), (q_g_inverses, .inl (cyI, 8, .inl g_inverses)), (q_g_orders, .inl (cyI, 8, .inl g_orders)), (q_g_conjugates, .inl (cyI, 64, .inl g_conjugates)), (q_g_spans, .inl (cyI, 256, .inl g_spans))] = Q
  refine lv_iconst (v := (0 : Int32)) hx hb dX1_countOfOrder_0 (by decide) ?_
  refine lv_istore_n (lv' := [(2, .int (0 : Int32)), (0, .ref q_g), (1, .int x1)]) hx hb dX1_countOfOrder_1 rfl hl (by decide) rfl (fun ls hl => ?_)
  refine lv_iconst (v := (0 : Int32)) hx hb dX1_countOfOrder_2 (by decide) ?_
  refine lv_istore_n (lv' := [(3, .int (0 : Int32)), (2, .int (0 : Int32)), (0, .ref q_g), (1, .int x1)]) hx hb dX1_countOfOrder_3 rfl hl (by decide) rfl (fun ls hl => ?_)
  obtain ⟨u_4, hu_4, h⟩ := pz_bnd h
  have hE4 : ∀ (H : Heap) (locs : List Loc) (ls : Array Slot), va_P D vwCl [(q_g, .inr (1, [.int g_family, .int g_n, .int g_size, .ref q_g_products, .ref q_g_inverses, .ref q_g_orders, .ref q_g_conjugates, .ref q_g_spans])), (q_g_products, .inl (cyI, 64, .inl g_products)), (q_g_inverses, .inl (cyI, 8, .inl g_inverses)), (q_g_orders, .inl (cyI, 8, .inl g_orders)), (q_g_conjugates, .inl (cyI, 64, .inl g_conjugates)), (q_g_spans, .inl (cyI, 256, .inl g_spans))] H → va_D A [(q_g, .inr (1, [.int g_family, .int g_n, .int g_size, .ref q_g_products, .ref q_g_inverses, .ref q_g_orders, .ref q_g_conjugates, .ref q_g_spans])), (q_g_products, .inl (cyI, 64, .inl g_products)), (q_g_inverses, .inl (cyI, 8, .inl g_inverses)), (q_g_orders, .inl (cyI, 8, .inl g_orders)), (q_g_conjugates, .inl (cyI, 64, .inl g_conjugates)), (q_g_spans, .inl (cyI, 256, .inl g_spans))] → va_S A s.heap H locs → lv_has ls 4 [(2, .int u_4)] → W p l e ({ frames := 0, cells := 0, slots := 0, locals := 0 } : Room) s m args below meth c H locs 0 0 Q (F0 m 31 ls []) := by
    intro H locs ls hP hD hS hl
    refine lv_iload_n hx hb dX1_countOfOrder_31 rfl (lv_at hl 0 rfl) ?_
    obtain rfl := Option.some.inj h
    rw [← hQ]
    exact pz_iret hB hP hD hS dX1_countOfOrder_32
  have hL4 : ∀ (n : Nat) (x2_4 : Int32) (x3_4 : Int32) (H : Heap) (locs : List Loc) (ls : Array Slot), va_P D vwCl [(q_g, .inr (1, [.int g_family, .int g_n, .int g_size, .ref q_g_products, .ref q_g_inverses, .ref q_g_orders, .ref q_g_conjugates, .ref q_g_spans])), (q_g_products, .inl (cyI, 64, .inl g_products)), (q_g_inverses, .inl (cyI, 8, .inl g_inverses)), (q_g_orders, .inl (cyI, 8, .inl g_orders)), (q_g_conjugates, .inl (cyI, 64, .inl g_conjugates)), (q_g_spans, .inl (cyI, 256, .inl g_spans))] H → va_D A [(q_g, .inr (1, [.int g_family, .int g_n, .int g_size, .ref q_g_products, .ref q_g_inverses, .ref q_g_orders, .ref q_g_conjugates, .ref q_g_spans])), (q_g_products, .inl (cyI, 64, .inl g_products)), (q_g_inverses, .inl (cyI, 8, .inl g_inverses)), (q_g_orders, .inl (cyI, 8, .inl g_orders)), (q_g_conjugates, .inl (cyI, 64, .inl g_conjugates)), (q_g_spans, .inl (cyI, 256, .inl g_spans))] → va_S A s.heap H locs → lv_has ls 4 [(0, .ref q_g), (1, .int x1), (2, .int x2_4), (3, .int x3_4)] → pz_iter (fun (σ : Int32 × Int32) => fX1_countOfOrder_L4 x1 g_size g_orders σ.1 σ.2) n (x2_4, x3_4) = some u_4 → W p l e ({ frames := 0, cells := 0, slots := 0, locals := 0 } : Room) s m args below meth c H locs 0 0 Q (F0 m 4 ls []) := by
    intro n
    induction n with
    | zero => intro x2_4 x3_4 H locs ls hP hD hS hl h; exact (pz_it0 h).elim
    | succ n ih =>
      intro x2_4 x3_4 H locs ls hP hD hS hl h
      obtain ⟨y_4, h, hk4⟩ := pz_itS h
      have h : fX1_countOfOrder_L4 x1 g_size g_orders x2_4 x3_4 = some y_4 := h
      unfold fX1_countOfOrder_L4 at h
      refine lv_iload_n hx hb dX1_countOfOrder_4 rfl (lv_at hl 3 rfl) ?_
      refine lv_aload_n hx hb dX1_countOfOrder_5 rfl (lv_at hl 0 rfl) ?_
      refine pz_get pFX1_45 hB hK hP 0 rfl rfl dX1_countOfOrder_6 ?_
      refine lv_icmp_ge (tgt := 31) hx hb dX1_countOfOrder_9 (by decide) (fun hc9 => ?_) (fun hc9 => ?_)
      · have h := pz_itT hc9 h
        obtain rfl := Option.some.inj h
        obtain rfl := pz_exit hk4
        exact hE4 _ _ _ hP hD hS (lv_sub hl [2] rfl)
      · have h := pz_itF hc9 h
        refine lv_aload_n hx hb dX1_countOfOrder_12 rfl (lv_at hl 0 rfl) ?_
        refine pz_get pFX1_18 hB hK hP 0 rfl rfl dX1_countOfOrder_13 ?_
        refine lv_iload_n hx hb dX1_countOfOrder_16 rfl (lv_at hl 3 rfl) ?_
        obtain ⟨hi1, h⟩ := pz_rdE h
        refine pz_iald hB hK hP 3 rfl hi1 dX1_countOfOrder_17 ?_
        refine lv_iload_n hx hb dX1_countOfOrder_18 rfl (lv_at hl 1 rfl) ?_
        have hJ25 : ∀ (x2_j25 : Int32) (H : Heap) (locs : List Loc) (ls : Array Slot), va_P D vwCl [(q_g, .inr (1, [.int g_family, .int g_n, .int g_size, .ref q_g_products, .ref q_g_inverses, .ref q_g_orders, .ref q_g_conjugates, .ref q_g_spans])), (q_g_products, .inl (cyI, 64, .inl g_products)), (q_g_inverses, .inl (cyI, 8, .inl g_inverses)), (q_g_orders, .inl (cyI, 8, .inl g_orders)), (q_g_conjugates, .inl (cyI, 64, .inl g_conjugates)), (q_g_spans, .inl (cyI, 256, .inl g_spans))] H → va_D A [(q_g, .inr (1, [.int g_family, .int g_n, .int g_size, .ref q_g_products, .ref q_g_inverses, .ref q_g_orders, .ref q_g_conjugates, .ref q_g_spans])), (q_g_products, .inl (cyI, 64, .inl g_products)), (q_g_inverses, .inl (cyI, 8, .inl g_inverses)), (q_g_orders, .inl (cyI, 8, .inl g_orders)), (q_g_conjugates, .inl (cyI, 64, .inl g_conjugates)), (q_g_spans, .inl (cyI, 256, .inl g_spans))] → va_S A s.heap H locs → lv_has ls 4 [(0, .ref q_g), (1, .int x1), (2, .int x2_j25), (3, .int x3_4)] → fX1_countOfOrder_J25L4 x2_j25 x3_4 = some y_4 → W p l e ({ frames := 0, cells := 0, slots := 0, locals := 0 } : Room) s m args below meth c H locs 0 0 Q (F0 m 25 ls []) := by
          intro x2_j25 H locs ls hP hD hS hl h
          unfold fX1_countOfOrder_J25L4 at h
          refine lv_iinc (v := (x3_4 + (1 : Int32))) (lv' := [(3, .int (x3_4 + (1 : Int32))), (0, .ref q_g), (1, .int x1), (2, .int x2_j25)]) hx hb dX1_countOfOrder_25 hl (k := 3) rfl (by rfl) (by decide) rfl (fun ls hl => ?_)
          refine lv_goto (tgt := 4) hx hb dX1_countOfOrder_28 (by decide) ?_
          obtain rfl := Option.some.inj h
          exact ih x2_j25 (x3_4 + (1 : Int32)) _ _ _ hP hD hS (lv_sub hl [1, 2, 3, 0] rfl) hk4
        refine lv_icmp_ne (tgt := 25) hx hb dX1_countOfOrder_19 (by decide) (fun hc19 => ?_) (fun hc19 => ?_)
        · have h := pz_itF hc19 h
          exact hJ25 x2_4 _ _ _ hP hD hS (lv_sub hl [0, 1, 2, 3] rfl) h
        · have h := pz_itT hc19 h
          refine lv_iinc (v := (x2_4 + (1 : Int32))) (lv' := [(2, .int (x2_4 + (1 : Int32))), (0, .ref q_g), (1, .int x1), (3, .int x3_4)]) hx hb dX1_countOfOrder_22 hl (k := 2) rfl (by rfl) (by decide) rfl (fun ls hl => ?_)
          exact hJ25 (x2_4 + (1 : Int32)) _ _ _ hP hD hS (lv_sub hl [1, 2, 0, 3] rfl) h
  exact hL4 pz_FUEL (0 : Int32) (0 : Int32) _ _ _ hP hD hS (lv_sub hl [2, 3, 1, 0] rfl) hu_4
set_option maxRecDepth 100000 in
set_option maxHeartbeats 4000000 in
theorem kX1_spanOf (l : Launch) (D : va_G) (cyI : ClassId) (q_g q_g_products q_g_inverses q_g_orders q_g_conjugates q_g_spans : Nat) (g_family : Int32) (g_n : Int32) (g_size : Int32) (g_products : Nat → Int32) (g_inverses : Nat → Int32) (g_orders : Nat → Int32) (g_conjugates : Nat → Int32) (g_spans : Nat → Int32) (x1 : Int32) {v : Int32} (h : fX1_spanOf x1 g_spans = some v) : pz_MI l yX1_spanOf cX1_spanOf 2 .int ({ frames := 0, cells := 0, slots := 0, locals := 0 } : Room) [.ref q_g, .int x1] D cyI [(q_g, .inr (1, [.int g_family, .int g_n, .int g_size, .ref q_g_products, .ref q_g_inverses, .ref q_g_orders, .ref q_g_conjugates, .ref q_g_spans])), (q_g_products, .inl (cyI, 64, .inl g_products)), (q_g_inverses, .inl (cyI, 8, .inl g_inverses)), (q_g_orders, .inl (cyI, 8, .inl g_orders)), (q_g_conjugates, .inl (cyI, 64, .inl g_conjugates)), (q_g_spans, .inl (cyI, 256, .inl g_spans))] v [(q_g, .inr (1, [.int g_family, .int g_n, .int g_size, .ref q_g_products, .ref q_g_inverses, .ref q_g_orders, .ref q_g_conjugates, .ref q_g_spans])), (q_g_products, .inl (cyI, 64, .inl g_products)), (q_g_inverses, .inl (cyI, 8, .inl g_inverses)), (q_g_orders, .inl (cyI, 8, .inl g_orders)), (q_g_conjugates, .inl (cyI, 64, .inl g_conjugates)), (q_g_spans, .inl (cyI, 256, .inl g_spans))] := by
  refine pz_ofI (by decide) (Nat.le_of_ble_eq_true rfl) ?_
  intro p e s m args below meth c A ls hB hP hK hD hS hA hl
  have hl : lv_has ls 2 [(0, .ref q_g), (1, .int x1)] := hl
  have hx := hB.1
  have hb := hB.2.1
  unfold fX1_spanOf at h
  generalize hQ : pz_QI below args s D A v [(q_g, .inr (1, [.int g_family, .int g_n, .int g_size, .ref q_g_products, .ref q_g_inverses, .ref q_g_orders, .ref q_g_conjugates, .ref q_g_spans])), (q_g_products, .inl (cyI, 64, .inl g_products)), (q_g_inverses, .inl (cyI, 8, .inl g_inverses)), (q_g_orders, .inl (cyI, 8, .inl g_orders)), (q_g_conjugates, .inl (cyI, 64, .inl g_conjugates)), (q_g_spans, .inl (cyI, 256, .inl g_spans))] = Q
  refine lv_aload_n hx hb dX1_spanOf_0 rfl (lv_at hl 0 rfl) ?_
  refine pz_get pFX1_24 hB hK hP 0 rfl rfl dX1_spanOf_1 ?_
  refine lv_iload_n hx hb dX1_spanOf_4 rfl (lv_at hl 1 rfl) ?_
  obtain ⟨hi1, h⟩ := pz_rdE h
  refine pz_iald hB hK hP 5 rfl hi1 dX1_spanOf_5 ?_
  obtain rfl := Option.some.inj h
  rw [← hQ]
  exact pz_iret hB hP hD hS dX1_spanOf_6
set_option maxRecDepth 100000 in
set_option maxHeartbeats 4000000 in
theorem kX1_isSubgroup (l : Launch) (D : va_G) (cyI : ClassId) (q_g q_g_products q_g_inverses q_g_orders q_g_conjugates q_g_spans : Nat) (g_family : Int32) (g_n : Int32) (g_size : Int32) (g_products : Nat → Int32) (g_inverses : Nat → Int32) (g_orders : Nat → Int32) (g_conjugates : Nat → Int32) (g_spans : Nat → Int32) (x1 : Int32) {v : Int32} (h : fX1_isSubgroup x1 g_size g_spans = some v) : pz_MI l yX1_isSubgroup cX1_isSubgroup 2 .boolean ({ frames := 2, cells := 0, slots := 0, locals := 41 } : Room) [.ref q_g, .int x1] D cyI [(q_g, .inr (1, [.int g_family, .int g_n, .int g_size, .ref q_g_products, .ref q_g_inverses, .ref q_g_orders, .ref q_g_conjugates, .ref q_g_spans])), (q_g_products, .inl (cyI, 64, .inl g_products)), (q_g_inverses, .inl (cyI, 8, .inl g_inverses)), (q_g_orders, .inl (cyI, 8, .inl g_orders)), (q_g_conjugates, .inl (cyI, 64, .inl g_conjugates)), (q_g_spans, .inl (cyI, 256, .inl g_spans))] v [(q_g, .inr (1, [.int g_family, .int g_n, .int g_size, .ref q_g_products, .ref q_g_inverses, .ref q_g_orders, .ref q_g_conjugates, .ref q_g_spans])), (q_g_products, .inl (cyI, 64, .inl g_products)), (q_g_inverses, .inl (cyI, 8, .inl g_inverses)), (q_g_orders, .inl (cyI, 8, .inl g_orders)), (q_g_conjugates, .inl (cyI, 64, .inl g_conjugates)), (q_g_spans, .inl (cyI, 256, .inl g_spans))] := by
  refine pz_ofI (by decide) (Nat.le_of_ble_eq_true rfl) ?_
  intro p e s m args below meth c A ls hB hP hK hD hS hA hl
  have hl : lv_has ls 2 [(0, .ref q_g), (1, .int x1)] := hl
  have hx := hB.1
  have hb := hB.2.1
  unfold fX1_isSubgroup at h
  generalize hQ : pz_QI below args s D A v [(q_g, .inr (1, [.int g_family, .int g_n, .int g_size, .ref q_g_products, .ref q_g_inverses, .ref q_g_orders, .ref q_g_conjugates, .ref q_g_spans])), (q_g_products, .inl (cyI, 64, .inl g_products)), (q_g_inverses, .inl (cyI, 8, .inl g_inverses)), (q_g_orders, .inl (cyI, 8, .inl g_orders)), (q_g_conjugates, .inl (cyI, 64, .inl g_conjugates)), (q_g_spans, .inl (cyI, 256, .inl g_spans))] = Q
  refine lv_aload_n hx hb dX1_isSubgroup_0 rfl (lv_at hl 0 rfl) ?_
  refine lv_iload_n hx hb dX1_isSubgroup_1 rfl (lv_at hl 1 rfl) ?_
  obtain ⟨t1, ht1, h⟩ := pz_bnd h
  refine pz_callIr (rest := []) pCX1_93 (kX1_isSet l D cyI q_g q_g_products q_g_inverses q_g_orders q_g_conjugates q_g_spans g_family g_n g_size g_products g_inverses g_orders g_conjugates g_spans x1 ht1) hB hK hP hD hS hA hl rfl rfl rfl ⟨Nat.le_of_ble_eq_true rfl, Nat.le_of_ble_eq_true rfl⟩ rfl rfl [0, 1, 2, 3, 4, 5] rfl (by decide) (Nat.le_of_ble_eq_true rfl) dX1_isSubgroup_2 (Nat.zero_le _) (Nat.zero_le _) rfl (fun H locs hP hS => ?_)
  refine lv_if_eq (tgt := 21) hx hb dX1_isSubgroup_5 (by decide) (fun hc5 => ?_) (fun hc5 => ?_)
  · have h := pz_itT hc5 h
    refine lv_iconst (v := (0 : Int32)) hx hb dX1_isSubgroup_21 (by decide) ?_
    obtain rfl := Option.some.inj h
    rw [← hQ]
    exact pz_zret hB (Or.inl rfl) hP hD hS dX1_isSubgroup_22
  · have h := pz_itF hc5 h
    refine lv_aload_n hx hb dX1_isSubgroup_8 rfl (lv_at hl 0 rfl) ?_
    refine lv_iload_n hx hb dX1_isSubgroup_9 rfl (lv_at hl 1 rfl) ?_
    obtain ⟨t2, ht2, h⟩ := pz_bnd h
    refine pz_callIr (rest := []) pCX1_97 (kX1_spanOf l D cyI q_g q_g_products q_g_inverses q_g_orders q_g_conjugates q_g_spans g_family g_n g_size g_products g_inverses g_orders g_conjugates g_spans x1 ht2) hB hK hP hD hS hA hl rfl rfl rfl ⟨Nat.le_of_ble_eq_true rfl, Nat.le_of_ble_eq_true rfl⟩ rfl rfl [0, 1, 2, 3, 4, 5] rfl (by decide) (Nat.le_of_ble_eq_true rfl) dX1_isSubgroup_10 (Nat.zero_le _) (Nat.zero_le _) rfl (fun H locs hP hS => ?_)
    refine lv_iload_n hx hb dX1_isSubgroup_13 rfl (lv_at hl 1 rfl) ?_
    refine lv_icmp_ne (tgt := 21) hx hb dX1_isSubgroup_14 (by decide) (fun hc14 => ?_) (fun hc14 => ?_)
    · have h := pz_itF hc14 h
      refine lv_iconst (v := (0 : Int32)) hx hb dX1_isSubgroup_21 (by decide) ?_
      obtain rfl := Option.some.inj h
      rw [← hQ]
      exact pz_zret hB (Or.inl rfl) hP hD hS dX1_isSubgroup_22
    · have h := pz_itT hc14 h
      refine lv_iconst (v := (1 : Int32)) hx hb dX1_isSubgroup_17 (by decide) ?_
      refine lv_goto (tgt := 22) hx hb dX1_isSubgroup_18 (by decide) ?_
      obtain rfl := Option.some.inj h
      rw [← hQ]
      exact pz_zret hB (Or.inr rfl) hP hD hS dX1_isSubgroup_22
set_option maxRecDepth 100000 in
set_option maxHeartbeats 4000000 in
theorem kX1_isNormal (l : Launch) (D : va_G) (cyI : ClassId) (q_g q_g_products q_g_inverses q_g_orders q_g_conjugates q_g_spans : Nat) (g_family : Int32) (g_n : Int32) (g_size : Int32) (g_products : Nat → Int32) (g_inverses : Nat → Int32) (g_orders : Nat → Int32) (g_conjugates : Nat → Int32) (g_spans : Nat → Int32) (x1 : Int32) {v : Int32} (h : fX1_isNormal x1 g_size g_conjugates = some v) : pz_MI l yX1_isNormal cX1_isNormal 3 .boolean ({ frames := 2, cells := 0, slots := 0, locals := 45 } : Room) [.ref q_g, .int x1] D cyI [(q_g, .inr (1, [.int g_family, .int g_n, .int g_size, .ref q_g_products, .ref q_g_inverses, .ref q_g_orders, .ref q_g_conjugates, .ref q_g_spans])), (q_g_products, .inl (cyI, 64, .inl g_products)), (q_g_inverses, .inl (cyI, 8, .inl g_inverses)), (q_g_orders, .inl (cyI, 8, .inl g_orders)), (q_g_conjugates, .inl (cyI, 64, .inl g_conjugates)), (q_g_spans, .inl (cyI, 256, .inl g_spans))] v [(q_g, .inr (1, [.int g_family, .int g_n, .int g_size, .ref q_g_products, .ref q_g_inverses, .ref q_g_orders, .ref q_g_conjugates, .ref q_g_spans])), (q_g_products, .inl (cyI, 64, .inl g_products)), (q_g_inverses, .inl (cyI, 8, .inl g_inverses)), (q_g_orders, .inl (cyI, 8, .inl g_orders)), (q_g_conjugates, .inl (cyI, 64, .inl g_conjugates)), (q_g_spans, .inl (cyI, 256, .inl g_spans))] := by
  refine pz_ofI (by decide) (Nat.le_of_ble_eq_true rfl) ?_
  intro p e s m args below meth c A ls hB hP hK hD hS hA hl
  have hl : lv_has ls 3 [(0, .ref q_g), (1, .int x1)] := hl
  have hx := hB.1
  have hb := hB.2.1
  unfold fX1_isNormal at h
  generalize hQ : pz_QI below args s D A v [(q_g, .inr (1, [.int g_family, .int g_n, .int g_size, .ref q_g_products, .ref q_g_inverses, .ref q_g_orders, .ref q_g_conjugates, .ref q_g_spans])), (q_g_products, .inl (cyI, 64, .inl g_products)), (q_g_inverses, .inl (cyI, 8, .inl g_inverses)), (q_g_orders, .inl (cyI, 8, .inl g_orders)), (q_g_conjugates, .inl (cyI, 64, .inl g_conjugates)), (q_g_spans, .inl (cyI, 256, .inl g_spans))] = Q
  refine lv_iconst (v := (0 : Int32)) hx hb dX1_isNormal_0 (by decide) ?_
  refine lv_istore_n (lv' := [(2, .int (0 : Int32)), (0, .ref q_g), (1, .int x1)]) hx hb dX1_isNormal_1 rfl hl (by decide) rfl (fun ls hl => ?_)
  obtain ⟨u_2, hu_2, h⟩ := pz_bnd h
  have hz2 := h
  have hE2 : ∀ (uu_2 : Unit), u_2 = Sum.inl uu_2 → ∀ (H : Heap) (locs : List Loc) (ls : Array Slot), va_P D vwCl [(q_g, .inr (1, [.int g_family, .int g_n, .int g_size, .ref q_g_products, .ref q_g_inverses, .ref q_g_orders, .ref q_g_conjugates, .ref q_g_spans])), (q_g_products, .inl (cyI, 64, .inl g_products)), (q_g_inverses, .inl (cyI, 8, .inl g_inverses)), (q_g_orders, .inl (cyI, 8, .inl g_orders)), (q_g_conjugates, .inl (cyI, 64, .inl g_conjugates)), (q_g_spans, .inl (cyI, 256, .inl g_spans))] H → va_D A [(q_g, .inr (1, [.int g_family, .int g_n, .int g_size, .ref q_g_products, .ref q_g_inverses, .ref q_g_orders, .ref q_g_conjugates, .ref q_g_spans])), (q_g_products, .inl (cyI, 64, .inl g_products)), (q_g_inverses, .inl (cyI, 8, .inl g_inverses)), (q_g_orders, .inl (cyI, 8, .inl g_orders)), (q_g_conjugates, .inl (cyI, 64, .inl g_conjugates)), (q_g_spans, .inl (cyI, 256, .inl g_spans))] → va_S A s.heap H locs → lv_has ls 3 [] → W p l e ({ frames := 2, cells := 0, slots := 0, locals := 45 } : Room) s m args below meth c H locs 0 0 Q (F0 m 39 ls []) := by
    intro uu_2 huu H locs ls hP hD hS hl
    have h := pz_elimL huu hz2
    refine lv_iconst (v := (1 : Int32)) hx hb dX1_isNormal_39 (by decide) ?_
    obtain rfl := Option.some.inj h
    rw [← hQ]
    exact pz_zret hB (Or.inr rfl) hP hD hS dX1_isNormal_40
  have hL2 : ∀ (n : Nat) (x2_2 : Int32) (H : Heap) (locs : List Loc) (ls : Array Slot), va_P D vwCl [(q_g, .inr (1, [.int g_family, .int g_n, .int g_size, .ref q_g_products, .ref q_g_inverses, .ref q_g_orders, .ref q_g_conjugates, .ref q_g_spans])), (q_g_products, .inl (cyI, 64, .inl g_products)), (q_g_inverses, .inl (cyI, 8, .inl g_inverses)), (q_g_orders, .inl (cyI, 8, .inl g_orders)), (q_g_conjugates, .inl (cyI, 64, .inl g_conjugates)), (q_g_spans, .inl (cyI, 256, .inl g_spans))] H → va_D A [(q_g, .inr (1, [.int g_family, .int g_n, .int g_size, .ref q_g_products, .ref q_g_inverses, .ref q_g_orders, .ref q_g_conjugates, .ref q_g_spans])), (q_g_products, .inl (cyI, 64, .inl g_products)), (q_g_inverses, .inl (cyI, 8, .inl g_inverses)), (q_g_orders, .inl (cyI, 8, .inl g_orders)), (q_g_conjugates, .inl (cyI, 64, .inl g_conjugates)), (q_g_spans, .inl (cyI, 256, .inl g_spans))] → va_S A s.heap H locs → lv_has ls 3 [(0, .ref q_g), (1, .int x1), (2, .int x2_2)] → pz_iter (fun (σ : Int32) => fX1_isNormal_L2 x1 g_size g_conjugates σ) n x2_2 = some u_2 → W p l e ({ frames := 2, cells := 0, slots := 0, locals := 45 } : Room) s m args below meth c H locs 0 0 Q (F0 m 2 ls []) := by
    intro n
    induction n with
    | zero => intro x2_2 H locs ls hP hD hS hl h; exact (pz_it0 h).elim
    | succ n ih =>
      intro x2_2 H locs ls hP hD hS hl h
      obtain ⟨y_2, h, hk2⟩ := pz_itS h
      have h : fX1_isNormal_L2 x1 g_size g_conjugates x2_2 = some y_2 := h
      unfold fX1_isNormal_L2 at h
      refine lv_iload_n hx hb dX1_isNormal_2 rfl (lv_at hl 2 rfl) ?_
      refine lv_aload_n hx hb dX1_isNormal_3 rfl (lv_at hl 0 rfl) ?_
      refine pz_get pFX1_45 hB hK hP 0 rfl rfl dX1_isNormal_4 ?_
      refine lv_icmp_ge (tgt := 39) hx hb dX1_isNormal_7 (by decide) (fun hc7 => ?_) (fun hc7 => ?_)
      · have h := pz_itT hc7 h
        obtain rfl := Option.some.inj h
        exact hE2 () (pz_exitI hk2) _ _ _ hP hD hS (lv_sub hl [] rfl)
      · have h := pz_itF hc7 h
        refine lv_iload_n hx hb dX1_isNormal_10 rfl (lv_at hl 1 rfl) ?_
        refine lv_iload_n hx hb dX1_isNormal_11 rfl (lv_at hl 2 rfl) ?_
        refine lv_ishr hx hb dX1_isNormal_12 ?_
        refine lv_iconst (v := (1 : Int32)) hx hb dX1_isNormal_13 (by decide) ?_
        refine lv_iand hx hb dX1_isNormal_14 ?_
        refine lv_iconst (v := (1 : Int32)) hx hb dX1_isNormal_15 (by decide) ?_
        have hJ33 : ∀ (H : Heap) (locs : List Loc) (ls : Array Slot), va_P D vwCl [(q_g, .inr (1, [.int g_family, .int g_n, .int g_size, .ref q_g_products, .ref q_g_inverses, .ref q_g_orders, .ref q_g_conjugates, .ref q_g_spans])), (q_g_products, .inl (cyI, 64, .inl g_products)), (q_g_inverses, .inl (cyI, 8, .inl g_inverses)), (q_g_orders, .inl (cyI, 8, .inl g_orders)), (q_g_conjugates, .inl (cyI, 64, .inl g_conjugates)), (q_g_spans, .inl (cyI, 256, .inl g_spans))] H → va_D A [(q_g, .inr (1, [.int g_family, .int g_n, .int g_size, .ref q_g_products, .ref q_g_inverses, .ref q_g_orders, .ref q_g_conjugates, .ref q_g_spans])), (q_g_products, .inl (cyI, 64, .inl g_products)), (q_g_inverses, .inl (cyI, 8, .inl g_inverses)), (q_g_orders, .inl (cyI, 8, .inl g_orders)), (q_g_conjugates, .inl (cyI, 64, .inl g_conjugates)), (q_g_spans, .inl (cyI, 256, .inl g_spans))] → va_S A s.heap H locs → lv_has ls 3 [(0, .ref q_g), (1, .int x1), (2, .int x2_2)] → fX1_isNormal_J33L2 x2_2 = some y_2 → W p l e ({ frames := 2, cells := 0, slots := 0, locals := 45 } : Room) s m args below meth c H locs 0 0 Q (F0 m 33 ls []) := by
          intro H locs ls hP hD hS hl h
          unfold fX1_isNormal_J33L2 at h
          refine lv_iinc (v := (x2_2 + (1 : Int32))) (lv' := [(2, .int (x2_2 + (1 : Int32))), (0, .ref q_g), (1, .int x1)]) hx hb dX1_isNormal_33 hl (k := 2) rfl (by rfl) (by decide) rfl (fun ls hl => ?_)
          refine lv_goto (tgt := 2) hx hb dX1_isNormal_36 (by decide) ?_
          obtain rfl := Option.some.inj h
          exact ih (x2_2 + (1 : Int32)) _ _ _ hP hD hS (lv_sub hl [1, 2, 0] rfl) hk2
        refine lv_icmp_ne (tgt := 33) hx hb dX1_isNormal_16 (by decide) (fun hc16 => ?_) (fun hc16 => ?_)
        · have h := pz_itF hc16 h
          exact hJ33 _ _ _ hP hD hS (lv_sub hl [0, 1, 2] rfl) h
        · have h := pz_itT hc16 h
          refine lv_aload_n hx hb dX1_isNormal_19 rfl (lv_at hl 0 rfl) ?_
          refine lv_iload_n hx hb dX1_isNormal_20 rfl (lv_at hl 2 rfl) ?_
          obtain ⟨t1, ht1, h⟩ := pz_bnd h
          refine pz_callIr (rest := []) pCX1_87 (kX1_conjugatesOf l D cyI q_g q_g_products q_g_inverses q_g_orders q_g_conjugates q_g_spans g_family g_n g_size g_products g_inverses g_orders g_conjugates g_spans x2_2 ht1) hB hK hP hD hS hA hl rfl rfl rfl ⟨Nat.le_of_ble_eq_true rfl, Nat.le_of_ble_eq_true rfl⟩ rfl rfl [0, 1, 2, 3, 4, 5] rfl (by decide) (Nat.le_of_ble_eq_true rfl) dX1_isNormal_21 (Nat.zero_le _) (Nat.zero_le _) rfl (fun H locs hP hS => ?_)
          refine lv_iload_n hx hb dX1_isNormal_24 rfl (lv_at hl 1 rfl) ?_
          refine lv_iconst (v := (-1 : Int32)) hx hb dX1_isNormal_25 (by decide) ?_
          refine lv_ixor hx hb dX1_isNormal_26 ?_
          refine lv_iand hx hb dX1_isNormal_27 ?_
          refine lv_if_eq (tgt := 33) hx hb dX1_isNormal_28 (by decide) (fun hc28 => ?_) (fun hc28 => ?_)
          · have h := pz_itT hc28 h
            exact hJ33 _ _ _ hP hD hS (lv_sub hl [0, 1, 2] rfl) h
          · have h := pz_itF hc28 h
            refine lv_iconst (v := (0 : Int32)) hx hb dX1_isNormal_31 (by decide) ?_
            obtain rfl := Option.some.inj h
            have h := pz_elimR hk2 hz2
            obtain rfl := Option.some.inj h
            rw [← hQ]
            exact pz_zret hB (Or.inl rfl) hP hD hS dX1_isNormal_32
  exact hL2 pz_FUEL (0 : Int32) _ _ _ hP hD hS (lv_sub hl [1, 2, 0] rfl) hu_2
set_option maxRecDepth 100000 in
set_option maxHeartbeats 4000000 in
theorem kJ6_bitCount_0f7a4 (l : Launch) (D : va_G) (cyI : ClassId) (x0 : Int32) {v : Int32} (h : fJ6_bitCount_0f7a4 x0 = some v) : pz_MI l yJ6_bitCount_0f7a4 cJ6_bitCount_0f7a4 1 .int ({ frames := 0, cells := 0, slots := 0, locals := 0 } : Room) [.int x0] D cyI [] v [] := by
  refine pz_ofI (by decide) (Nat.le_of_ble_eq_true rfl) ?_
  intro p e s m args below meth c A ls hB hP hK hD hS hA hl
  have hl : lv_has ls 1 [(0, .int x0)] := hl
  have hx := hB.1
  have hb := hB.2.1
  unfold fJ6_bitCount_0f7a4 at h
  generalize hQ : pz_QI below args s D A v [] = Q
  refine lv_iload_n hx hb dJ6_bitCount_0f7a4_0 rfl (lv_at hl 0 rfl) ?_
  refine lv_iload_n hx hb dJ6_bitCount_0f7a4_1 rfl (lv_at hl 0 rfl) ?_
  refine lv_iconst (v := (1 : Int32)) hx hb dJ6_bitCount_0f7a4_2 (by decide) ?_
  refine lv_iushr hx hb dJ6_bitCount_0f7a4_3 (v := (x0.toUInt32 >>> (Int32.toUInt32 (1 : Int32) &&& Int32.toUInt32 31)).toInt32) rfl ?_
  refine lv_ldcw (v := (1431655765 : Int32)) hx hb hB.2.2.2.2.1 (hB.2.2.2.2.2.1 _ (pz_w2 42 rfl rfl)) dJ6_bitCount_0f7a4_4 ?_
  refine lv_iand hx hb dJ6_bitCount_0f7a4_7 ?_
  refine lv_isub hx hb dJ6_bitCount_0f7a4_8 ?_
  refine lv_topi (fun y1 ey1 => ?_)
  have h := pz_bvE ey1 h
  refine lv_istore_n (lv' := [(0, .int y1)]) hx hb dJ6_bitCount_0f7a4_9 rfl hl (by decide) rfl (fun ls hl => ?_)
  refine lv_iload_n hx hb dJ6_bitCount_0f7a4_10 rfl (lv_at hl 0 rfl) ?_
  refine lv_ldcw (v := (858993459 : Int32)) hx hb hB.2.2.2.2.1 (hB.2.2.2.2.2.1 _ (pz_w2 43 rfl rfl)) dJ6_bitCount_0f7a4_11 ?_
  refine lv_iand hx hb dJ6_bitCount_0f7a4_14 ?_
  refine lv_iload_n hx hb dJ6_bitCount_0f7a4_15 rfl (lv_at hl 0 rfl) ?_
  refine lv_iconst (v := (2 : Int32)) hx hb dJ6_bitCount_0f7a4_16 (by decide) ?_
  refine lv_iushr hx hb dJ6_bitCount_0f7a4_17 (v := (y1.toUInt32 >>> (Int32.toUInt32 (2 : Int32) &&& Int32.toUInt32 31)).toInt32) rfl ?_
  refine lv_ldcw (v := (858993459 : Int32)) hx hb hB.2.2.2.2.1 (hB.2.2.2.2.2.1 _ (pz_w2 43 rfl rfl)) dJ6_bitCount_0f7a4_18 ?_
  refine lv_iand hx hb dJ6_bitCount_0f7a4_21 ?_
  refine lv_iadd hx hb dJ6_bitCount_0f7a4_22 ?_
  refine lv_topi (fun y2 ey2 => ?_)
  have h := pz_bvE ey2 h
  refine lv_istore_n (lv' := [(0, .int y2)]) hx hb dJ6_bitCount_0f7a4_23 rfl hl (by decide) rfl (fun ls hl => ?_)
  refine lv_iload_n hx hb dJ6_bitCount_0f7a4_24 rfl (lv_at hl 0 rfl) ?_
  refine lv_iload_n hx hb dJ6_bitCount_0f7a4_25 rfl (lv_at hl 0 rfl) ?_
  refine lv_iconst (v := (4 : Int32)) hx hb dJ6_bitCount_0f7a4_26 (by decide) ?_
  refine lv_iushr hx hb dJ6_bitCount_0f7a4_27 (v := (y2.toUInt32 >>> (Int32.toUInt32 (4 : Int32) &&& Int32.toUInt32 31)).toInt32) rfl ?_
  refine lv_iadd hx hb dJ6_bitCount_0f7a4_28 ?_
  refine lv_ldcw (v := (252645135 : Int32)) hx hb hB.2.2.2.2.1 (hB.2.2.2.2.2.1 _ (pz_w2 44 rfl rfl)) dJ6_bitCount_0f7a4_29 ?_
  refine lv_iand hx hb dJ6_bitCount_0f7a4_32 ?_
  refine lv_topi (fun y3 ey3 => ?_)
  have h := pz_bvE ey3 h
  refine lv_istore_n (lv' := [(0, .int y3)]) hx hb dJ6_bitCount_0f7a4_33 rfl hl (by decide) rfl (fun ls hl => ?_)
  refine lv_iload_n hx hb dJ6_bitCount_0f7a4_34 rfl (lv_at hl 0 rfl) ?_
  refine lv_iload_n hx hb dJ6_bitCount_0f7a4_35 rfl (lv_at hl 0 rfl) ?_
  refine lv_bipush (v := (8 : Int32)) hx hb dJ6_bitCount_0f7a4_36 (by decide) ?_
  refine lv_iushr hx hb dJ6_bitCount_0f7a4_38 (v := (y3.toUInt32 >>> (Int32.toUInt32 (8 : Int32) &&& Int32.toUInt32 31)).toInt32) rfl ?_
  refine lv_iadd hx hb dJ6_bitCount_0f7a4_39 ?_
  refine lv_topi (fun y4 ey4 => ?_)
  have h := pz_bvE ey4 h
  refine lv_istore_n (lv' := [(0, .int y4)]) hx hb dJ6_bitCount_0f7a4_40 rfl hl (by decide) rfl (fun ls hl => ?_)
  refine lv_iload_n hx hb dJ6_bitCount_0f7a4_41 rfl (lv_at hl 0 rfl) ?_
  refine lv_iload_n hx hb dJ6_bitCount_0f7a4_42 rfl (lv_at hl 0 rfl) ?_
  refine lv_bipush (v := (16 : Int32)) hx hb dJ6_bitCount_0f7a4_43 (by decide) ?_
  refine lv_iushr hx hb dJ6_bitCount_0f7a4_45 (v := (y4.toUInt32 >>> (Int32.toUInt32 (16 : Int32) &&& Int32.toUInt32 31)).toInt32) rfl ?_
  refine lv_iadd hx hb dJ6_bitCount_0f7a4_46 ?_
  refine lv_topi (fun y5 ey5 => ?_)
  have h := pz_bvE ey5 h
  refine lv_istore_n (lv' := [(0, .int y5)]) hx hb dJ6_bitCount_0f7a4_47 rfl hl (by decide) rfl (fun ls hl => ?_)
  refine lv_iload_n hx hb dJ6_bitCount_0f7a4_48 rfl (lv_at hl 0 rfl) ?_
  refine lv_bipush (v := (63 : Int32)) hx hb dJ6_bitCount_0f7a4_49 (by decide) ?_
  refine lv_iand hx hb dJ6_bitCount_0f7a4_51 ?_
  obtain rfl := Option.some.inj h
  rw [← hQ]
  exact pz_iret hB hP hD hS dJ6_bitCount_0f7a4_52
set_option maxRecDepth 100000 in
set_option maxHeartbeats 4000000 in
theorem kX1_indexOf (l : Launch) (D : va_G) (cyI : ClassId) (q_g q_g_products q_g_inverses q_g_orders q_g_conjugates q_g_spans : Nat) (g_family : Int32) (g_n : Int32) (g_size : Int32) (g_products : Nat → Int32) (g_inverses : Nat → Int32) (g_orders : Nat → Int32) (g_conjugates : Nat → Int32) (g_spans : Nat → Int32) (x1 : Int32) {v : Int32} (h : fX1_indexOf x1 g_size = some v) : pz_MI l yX1_indexOf cX1_indexOf 3 .int ({ frames := 1, cells := 0, slots := 0, locals := 20 } : Room) [.ref q_g, .int x1] D cyI [(q_g, .inr (1, [.int g_family, .int g_n, .int g_size, .ref q_g_products, .ref q_g_inverses, .ref q_g_orders, .ref q_g_conjugates, .ref q_g_spans])), (q_g_products, .inl (cyI, 64, .inl g_products)), (q_g_inverses, .inl (cyI, 8, .inl g_inverses)), (q_g_orders, .inl (cyI, 8, .inl g_orders)), (q_g_conjugates, .inl (cyI, 64, .inl g_conjugates)), (q_g_spans, .inl (cyI, 256, .inl g_spans))] v [(q_g, .inr (1, [.int g_family, .int g_n, .int g_size, .ref q_g_products, .ref q_g_inverses, .ref q_g_orders, .ref q_g_conjugates, .ref q_g_spans])), (q_g_products, .inl (cyI, 64, .inl g_products)), (q_g_inverses, .inl (cyI, 8, .inl g_inverses)), (q_g_orders, .inl (cyI, 8, .inl g_orders)), (q_g_conjugates, .inl (cyI, 64, .inl g_conjugates)), (q_g_spans, .inl (cyI, 256, .inl g_spans))] := by
  refine pz_ofI (by decide) (Nat.le_of_ble_eq_true rfl) ?_
  intro p e s m args below meth c A ls hB hP hK hD hS hA hl
  have hl : lv_has ls 3 [(0, .ref q_g), (1, .int x1)] := hl
  have hx := hB.1
  have hb := hB.2.1
  unfold fX1_indexOf at h
  generalize hQ : pz_QI below args s D A v [(q_g, .inr (1, [.int g_family, .int g_n, .int g_size, .ref q_g_products, .ref q_g_inverses, .ref q_g_orders, .ref q_g_conjugates, .ref q_g_spans])), (q_g_products, .inl (cyI, 64, .inl g_products)), (q_g_inverses, .inl (cyI, 8, .inl g_inverses)), (q_g_orders, .inl (cyI, 8, .inl g_orders)), (q_g_conjugates, .inl (cyI, 64, .inl g_conjugates)), (q_g_spans, .inl (cyI, 256, .inl g_spans))] = Q
  refine lv_iload_n hx hb dX1_indexOf_0 rfl (lv_at hl 1 rfl) ?_
  obtain ⟨t1, ht1, h⟩ := pz_bnd h
  refine pz_callSIr (rest := []) pCX1_100 (kJ6_bitCount_0f7a4 l D cyI x1 ht1) hB hK hP hD hS hA hl rfl rfl rfl ⟨Nat.le_of_ble_eq_true rfl, Nat.le_of_ble_eq_true rfl⟩ [] rfl (by decide) (Nat.le_of_ble_eq_true rfl) dX1_indexOf_1 (Nat.zero_le _) (Nat.zero_le _) rfl (fun H locs hP hS => ?_)
  refine lv_istore_n (lv' := [(2, .int t1), (0, .ref q_g), (1, .int x1)]) hx hb dX1_indexOf_4 rfl hl (by decide) rfl (fun ls hl => ?_)
  refine lv_iload_n hx hb dX1_indexOf_5 rfl (lv_at hl 0 rfl) ?_
  refine lv_if_ne (tgt := 13) hx hb dX1_indexOf_6 (by decide) (fun hc6 => ?_) (fun hc6 => ?_)
  · have h := pz_itF hc6 h
    refine lv_aload_n hx hb dX1_indexOf_13 rfl (lv_at hl 1 rfl) ?_
    refine pz_get pFX1_45 hB hK hP 0 rfl rfl dX1_indexOf_14 ?_
    refine lv_iload_n hx hb dX1_indexOf_17 rfl (lv_at hl 0 rfl) ?_
    obtain ⟨hn2, h⟩ := pz_dvE h
    refine lv_idiv hx hb dX1_indexOf_18 hn2 ?_
    obtain rfl := Option.some.inj h
    rw [← hQ]
    exact pz_iret hB hP hD hS dX1_indexOf_19
  · have h := pz_itT hc6 h
    refine lv_iconst (v := (0 : Int32)) hx hb dX1_indexOf_9 (by decide) ?_
    refine lv_goto (tgt := 19) hx hb dX1_indexOf_10 (by decide) ?_
    obtain rfl := Option.some.inj h
    rw [← hQ]
    exact pz_iret hB hP hD hS dX1_indexOf_19
set_option maxRecDepth 100000 in
set_option maxHeartbeats 4000000 in
theorem kX1_setsBetween (l : Launch) (D : va_G) (cyI : ClassId) (q_g q_g_products q_g_inverses q_g_orders q_g_conjugates q_g_spans : Nat) (g_family : Int32) (g_n : Int32) (g_size : Int32) (g_products : Nat → Int32) (g_inverses : Nat → Int32) (g_orders : Nat → Int32) (g_conjugates : Nat → Int32) (g_spans : Nat → Int32) (x1 : Int32) (x2 : Int32) {v : Int32} (h : fX1_setsBetween x1 x2 g_size g_products = some v) : pz_MI l yX1_setsBetween cX1_setsBetween 6 .int ({ frames := 2, cells := 0, slots := 0, locals := 48 } : Room) [.ref q_g, .int x1, .int x2] D cyI [(q_g, .inr (1, [.int g_family, .int g_n, .int g_size, .ref q_g_products, .ref q_g_inverses, .ref q_g_orders, .ref q_g_conjugates, .ref q_g_spans])), (q_g_products, .inl (cyI, 64, .inl g_products)), (q_g_inverses, .inl (cyI, 8, .inl g_inverses)), (q_g_orders, .inl (cyI, 8, .inl g_orders)), (q_g_conjugates, .inl (cyI, 64, .inl g_conjugates)), (q_g_spans, .inl (cyI, 256, .inl g_spans))] v [(q_g, .inr (1, [.int g_family, .int g_n, .int g_size, .ref q_g_products, .ref q_g_inverses, .ref q_g_orders, .ref q_g_conjugates, .ref q_g_spans])), (q_g_products, .inl (cyI, 64, .inl g_products)), (q_g_inverses, .inl (cyI, 8, .inl g_inverses)), (q_g_orders, .inl (cyI, 8, .inl g_orders)), (q_g_conjugates, .inl (cyI, 64, .inl g_conjugates)), (q_g_spans, .inl (cyI, 256, .inl g_spans))] := by
  refine pz_ofI (by decide) (Nat.le_of_ble_eq_true rfl) ?_
  intro p e s m args below meth c A ls hB hP hK hD hS hA hl
  have hl : lv_has ls 6 [(0, .ref q_g), (1, .int x1), (2, .int x2)] := hl
  have hx := hB.1
  have hb := hB.2.1
  unfold fX1_setsBetween at h
  generalize hQ : pz_QI below args s D A v [(q_g, .inr (1, [.int g_family, .int g_n, .int g_size, .ref q_g_products, .ref q_g_inverses, .ref q_g_orders, .ref q_g_conjugates, .ref q_g_spans])), (q_g_products, .inl (cyI, 64, .inl g_products)), (q_g_inverses, .inl (cyI, 8, .inl g_inverses)), (q_g_orders, .inl (cyI, 8, .inl g_orders)), (q_g_conjugates, .inl (cyI, 64, .inl g_conjugates)), (q_g_spans, .inl (cyI, 256, .inl g_spans))] = Q
  refine lv_iconst (v := (0 : Int32)) hx hb dX1_setsBetween_0 (by decide) ?_
  refine lv_istore_n (lv' := [(3, .int (0 : Int32)), (0, .ref q_g), (1, .int x1), (2, .int x2)]) hx hb dX1_setsBetween_1 rfl hl (by decide) rfl (fun ls hl => ?_)
  refine lv_iconst (v := (0 : Int32)) hx hb dX1_setsBetween_2 (by decide) ?_
  refine lv_istore (lv' := [(4, .int (0 : Int32)), (3, .int (0 : Int32)), (0, .ref q_g), (1, .int x1), (2, .int x2)]) hx hb dX1_setsBetween_3 hl (by decide) rfl (fun ls hl => ?_)
  refine lv_iconst (v := (0 : Int32)) hx hb dX1_setsBetween_5 (by decide) ?_
  refine lv_istore (lv' := [(5, .int (0 : Int32)), (4, .int (0 : Int32)), (3, .int (0 : Int32)), (0, .ref q_g), (1, .int x1), (2, .int x2)]) hx hb dX1_setsBetween_6 hl (by decide) rfl (fun ls hl => ?_)
  obtain ⟨u_8, hu_8, h⟩ := pz_bnd h
  have hE8 : ∀ (H : Heap) (locs : List Loc) (ls : Array Slot), va_P D vwCl [(q_g, .inr (1, [.int g_family, .int g_n, .int g_size, .ref q_g_products, .ref q_g_inverses, .ref q_g_orders, .ref q_g_conjugates, .ref q_g_spans])), (q_g_products, .inl (cyI, 64, .inl g_products)), (q_g_inverses, .inl (cyI, 8, .inl g_inverses)), (q_g_orders, .inl (cyI, 8, .inl g_orders)), (q_g_conjugates, .inl (cyI, 64, .inl g_conjugates)), (q_g_spans, .inl (cyI, 256, .inl g_spans))] H → va_D A [(q_g, .inr (1, [.int g_family, .int g_n, .int g_size, .ref q_g_products, .ref q_g_inverses, .ref q_g_orders, .ref q_g_conjugates, .ref q_g_spans])), (q_g_products, .inl (cyI, 64, .inl g_products)), (q_g_inverses, .inl (cyI, 8, .inl g_inverses)), (q_g_orders, .inl (cyI, 8, .inl g_orders)), (q_g_conjugates, .inl (cyI, 64, .inl g_conjugates)), (q_g_spans, .inl (cyI, 256, .inl g_spans))] → va_S A s.heap H locs → lv_has ls 6 [(4, .int u_8)] → W p l e ({ frames := 2, cells := 0, slots := 0, locals := 48 } : Room) s m args below meth c H locs 0 0 Q (F0 m 50 ls []) := by
    intro H locs ls hP hD hS hl
    refine lv_iload hx hb dX1_setsBetween_50 (lv_at hl 0 rfl) ?_
    obtain rfl := Option.some.inj h
    rw [← hQ]
    exact pz_iret hB hP hD hS dX1_setsBetween_52
  have hL8 : ∀ (n : Nat) (x3_8 : Int32) (x4_8 : Int32) (x5_8 : Int32) (H : Heap) (locs : List Loc) (ls : Array Slot), va_P D vwCl [(q_g, .inr (1, [.int g_family, .int g_n, .int g_size, .ref q_g_products, .ref q_g_inverses, .ref q_g_orders, .ref q_g_conjugates, .ref q_g_spans])), (q_g_products, .inl (cyI, 64, .inl g_products)), (q_g_inverses, .inl (cyI, 8, .inl g_inverses)), (q_g_orders, .inl (cyI, 8, .inl g_orders)), (q_g_conjugates, .inl (cyI, 64, .inl g_conjugates)), (q_g_spans, .inl (cyI, 256, .inl g_spans))] H → va_D A [(q_g, .inr (1, [.int g_family, .int g_n, .int g_size, .ref q_g_products, .ref q_g_inverses, .ref q_g_orders, .ref q_g_conjugates, .ref q_g_spans])), (q_g_products, .inl (cyI, 64, .inl g_products)), (q_g_inverses, .inl (cyI, 8, .inl g_inverses)), (q_g_orders, .inl (cyI, 8, .inl g_orders)), (q_g_conjugates, .inl (cyI, 64, .inl g_conjugates)), (q_g_spans, .inl (cyI, 256, .inl g_spans))] → va_S A s.heap H locs → lv_has ls 6 [(0, .ref q_g), (1, .int x1), (2, .int x2), (3, .int x3_8), (4, .int x4_8), (5, .int x5_8)] → pz_iter (fun (σ : Int32 × Int32 × Int32) => fX1_setsBetween_L8 x1 x2 g_size g_products σ.1 σ.2.1 σ.2.2) n (x3_8, x4_8, x5_8) = some u_8 → W p l e ({ frames := 2, cells := 0, slots := 0, locals := 48 } : Room) s m args below meth c H locs 0 0 Q (F0 m 8 ls []) := by
    intro n
    induction n with
    | zero => intro x3_8 x4_8 x5_8 H locs ls hP hD hS hl h; exact (pz_it0 h).elim
    | succ n ih =>
      intro x3_8 x4_8 x5_8 H locs ls hP hD hS hl h
      obtain ⟨y_8, h, hk8⟩ := pz_itS h
      have h : fX1_setsBetween_L8 x1 x2 g_size g_products x3_8 x4_8 x5_8 = some y_8 := h
      unfold fX1_setsBetween_L8 at h
      refine lv_iload hx hb dX1_setsBetween_8 (lv_at hl 5 rfl) ?_
      refine lv_aload_n hx hb dX1_setsBetween_10 rfl (lv_at hl 0 rfl) ?_
      refine pz_get pFX1_45 hB hK hP 0 rfl rfl dX1_setsBetween_11 ?_
      refine lv_icmp_ge (tgt := 50) hx hb dX1_setsBetween_14 (by decide) (fun hc14 => ?_) (fun hc14 => ?_)
      · have h := pz_itT hc14 h
        obtain rfl := Option.some.inj h
        obtain rfl := pz_exit hk8
        exact hE8 _ _ _ hP hD hS (lv_sub hl [4] rfl)
      · have h := pz_itF hc14 h
        refine lv_iload_n hx hb dX1_setsBetween_17 rfl (lv_at hl 3 rfl) ?_
        refine lv_iload hx hb dX1_setsBetween_18 (lv_at hl 5 rfl) ?_
        refine lv_ishr hx hb dX1_setsBetween_20 ?_
        refine lv_iconst (v := (1 : Int32)) hx hb dX1_setsBetween_21 (by decide) ?_
        refine lv_iand hx hb dX1_setsBetween_22 ?_
        have hJ44 : ∀ (x3_j44 : Int32) (x4_j44 : Int32) (H : Heap) (locs : List Loc) (ls : Array Slot), va_P D vwCl [(q_g, .inr (1, [.int g_family, .int g_n, .int g_size, .ref q_g_products, .ref q_g_inverses, .ref q_g_orders, .ref q_g_conjugates, .ref q_g_spans])), (q_g_products, .inl (cyI, 64, .inl g_products)), (q_g_inverses, .inl (cyI, 8, .inl g_inverses)), (q_g_orders, .inl (cyI, 8, .inl g_orders)), (q_g_conjugates, .inl (cyI, 64, .inl g_conjugates)), (q_g_spans, .inl (cyI, 256, .inl g_spans))] H → va_D A [(q_g, .inr (1, [.int g_family, .int g_n, .int g_size, .ref q_g_products, .ref q_g_inverses, .ref q_g_orders, .ref q_g_conjugates, .ref q_g_spans])), (q_g_products, .inl (cyI, 64, .inl g_products)), (q_g_inverses, .inl (cyI, 8, .inl g_inverses)), (q_g_orders, .inl (cyI, 8, .inl g_orders)), (q_g_conjugates, .inl (cyI, 64, .inl g_conjugates)), (q_g_spans, .inl (cyI, 256, .inl g_spans))] → va_S A s.heap H locs → lv_has ls 6 [(0, .ref q_g), (1, .int x1), (2, .int x2), (3, .int x3_j44), (4, .int x4_j44), (5, .int x5_8)] → fX1_setsBetween_J44L8 x3_j44 x4_j44 x5_8 = some y_8 → W p l e ({ frames := 2, cells := 0, slots := 0, locals := 48 } : Room) s m args below meth c H locs 0 0 Q (F0 m 44 ls []) := by
          intro x3_j44 x4_j44 H locs ls hP hD hS hl h
          unfold fX1_setsBetween_J44L8 at h
          refine lv_iinc (v := (x5_8 + (1 : Int32))) (lv' := [(5, .int (x5_8 + (1 : Int32))), (0, .ref q_g), (1, .int x1), (2, .int x2), (3, .int x3_j44), (4, .int x4_j44)]) hx hb dX1_setsBetween_44 hl (k := 5) rfl (by rfl) (by decide) rfl (fun ls hl => ?_)
          refine lv_goto (tgt := 8) hx hb dX1_setsBetween_47 (by decide) ?_
          obtain rfl := Option.some.inj h
          exact ih x3_j44 x4_j44 (x5_8 + (1 : Int32)) _ _ _ hP hD hS (lv_sub hl [1, 2, 3, 4, 5, 0] rfl) hk8
        refine lv_if_ne (tgt := 44) hx hb dX1_setsBetween_23 (by decide) (fun hc23 => ?_) (fun hc23 => ?_)
        · have h := pz_itF hc23 h
          exact hJ44 x3_8 x4_8 _ _ _ hP hD hS (lv_sub hl [0, 1, 2, 3, 4, 5] rfl) h
        · have h := pz_itT hc23 h
          refine lv_iload_n hx hb dX1_setsBetween_26 rfl (lv_at hl 3 rfl) ?_
          refine lv_aload_n hx hb dX1_setsBetween_27 rfl (lv_at hl 0 rfl) ?_
          refine lv_iload_n hx hb dX1_setsBetween_28 rfl (lv_at hl 1 rfl) ?_
          refine lv_aload_n hx hb dX1_setsBetween_29 rfl (lv_at hl 0 rfl) ?_
          refine lv_iload hx hb dX1_setsBetween_30 (lv_at hl 5 rfl) ?_
          refine lv_iload_n hx hb dX1_setsBetween_32 rfl (lv_at hl 2 rfl) ?_
          obtain ⟨t1, ht1, h⟩ := pz_bnd h
          refine pz_callIr (rest := [.int x1, .ref q_g, .int x3_8]) pCX1_90 (kX1_productWithSet l D cyI q_g q_g_products q_g_inverses q_g_orders q_g_conjugates q_g_spans g_family g_n g_size g_products g_inverses g_orders g_conjugates g_spans x5_8 x2 ht1) hB hK hP hD hS hA hl rfl rfl rfl ⟨Nat.le_of_ble_eq_true rfl, Nat.le_of_ble_eq_true rfl⟩ rfl rfl [0, 1, 2, 3, 4, 5] rfl (by decide) (Nat.le_of_ble_eq_true rfl) dX1_setsBetween_33 (Nat.zero_le _) (Nat.zero_le _) rfl (fun H locs hP hS => ?_)
          obtain ⟨t2, ht2, h⟩ := pz_bnd h
          refine pz_callIr (rest := [.int x3_8]) pCX1_78 (kX1_productOfSets l D cyI q_g q_g_products q_g_inverses q_g_orders q_g_conjugates q_g_spans g_family g_n g_size g_products g_inverses g_orders g_conjugates g_spans x1 t1 ht2) hB hK hP hD hS hA hl rfl rfl rfl ⟨Nat.le_of_ble_eq_true rfl, Nat.le_of_ble_eq_true rfl⟩ rfl rfl [0, 1, 2, 3, 4, 5] rfl (by decide) (Nat.le_of_ble_eq_true rfl) dX1_setsBetween_36 (Nat.zero_le _) (Nat.zero_le _) rfl (fun H locs hP hS => ?_)
          refine lv_ior hx hb dX1_setsBetween_39 ?_
          refine lv_istore_n (lv' := [(3, .int (x3_8 ||| t2)), (0, .ref q_g), (1, .int x1), (2, .int x2), (4, .int x4_8), (5, .int x5_8)]) hx hb dX1_setsBetween_40 rfl hl (by decide) rfl (fun ls hl => ?_)
          refine lv_iinc (v := (x4_8 + (1 : Int32))) (lv' := [(4, .int (x4_8 + (1 : Int32))), (3, .int (x3_8 ||| t2)), (0, .ref q_g), (1, .int x1), (2, .int x2), (5, .int x5_8)]) hx hb dX1_setsBetween_41 hl (k := 4) rfl (by rfl) (by decide) rfl (fun ls hl => ?_)
          exact hJ44 (x3_8 ||| t2) (x4_8 + (1 : Int32)) _ _ _ hP hD hS (lv_sub hl [2, 3, 4, 1, 0, 5] rfl) h
  exact hL8 pz_FUEL (0 : Int32) (0 : Int32) (0 : Int32) _ _ _ hP hD hS (lv_sub hl [3, 4, 5, 2, 1, 0] rfl) hu_8
set_option maxRecDepth 100000 in
set_option maxHeartbeats 4000000 in
theorem kX1_fixedPlaces (l : Launch) (D : va_G) (cyI : ClassId) (q_g q_g_products q_g_inverses q_g_orders q_g_conjugates q_g_spans : Nat) (g_family : Int32) (g_n : Int32) (g_size : Int32) (g_products : Nat → Int32) (g_inverses : Nat → Int32) (g_orders : Nat → Int32) (g_conjugates : Nat → Int32) (g_spans : Nat → Int32) (x1 : Int32) (x2 : Int32) {v : Int32} (h : fX1_fixedPlaces x1 x2 g_size g_products = some v) : pz_MI l yX1_fixedPlaces cX1_fixedPlaces 7 .int ({ frames := 1, cells := 0, slots := 0, locals := 24 } : Room) [.ref q_g, .int x1, .int x2] D cyI [(q_g, .inr (1, [.int g_family, .int g_n, .int g_size, .ref q_g_products, .ref q_g_inverses, .ref q_g_orders, .ref q_g_conjugates, .ref q_g_spans])), (q_g_products, .inl (cyI, 64, .inl g_products)), (q_g_inverses, .inl (cyI, 8, .inl g_inverses)), (q_g_orders, .inl (cyI, 8, .inl g_orders)), (q_g_conjugates, .inl (cyI, 64, .inl g_conjugates)), (q_g_spans, .inl (cyI, 256, .inl g_spans))] v [(q_g, .inr (1, [.int g_family, .int g_n, .int g_size, .ref q_g_products, .ref q_g_inverses, .ref q_g_orders, .ref q_g_conjugates, .ref q_g_spans])), (q_g_products, .inl (cyI, 64, .inl g_products)), (q_g_inverses, .inl (cyI, 8, .inl g_inverses)), (q_g_orders, .inl (cyI, 8, .inl g_orders)), (q_g_conjugates, .inl (cyI, 64, .inl g_conjugates)), (q_g_spans, .inl (cyI, 256, .inl g_spans))] := by
  refine pz_ofI (by decide) (Nat.le_of_ble_eq_true rfl) ?_
  intro p e s m args below meth c A ls hB hP hK hD hS hA hl
  have hl : lv_has ls 7 [(0, .ref q_g), (1, .int x1), (2, .int x2)] := hl
  have hx := hB.1
  have hb := hB.2.1
  unfold fX1_fixedPlaces at h
  generalize hQ : pz_QI below args s D A v [(q_g, .inr (1, [.int g_family, .int g_n, .int g_size, .ref q_g_products, .ref q_g_inverses, .ref q_g_orders, .ref q_g_conjugates, .ref q_g_spans])), (q_g_products, .inl (cyI, 64, .inl g_products)), (q_g_inverses, .inl (cyI, 8, .inl g_inverses)), (q_g_orders, .inl (cyI, 8, .inl g_orders)), (q_g_conjugates, .inl (cyI, 64, .inl g_conjugates)), (q_g_spans, .inl (cyI, 256, .inl g_spans))] = Q
  refine lv_iconst (v := (0 : Int32)) hx hb dX1_fixedPlaces_0 (by decide) ?_
  refine lv_istore_n (lv' := [(3, .int (0 : Int32)), (0, .ref q_g), (1, .int x1), (2, .int x2)]) hx hb dX1_fixedPlaces_1 rfl hl (by decide) rfl (fun ls hl => ?_)
  refine lv_iconst (v := (0 : Int32)) hx hb dX1_fixedPlaces_2 (by decide) ?_
  refine lv_istore (lv' := [(4, .int (0 : Int32)), (3, .int (0 : Int32)), (0, .ref q_g), (1, .int x1), (2, .int x2)]) hx hb dX1_fixedPlaces_3 hl (by decide) rfl (fun ls hl => ?_)
  refine lv_iconst (v := (0 : Int32)) hx hb dX1_fixedPlaces_5 (by decide) ?_
  refine lv_istore (lv' := [(5, .int (0 : Int32)), (4, .int (0 : Int32)), (3, .int (0 : Int32)), (0, .ref q_g), (1, .int x1), (2, .int x2)]) hx hb dX1_fixedPlaces_6 hl (by decide) rfl (fun ls hl => ?_)
  obtain ⟨u_8, hu_8, h⟩ := pz_bnd h
  have hE8 : ∀ (H : Heap) (locs : List Loc) (ls : Array Slot), va_P D vwCl [(q_g, .inr (1, [.int g_family, .int g_n, .int g_size, .ref q_g_products, .ref q_g_inverses, .ref q_g_orders, .ref q_g_conjugates, .ref q_g_spans])), (q_g_products, .inl (cyI, 64, .inl g_products)), (q_g_inverses, .inl (cyI, 8, .inl g_inverses)), (q_g_orders, .inl (cyI, 8, .inl g_orders)), (q_g_conjugates, .inl (cyI, 64, .inl g_conjugates)), (q_g_spans, .inl (cyI, 256, .inl g_spans))] H → va_D A [(q_g, .inr (1, [.int g_family, .int g_n, .int g_size, .ref q_g_products, .ref q_g_inverses, .ref q_g_orders, .ref q_g_conjugates, .ref q_g_spans])), (q_g_products, .inl (cyI, 64, .inl g_products)), (q_g_inverses, .inl (cyI, 8, .inl g_inverses)), (q_g_orders, .inl (cyI, 8, .inl g_orders)), (q_g_conjugates, .inl (cyI, 64, .inl g_conjugates)), (q_g_spans, .inl (cyI, 256, .inl g_spans))] → va_S A s.heap H locs → lv_has ls 7 [(4, .int u_8)] → W p l e ({ frames := 1, cells := 0, slots := 0, locals := 24 } : Room) s m args below meth c H locs 0 0 Q (F0 m 61 ls []) := by
    intro H locs ls hP hD hS hl
    refine lv_iload hx hb dX1_fixedPlaces_61 (lv_at hl 0 rfl) ?_
    obtain rfl := Option.some.inj h
    rw [← hQ]
    exact pz_iret hB hP hD hS dX1_fixedPlaces_63
  have hL8 : ∀ (n : Nat) (x3_8 : Int32) (x4_8 : Int32) (x5_8 : Int32) (H : Heap) (locs : List Loc) (ls : Array Slot), va_P D vwCl [(q_g, .inr (1, [.int g_family, .int g_n, .int g_size, .ref q_g_products, .ref q_g_inverses, .ref q_g_orders, .ref q_g_conjugates, .ref q_g_spans])), (q_g_products, .inl (cyI, 64, .inl g_products)), (q_g_inverses, .inl (cyI, 8, .inl g_inverses)), (q_g_orders, .inl (cyI, 8, .inl g_orders)), (q_g_conjugates, .inl (cyI, 64, .inl g_conjugates)), (q_g_spans, .inl (cyI, 256, .inl g_spans))] H → va_D A [(q_g, .inr (1, [.int g_family, .int g_n, .int g_size, .ref q_g_products, .ref q_g_inverses, .ref q_g_orders, .ref q_g_conjugates, .ref q_g_spans])), (q_g_products, .inl (cyI, 64, .inl g_products)), (q_g_inverses, .inl (cyI, 8, .inl g_inverses)), (q_g_orders, .inl (cyI, 8, .inl g_orders)), (q_g_conjugates, .inl (cyI, 64, .inl g_conjugates)), (q_g_spans, .inl (cyI, 256, .inl g_spans))] → va_S A s.heap H locs → lv_has ls 7 [(0, .ref q_g), (1, .int x1), (2, .int x2), (3, .int x3_8), (4, .int x4_8), (5, .int x5_8)] → pz_iter (fun (σ : Int32 × Int32 × Int32) => fX1_fixedPlaces_L8 x1 x2 g_size g_products σ.1 σ.2.1 σ.2.2) n (x3_8, x4_8, x5_8) = some u_8 → W p l e ({ frames := 1, cells := 0, slots := 0, locals := 24 } : Room) s m args below meth c H locs 0 0 Q (F0 m 8 ls []) := by
    intro n
    induction n with
    | zero => intro x3_8 x4_8 x5_8 H locs ls hP hD hS hl h; exact (pz_it0 h).elim
    | succ n ih =>
      intro x3_8 x4_8 x5_8 H locs ls hP hD hS hl h
      obtain ⟨y_8, h, hk8⟩ := pz_itS h
      have h : fX1_fixedPlaces_L8 x1 x2 g_size g_products x3_8 x4_8 x5_8 = some y_8 := h
      unfold fX1_fixedPlaces_L8 at h
      refine lv_iload hx hb dX1_fixedPlaces_8 (lv_at hl 5 rfl) ?_
      refine lv_aload_n hx hb dX1_fixedPlaces_10 rfl (lv_at hl 0 rfl) ?_
      refine pz_get pFX1_45 hB hK hP 0 rfl rfl dX1_fixedPlaces_11 ?_
      refine lv_icmp_ge (tgt := 61) hx hb dX1_fixedPlaces_14 (by decide) (fun hc14 => ?_) (fun hc14 => ?_)
      · have h := pz_itT hc14 h
        obtain rfl := Option.some.inj h
        obtain rfl := pz_exit hk8
        exact hE8 _ _ _ hP hD hS (lv_sub hl [4] rfl)
      · have h := pz_itF hc14 h
        refine lv_aload_n hx hb dX1_fixedPlaces_17 rfl (lv_at hl 0 rfl) ?_
        refine lv_iload hx hb dX1_fixedPlaces_18 (lv_at hl 5 rfl) ?_
        refine lv_iload_n hx hb dX1_fixedPlaces_20 rfl (lv_at hl 1 rfl) ?_
        obtain ⟨t1, ht1, h⟩ := pz_bnd h
        refine pz_callIr (rest := []) pCX1_90 (kX1_productWithSet l D cyI q_g q_g_products q_g_inverses q_g_orders q_g_conjugates q_g_spans g_family g_n g_size g_products g_inverses g_orders g_conjugates g_spans x5_8 x1 ht1) hB hK hP hD hS hA hl rfl rfl rfl ⟨Nat.le_of_ble_eq_true rfl, Nat.le_of_ble_eq_true rfl⟩ rfl rfl [0, 1, 2, 3, 4, 5] rfl (by decide) (Nat.le_of_ble_eq_true rfl) dX1_fixedPlaces_21 (Nat.zero_le _) (Nat.zero_le _) rfl (fun H locs hP hS => ?_)
        refine lv_istore (lv' := [(6, .int t1), (0, .ref q_g), (1, .int x1), (2, .int x2), (3, .int x3_8), (4, .int x4_8), (5, .int x5_8)]) hx hb dX1_fixedPlaces_24 hl (by decide) rfl (fun ls hl => ?_)
        refine lv_iload_n hx hb dX1_fixedPlaces_26 rfl (lv_at hl 4 rfl) ?_
        refine lv_iload hx hb dX1_fixedPlaces_27 (lv_at hl 6 rfl) ?_
        refine lv_ishr hx hb dX1_fixedPlaces_29 ?_
        refine lv_iconst (v := (1 : Int32)) hx hb dX1_fixedPlaces_30 (by decide) ?_
        refine lv_iand hx hb dX1_fixedPlaces_31 ?_
        have hJ50 : ∀ (x4_j50 : Int32) (H : Heap) (locs : List Loc) (ls : Array Slot), va_P D vwCl [(q_g, .inr (1, [.int g_family, .int g_n, .int g_size, .ref q_g_products, .ref q_g_inverses, .ref q_g_orders, .ref q_g_conjugates, .ref q_g_spans])), (q_g_products, .inl (cyI, 64, .inl g_products)), (q_g_inverses, .inl (cyI, 8, .inl g_inverses)), (q_g_orders, .inl (cyI, 8, .inl g_orders)), (q_g_conjugates, .inl (cyI, 64, .inl g_conjugates)), (q_g_spans, .inl (cyI, 256, .inl g_spans))] H → va_D A [(q_g, .inr (1, [.int g_family, .int g_n, .int g_size, .ref q_g_products, .ref q_g_inverses, .ref q_g_orders, .ref q_g_conjugates, .ref q_g_spans])), (q_g_products, .inl (cyI, 64, .inl g_products)), (q_g_inverses, .inl (cyI, 8, .inl g_inverses)), (q_g_orders, .inl (cyI, 8, .inl g_orders)), (q_g_conjugates, .inl (cyI, 64, .inl g_conjugates)), (q_g_spans, .inl (cyI, 256, .inl g_spans))] → va_S A s.heap H locs → lv_has ls 7 [(0, .ref q_g), (1, .int x1), (2, .int x2), (3, .int x3_8), (4, .int x4_j50), (5, .int x5_8), (6, .int t1)] → fX1_fixedPlaces_J50L8 x3_8 x4_j50 x5_8 t1 = some y_8 → W p l e ({ frames := 1, cells := 0, slots := 0, locals := 24 } : Room) s m args below meth c H locs 0 0 Q (F0 m 50 ls []) := by
          intro x4_j50 H locs ls hP hD hS hl h
          unfold fX1_fixedPlaces_J50L8 at h
          refine lv_iload_n hx hb dX1_fixedPlaces_50 rfl (lv_at hl 3 rfl) ?_
          refine lv_iload hx hb dX1_fixedPlaces_51 (lv_at hl 6 rfl) ?_
          refine lv_ior hx hb dX1_fixedPlaces_53 ?_
          refine lv_istore_n (lv' := [(3, .int (x3_8 ||| t1)), (0, .ref q_g), (1, .int x1), (2, .int x2), (4, .int x4_j50), (5, .int x5_8), (6, .int t1)]) hx hb dX1_fixedPlaces_54 rfl hl (by decide) rfl (fun ls hl => ?_)
          refine lv_iinc (v := (x5_8 + (1 : Int32))) (lv' := [(5, .int (x5_8 + (1 : Int32))), (3, .int (x3_8 ||| t1)), (0, .ref q_g), (1, .int x1), (2, .int x2), (4, .int x4_j50), (6, .int t1)]) hx hb dX1_fixedPlaces_55 hl (k := 5) rfl (by rfl) (by decide) rfl (fun ls hl => ?_)
          refine lv_goto (tgt := 8) hx hb dX1_fixedPlaces_58 (by decide) ?_
          obtain rfl := Option.some.inj h
          exact ih (x3_8 ||| t1) x4_j50 (x5_8 + (1 : Int32)) _ _ _ hP hD hS (lv_sub hl [2, 3, 4, 1, 5, 0] rfl) hk8
        refine lv_if_ne (tgt := 50) hx hb dX1_fixedPlaces_32 (by decide) (fun hc32 => ?_) (fun hc32 => ?_)
        · have h := pz_itF hc32 h
          exact hJ50 x4_8 _ _ _ hP hD hS (lv_sub hl [1, 2, 3, 4, 5, 6, 0] rfl) h
        · have h := pz_itT hc32 h
          refine lv_aload_n hx hb dX1_fixedPlaces_35 rfl (lv_at hl 1 rfl) ?_
          refine lv_iload_n hx hb dX1_fixedPlaces_36 rfl (lv_at hl 3 rfl) ?_
          refine lv_iload hx hb dX1_fixedPlaces_37 (lv_at hl 0 rfl) ?_
          obtain ⟨t2, ht2, h⟩ := pz_bnd h
          refine pz_callIr (rest := []) pCX1_90 (kX1_productWithSet l D cyI q_g q_g_products q_g_inverses q_g_orders q_g_conjugates q_g_spans g_family g_n g_size g_products g_inverses g_orders g_conjugates g_spans x2 t1 ht2) hB hK hP hD hS hA hl rfl rfl rfl ⟨Nat.le_of_ble_eq_true rfl, Nat.le_of_ble_eq_true rfl⟩ rfl rfl [0, 1, 2, 3, 4, 5] rfl (by decide) (Nat.le_of_ble_eq_true rfl) dX1_fixedPlaces_39 (Nat.zero_le _) (Nat.zero_le _) rfl (fun H locs hP hS => ?_)
          refine lv_iload hx hb dX1_fixedPlaces_42 (lv_at hl 0 rfl) ?_
          refine lv_icmp_ne (tgt := 50) hx hb dX1_fixedPlaces_44 (by decide) (fun hc44 => ?_) (fun hc44 => ?_)
          · have h := pz_itF hc44 h
            exact hJ50 x4_8 _ _ _ hP hD hS (lv_sub hl [1, 2, 3, 4, 5, 6, 0] rfl) h
          · have h := pz_itT hc44 h
            refine lv_iinc (v := (x4_8 + (1 : Int32))) (lv' := [(4, .int (x4_8 + (1 : Int32))), (6, .int t1), (0, .ref q_g), (1, .int x1), (2, .int x2), (3, .int x3_8), (5, .int x5_8)]) hx hb dX1_fixedPlaces_47 hl (k := 5) rfl (by rfl) (by decide) rfl (fun ls hl => ?_)
            exact hJ50 (x4_8 + (1 : Int32)) _ _ _ hP hD hS (lv_sub hl [2, 3, 4, 5, 0, 6, 1] rfl) h
  exact hL8 pz_FUEL (0 : Int32) (0 : Int32) (0 : Int32) _ _ _ hP hD hS (lv_sub hl [3, 4, 5, 2, 1, 0] rfl) hu_8
set_option maxRecDepth 100000 in
set_option maxHeartbeats 4000000 in
theorem kX1_orderBehind (l : Launch) (D : va_G) (cyI : ClassId) (q_g q_g_products q_g_inverses q_g_orders q_g_conjugates q_g_spans : Nat) (g_family : Int32) (g_n : Int32) (g_size : Int32) (g_products : Nat → Int32) (g_inverses : Nat → Int32) (g_orders : Nat → Int32) (g_conjugates : Nat → Int32) (g_spans : Nat → Int32) (x1 : Int32) (x2 : Int32) {v : Int32} (h : fX1_orderBehind x1 x2 g_products = some v) : pz_MI l yX1_orderBehind cX1_orderBehind 5 .int ({ frames := 1, cells := 0, slots := 0, locals := 22 } : Room) [.ref q_g, .int x1, .int x2] D cyI [(q_g, .inr (1, [.int g_family, .int g_n, .int g_size, .ref q_g_products, .ref q_g_inverses, .ref q_g_orders, .ref q_g_conjugates, .ref q_g_spans])), (q_g_products, .inl (cyI, 64, .inl g_products)), (q_g_inverses, .inl (cyI, 8, .inl g_inverses)), (q_g_orders, .inl (cyI, 8, .inl g_orders)), (q_g_conjugates, .inl (cyI, 64, .inl g_conjugates)), (q_g_spans, .inl (cyI, 256, .inl g_spans))] v [(q_g, .inr (1, [.int g_family, .int g_n, .int g_size, .ref q_g_products, .ref q_g_inverses, .ref q_g_orders, .ref q_g_conjugates, .ref q_g_spans])), (q_g_products, .inl (cyI, 64, .inl g_products)), (q_g_inverses, .inl (cyI, 8, .inl g_inverses)), (q_g_orders, .inl (cyI, 8, .inl g_orders)), (q_g_conjugates, .inl (cyI, 64, .inl g_conjugates)), (q_g_spans, .inl (cyI, 256, .inl g_spans))] := by
  refine pz_ofI (by decide) (Nat.le_of_ble_eq_true rfl) ?_
  intro p e s m args below meth c A ls hB hP hK hD hS hA hl
  have hl : lv_has ls 5 [(0, .ref q_g), (1, .int x1), (2, .int x2)] := hl
  have hx := hB.1
  have hb := hB.2.1
  unfold fX1_orderBehind at h
  generalize hQ : pz_QI below args s D A v [(q_g, .inr (1, [.int g_family, .int g_n, .int g_size, .ref q_g_products, .ref q_g_inverses, .ref q_g_orders, .ref q_g_conjugates, .ref q_g_spans])), (q_g_products, .inl (cyI, 64, .inl g_products)), (q_g_inverses, .inl (cyI, 8, .inl g_inverses)), (q_g_orders, .inl (cyI, 8, .inl g_orders)), (q_g_conjugates, .inl (cyI, 64, .inl g_conjugates)), (q_g_spans, .inl (cyI, 256, .inl g_spans))] = Q
  refine lv_iload_n hx hb dX1_orderBehind_0 rfl (lv_at hl 2 rfl) ?_
  refine lv_istore_n (lv' := [(3, .int x2), (0, .ref q_g), (1, .int x1), (2, .int x2)]) hx hb dX1_orderBehind_1 rfl hl (by decide) rfl (fun ls hl => ?_)
  refine lv_iconst (v := (1 : Int32)) hx hb dX1_orderBehind_2 (by decide) ?_
  refine lv_istore (lv' := [(4, .int (1 : Int32)), (3, .int x2), (0, .ref q_g), (1, .int x1), (2, .int x2)]) hx hb dX1_orderBehind_3 hl (by decide) rfl (fun ls hl => ?_)
  obtain ⟨u_5, hu_5, h⟩ := pz_bnd h
  have hE5 : ∀ (H : Heap) (locs : List Loc) (ls : Array Slot), va_P D vwCl [(q_g, .inr (1, [.int g_family, .int g_n, .int g_size, .ref q_g_products, .ref q_g_inverses, .ref q_g_orders, .ref q_g_conjugates, .ref q_g_spans])), (q_g_products, .inl (cyI, 64, .inl g_products)), (q_g_inverses, .inl (cyI, 8, .inl g_inverses)), (q_g_orders, .inl (cyI, 8, .inl g_orders)), (q_g_conjugates, .inl (cyI, 64, .inl g_conjugates)), (q_g_spans, .inl (cyI, 256, .inl g_spans))] H → va_D A [(q_g, .inr (1, [.int g_family, .int g_n, .int g_size, .ref q_g_products, .ref q_g_inverses, .ref q_g_orders, .ref q_g_conjugates, .ref q_g_spans])), (q_g_products, .inl (cyI, 64, .inl g_products)), (q_g_inverses, .inl (cyI, 8, .inl g_inverses)), (q_g_orders, .inl (cyI, 8, .inl g_orders)), (q_g_conjugates, .inl (cyI, 64, .inl g_conjugates)), (q_g_spans, .inl (cyI, 256, .inl g_spans))] → va_S A s.heap H locs → lv_has ls 5 [(4, .int u_5)] → W p l e ({ frames := 1, cells := 0, slots := 0, locals := 22 } : Room) s m args below meth c H locs 0 0 Q (F0 m 33 ls []) := by
    intro H locs ls hP hD hS hl
    refine lv_iload hx hb dX1_orderBehind_33 (lv_at hl 0 rfl) ?_
    obtain rfl := Option.some.inj h
    rw [← hQ]
    exact pz_iret hB hP hD hS dX1_orderBehind_35
  have hL5 : ∀ (n : Nat) (x3_5 : Int32) (x4_5 : Int32) (H : Heap) (locs : List Loc) (ls : Array Slot), va_P D vwCl [(q_g, .inr (1, [.int g_family, .int g_n, .int g_size, .ref q_g_products, .ref q_g_inverses, .ref q_g_orders, .ref q_g_conjugates, .ref q_g_spans])), (q_g_products, .inl (cyI, 64, .inl g_products)), (q_g_inverses, .inl (cyI, 8, .inl g_inverses)), (q_g_orders, .inl (cyI, 8, .inl g_orders)), (q_g_conjugates, .inl (cyI, 64, .inl g_conjugates)), (q_g_spans, .inl (cyI, 256, .inl g_spans))] H → va_D A [(q_g, .inr (1, [.int g_family, .int g_n, .int g_size, .ref q_g_products, .ref q_g_inverses, .ref q_g_orders, .ref q_g_conjugates, .ref q_g_spans])), (q_g_products, .inl (cyI, 64, .inl g_products)), (q_g_inverses, .inl (cyI, 8, .inl g_inverses)), (q_g_orders, .inl (cyI, 8, .inl g_orders)), (q_g_conjugates, .inl (cyI, 64, .inl g_conjugates)), (q_g_spans, .inl (cyI, 256, .inl g_spans))] → va_S A s.heap H locs → lv_has ls 5 [(0, .ref q_g), (1, .int x1), (2, .int x2), (3, .int x3_5), (4, .int x4_5)] → pz_iter (fun (σ : Int32 × Int32) => fX1_orderBehind_L5 x1 x2 g_products σ.1 σ.2) n (x3_5, x4_5) = some u_5 → W p l e ({ frames := 1, cells := 0, slots := 0, locals := 22 } : Room) s m args below meth c H locs 0 0 Q (F0 m 5 ls []) := by
    intro n
    induction n with
    | zero => intro x3_5 x4_5 H locs ls hP hD hS hl h; exact (pz_it0 h).elim
    | succ n ih =>
      intro x3_5 x4_5 H locs ls hP hD hS hl h
      obtain ⟨y_5, h, hk5⟩ := pz_itS h
      have h : fX1_orderBehind_L5 x1 x2 g_products x3_5 x4_5 = some y_5 := h
      unfold fX1_orderBehind_L5 at h
      refine lv_iload_n hx hb dX1_orderBehind_5 rfl (lv_at hl 1 rfl) ?_
      refine lv_iload_n hx hb dX1_orderBehind_6 rfl (lv_at hl 3 rfl) ?_
      refine lv_ishr hx hb dX1_orderBehind_7 ?_
      refine lv_iconst (v := (1 : Int32)) hx hb dX1_orderBehind_8 (by decide) ?_
      refine lv_iand hx hb dX1_orderBehind_9 ?_
      refine lv_if_ne (tgt := 33) hx hb dX1_orderBehind_10 (by decide) (fun hc10 => ?_) (fun hc10 => ?_)
      · have h := pz_itF hc10 h
        obtain rfl := Option.some.inj h
        obtain rfl := pz_exit hk5
        exact hE5 _ _ _ hP hD hS (lv_sub hl [4] rfl)
      · have h := pz_itT hc10 h
        refine lv_iload hx hb dX1_orderBehind_13 (lv_at hl 4 rfl) ?_
        refine lv_bipush (v := (8 : Int32)) hx hb dX1_orderBehind_15 (by decide) ?_
        refine lv_icmp_ge (tgt := 33) hx hb dX1_orderBehind_17 (by decide) (fun hc17 => ?_) (fun hc17 => ?_)
        · have h := pz_itT hc17 h
          obtain rfl := Option.some.inj h
          obtain rfl := pz_exit hk5
          exact hE5 _ _ _ hP hD hS (lv_sub hl [4] rfl)
        · have h := pz_itF hc17 h
          refine lv_aload_n hx hb dX1_orderBehind_20 rfl (lv_at hl 0 rfl) ?_
          refine lv_iload_n hx hb dX1_orderBehind_21 rfl (lv_at hl 3 rfl) ?_
          refine lv_iload_n hx hb dX1_orderBehind_22 rfl (lv_at hl 2 rfl) ?_
          obtain ⟨t1, ht1, h⟩ := pz_bnd h
          refine pz_callIr (rest := []) pCX1_72 (kX1_product l D cyI q_g q_g_products q_g_inverses q_g_orders q_g_conjugates q_g_spans g_family g_n g_size g_products g_inverses g_orders g_conjugates g_spans x3_5 x2 ht1) hB hK hP hD hS hA hl rfl rfl rfl ⟨Nat.le_of_ble_eq_true rfl, Nat.le_of_ble_eq_true rfl⟩ rfl rfl [0, 1, 2, 3, 4, 5] rfl (by decide) (Nat.le_of_ble_eq_true rfl) dX1_orderBehind_23 (Nat.zero_le _) (Nat.zero_le _) rfl (fun H locs hP hS => ?_)
          refine lv_istore_n (lv' := [(3, .int t1), (0, .ref q_g), (1, .int x1), (2, .int x2), (4, .int x4_5)]) hx hb dX1_orderBehind_26 rfl hl (by decide) rfl (fun ls hl => ?_)
          refine lv_iinc (v := (x4_5 + (1 : Int32))) (lv' := [(4, .int (x4_5 + (1 : Int32))), (3, .int t1), (0, .ref q_g), (1, .int x1), (2, .int x2)]) hx hb dX1_orderBehind_27 hl (k := 4) rfl (by rfl) (by decide) rfl (fun ls hl => ?_)
          refine lv_goto (tgt := 5) hx hb dX1_orderBehind_30 (by decide) ?_
          obtain rfl := Option.some.inj h
          exact ih t1 (x4_5 + (1 : Int32)) _ _ _ hP hD hS (lv_sub hl [2, 3, 4, 1, 0] rfl) hk5
  exact hL5 pz_FUEL x2 (1 : Int32) _ _ _ hP hD hS (lv_sub hl [2, 3, 4, 1, 0] rfl) hu_5
set_option maxRecDepth 100000 in
set_option maxHeartbeats 4000000 in
theorem kJ7_fill_53178 (l : Launch) (D : va_G) (cyI : ClassId) (q_a_arr : Nat) (a_arr : Nat → Int32) (a_arrN : Nat) (x1 : Int32) {v : (Nat → Int32)} (h : fJ7_fill_53178 x1 a_arrN a_arr = some v) : pz_MV l yJ7_fill_53178 cJ7_fill_53178 4 ({ frames := 0, cells := 0, slots := 0, locals := 0 } : Room) [.ref q_a_arr, .int x1] D cyI [(q_a_arr, .inl (cyI, a_arrN, .inl a_arr))] [(q_a_arr, .inl (cyI, a_arrN, .inl v))] := by
  refine pz_ofV (by decide) (Nat.le_of_ble_eq_true rfl) ?_
  intro p e s m args below meth c A ls hB hP hK hD hS hA hl
  have hl : lv_has ls 4 [(0, .ref q_a_arr), (1, .int x1)] := hl
  have hx := hB.1
  have hb := hB.2.1
  unfold fJ7_fill_53178 at h
  generalize hQ : pz_QV below args s D A [(q_a_arr, .inl (cyI, a_arrN, .inl v))] = Q
  refine lv_iconst (v := (0 : Int32)) hx hb dJ7_fill_53178_0 (by decide) ?_
  refine lv_istore_n (lv' := [(2, .int (0 : Int32)), (0, .ref q_a_arr), (1, .int x1)]) hx hb dJ7_fill_53178_1 rfl hl (by decide) rfl (fun ls hl => ?_)
  refine lv_aload_n hx hb dJ7_fill_53178_2 rfl (lv_at hl 1 rfl) ?_
  refine pz_alen hB hK hP 0 rfl dJ7_fill_53178_3 ?_
  refine lv_istore_n (lv' := [(3, .int (nI a_arrN)), (2, .int (0 : Int32)), (0, .ref q_a_arr), (1, .int x1)]) hx hb dJ7_fill_53178_4 rfl hl (by decide) rfl (fun ls hl => ?_)
  obtain ⟨u_5, hu_5, h⟩ := pz_bnd h
  have hE5 : ∀ (H : Heap) (locs : List Loc) (ls : Array Slot), va_P D vwCl [(q_a_arr, .inl (cyI, a_arrN, .inl u_5))] H → va_D A [(q_a_arr, .inl (cyI, a_arrN, .inl u_5))] → va_S A s.heap H locs → lv_has ls 4 [] → W p l e ({ frames := 0, cells := 0, slots := 0, locals := 0 } : Room) s m args below meth c H locs 0 0 Q (F0 m 20 ls []) := by
    intro H locs ls hP hD hS hl
    obtain rfl := Option.some.inj h
    rw [← hQ]
    exact pz_vret hB hP hD hS dJ7_fill_53178_20
  have hL5 : ∀ (n : Nat) (x2_5 : Int32) (a_arr_5 : Nat → Int32) (H : Heap) (locs : List Loc) (ls : Array Slot), va_P D vwCl [(q_a_arr, .inl (cyI, a_arrN, .inl a_arr_5))] H → va_D A [(q_a_arr, .inl (cyI, a_arrN, .inl a_arr_5))] → va_S A s.heap H locs → lv_has ls 4 [(0, .ref q_a_arr), (1, .int x1), (2, .int x2_5), (3, .int (nI a_arrN))] → pz_iter (fun (σ : Int32 × (Nat → Int32)) => fJ7_fill_53178_L5 x1 (nI a_arrN) a_arrN σ.1 σ.2) n (x2_5, a_arr_5) = some u_5 → W p l e ({ frames := 0, cells := 0, slots := 0, locals := 0 } : Room) s m args below meth c H locs 0 0 Q (F0 m 5 ls []) := by
    intro n
    induction n with
    | zero => intro x2_5 a_arr_5 H locs ls hP hD hS hl h; exact (pz_it0 h).elim
    | succ n ih =>
      intro x2_5 a_arr_5 H locs ls hP hD hS hl h
      obtain ⟨y_5, h, hk5⟩ := pz_itS h
      have h : fJ7_fill_53178_L5 x1 (nI a_arrN) a_arrN x2_5 a_arr_5 = some y_5 := h
      unfold fJ7_fill_53178_L5 at h
      refine lv_iload_n hx hb dJ7_fill_53178_5 rfl (lv_at hl 2 rfl) ?_
      refine lv_iload_n hx hb dJ7_fill_53178_6 rfl (lv_at hl 3 rfl) ?_
      refine lv_icmp_ge (tgt := 20) hx hb dJ7_fill_53178_7 (by decide) (fun hc7 => ?_) (fun hc7 => ?_)
      · have h := pz_itT hc7 h
        obtain rfl := Option.some.inj h
        obtain rfl := pz_exit hk5
        exact hE5 _ _ _ hP hD hS (lv_sub hl [] rfl)
      · have h := pz_itF hc7 h
        refine lv_aload_n hx hb dJ7_fill_53178_10 rfl (lv_at hl 0 rfl) ?_
        refine lv_iload_n hx hb dJ7_fill_53178_11 rfl (lv_at hl 2 rfl) ?_
        refine lv_iload_n hx hb dJ7_fill_53178_12 rfl (lv_at hl 1 rfl) ?_
        obtain ⟨hi1, h⟩ := pz_wrE h
        refine pz_iast hB hK hP hD hS 0 rfl hi1 dJ7_fill_53178_13 [(q_a_arr, .inl (cyI, a_arrN, .inl (upd a_arr_5 (Int32.toNatClampNeg x2_5) x1)))] rfl (fun H locs hP hD hS => ?_)
        refine lv_iinc (v := (x2_5 + (1 : Int32))) (lv' := [(2, .int (x2_5 + (1 : Int32))), (0, .ref q_a_arr), (1, .int x1), (3, .int (nI a_arrN))]) hx hb dJ7_fill_53178_14 hl (k := 2) rfl (by rfl) (by decide) rfl (fun ls hl => ?_)
        refine lv_goto (tgt := 5) hx hb dJ7_fill_53178_17 (by decide) ?_
        obtain rfl := Option.some.inj h
        exact ih (x2_5 + (1 : Int32)) (upd a_arr_5 (Int32.toNatClampNeg x2_5) x1) _ _ _ hP hD hS (lv_sub hl [1, 2, 0, 3] rfl) hk5
  exact hL5 pz_FUEL (0 : Int32) a_arr _ _ _ hP hD hS (lv_sub hl [2, 3, 1, 0] rfl) hu_5
