theorem gm_lt {f n : Nat} (h : gok f n) {a b : Nat} (ha : a < gz f n) (hb : b < gz f n) : gm f n a b < gz f n := by
  have : allE2 (fun f n a b => decide (gm f n a b < gz f n)) = true := by decide +kernel
  simpa using allE2_at this h ha hb
theorem gm_0 {f n : Nat} (h : gok f n) {a : Nat} (ha : a < gz f n) : gm f n 0 a = a ∧ gm f n a 0 = a := by
  have : allE (fun f n a => decide (gm f n 0 a = a ∧ gm f n a 0 = a)) = true := by decide +kernel
  simpa using allE_at this h ha
theorem gm_as {f n : Nat} (h : gok f n) {a b c : Nat} (ha : a < gz f n) (hb : b < gz f n) (hc : c < gz f n) : gm f n (gm f n a b) c = gm f n a (gm f n b c) := by
  have : allE2 (fun f n a b => allB (gz f n) (fun c => decide (gm f n (gm f n a b) c = gm f n a (gm f n b c)))) = true := by decide +kernel
  simpa using allB_at (allE2_at this h ha hb) c hc
theorem gi_ok {f n : Nat} (h : gok f n) {a : Nat} (ha : a < gz f n) : gi f n a < gz f n ∧ gm f n a (gi f n a) = 0 ∧ gm f n (gi f n a) a = 0 := by
  have : allE (fun f n a => decide (gi f n a < gz f n ∧ gm f n a (gi f n a) = 0 ∧ gm f n (gi f n a) a = 0)) = true := by decide +kernel
  simpa using allE_at this h ha
theorem go_ok {f n : Nat} (h : gok f n) {a : Nat} (ha : a < gz f n) : go f n a ≤ 8 ∧ gpow f n a (go f n a) = 0 := by
  have : allE (fun f n a => decide (go f n a ≤ 8 ∧ gpow f n a (go f n a) = 0)) = true := by decide +kernel
  simpa using allE_at this h ha
theorem gc_lt {f n : Nat} (h : gok f n) {a b : Nat} (ha : a < gz f n) (hb : b < gz f n) : gc f n a b < gz f n := gm_lt h (gm_lt h (gi_ok h hb).1 ha) hb
theorem gpow_lt {f n : Nat} (h : gok f n) {a : Nat} (ha : a < gz f n) : ∀ k, gpow f n a k < gz f n
  | 0 => gz_pos h
  | k + 1 => gm_lt h (gpow_lt h ha k) ha
/-- what a set spans: it is closed; what the set without its highest element spans leads to it -/
theorem gs_chk : allG (fun f n => allB (2 ^ gz f n) (fun S => (gs f n S ||| pss f n (gs f n S) (gs f n S)) == gs f n S && decide (gs f n S < 2 ^ gz f n))) = true := by decide +kernel
theorem gs_dp : allG (fun f n => allB (gz f n) (fun m => allB (2 ^ m) (fun o => gs f n (2 ^ m + o) == if (gs f n o).testBit m then gs f n o else grow f n 8 (gs f n o ||| 2 ^ m)))) = true := by decide +kernel
theorem gi_pow {f n : Nat} (h : gok f n) {a : Nat} (ha : a < gz f n) : gpow f n a (go f n a - 1) = gi f n a := by
  have : allE (fun f n a => decide (gpow f n a (go f n a - 1) = gi f n a)) = true := by decide +kernel
  simpa using allE_at this h ha
theorem gs_0 {f n : Nat} (h : gok f n) : gs f n 0 = 1 := by
  have : allG (fun f n => decide (gs f n 0 = 1)) = true := by decide +kernel
  simpa using allG_at this h
