/-! PURE SIDE: what a method computes, as a function into Option (none: a wrong index, a division by 0, no end) -/
def pz_FUEL : Nat := 1048576
def pz_iter {σ τ : Type} (b : σ → Option (σ ⊕ τ)) : Nat → σ → Option τ
  | 0, _ => none
  | n + 1, s => (b s).bind (Sum.elim (pz_iter b n) some)
def pz_rd (f : Nat → Int32) (n : Nat) (i : Int32) : Option Int32 := if i < 0 ∨ n ≤ i.toNatClampNeg then none else some (f i.toNatClampNeg)
def pz_wr (f : Nat → Int32) (n : Nat) (i x : Int32) : Option (Nat → Int32) := if i < 0 ∨ n ≤ i.toNatClampNeg then none else some (upd f i.toNatClampNeg x)
def pz_dv (a b : Int32) : Option Int32 := if b = 0 then none else some (a / b)
def pz_rm (a b : Int32) : Option Int32 := if b = 0 then none else some (a - a / b * b)
def pz_zb (v : Int32) : Option Int32 := if v = 0 ∨ v = 1 then some v else none
def pz_bv {α β : Type} (a : α) (k : α → Option β) : Option β := k a
theorem pz_bnd {α β : Type} {o : Option α} {k : α → Option β} {x : β} (h : o.bind k = some x) : ∃ a, o = some a ∧ k a = some x := by
  cases o with
  | none => cases h
  | some a => exact ⟨a, rfl, h⟩
theorem pz_rdE {β : Type} {f : Nat → Int32} {n : Nat} {i : Int32} {k : Int32 → Option β} {x : β} (h : (pz_rd f n i).bind k = some x) : vp_in i n ∧ k (f i.toNatClampNeg) = some x := by
  unfold pz_rd at h
  by_cases hc : i < 0 ∨ n ≤ i.toNatClampNeg
  · rw [if_pos hc] at h; cases h
  · rw [if_neg hc] at h; exact ⟨hc, h⟩
theorem pz_wrE {β : Type} {f : Nat → Int32} {n : Nat} {i v : Int32} {k : (Nat → Int32) → Option β} {x : β} (h : (pz_wr f n i v).bind k = some x) : vp_in i n ∧ k (upd f i.toNatClampNeg v) = some x := by
  unfold pz_wr at h
  by_cases hc : i < 0 ∨ n ≤ i.toNatClampNeg
  · rw [if_pos hc] at h; cases h
  · rw [if_neg hc] at h; exact ⟨hc, h⟩
theorem pz_dvE {β : Type} {a b : Int32} {k : Int32 → Option β} {x : β} (h : (pz_dv a b).bind k = some x) : (¬ b = 0) ∧ k (a / b) = some x := by
  unfold pz_dv at h
  by_cases hc : b = 0
  · rw [if_pos hc] at h; cases h
  · rw [if_neg hc] at h; exact ⟨hc, h⟩
theorem pz_rmE {β : Type} {a b : Int32} {k : Int32 → Option β} {x : β} (h : (pz_rm a b).bind k = some x) : (¬ b = 0) ∧ k (a - a / b * b) = some x := by
  unfold pz_rm at h
  by_cases hc : b = 0
  · rw [if_pos hc] at h; cases h
  · rw [if_neg hc] at h; exact ⟨hc, h⟩
theorem pz_zbE {β : Type} {v : Int32} {k : Int32 → Option β} {x : β} (h : (pz_zb v).bind k = some x) : (v = 0 ∨ v = 1) ∧ k v = some x := by
  unfold pz_zb at h
  by_cases hc : v = 0 ∨ v = 1
  · rw [if_pos hc] at h; exact ⟨hc, h⟩
  · rw [if_neg hc] at h; cases h
theorem pz_bvE {α β : Type} {a y : α} {k : α → Option β} {x : β} (e : y = a) (h : pz_bv a k = some x) : k y = some x := by subst e; exact h
theorem pz_itT {α : Type} {c : Prop} [Decidable c] {a b x : α} (hc : c) (h : (if c then a else b) = x) : a = x := (if_pos hc).symm.trans h
theorem pz_itF {α : Type} {c : Prop} [Decidable c] {a b x : α} (hc : ¬ c) (h : (if c then a else b) = x) : b = x := (if_neg hc).symm.trans h
theorem pz_it0 {σ τ : Type} {b : σ → Option (σ ⊕ τ)} {s : σ} {t : τ} (h : pz_iter b 0 s = some t) : False := by cases h
theorem pz_itS {σ τ : Type} {b : σ → Option (σ ⊕ τ)} {n : Nat} {s : σ} {t : τ} (h : pz_iter b (n + 1) s = some t) : ∃ x, b s = some x ∧ Sum.elim (pz_iter b n) some x = some t := pz_bnd h
theorem pz_nz {v : Int32} (h : v = 0 ∨ v = 1) : narrow .boolean (.int v) = .int v := by rcases h with rfl | rfl <;> rfl
theorem pz_nzf {v : Int32} (h : v = 0 ∨ v = 1) : fits .boolean (.int v) = true := by rcases h with rfl | rfl <;> rfl
/-! MACHINE SIDE -/
/-- the tables' words that bear every state: any method may ask for any of them -/
def pz_L : List Cond := lw_tbl.filter goodWord
theorem pz_good {ws : List Cond} (h : ∀ w ∈ ws, w ∈ pz_L) : GoodIn pz_L ws := fun w hw => ⟨h w hw, good_of_word (List.mem_filter.mp (h w hw)).2⟩
theorem pz_L_in : ∀ w ∈ pz_L, w ∈ lw_tbl := fun w h => (List.mem_filter.mp h).1
theorem pz_w0 {w : Cond} (i : Nat) (h : (k2_sels lw_privs)[i]? = some w) (g : goodWord w = true) : w ∈ pz_L := List.mem_filter.mpr ⟨List.mem_append_left _ (List.mem_of_getElem? h), g⟩
theorem pz_w1 {w : Cond} (i : Nat) (h : tables_1_1[i]? = some w) (g : goodWord w = true) : w ∈ pz_L := List.mem_filter.mpr ⟨List.mem_append_right _ (List.mem_append_left _ (List.mem_of_getElem? h)), g⟩
theorem pz_w2 {w : Cond} (i : Nat) (h : tables_1_2[i]? = some w) (g : goodWord w = true) : w ∈ pz_L := List.mem_filter.mpr ⟨List.mem_append_right _ (List.mem_append_right _ (List.mem_append_left _ (List.mem_of_getElem? h))), g⟩
theorem pz_w3 {w : Cond} (i : Nat) (h : tables_1_3[i]? = some w) (g : goodWord w = true) : w ∈ pz_L := List.mem_filter.mpr ⟨List.mem_append_right _ (List.mem_append_right _ (List.mem_append_right _ (List.mem_append_left _ (List.mem_of_getElem? h)))), g⟩
theorem pz_w4 {w : Cond} (i : Nat) (h : tables_1_4[i]? = some w) (g : goodWord w = true) : w ∈ pz_L := List.mem_filter.mpr ⟨List.mem_append_right _ (List.mem_append_right _ (List.mem_append_right _ (List.mem_append_right _ (List.mem_append_left _ (List.mem_of_getElem? h))))), g⟩
theorem pz_w5 {w : Cond} (i : Nat) (h : tables_1_5[i]? = some w) (g : goodWord w = true) : w ∈ pz_L := List.mem_filter.mpr ⟨List.mem_append_right _ (List.mem_append_right _ (List.mem_append_right _ (List.mem_append_right _ (List.mem_append_right _ (List.mem_of_getElem? h))))), g⟩
def pz_nest : List Cond := [.fieldLinkNest "TurningGroups" 246 "TurningGroups$Group" "family" "I" "TurningGroups", .fieldLinkNest "TurningGroups" 249 "TurningGroups$Group" "n" "I" "TurningGroups", .fieldLinkNest "TurningGroups" 78 "TurningGroups$Group" "size" "I" "TurningGroups", .fieldLinkNest "TurningGroups$Rows" 84 "TurningGroups$Group" "size" "I" "TurningGroups", .fieldLinkNest "TurningGroups" 88 "TurningGroups$Group" "inverses" "[I" "TurningGroups", .fieldLinkNest "TurningGroups$Rows" 72 "TurningGroups$Group" "inverses" "[I" "TurningGroups", .fieldLinkNest "TurningGroups" 85 "TurningGroups$Group" "orders" "[I" "TurningGroups", .fieldLinkNest "TurningGroups$Rows" 59 "TurningGroups$Group" "orders" "[I" "TurningGroups", .fieldLinkNest "TurningGroups$Rows" 35 "TurningGroups$Signature" "handles" "I" "TurningGroups", .fieldLinkNest "TurningGroups" 135 "TurningGroups$Signature" "handles" "I" "TurningGroups", .fieldLinkNest "TurningGroups$Rows" 39 "TurningGroups$Signature" "count" "I" "TurningGroups", .fieldLinkNest "TurningGroups" 132 "TurningGroups$Signature" "count" "I" "TurningGroups", .fieldLinkNest "TurningGroups$Rows" 65 "TurningGroups$Signature" "periods" "[I" "TurningGroups", .fieldLinkNest "TurningGroups" 148 "TurningGroups$Signature" "periods" "[I" "TurningGroups", .fieldLinkNest "TurningGroups$Classes" 31 "TurningGroups$Maps" "rows" "LTurningGroups$Rows;" "TurningGroups", .fieldLinkNest "TurningGroups$Classes" 71 "TurningGroups$Maps" "codes" "[I" "TurningGroups", .fieldLinkNest "TurningGroups" 158 "TurningGroups$Maps" "codes" "[I" "TurningGroups", .fieldLinkNest "TurningGroups$Classes" 61 "TurningGroups$Maps" "count" "I" "TurningGroups", .fieldLinkNest "TurningGroups" 154 "TurningGroups$Maps" "count" "I" "TurningGroups", .fieldLinkNest "TurningGroups" 252 "TurningGroups$Maps" "known" "Z" "TurningGroups", .fieldLinkNest "TurningGroups" 203 "TurningGroups$Classes" "numbers" "[I" "TurningGroups", .fieldLinkNest "TurningGroups" 195 "TurningGroups$Classes" "count" "I" "TurningGroups", .fieldLinkNest "TurningGroups" 256 "TurningGroups$Classes" "known" "Z" "TurningGroups", .methodLinkNest "TurningGroups" 18 ⟨"TurningGroups$Signature", "<init>", "()V"⟩ "TurningGroups"]
def pz_KK (D : va_G) (cyI : ClassId) (U : State) : Prop := va_K D vwCl [(cyI, .int)] U ∧ ∀ w ∈ pz_nest, va_Nw w U
theorem pz_nestOn : ∀ w ∈ pz_nest, w.onTables = true := by decide +kernel
theorem pz_KK.warm {D : va_G} {cyI : ClassId} {s U : State} (hW : s.WarmedH U.vm) (h : pz_KK D cyI s) : pz_KK D cyI U := by
  refine ⟨va_K.moved hW.alike h.1, fun w hw => ?_⟩
  have hz := h.2 w hw
  have hw : w ∈ [.fieldLinkNest "TurningGroups" 246 "TurningGroups$Group" "family" "I" "TurningGroups", .fieldLinkNest "TurningGroups" 249 "TurningGroups$Group" "n" "I" "TurningGroups", .fieldLinkNest "TurningGroups" 78 "TurningGroups$Group" "size" "I" "TurningGroups", .fieldLinkNest "TurningGroups$Rows" 84 "TurningGroups$Group" "size" "I" "TurningGroups", .fieldLinkNest "TurningGroups" 88 "TurningGroups$Group" "inverses" "[I" "TurningGroups", .fieldLinkNest "TurningGroups$Rows" 72 "TurningGroups$Group" "inverses" "[I" "TurningGroups", .fieldLinkNest "TurningGroups" 85 "TurningGroups$Group" "orders" "[I" "TurningGroups", .fieldLinkNest "TurningGroups$Rows" 59 "TurningGroups$Group" "orders" "[I" "TurningGroups", .fieldLinkNest "TurningGroups$Rows" 35 "TurningGroups$Signature" "handles" "I" "TurningGroups", .fieldLinkNest "TurningGroups" 135 "TurningGroups$Signature" "handles" "I" "TurningGroups", .fieldLinkNest "TurningGroups$Rows" 39 "TurningGroups$Signature" "count" "I" "TurningGroups", .fieldLinkNest "TurningGroups" 132 "TurningGroups$Signature" "count" "I" "TurningGroups", .fieldLinkNest "TurningGroups$Rows" 65 "TurningGroups$Signature" "periods" "[I" "TurningGroups", .fieldLinkNest "TurningGroups" 148 "TurningGroups$Signature" "periods" "[I" "TurningGroups", .fieldLinkNest "TurningGroups$Classes" 31 "TurningGroups$Maps" "rows" "LTurningGroups$Rows;" "TurningGroups", .fieldLinkNest "TurningGroups$Classes" 71 "TurningGroups$Maps" "codes" "[I" "TurningGroups", .fieldLinkNest "TurningGroups" 158 "TurningGroups$Maps" "codes" "[I" "TurningGroups", .fieldLinkNest "TurningGroups$Classes" 61 "TurningGroups$Maps" "count" "I" "TurningGroups", .fieldLinkNest "TurningGroups" 154 "TurningGroups$Maps" "count" "I" "TurningGroups", .fieldLinkNest "TurningGroups" 252 "TurningGroups$Maps" "known" "Z" "TurningGroups", .fieldLinkNest "TurningGroups" 203 "TurningGroups$Classes" "numbers" "[I" "TurningGroups", .fieldLinkNest "TurningGroups" 195 "TurningGroups$Classes" "count" "I" "TurningGroups", .fieldLinkNest "TurningGroups" 256 "TurningGroups$Classes" "known" "Z" "TurningGroups", .methodLinkNest "TurningGroups" 18 ⟨"TurningGroups$Signature", "<init>", "()V"⟩ "TurningGroups"] := hw
  simp only [List.mem_cons, List.not_mem_nil, or_false] at hw
  rcases hw with rfl | rfl | rfl | rfl | rfl | rfl | rfl | rfl | rfl | rfl | rfl | rfl | rfl | rfl | rfl | rfl | rfl | rfl | rfl | rfl | rfl | rfl | rfl | rfl <;> first | exact va_Nw.warmF hW hz | exact va_Nw.warmM hW hz
theorem pz_KK.calling {D : va_G} {cyI : ClassId} {U : State} {g : JFrame} {mk : MethodId} {a : Array Value} (h : pz_KK D cyI U) : pz_KK D cyI (U.calling g mk a) :=
  ⟨va_K.moved (u := U) (U := U.calling g mk a) (Vm.Alike.refl U.vm) h.1, fun w hw => va_Nw.same (u := U) (U := U.calling g mk a) (pz_nestOn w hw) rfl (h.2 w hw)⟩
def pz_Pc (D : va_G) (cyI : ClassId) (ws : va_W) (sz : Nat) (U : State) : Prop := U.heap.size = sz ∧ va_P D vwCl ws U.heap ∧ pz_KK D cyI U ∧ va_D (fun _ => True) ws
def pz_MI (l : Launch) (y : MethodName) (cc : ByteArray) (n : Nat) (ret : FieldType) (rm : Room) (as : List Value) (D : va_G) (cyI : ClassId) (ws : va_W) (r : Int32) (ws' : va_W) : Prop :=
  ∀ sz : Nat, Met l y (.code y cc n (some ret) :: pz_L) rm (va_Pc as (pz_Pc D cyI ws sz)) (va_Qi (fun (r' : Int32) (_ : Unit) => r' = r) (fun _ t => va_P D vwCl ws' t.heap ∧ va_D (va_A ws sz) ws') (va_A ws sz)) 0 0 (va_A ws sz)
def pz_MV (l : Launch) (y : MethodName) (cc : ByteArray) (n : Nat) (rm : Room) (as : List Value) (D : va_G) (cyI : ClassId) (ws : va_W) (ws' : va_W) : Prop :=
  ∀ sz : Nat, Met l y (.code y cc n none :: pz_L) rm (va_Pc as (pz_Pc D cyI ws sz)) (va_Qv (fun (_ : Unit) => True) (fun _ t => va_P D vwCl ws' t.heap ∧ va_D (va_A ws sz) ws') (va_A ws sz)) 0 0 (va_A ws sz)
def pz_QI (below : List Frame) (args : Array Value) (s : State) (D : va_G) (A : Nat → Prop) (r : Int32) (ws' : va_W) : State → Prop := MQ below (va_Qi (fun (r' : Int32) (_ : Unit) => r' = r) (fun _ t => va_P D vwCl ws' t.heap ∧ va_D A ws') A) args s 0 0 A
def pz_QV (below : List Frame) (args : Array Value) (s : State) (D : va_G) (A : Nat → Prop) (ws' : va_W) : State → Prop := MQ below (va_Qv (fun (_ : Unit) => True) (fun _ t => va_P D vwCl ws' t.heap ∧ va_D A ws') A) args s 0 0 A
/-- what holds in the body of a method, besides its world -/
def pz_B (p : Program) (s : State) (m : MethodId) (args : Array Value) (meth : Method) (c : Code) (cc : ByteArray) (n : Nat) (ret : Option FieldType) (own : String) : Prop :=
  p.tables.exec = Jvm.exec ∧ c.code = cc ∧ meth.sig.returnType = ret ∧ c.maxLocals = n ∧ s.vm.findClass own = some m.cls ∧ (∀ w ∈ pz_L, w.before args s = true) ∧ meth.locks = false
theorem pz_ofI {l : Launch} {y : MethodName} {cc : ByteArray} {n : Nat} {ret : FieldType} {rm : Room} {as : List Value} {D : va_G} {cyI : ClassId} {ws : va_W} {r : Int32} {ws' : va_W} (hy : plainName y.cls = true) (hn : (lg_sl as).length ≤ n)
    (body : ∀ (p : Program) (e : Env) (s : State) (m : MethodId) (args : Array Value) (below : List Frame) (meth : Method) (c : Code) (A : Nat → Prop) (ls : Array Slot), pz_B p s m args meth c cc n (some ret) y.cls → va_P D vwCl ws s.heap → pz_KK D cyI s → va_D A ws → va_S A s.heap s.heap [] → (∀ q : Nat, s.heap.size ≤ q → A q) → lv_has ls n (lv_args 0 as) → W p l e rm s m args below meth c s.heap [] 0 0 (pz_QI below args s D A r ws') (F0 m 0 ls [])) : pz_MI l y cc n ret rm as D cyI ws r ws' := by
  intro sz
  refine Met.ofW (cc := cc) (maxL := n) (ret := some ret) hy rfl ?_
  intro p e s m args below meth c s₁ B hml hv
  obtain ⟨rfl, hsz, hP, hK, hD0⟩ := hv
  subst hsz
  have hts := atoms_spec (ws := .code y cc n (some ret) :: pz_L) B.pre
  have hown : s.vm.findClass y.cls = some m.cls := findClass_of_methodNamed B.named
  have hl := lv_entry as (n := n) hn
  rw [lg_entry_eq]
  exact body p e s m as.toArray below meth c (va_A ws s.heap.size) _ ⟨B.exec, B.bytes, B.returns, hml, hown, fun w hw => hts w (List.mem_cons_of_mem _ hw), B.notSynchronized⟩ hP hK (hD0.self (sz := s.heap.size)) va_S.rf (fun q h => Or.inr h) hl
theorem pz_ofV {l : Launch} {y : MethodName} {cc : ByteArray} {n : Nat} {rm : Room} {as : List Value} {D : va_G} {cyI : ClassId} {ws : va_W} {ws' : va_W} (hy : plainName y.cls = true) (hn : (lg_sl as).length ≤ n)
    (body : ∀ (p : Program) (e : Env) (s : State) (m : MethodId) (args : Array Value) (below : List Frame) (meth : Method) (c : Code) (A : Nat → Prop) (ls : Array Slot), pz_B p s m args meth c cc n none y.cls → va_P D vwCl ws s.heap → pz_KK D cyI s → va_D A ws → va_S A s.heap s.heap [] → (∀ q : Nat, s.heap.size ≤ q → A q) → lv_has ls n (lv_args 0 as) → W p l e rm s m args below meth c s.heap [] 0 0 (pz_QV below args s D A ws') (F0 m 0 ls [])) : pz_MV l y cc n rm as D cyI ws ws' := by
  intro sz
  refine Met.ofW (cc := cc) (maxL := n) (ret := none) hy rfl ?_
  intro p e s m args below meth c s₁ B hml hv
  obtain ⟨rfl, hsz, hP, hK, hD0⟩ := hv
  subst hsz
  have hts := atoms_spec (ws := .code y cc n none :: pz_L) B.pre
  have hown : s.vm.findClass y.cls = some m.cls := findClass_of_methodNamed B.named
  have hl := lv_entry as (n := n) hn
  rw [lg_entry_eq]
  exact body p e s m as.toArray below meth c (va_A ws s.heap.size) _ ⟨B.exec, B.bytes, B.returns, hml, hown, fun w hw => hts w (List.mem_cons_of_mem _ hw), B.notSynchronized⟩ hP hK (hD0.self (sz := s.heap.size)) va_S.rf (fun q h => Or.inr h) hl
def pz_MIX (X : State → Prop) (l : Launch) (y : MethodName) (cc : ByteArray) (n : Nat) (ret : FieldType) (rm : Room) (as : List Value) (D : va_G) (cyI : ClassId) (ws : va_W) (r : Int32) (ws' : va_W) : Prop :=
  ∀ sz : Nat, Met l y (.code y cc n (some ret) :: pz_L) rm (va_Pc as (fun U => U.heap.size = sz ∧ va_P D vwCl ws U.heap ∧ pz_KK D cyI U ∧ va_D (fun _ => True) ws ∧ X U)) (va_Qi (fun (r' : Int32) (_ : Unit) => r' = r) (fun _ t => va_P D vwCl ws' t.heap ∧ va_D (va_A ws sz) ws') (va_A ws sz)) 0 0 (va_A ws sz)
theorem pz_ofIX {X : State → Prop} {l : Launch} {y : MethodName} {cc : ByteArray} {n : Nat} {ret : FieldType} {rm : Room} {as : List Value} {D : va_G} {cyI : ClassId} {ws : va_W} {r : Int32} {ws' : va_W} (hy : plainName y.cls = true) (hn : (lg_sl as).length ≤ n)
    (body : ∀ (p : Program) (e : Env) (s : State) (m : MethodId) (args : Array Value) (below : List Frame) (meth : Method) (c : Code) (A : Nat → Prop) (ls : Array Slot), pz_B p s m args meth c cc n (some ret) y.cls → va_P D vwCl ws s.heap → pz_KK D cyI s → va_D A ws → va_S A s.heap s.heap [] → (∀ q : Nat, s.heap.size ≤ q → A q) → X s → (ws = [] → ∀ q : Nat, q < s.heap.size → ¬ A q) → lv_has ls n (lv_args 0 as) → W p l e rm s m args below meth c s.heap [] 0 0 (pz_QI below args s D A r ws') (F0 m 0 ls [])) : pz_MIX X l y cc n ret rm as D cyI ws r ws' := by
  intro sz
  refine Met.ofW (cc := cc) (maxL := n) (ret := some ret) hy rfl ?_
  intro p e s m args below meth c s₁ B hml hv
  obtain ⟨rfl, hsz, hP, hK, hD0, hX⟩ := hv
  subst hsz
  have hts := atoms_spec (ws := .code y cc n (some ret) :: pz_L) B.pre
  have hown : s.vm.findClass y.cls = some m.cls := findClass_of_methodNamed B.named
  have hl := lv_entry as (n := n) hn
  rw [lg_entry_eq]
  exact body p e s m as.toArray below meth c (va_A ws s.heap.size) _ ⟨B.exec, B.bytes, B.returns, hml, hown, fun w hw => hts w (List.mem_cons_of_mem _ hw), B.notSynchronized⟩ hP hK (hD0.self (sz := s.heap.size)) va_S.rf (fun q h => Or.inr h) hX (fun e q hq h => by subst e; rcases h with ⟨k, e, h⟩ | h; (cases k <;> cases h); omega) hl
def pz_mostN : Nat → Int32 := fun k => if k = 0 then 8 else if k = 1 then 4 else if k = 2 then 3 else 1
/-- the class's own row of constants, as it was read off the launch -/
def pz_RO (D : va_G) (cyI : ClassId) (q : Nat) (U : State) : Prop := va_Z "TurningGroups$Group" "MOST_N" "[I" (.ref q) (fun _ => False) U U.heap ∧ va_T .int q 4 (fun j => .int (pz_mostN j)) (fun _ => False) U U.heap
theorem pz_RO.calling {D : va_G} {cyI : ClassId} {q : Nat} (U : State) (g : JFrame) (mk : MethodId) (a : Array Value) (h : pz_RO D cyI q U) : pz_RO D cyI q (U.calling g mk a) := ⟨va_Z.moved (u := U) (U := U.calling g mk a) (Vm.Alike.refl U.vm) h.1, va_T.moved (u := U) (U := U.calling g mk a) (Vm.Alike.refl U.vm) h.2⟩
theorem pz_RO.warm {D : va_G} {cyI : ClassId} {q : Nat} {s : State} {H : Heap} (hZ : va_Z "TurningGroups$Group" "MOST_N" "[I" (.ref q) (fun _ => False) s H) (hT : va_T .int q 4 (fun j => .int (pz_mostN j)) (fun _ => False) s H) (U : State) (hU : U.heap = H) (hW : s.WarmedH U.vm) : pz_RO D cyI q U := by
  subst hU
  exact ⟨va_Z.moved hW.alike hZ, va_T.moved hW.alike hT⟩
theorem pz_RO.at {D : va_G} {cyI : ClassId} {q : Nat} {s : State} {A : Nat → Prop} (h : pz_RO D cyI q s) (hA : ∀ a : Nat, a < s.heap.size → ¬ A a) : va_Z "TurningGroups$Group" "MOST_N" "[I" (.ref q) A s s.heap := by
  obtain ⟨cf, kf, fi, f, a, cell, h1, h2, h3, h4, h5, h6, h7, -⟩ := h.1
  exact ⟨cf, kf, fi, f, a, cell, h1, h2, h3, h4, h5, h6, h7, hA a (Array.getElem?_eq_some_iff.mp h5).1⟩
theorem pz_RO.atT {D : va_G} {cyI : ClassId} {q : Nat} {s : State} {A : Nat → Prop} (h : pz_RO D cyI q s) (hA : ∀ a : Nat, a < s.heap.size → ¬ A a) : va_T .int q 4 (fun j => .int (pz_mostN j)) A s s.heap := by
  obtain ⟨cell, h1, h2, h3, h4, h5, h6, -⟩ := h.2
  exact ⟨cell, h1, h2, h3, h4, h5, h6, hA q (Array.getElem?_eq_some_iff.mp h1).1⟩
theorem pz_v1 {w : Cond} (i : Nat) (h : tables_1_1[i]? = some w) : w ∈ lw_tbl := List.mem_append_right _ (List.mem_append_left _ (List.mem_of_getElem? h))
theorem pz_v2 {w : Cond} (i : Nat) (h : tables_1_2[i]? = some w) : w ∈ lw_tbl := List.mem_append_right _ (List.mem_append_right _ (List.mem_append_left _ (List.mem_of_getElem? h)))
theorem pz_v3 {w : Cond} (i : Nat) (h : tables_1_3[i]? = some w) : w ∈ lw_tbl := List.mem_append_right _ (List.mem_append_right _ (List.mem_append_right _ (List.mem_append_left _ (List.mem_of_getElem? h))))
theorem pz_v4 {w : Cond} (i : Nat) (h : tables_1_4[i]? = some w) : w ∈ lw_tbl := List.mem_append_right _ (List.mem_append_right _ (List.mem_append_right _ (List.mem_append_right _ (List.mem_append_left _ (List.mem_of_getElem? h)))))
theorem pz_v5 {w : Cond} (i : Nat) (h : tables_1_5[i]? = some w) : w ∈ lw_tbl := List.mem_append_right _ (List.mem_append_right _ (List.mem_append_right _ (List.mem_append_right _ (List.mem_append_right _ (List.mem_of_getElem? h)))))
/-- a field's place: own class, pool entry, class of the object (in vwCl), field -/
def pz_F (own : String) (idx ci k : Nat) : Prop := ∃ (C : String) (T : u_T) (N : Nat), vwCl[ci]? = some (C, T, N) ∧ (∀ w ∈ u_ws C T N, w ∈ pz_L) ∧ k < N ∧ Cond.fieldLink own idx (T k).1 (T k).2.1 (T k).2.2.1 ∈ pz_L
def pz_FN (own : String) (idx ci k : Nat) : Prop := ∃ (C : String) (T : u_T) (N : Nat) (host : String), vwCl[ci]? = some (C, T, N) ∧ (∀ w ∈ u_ws C T N, w ∈ pz_L) ∧ k < N ∧ Cond.fieldLinkNest own idx (T k).1 (T k).2.1 (T k).2.2.1 host ∈ pz_nest
def pz_T (ci k : Nat) (fin : Bool) (ty : FieldType) : Prop := ∃ (C : String) (T : u_T) (N : Nat) (ty0 : Nat → FieldType), vwCl[ci]? = some (C, T, N) ∧ (∀ k, k < N → parseFieldDescriptor (T k).2.2.1 = some (ty0 k)) ∧ (∀ a, a < N → ∀ b, b < N → a ≠ b → (T a).2.1 ≠ (T b).2.1) ∧ (T k).2.2.2 = fin ∧ parseFieldDescriptor (T k).2.2.1 = some ty ∧ (T k).1 = C
section PZ
variable {p : Program} {l : Launch} {e : Env} {R : Room} {s : State} {m : MethodId} {args : Array Value} {below : List Frame} {meth : Method} {c : Code} {H : Heap} {locs : List Loc} {cells slots : Nat} {Q : State → Prop}
variable {cc : ByteArray} {pc n : Nat} {ret : Option FieldType} {own : String} {ls : Array Slot} {rest : List Value} {D : va_G} {cyI : ClassId} {A : Nat → Prop} {a : Nat} {ws : va_W} {H0 : Heap}
theorem pz_get {idx ci k : Nat} (FF : pz_F own idx ci k) (hB : pz_B p s m args meth c cc n ret own) (hK : pz_KK D cyI s) (hP : va_P D vwCl ws H) (q0 : Nat) {fs : List Value} (he : ws[q0]? = some (a, .inr (ci, fs))) {v : Value} (hv : fs[k]? = some v) (hdg : decode cc pc = .ok (.getfield idx, 3))
    (kk : W p l e R s m args below meth c H locs cells slots Q (F0 m (pc + 3) ls (v :: rest))) : W p l e R s m args below meth c H locs cells slots Q (F0 m pc ls (.ref a :: rest)) := by
  obtain ⟨C, T, N, hc, hin, hk, hlink⟩ := FF
  obtain ⟨hx, hb, -, -, hown, hts, -⟩ := hB
  exact va_get hx hb hts hin hown hK.1 hP q0 he hc k hk (hts _ hlink) (fun _ h => h) hv hdg kk
theorem pz_getN {idx ci k : Nat} (FF : pz_FN own idx ci k) (hB : pz_B p s m args meth c cc n ret own) (hK : pz_KK D cyI s) (hP : va_P D vwCl ws H) (q0 : Nat) {fs : List Value} (he : ws[q0]? = some (a, .inr (ci, fs))) {v : Value} (hv : fs[k]? = some v) (hdg : decode cc pc = .ok (.getfield idx, 3))
    (kk : W p l e R s m args below meth c H locs cells slots Q (F0 m (pc + 3) ls (v :: rest))) : W p l e R s m args below meth c H locs cells slots Q (F0 m pc ls (.ref a :: rest)) := by
  obtain ⟨C, T, N, host, hc, hin, hk, hlink⟩ := FF
  obtain ⟨hx, hb, -, -, hown, hts, -⟩ := hB
  exact va_getN hx hb hts hin hown hK.1 hP q0 he hc k hk (va_Nw.use (pz_nestOn _ hlink) (hK.2 _ hlink)) (fun _ h => h) hv hdg kk
theorem pz_put {idx ci k : Nat} {ty : FieldType} (FF : pz_F own idx ci k) (FT : pz_T ci k false ty) (hB : pz_B p s m args meth c cc n ret own) (hK : pz_KK D cyI s) (hP : va_P D vwCl ws H) (hD : va_D A ws) (hS : va_S A H0 H locs) (q0 : Nat) {fs : List Value} (he : ws[q0]? = some (a, .inr (ci, fs))) {v : Value} (hn : narrow ty v = v) (hfit : fits ty v = true) (hl : k < fs.length) (hdg : decode cc pc = .ok (.putfield idx, 3)) (ws' : va_W) (hset : ws.set q0 (a, .inr (ci, fs.set k v)) = ws')
    (kk : ∀ (H1 : Heap) (locs1 : List Loc), va_P D vwCl ws' H1 → va_D A ws' → va_S A H0 H1 locs1 → W p l e R s m args below meth c H1 locs1 cells slots Q (F0 m (pc + 3) ls rest)) : W p l e R s m args below meth c H locs cells slots Q (F0 m pc ls (v :: .ref a :: rest)) := by
  obtain ⟨C, T, N, hc, hin, hk, hlink⟩ := FF
  obtain ⟨C2, T2, N2, ty0, hc2, hty, hnm, hfin, hpd, -⟩ := FT
  obtain ⟨rfl, rfl, rfl⟩ : C = C2 ∧ T = T2 ∧ N = N2 := by
    have h := hc.symm.trans hc2
    simp only [Option.some.injEq, Prod.mk.injEq] at h
    exact h
  obtain ⟨hx, hb, -, -, hown, hts, -⟩ := hB
  subst hset
  exact va_put hx hb hts hin ty0 hty hnm hown hK.1 hP hD hS q0 he hc k hk (hts _ hlink) (fun _ h => h) hfin hpd hn hfit hl hdg kk
theorem pz_putN {idx ci k : Nat} {ty : FieldType} (FF : pz_FN own idx ci k) (FT : pz_T ci k false ty) (hB : pz_B p s m args meth c cc n ret own) (hK : pz_KK D cyI s) (hP : va_P D vwCl ws H) (hD : va_D A ws) (hS : va_S A H0 H locs) (q0 : Nat) {fs : List Value} (he : ws[q0]? = some (a, .inr (ci, fs))) {v : Value} (hn : narrow ty v = v) (hfit : fits ty v = true) (hl : k < fs.length) (hdg : decode cc pc = .ok (.putfield idx, 3)) (ws' : va_W) (hset : ws.set q0 (a, .inr (ci, fs.set k v)) = ws')
    (kk : ∀ (H1 : Heap) (locs1 : List Loc), va_P D vwCl ws' H1 → va_D A ws' → va_S A H0 H1 locs1 → W p l e R s m args below meth c H1 locs1 cells slots Q (F0 m (pc + 3) ls rest)) : W p l e R s m args below meth c H locs cells slots Q (F0 m pc ls (v :: .ref a :: rest)) := by
  obtain ⟨C, T, N, host, hc, hin, hk, hlink⟩ := FF
  obtain ⟨C2, T2, N2, ty0, hc2, hty, hnm, hfin, hpd, -⟩ := FT
  obtain ⟨rfl, rfl, rfl⟩ : C = C2 ∧ T = T2 ∧ N = N2 := by
    have h := hc.symm.trans hc2
    simp only [Option.some.injEq, Prod.mk.injEq] at h
    exact h
  obtain ⟨hx, hb, -, -, hown, hts, -⟩ := hB
  subst hset
  exact va_putN hx hb hts hin ty0 hty hnm hown hK.1 hP hD hS q0 he hc k hk (va_Nw.use (pz_nestOn _ hlink) (hK.2 _ hlink)) (fun _ h => h) hfin hpd hn hfit hl hdg kk
theorem pz_iald (hB : pz_B p s m args meth c cc n ret own) (hK : pz_KK D cyI s) (hP : va_P D vwCl ws H) (q0 : Nat) {N : Nat} {f : Nat → Int32} (ha : ws[q0]? = some (a, .inl (cyI, N, .inl f))) {i : Int32} (hin : vp_in i N) (hdg : decode cc pc = .ok (.iaload, 1))
    (kk : W p l e R s m args below meth c H locs cells slots Q (F0 m (pc + 1) ls (.int (f i.toNatClampNeg) :: rest))) : W p l e R s m args below meth c H locs cells slots Q (F0 m pc ls (.int i :: .ref a :: rest)) :=
  va_iald hB.1 hB.2.1 hK.1 hP q0 0 ha rfl hin hdg kk
theorem pz_iast (hB : pz_B p s m args meth c cc n ret own) (hK : pz_KK D cyI s) (hP : va_P D vwCl ws H) (hD : va_D A ws) (hS : va_S A H0 H locs) (q0 : Nat) {N : Nat} {f : Nat → Int32} (ha : ws[q0]? = some (a, .inl (cyI, N, .inl f))) {i x : Int32} (hin : vp_in i N) (hdg : decode cc pc = .ok (.iastore, 1)) (ws' : va_W) (hset : ws.set q0 (a, .inl (cyI, N, .inl (upd f i.toNatClampNeg x))) = ws')
    (kk : ∀ (H1 : Heap) (locs1 : List Loc), va_P D vwCl ws' H1 → va_D A ws' → va_S A H0 H1 locs1 → W p l e R s m args below meth c H1 locs1 cells slots Q (F0 m (pc + 1) ls rest)) : W p l e R s m args below meth c H locs cells slots Q (F0 m pc ls (.int x :: .int i :: .ref a :: rest)) := by
  subst hset
  exact va_iast hB.1 hB.2.1 hK.1 hP hD hS q0 0 ha rfl hin hdg kk
theorem pz_alen (hB : pz_B p s m args meth c cc n ret own) (hK : pz_KK D cyI s) (hP : va_P D vwCl ws H) (q0 : Nat) {N : Nat} {f : Nat → Int32} (ha : ws[q0]? = some (a, .inl (cyI, N, .inl f))) (hdg : decode cc pc = .ok (.arraylength, 1))
    (kk : W p l e R s m args below meth c H locs cells slots Q (F0 m (pc + 1) ls (.int (nI N) :: rest))) : W p l e R s m args below meth c H locs cells slots Q (F0 m pc ls (.ref a :: rest)) :=
  va_alen hB.1 hB.2.1 hK.1 hP q0 0 ha (ty := .int) rfl (v := nI N) rfl hdg kk
theorem pz_iret {r : Int32} (hB : pz_B p s m args meth c cc n (some .int) own) (hP : va_P D vwCl ws H) (hD : va_D A ws) (hS : va_S A s.heap H locs) (hdg : decode cc pc = .ok (.ireturn, 1)) : W p l e R s m args below meth c H locs 0 0 (pz_QI below args s D A r ws) (F0 m pc ls [.int r]) :=
  W.iret hB.1 hB.2.1 hB.2.2.1 (fun t ht _ => ⟨⟨r, (), rfl, rfl, by rw [ht]; exact hP, hD⟩, hS.F ht⟩) hS.2.2 hdg hB.2.2.2.2.2.2
theorem pz_zret {r : Int32} (hB : pz_B p s m args meth c cc n (some .boolean) own) (hz : r = 0 ∨ r = 1) (hP : va_P D vwCl ws H) (hD : va_D A ws) (hS : va_S A s.heap H locs) (hdg : decode cc pc = .ok (.ireturn, 1)) : W p l e R s m args below meth c H locs 0 0 (pz_QI below args s D A r ws) (F0 m pc ls [.int r]) :=
  W.zret hB.1 hB.2.1 hB.2.2.1 (pz_nz hz) (fun t ht _ => ⟨⟨r, (), rfl, rfl, by rw [ht]; exact hP, hD⟩, hS.F ht⟩) hS.2.2 hdg hB.2.2.2.2.2.2
theorem pz_vret (hB : pz_B p s m args meth c cc n none own) (hP : va_P D vwCl ws H) (hD : va_D A ws) (hS : va_S A s.heap H locs) (hdg : decode cc pc = .ok (.return_, 1)) : W p l e R s m args below meth c H locs 0 0 (pz_QV below args s D A ws) (F0 m pc ls []) :=
  W.vret hB.1 hB.2.1 hB.2.2.1 (fun t ht _ => ⟨⟨(), rfl, trivial, by rw [ht]; exact hP, hD⟩, hS.F ht⟩) hS.2.2 hdg hB.2.2.2.2.2.2
end PZ
/-- a call's place -/
def pz_C (own : String) (idx : Nat) (y : MethodName) (cc : ByteArray) (n : Nat) (ret : Option FieldType) (na : Nat) : Prop := (∀ w ∈ wsV own idx y.cls y (.code y cc n ret :: pz_L), w ∈ pz_L) ∧ (y.cls ≠ "java/lang/invoke/MethodHandle" ∧ y.cls ≠ "java/lang/invoke/VarHandle") ∧ (parseMethodDescriptor y.desc).map (fun d => d.parameters.length) = some na
def pz_CS (own : String) (idx : Nat) (y : MethodName) (cc : ByteArray) (n : Nat) (ret : Option FieldType) (na : Nat) : Prop := (∀ w ∈ ([.methodLink own idx y, .static y, .initialized y.cls, .code y cc n ret] : List Cond) ++ pz_L, w ∈ pz_L) ∧ (y.cls ≠ "java/lang/invoke/MethodHandle" ∧ y.cls ≠ "java/lang/invoke/VarHandle") ∧ (parseMethodDescriptor y.desc).map (fun d => d.parameters.length) = some na
theorem pz_Cof {own : String} {idx : Nat} {y : MethodName} {cc : ByteArray} {n : Nat} {ret : Option FieldType} {na : Nat} (h1 : Cond.methodLink own idx y ∈ pz_L) (h2 : Cond.instanceMethod y ∈ pz_L) (h3 : Cond.selects y.cls y y ∈ pz_L) (h4 : Cond.initialized y.cls ∈ pz_L) (h5 : Cond.code y cc n ret ∈ pz_L) (h6 : y.cls ≠ "java/lang/invoke/MethodHandle" ∧ y.cls ≠ "java/lang/invoke/VarHandle") (h7 : (parseMethodDescriptor y.desc).map (fun d => d.parameters.length) = some na) : pz_C own idx y cc n ret na := by
  refine ⟨fun w hw => ?_, h6, h7⟩
  simp only [wsV, List.cons_append, List.nil_append, List.mem_cons] at hw
  rcases hw with rfl | rfl | rfl | rfl | rfl | hw
  · exact h1
  · exact h2
  · exact h3
  · exact h4
  · exact h5
  · exact hw
theorem pz_CSin {own : String} {idx : Nat} {y : MethodName} {cc : ByteArray} {n : Nat} {ret : Option FieldType} (h : ∀ w ∈ ([.methodLink own idx y, .static y, .initialized y.cls, .code y cc n ret] : List Cond) ++ pz_L, w ∈ pz_L) : ∀ w ∈ Cond.code y cc n ret :: pz_L, w ∈ pz_L := fun w hw => (List.mem_cons.mp hw).elim (fun e => by rw [e]; exact h _ (List.mem_append_left _ (by simp))) id
theorem pz_CSof {own : String} {idx : Nat} {y : MethodName} {cc : ByteArray} {n : Nat} {ret : Option FieldType} {na : Nat} (h1 : Cond.methodLink own idx y ∈ pz_L) (h2 : Cond.static y ∈ pz_L) (h4 : Cond.initialized y.cls ∈ pz_L) (h5 : Cond.code y cc n ret ∈ pz_L) (h6 : y.cls ≠ "java/lang/invoke/MethodHandle" ∧ y.cls ≠ "java/lang/invoke/VarHandle") (h7 : (parseMethodDescriptor y.desc).map (fun d => d.parameters.length) = some na) : pz_CS own idx y cc n ret na := by
  refine ⟨fun w hw => ?_, h6, h7⟩
  simp only [List.cons_append, List.nil_append, List.mem_cons] at hw
  rcases hw with rfl | rfl | rfl | rfl | hw
  · exact h1
  · exact h2
  · exact h4
  · exact h5
  · exact hw
theorem pz_wsub {wr w1 ws2 : va_W} {D : va_G} {H : Heap} {A : Nat → Prop} (hP : va_P D vwCl (wr ++ w1) H) (hD : va_D A (wr ++ w1)) (perm : List Nat) (hn : va_nd perm = true) (hs : perm.map (fun i => (wr ++ w1)[i]?) = ws2.map some) : va_P D vwCl ws2 H ∧ va_D A ws2 := by
  refine ⟨hP.sub perm ?_, hD.sub perm hn hs⟩
  have h := congrArg (List.filterMap id) hs
  simpa [List.filterMap_map] using h

theorem pz_keepP {ws wc : va_W} {H H1 : Heap} {D : va_G} {A : Nat → Prop} (hP : va_P D vwCl ws H) (hD : va_D A ws) (isC : List Nat) (hC : isC.map (fun i => ws[i]?) = wc.map some) (hk : ∀ q : Nat, q < H.size → ¬ va_A wc H.size q → H1[q]? = H[q]?) (hP1 : va_P D vwCl wc H1) : va_P D vwCl ws H1 := by
  intro k q hq
  have hlt := (hP k q hq).lt
  by_cases hm : ∃ (j : Nat) (e : va_E), wc[j]? = some (q.1, e)
  · obtain ⟨j, e, hj⟩ := hm
    have h1 : (isC.map (fun i => ws[i]?))[j]? = some (some (q.1, e)) := by rw [hC, List.getElem?_map, hj]; rfl
    rw [List.getElem?_map] at h1
    cases hi : isC[j]? with
    | none => rw [hi] at h1; cases h1
    | some i =>
      rw [hi] at h1
      have h2 : ws[i]? = some (q.1, e) := Option.some.inj h1
      have hij := hD.1 i k (q.1, e) q h2 hq rfl
      subst hij
      have he : q = (q.1, e) := Option.some.inj (hq.symm.trans h2)
      rw [he]
      exact hP1 j _ hj
  · refine (hP k q hq).kept (hk q.1 hlt (fun h => ?_))
    rcases h with h | h
    · exact hm h
    · omega
section PZ2
variable {p : Program} {l : Launch} {e : Env} {R : Room} {s : State} {m : MethodId} {args : Array Value} {below : List Frame} {meth : Method} {c : Code} {H : Heap} {locs : List Loc} {cells slots : Nat} {Q : State → Prop}
variable {cc : ByteArray} {pc n : Nat} {ret : Option FieldType} {own : String} {ls : Array Slot} {rest : List Value} {D : va_G} {cyI : ClassId} {A : Nat → Prop} {ws wc wr wc' ws2 : va_W}
/-- a call of an object's method that answers an int: the callee's cells wc (places isC of ws) become wc', all others stay -/
theorem pz_callI {y : MethodName} {cc' : ByteArray} {n' idx na b ci : Nat} {ret' : FieldType} {rm' : Room} {As : List Value} {r : Int32} {T : u_T} {N : Nat} {fs : List Value} (CA : pz_C own idx y cc' n' (some ret') na) (M : pz_MI l y cc' n' ret' rm' (.ref b :: As) D cyI wc r wc') (hB : pz_B p s m args meth c cc n ret own) (hK : pz_KK D cyI s) (hP : va_P D vwCl ws H) (hD : va_D A ws) (hS : va_S A s.heap H locs) (hA : ∀ q : Nat, s.heap.size ≤ q → A q) {lv : List (Nat × Value)} (hl : lv_has ls n lv) (hna : As.length = na)
    (hc0 : rm'.cells = 0) (hs0 : rm'.slots = 0) (hR : rm'.frames + 1 ≤ R.frames ∧ 8 + (n' + 11) + rm'.locals ≤ R.locals) (hrc : wc[0]? = some (b, .inr (ci, fs))) (hci : vwCl[ci]? = some (y.cls, T, N)) (isC isR perm : List Nat) (hC : isC.map (fun i => ws[i]?) = wc.map some) (hRr : isR.map (fun i => ws[i]?) = wr.map some) (hn : va_nd isR = true) (hdis : ∀ i ∈ isR, i ∉ isC) (hnC : va_nd isC = true) (hnp : va_nd perm = true) (hperm : perm.map (fun i => (wr ++ wc')[i]?) = ws2.map some)
    (hst : (rest.map fun v => v.category).sum ≤ 8) (hdg : decode cc pc = .ok (.invokevirtual idx, 3)) (hcl : cells ≤ R.cells) (hsl : slots ≤ R.slots) {st0 : List Value} (hst0 : st0 = As.reverse ++ .ref b :: rest)
    (kk : ∀ (H1 : Heap) (locs1 : List Loc), va_P D vwCl ws2 H1 → va_D A ws2 → va_S A s.heap H1 locs1 → W p l e R s m args below meth c H1 locs1 cells slots Q (F0 m (pc + 3) ls (.int r :: rest))) : W p l e R s m args below meth c H locs cells slots Q (F0 m pc ls st0) := by
  subst hst0
  obtain ⟨hx, hb, hret, hml, hown, hts, hlk⟩ := hB
  have hfm : isC.filterMap (fun i => ws[i]?) = wc := by
    have h := congrArg (List.filterMap id) hC
    simpa [List.filterMap_map] using h
  have hPc := hP.sub (ws' := wc) isC hfm
  have hDc := hD.sub (ws' := wc) isC hnC hC
  have hFc := va_free (wc := wc) hD hS hA isC hC
  refine va_calli (va_runV (As := As) (rest := rest) ⟨hx, hb, hml, hown, hts⟩ (M H.size) (cwV na hts (pz_good CA.1) rfl hc0 hs0 ⟨rfl, CA.2.1.1, CA.2.1.2, CA.2.2⟩ hR) ⟨fun a U g mk q => ?_, va_recv hK.1 hPc hci hrc, fun U hU hW => ⟨rfl, by rw [hU], by rw [hU]; exact hPc, hK.warm hW, hDc.weaken (fun _ _ _ _ => trivial)⟩⟩ rfl hna hl.1 rfl (lv_room hst) hdg ⟨hcl, hsl⟩) hS (fun q _ h => hFc q h) hFc (fun r2 u t H1 locs1 ht hvm hw hBt hz1 hk1 hS1 => ?_)
  · obtain ⟨q0, q1, qP, qK, qD⟩ := q
    exact ⟨q0, q1, qP, qK.calling, qD⟩
  obtain ⟨hP1, hD1⟩ := hBt
  rw [ht] at hP1
  obtain ⟨hP2, hD2⟩ := va_join (wr := wr) (w1 := wc') hP hD isC isR hC hRr hn hdis hk1 hFc hP1 hD1
  obtain ⟨hP3, hD3⟩ := pz_wsub hP2 hD2 perm hnp hperm
  have hw : r2 = r := hw
  subst hw
  exact kk H1 locs1 hP3 hD3 hS1
theorem pz_callV {y : MethodName} {cc' : ByteArray} {n' idx na b ci : Nat} {rm' : Room} {As : List Value} {T : u_T} {N : Nat} {fs : List Value} (CA : pz_C own idx y cc' n' none na) (M : pz_MV l y cc' n' rm' (.ref b :: As) D cyI wc wc') (hB : pz_B p s m args meth c cc n ret own) (hK : pz_KK D cyI s) (hP : va_P D vwCl ws H) (hD : va_D A ws) (hS : va_S A s.heap H locs) (hA : ∀ q : Nat, s.heap.size ≤ q → A q) {lv : List (Nat × Value)} (hl : lv_has ls n lv) (hna : As.length = na)
    (hc0 : rm'.cells = 0) (hs0 : rm'.slots = 0) (hR : rm'.frames + 1 ≤ R.frames ∧ 8 + (n' + 11) + rm'.locals ≤ R.locals) (hrc : wc[0]? = some (b, .inr (ci, fs))) (hci : vwCl[ci]? = some (y.cls, T, N)) (isC isR perm : List Nat) (hC : isC.map (fun i => ws[i]?) = wc.map some) (hRr : isR.map (fun i => ws[i]?) = wr.map some) (hn : va_nd isR = true) (hdis : ∀ i ∈ isR, i ∉ isC) (hnC : va_nd isC = true) (hnp : va_nd perm = true) (hperm : perm.map (fun i => (wr ++ wc')[i]?) = ws2.map some)
    (hst : (rest.map fun v => v.category).sum ≤ 8) (hdg : decode cc pc = .ok (.invokevirtual idx, 3)) (hcl : cells ≤ R.cells) (hsl : slots ≤ R.slots) {st0 : List Value} (hst0 : st0 = As.reverse ++ .ref b :: rest)
    (kk : ∀ (H1 : Heap) (locs1 : List Loc), va_P D vwCl ws2 H1 → va_D A ws2 → va_S A s.heap H1 locs1 → W p l e R s m args below meth c H1 locs1 cells slots Q (F0 m (pc + 3) ls rest)) : W p l e R s m args below meth c H locs cells slots Q (F0 m pc ls st0) := by
  subst hst0
  obtain ⟨hx, hb, hret, hml, hown, hts, hlk⟩ := hB
  have hfm : isC.filterMap (fun i => ws[i]?) = wc := by
    have h := congrArg (List.filterMap id) hC
    simpa [List.filterMap_map] using h
  have hPc := hP.sub (ws' := wc) isC hfm
  have hDc := hD.sub (ws' := wc) isC hnC hC
  have hFc := va_free (wc := wc) hD hS hA isC hC
  refine va_callv (va_runV (As := As) (rest := rest) ⟨hx, hb, hml, hown, hts⟩ (M H.size) (cwV na hts (pz_good CA.1) rfl hc0 hs0 ⟨rfl, CA.2.1.1, CA.2.1.2, CA.2.2⟩ hR) ⟨fun a U g mk q => ?_, va_recv hK.1 hPc hci hrc, fun U hU hW => ⟨rfl, by rw [hU], by rw [hU]; exact hPc, hK.warm hW, hDc.weaken (fun _ _ _ _ => trivial)⟩⟩ rfl hna hl.1 rfl (lv_room hst) hdg ⟨hcl, hsl⟩) hS (fun q _ h => hFc q h) hFc (fun u t H1 locs1 ht hvm hw hBt hz1 hk1 hS1 => ?_)
  · obtain ⟨q0, q1, qP, qK, qD⟩ := q
    exact ⟨q0, q1, qP, qK.calling, qD⟩
  obtain ⟨hP1, hD1⟩ := hBt
  rw [ht] at hP1
  obtain ⟨hP2, hD2⟩ := va_join (wr := wr) (w1 := wc') hP hD isC isR hC hRr hn hdis hk1 hFc hP1 hD1
  obtain ⟨hP3, hD3⟩ := pz_wsub hP2 hD2 perm hnp hperm
  exact kk H1 locs1 hP3 hD3 hS1
/-- a call of a static method -/
theorem pz_callSI {y : MethodName} {cc' : ByteArray} {n' idx na : Nat} {ret' : FieldType} {rm' : Room} {As : List Value} {r : Int32} (CA : pz_CS own idx y cc' n' (some ret') na) (M : pz_MI l y cc' n' ret' rm' As D cyI wc r wc') (hB : pz_B p s m args meth c cc n ret own) (hK : pz_KK D cyI s) (hP : va_P D vwCl ws H) (hD : va_D A ws) (hS : va_S A s.heap H locs) (hA : ∀ q : Nat, s.heap.size ≤ q → A q) {lv : List (Nat × Value)} (hl : lv_has ls n lv) (hna : As.length = na)
    (hc0 : rm'.cells = 0) (hs0 : rm'.slots = 0) (hR : rm'.frames + 1 ≤ R.frames ∧ 8 + (n' + 11) + rm'.locals ≤ R.locals) (isC isR perm : List Nat) (hC : isC.map (fun i => ws[i]?) = wc.map some) (hRr : isR.map (fun i => ws[i]?) = wr.map some) (hn : va_nd isR = true) (hdis : ∀ i ∈ isR, i ∉ isC) (hnC : va_nd isC = true) (hnp : va_nd perm = true) (hperm : perm.map (fun i => (wr ++ wc')[i]?) = ws2.map some)
    (hst : (rest.map fun v => v.category).sum ≤ 8) (hdg : decode cc pc = .ok (.invokestatic idx, 3)) (hcl : cells ≤ R.cells) (hsl : slots ≤ R.slots) {st0 : List Value} (hst0 : st0 = As.reverse ++ rest)
    (kk : ∀ (H1 : Heap) (locs1 : List Loc), va_P D vwCl ws2 H1 → va_D A ws2 → va_S A s.heap H1 locs1 → W p l e R s m args below meth c H1 locs1 cells slots Q (F0 m (pc + 3) ls (.int r :: rest))) : W p l e R s m args below meth c H locs cells slots Q (F0 m pc ls st0) := by
  subst hst0
  obtain ⟨hx, hb, hret, hml, hown, hts, hlk⟩ := hB
  have hfm : isC.filterMap (fun i => ws[i]?) = wc := by
    have h := congrArg (List.filterMap id) hC
    simpa [List.filterMap_map] using h
  have hPc := hP.sub (ws' := wc) isC hfm
  have hDc := hD.sub (ws' := wc) isC hnC hC
  have hFc := va_free (wc := wc) hD hS hA isC hC
  have hw : ∀ w, w ∈ ([.methodLink own idx y, .static y, .initialized y.cls, .code y cc' n' (some ret')] : List Cond) → w.before args s = true := fun w h => hts w (CA.1 w (List.mem_append_left _ h))
  refine va_calli (va_runS (As := As) (rest := rest) ⟨hx, hb, hml, hown, hts⟩ (M H.size) ⟨callB_of na hts (pz_good (pz_CSin CA.1)) rfl hc0 hs0 (hw _ (by simp)) (hw _ (by simp)) ⟨CA.2.1.1, CA.2.1.2, CA.2.2⟩ hR, hw _ (by simp)⟩ ⟨fun a U g mk q => ?_, fun U hU hW => ⟨rfl, by rw [hU], by rw [hU]; exact hPc, hK.warm hW, hDc.weaken (fun _ _ _ _ => trivial)⟩⟩ rfl hna hl.1 rfl (lv_room hst) hdg ⟨hcl, hsl⟩) hS (fun q _ h => hFc q h) hFc (fun r2 u t H1 locs1 ht hvm hw hBt hz1 hk1 hS1 => ?_)
  · obtain ⟨q0, q1, qP, qK, qD⟩ := q
    exact ⟨q0, q1, qP, qK.calling, qD⟩
  obtain ⟨hP1, hD1⟩ := hBt
  rw [ht] at hP1
  obtain ⟨hP2, hD2⟩ := va_join (wr := wr) (w1 := wc') hP hD isC isR hC hRr hn hdis hk1 hFc hP1 hD1
  obtain ⟨hP3, hD3⟩ := pz_wsub hP2 hD2 perm hnp hperm
  have hw : r2 = r := hw
  subst hw
  exact kk H1 locs1 hP3 hD3 hS1
theorem pz_callSV {y : MethodName} {cc' : ByteArray} {n' idx na : Nat} {rm' : Room} {As : List Value} (CA : pz_CS own idx y cc' n' none na) (M : pz_MV l y cc' n' rm' As D cyI wc wc') (hB : pz_B p s m args meth c cc n ret own) (hK : pz_KK D cyI s) (hP : va_P D vwCl ws H) (hD : va_D A ws) (hS : va_S A s.heap H locs) (hA : ∀ q : Nat, s.heap.size ≤ q → A q) {lv : List (Nat × Value)} (hl : lv_has ls n lv) (hna : As.length = na)
    (hc0 : rm'.cells = 0) (hs0 : rm'.slots = 0) (hR : rm'.frames + 1 ≤ R.frames ∧ 8 + (n' + 11) + rm'.locals ≤ R.locals) (isC isR perm : List Nat) (hC : isC.map (fun i => ws[i]?) = wc.map some) (hRr : isR.map (fun i => ws[i]?) = wr.map some) (hn : va_nd isR = true) (hdis : ∀ i ∈ isR, i ∉ isC) (hnC : va_nd isC = true) (hnp : va_nd perm = true) (hperm : perm.map (fun i => (wr ++ wc')[i]?) = ws2.map some)
    (hst : (rest.map fun v => v.category).sum ≤ 8) (hdg : decode cc pc = .ok (.invokestatic idx, 3)) (hcl : cells ≤ R.cells) (hsl : slots ≤ R.slots) {st0 : List Value} (hst0 : st0 = As.reverse ++ rest)
    (kk : ∀ (H1 : Heap) (locs1 : List Loc), va_P D vwCl ws2 H1 → va_D A ws2 → va_S A s.heap H1 locs1 → W p l e R s m args below meth c H1 locs1 cells slots Q (F0 m (pc + 3) ls rest)) : W p l e R s m args below meth c H locs cells slots Q (F0 m pc ls st0) := by
  subst hst0
  obtain ⟨hx, hb, hret, hml, hown, hts, hlk⟩ := hB
  have hfm : isC.filterMap (fun i => ws[i]?) = wc := by
    have h := congrArg (List.filterMap id) hC
    simpa [List.filterMap_map] using h
  have hPc := hP.sub (ws' := wc) isC hfm
  have hDc := hD.sub (ws' := wc) isC hnC hC
  have hFc := va_free (wc := wc) hD hS hA isC hC
  have hw : ∀ w, w ∈ ([.methodLink own idx y, .static y, .initialized y.cls, .code y cc' n' none] : List Cond) → w.before args s = true := fun w h => hts w (CA.1 w (List.mem_append_left _ h))
  refine va_callv (va_runS (As := As) (rest := rest) ⟨hx, hb, hml, hown, hts⟩ (M H.size) ⟨callB_of na hts (pz_good (pz_CSin CA.1)) rfl hc0 hs0 (hw _ (by simp)) (hw _ (by simp)) ⟨CA.2.1.1, CA.2.1.2, CA.2.2⟩ hR, hw _ (by simp)⟩ ⟨fun a U g mk q => ?_, fun U hU hW => ⟨rfl, by rw [hU], by rw [hU]; exact hPc, hK.warm hW, hDc.weaken (fun _ _ _ _ => trivial)⟩⟩ rfl hna hl.1 rfl (lv_room hst) hdg ⟨hcl, hsl⟩) hS (fun q _ h => hFc q h) hFc (fun u t H1 locs1 ht hvm hw hBt hz1 hk1 hS1 => ?_)
  · obtain ⟨q0, q1, qP, qK, qD⟩ := q
    exact ⟨q0, q1, qP, qK.calling, qD⟩
  obtain ⟨hP1, hD1⟩ := hBt
  rw [ht] at hP1
  obtain ⟨hP2, hD2⟩ := va_join (wr := wr) (w1 := wc') hP hD isC isR hC hRr hn hdis hk1 hFc hP1 hD1
  obtain ⟨hP3, hD3⟩ := pz_wsub hP2 hD2 perm hnp hperm
  exact kk H1 locs1 hP3 hD3 hS1
theorem pz_callIr {y : MethodName} {cc' : ByteArray} {n' idx na b ci : Nat} {ret' : FieldType} {rm' : Room} {As : List Value} {r : Int32} {T : u_T} {N : Nat} {fs : List Value} (CA : pz_C own idx y cc' n' (some ret') na) (M : pz_MI l y cc' n' ret' rm' (.ref b :: As) D cyI wc r wc) (hB : pz_B p s m args meth c cc n ret own) (hK : pz_KK D cyI s) (hP : va_P D vwCl ws H) (hD : va_D A ws) (hS : va_S A s.heap H locs) (hA : ∀ q : Nat, s.heap.size ≤ q → A q) {lv : List (Nat × Value)} (hl : lv_has ls n lv) (hna : As.length = na)
    (hc0 : rm'.cells = 0) (hs0 : rm'.slots = 0) (hR : rm'.frames + 1 ≤ R.frames ∧ 8 + (n' + 11) + rm'.locals ≤ R.locals) (hrc : wc[0]? = some (b, .inr (ci, fs))) (hci : vwCl[ci]? = some (y.cls, T, N)) (isC : List Nat) (hC : isC.map (fun i => ws[i]?) = wc.map some) (hnC : va_nd isC = true)
    (hst : (rest.map fun v => v.category).sum ≤ 8) (hdg : decode cc pc = .ok (.invokevirtual idx, 3)) (hcl : cells ≤ R.cells) (hsl : slots ≤ R.slots) {st0 : List Value} (hst0 : st0 = As.reverse ++ .ref b :: rest)
    (kk : ∀ (H1 : Heap) (locs1 : List Loc), va_P D vwCl ws H1 → va_S A s.heap H1 locs1 → W p l e R s m args below meth c H1 locs1 cells slots Q (F0 m (pc + 3) ls (.int r :: rest))) : W p l e R s m args below meth c H locs cells slots Q (F0 m pc ls st0) := by
  subst hst0
  obtain ⟨hx, hb, hret, hml, hown, hts, hlk⟩ := hB
  have hfm : isC.filterMap (fun i => ws[i]?) = wc := by
    have h := congrArg (List.filterMap id) hC
    simpa [List.filterMap_map] using h
  have hPc := hP.sub (ws' := wc) isC hfm
  have hDc := hD.sub (ws' := wc) isC hnC hC
  have hFc := va_free (wc := wc) hD hS hA isC hC
  refine va_calli (va_runV (As := As) (rest := rest) ⟨hx, hb, hml, hown, hts⟩ (M H.size) (cwV na hts (pz_good CA.1) rfl hc0 hs0 ⟨rfl, CA.2.1.1, CA.2.1.2, CA.2.2⟩ hR) ⟨fun a U g mk q => ?_, va_recv hK.1 hPc hci hrc, fun U hU hW => ⟨rfl, by rw [hU], by rw [hU]; exact hPc, hK.warm hW, hDc.weaken (fun _ _ _ _ => trivial)⟩⟩ rfl hna hl.1 rfl (lv_room hst) hdg ⟨hcl, hsl⟩) hS (fun q _ h => hFc q h) hFc (fun r2 u t H1 locs1 ht hvm hw hBt hz1 hk1 hS1 => ?_)
  · obtain ⟨q0, q1, qP, qK, qD⟩ := q
    exact ⟨q0, q1, qP, qK.calling, qD⟩
  obtain ⟨hP1, hD1⟩ := hBt
  rw [ht] at hP1
  have hP3 := pz_keepP hP hD isC hC hk1 hP1
  have hw : r2 = r := hw
  subst hw
  exact kk H1 locs1 hP3 hS1
theorem pz_callVr {y : MethodName} {cc' : ByteArray} {n' idx na b ci : Nat} {rm' : Room} {As : List Value} {T : u_T} {N : Nat} {fs : List Value} (CA : pz_C own idx y cc' n' none na) (M : pz_MV l y cc' n' rm' (.ref b :: As) D cyI wc wc) (hB : pz_B p s m args meth c cc n ret own) (hK : pz_KK D cyI s) (hP : va_P D vwCl ws H) (hD : va_D A ws) (hS : va_S A s.heap H locs) (hA : ∀ q : Nat, s.heap.size ≤ q → A q) {lv : List (Nat × Value)} (hl : lv_has ls n lv) (hna : As.length = na)
    (hc0 : rm'.cells = 0) (hs0 : rm'.slots = 0) (hR : rm'.frames + 1 ≤ R.frames ∧ 8 + (n' + 11) + rm'.locals ≤ R.locals) (hrc : wc[0]? = some (b, .inr (ci, fs))) (hci : vwCl[ci]? = some (y.cls, T, N)) (isC : List Nat) (hC : isC.map (fun i => ws[i]?) = wc.map some) (hnC : va_nd isC = true)
    (hst : (rest.map fun v => v.category).sum ≤ 8) (hdg : decode cc pc = .ok (.invokevirtual idx, 3)) (hcl : cells ≤ R.cells) (hsl : slots ≤ R.slots) {st0 : List Value} (hst0 : st0 = As.reverse ++ .ref b :: rest)
    (kk : ∀ (H1 : Heap) (locs1 : List Loc), va_P D vwCl ws H1 → va_S A s.heap H1 locs1 → W p l e R s m args below meth c H1 locs1 cells slots Q (F0 m (pc + 3) ls rest)) : W p l e R s m args below meth c H locs cells slots Q (F0 m pc ls st0) := by
  subst hst0
  obtain ⟨hx, hb, hret, hml, hown, hts, hlk⟩ := hB
  have hfm : isC.filterMap (fun i => ws[i]?) = wc := by
    have h := congrArg (List.filterMap id) hC
    simpa [List.filterMap_map] using h
  have hPc := hP.sub (ws' := wc) isC hfm
  have hDc := hD.sub (ws' := wc) isC hnC hC
  have hFc := va_free (wc := wc) hD hS hA isC hC
  refine va_callv (va_runV (As := As) (rest := rest) ⟨hx, hb, hml, hown, hts⟩ (M H.size) (cwV na hts (pz_good CA.1) rfl hc0 hs0 ⟨rfl, CA.2.1.1, CA.2.1.2, CA.2.2⟩ hR) ⟨fun a U g mk q => ?_, va_recv hK.1 hPc hci hrc, fun U hU hW => ⟨rfl, by rw [hU], by rw [hU]; exact hPc, hK.warm hW, hDc.weaken (fun _ _ _ _ => trivial)⟩⟩ rfl hna hl.1 rfl (lv_room hst) hdg ⟨hcl, hsl⟩) hS (fun q _ h => hFc q h) hFc (fun u t H1 locs1 ht hvm hw hBt hz1 hk1 hS1 => ?_)
  · obtain ⟨q0, q1, qP, qK, qD⟩ := q
    exact ⟨q0, q1, qP, qK.calling, qD⟩
  obtain ⟨hP1, hD1⟩ := hBt
  rw [ht] at hP1
  have hP3 := pz_keepP hP hD isC hC hk1 hP1
  exact kk H1 locs1 hP3 hS1
theorem pz_callSIr {y : MethodName} {cc' : ByteArray} {n' idx na : Nat} {ret' : FieldType} {rm' : Room} {As : List Value} {r : Int32} (CA : pz_CS own idx y cc' n' (some ret') na) (M : pz_MI l y cc' n' ret' rm' As D cyI wc r wc) (hB : pz_B p s m args meth c cc n ret own) (hK : pz_KK D cyI s) (hP : va_P D vwCl ws H) (hD : va_D A ws) (hS : va_S A s.heap H locs) (hA : ∀ q : Nat, s.heap.size ≤ q → A q) {lv : List (Nat × Value)} (hl : lv_has ls n lv) (hna : As.length = na)
    (hc0 : rm'.cells = 0) (hs0 : rm'.slots = 0) (hR : rm'.frames + 1 ≤ R.frames ∧ 8 + (n' + 11) + rm'.locals ≤ R.locals) (isC : List Nat) (hC : isC.map (fun i => ws[i]?) = wc.map some) (hnC : va_nd isC = true)
    (hst : (rest.map fun v => v.category).sum ≤ 8) (hdg : decode cc pc = .ok (.invokestatic idx, 3)) (hcl : cells ≤ R.cells) (hsl : slots ≤ R.slots) {st0 : List Value} (hst0 : st0 = As.reverse ++ rest)
    (kk : ∀ (H1 : Heap) (locs1 : List Loc), va_P D vwCl ws H1 → va_S A s.heap H1 locs1 → W p l e R s m args below meth c H1 locs1 cells slots Q (F0 m (pc + 3) ls (.int r :: rest))) : W p l e R s m args below meth c H locs cells slots Q (F0 m pc ls st0) := by
  subst hst0
  obtain ⟨hx, hb, hret, hml, hown, hts, hlk⟩ := hB
  have hfm : isC.filterMap (fun i => ws[i]?) = wc := by
    have h := congrArg (List.filterMap id) hC
    simpa [List.filterMap_map] using h
  have hPc := hP.sub (ws' := wc) isC hfm
  have hDc := hD.sub (ws' := wc) isC hnC hC
  have hFc := va_free (wc := wc) hD hS hA isC hC
  have hw : ∀ w, w ∈ ([.methodLink own idx y, .static y, .initialized y.cls, .code y cc' n' (some ret')] : List Cond) → w.before args s = true := fun w h => hts w (CA.1 w (List.mem_append_left _ h))
  refine va_calli (va_runS (As := As) (rest := rest) ⟨hx, hb, hml, hown, hts⟩ (M H.size) ⟨callB_of na hts (pz_good (pz_CSin CA.1)) rfl hc0 hs0 (hw _ (by simp)) (hw _ (by simp)) ⟨CA.2.1.1, CA.2.1.2, CA.2.2⟩ hR, hw _ (by simp)⟩ ⟨fun a U g mk q => ?_, fun U hU hW => ⟨rfl, by rw [hU], by rw [hU]; exact hPc, hK.warm hW, hDc.weaken (fun _ _ _ _ => trivial)⟩⟩ rfl hna hl.1 rfl (lv_room hst) hdg ⟨hcl, hsl⟩) hS (fun q _ h => hFc q h) hFc (fun r2 u t H1 locs1 ht hvm hw hBt hz1 hk1 hS1 => ?_)
  · obtain ⟨q0, q1, qP, qK, qD⟩ := q
    exact ⟨q0, q1, qP, qK.calling, qD⟩
  obtain ⟨hP1, hD1⟩ := hBt
  rw [ht] at hP1
  have hP3 := pz_keepP hP hD isC hC hk1 hP1
  have hw : r2 = r := hw
  subst hw
  exact kk H1 locs1 hP3 hS1
theorem pz_callIX {y : MethodName} {cc' : ByteArray} {n' idx na b ci : Nat} {ret' : FieldType} {rm' : Room} {As : List Value} {r : Int32} {T : u_T} {N : Nat} {fs : List Value} (CA : pz_C own idx y cc' n' (some ret') na) {X : State → Prop} (hXb : ∀ (U : State) (g : JFrame) (mk : MethodId) (a : Array Value), X U → X (U.calling g mk a)) (hX : ∀ U : State, U.heap = H → s.WarmedH U.vm → X U) (M : pz_MIX X l y cc' n' ret' rm' (.ref b :: As) D cyI wc r wc') (hB : pz_B p s m args meth c cc n ret own) (hK : pz_KK D cyI s) (hP : va_P D vwCl ws H) (hD : va_D A ws) (hS : va_S A s.heap H locs) (hA : ∀ q : Nat, s.heap.size ≤ q → A q) {lv : List (Nat × Value)} (hl : lv_has ls n lv) (hna : As.length = na)
    (hc0 : rm'.cells = 0) (hs0 : rm'.slots = 0) (hR : rm'.frames + 1 ≤ R.frames ∧ 8 + (n' + 11) + rm'.locals ≤ R.locals) (hrc : wc[0]? = some (b, .inr (ci, fs))) (hci : vwCl[ci]? = some (y.cls, T, N)) (isC isR perm : List Nat) (hC : isC.map (fun i => ws[i]?) = wc.map some) (hRr : isR.map (fun i => ws[i]?) = wr.map some) (hn : va_nd isR = true) (hdis : ∀ i ∈ isR, i ∉ isC) (hnC : va_nd isC = true) (hnp : va_nd perm = true) (hperm : perm.map (fun i => (wr ++ wc')[i]?) = ws2.map some)
    (hst : (rest.map fun v => v.category).sum ≤ 8) (hdg : decode cc pc = .ok (.invokevirtual idx, 3)) (hcl : cells ≤ R.cells) (hsl : slots ≤ R.slots) {st0 : List Value} (hst0 : st0 = As.reverse ++ .ref b :: rest)
    (kk : ∀ (H1 : Heap) (locs1 : List Loc), va_P D vwCl ws2 H1 → va_D A ws2 → va_S A s.heap H1 locs1 → W p l e R s m args below meth c H1 locs1 cells slots Q (F0 m (pc + 3) ls (.int r :: rest))) : W p l e R s m args below meth c H locs cells slots Q (F0 m pc ls st0) := by
  subst hst0
  obtain ⟨hx, hb, hret, hml, hown, hts, hlk⟩ := hB
  have hfm : isC.filterMap (fun i => ws[i]?) = wc := by
    have h := congrArg (List.filterMap id) hC
    simpa [List.filterMap_map] using h
  have hPc := hP.sub (ws' := wc) isC hfm
  have hDc := hD.sub (ws' := wc) isC hnC hC
  have hFc := va_free (wc := wc) hD hS hA isC hC
  refine va_calli (va_runV (As := As) (rest := rest) ⟨hx, hb, hml, hown, hts⟩ (M H.size) (cwV na hts (pz_good CA.1) rfl hc0 hs0 ⟨rfl, CA.2.1.1, CA.2.1.2, CA.2.2⟩ hR) ⟨fun a U g mk q => ?_, va_recv hK.1 hPc hci hrc, fun U hU hW => ⟨rfl, by rw [hU], by rw [hU]; exact hPc, hK.warm hW, ⟨hDc.weaken (fun _ _ _ _ => trivial), hX U hU hW⟩⟩⟩ rfl hna hl.1 rfl (lv_room hst) hdg ⟨hcl, hsl⟩) hS (fun q _ h => hFc q h) hFc (fun r2 u t H1 locs1 ht hvm hw hBt hz1 hk1 hS1 => ?_)
  · obtain ⟨q0, q1, qP, qK, qD⟩ := q
    exact ⟨q0, q1, qP, qK.calling, qD.1, hXb _ _ _ _ qD.2⟩
  obtain ⟨hP1, hD1⟩ := hBt
  rw [ht] at hP1
  obtain ⟨hP2, hD2⟩ := va_join (wr := wr) (w1 := wc') hP hD isC isR hC hRr hn hdis hk1 hFc hP1 hD1
  obtain ⟨hP3, hD3⟩ := pz_wsub hP2 hD2 perm hnp hperm
  have hw : r2 = r := hw
  subst hw
  exact kk H1 locs1 hP3 hD3 hS1
theorem pz_callSIrX {y : MethodName} {cc' : ByteArray} {n' idx na : Nat} {ret' : FieldType} {rm' : Room} {As : List Value} {r : Int32} (CA : pz_CS own idx y cc' n' (some ret') na) {X : State → Prop} (hXb : ∀ (U : State) (g : JFrame) (mk : MethodId) (a : Array Value), X U → X (U.calling g mk a)) (hX : ∀ U : State, U.heap = H → s.WarmedH U.vm → X U) (M : pz_MIX X l y cc' n' ret' rm' As D cyI wc r wc) (hB : pz_B p s m args meth c cc n ret own) (hK : pz_KK D cyI s) (hP : va_P D vwCl ws H) (hD : va_D A ws) (hS : va_S A s.heap H locs) (hA : ∀ q : Nat, s.heap.size ≤ q → A q) {lv : List (Nat × Value)} (hl : lv_has ls n lv) (hna : As.length = na)
    (hc0 : rm'.cells = 0) (hs0 : rm'.slots = 0) (hR : rm'.frames + 1 ≤ R.frames ∧ 8 + (n' + 11) + rm'.locals ≤ R.locals) (isC : List Nat) (hC : isC.map (fun i => ws[i]?) = wc.map some) (hnC : va_nd isC = true)
    (hst : (rest.map fun v => v.category).sum ≤ 8) (hdg : decode cc pc = .ok (.invokestatic idx, 3)) (hcl : cells ≤ R.cells) (hsl : slots ≤ R.slots) {st0 : List Value} (hst0 : st0 = As.reverse ++ rest)
    (kk : ∀ (H1 : Heap) (locs1 : List Loc), va_P D vwCl ws H1 → va_S A s.heap H1 locs1 → W p l e R s m args below meth c H1 locs1 cells slots Q (F0 m (pc + 3) ls (.int r :: rest))) : W p l e R s m args below meth c H locs cells slots Q (F0 m pc ls st0) := by
  subst hst0
  obtain ⟨hx, hb, hret, hml, hown, hts, hlk⟩ := hB
  have hfm : isC.filterMap (fun i => ws[i]?) = wc := by
    have h := congrArg (List.filterMap id) hC
    simpa [List.filterMap_map] using h
  have hPc := hP.sub (ws' := wc) isC hfm
  have hDc := hD.sub (ws' := wc) isC hnC hC
  have hFc := va_free (wc := wc) hD hS hA isC hC
  have hw : ∀ w, w ∈ ([.methodLink own idx y, .static y, .initialized y.cls, .code y cc' n' (some ret')] : List Cond) → w.before args s = true := fun w h => hts w (CA.1 w (List.mem_append_left _ h))
  refine va_calli (va_runS (As := As) (rest := rest) ⟨hx, hb, hml, hown, hts⟩ (M H.size) ⟨callB_of na hts (pz_good (pz_CSin CA.1)) rfl hc0 hs0 (hw _ (by simp)) (hw _ (by simp)) ⟨CA.2.1.1, CA.2.1.2, CA.2.2⟩ hR, hw _ (by simp)⟩ ⟨fun a U g mk q => ?_, fun U hU hW => ⟨rfl, by rw [hU], by rw [hU]; exact hPc, hK.warm hW, ⟨hDc.weaken (fun _ _ _ _ => trivial), hX U hU hW⟩⟩⟩ rfl hna hl.1 rfl (lv_room hst) hdg ⟨hcl, hsl⟩) hS (fun q _ h => hFc q h) hFc (fun r2 u t H1 locs1 ht hvm hw hBt hz1 hk1 hS1 => ?_)
  · obtain ⟨q0, q1, qP, qK, qD⟩ := q
    exact ⟨q0, q1, qP, qK.calling, qD.1, hXb _ _ _ _ qD.2⟩
  obtain ⟨hP1, hD1⟩ := hBt
  rw [ht] at hP1
  have hP3 := pz_keepP hP hD isC hC hk1 hP1
  have hw : r2 = r := hw
  subst hw
  exact kk H1 locs1 hP3 hS1
end PZ2

theorem pz_elimL {σ τ β : Type} {f : σ → Option β} {g : τ → Option β} {t : σ ⊕ τ} {u : σ} {x : Option β} (e : t = .inl u) (h : Sum.elim f g t = x) : f u = x := by subst e; exact h
theorem pz_elimR {σ σ' τ β : Type} {f : σ → Option (σ' ⊕ τ)} {g : σ' → Option β} {k : τ → Option β} {r : τ} {u : σ' ⊕ τ} {x : Option β} (e : Sum.elim f some (Sum.inr (Sum.inr r)) = some u) (h : Sum.elim g k u = x) : k r = x := by
  have e : Sum.inr r = u := Option.some.inj e
  subst e; exact h
theorem pz_exitI {σ σ' τ : Type} {f : σ → Option (σ' ⊕ τ)} {r : σ'} {u : σ' ⊕ τ} (e : Sum.elim f some (Sum.inr (Sum.inl r)) = some u) : u = Sum.inl r := (Option.some.inj e).symm
theorem pz_exit {σ τ : Type} {f : σ → Option τ} {r u : τ} (e : Sum.elim f some (Sum.inr r) = some u) : r = u := Option.some.inj e
