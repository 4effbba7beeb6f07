/-! CONSTRUCTORS -/
def pz_MN (l : Launch) (y : MethodName) (cc : ByteArray) (n : Nat) (rm : Room) (as : List Value) (D : va_G) (cyI : ClassId) (ws : va_W) (mc ms : Nat) (B : va_W → Prop) : Prop :=
  ∀ sz : Nat, Met l y (.code y cc n none :: pz_L) rm (va_Pc as (pz_Pc D cyI ws sz)) (va_Qv B (fun ws' t => va_P D vwCl ws' t.heap ∧ va_D (va_A ws sz) ws') (va_A ws sz)) mc ms (va_A ws sz)
def pz_QN (below : List Frame) (args : Array Value) (s : State) (D : va_G) (A : Nat → Prop) (mc ms : Nat) (B : va_W → Prop) : State → Prop := MQ below (va_Qv B (fun ws' t => va_P D vwCl ws' t.heap ∧ va_D A ws') A) args s mc ms A
theorem pz_ofN {l : Launch} {y : MethodName} {cc : ByteArray} {n : Nat} {rm : Room} {as : List Value} {D : va_G} {cyI : ClassId} {ws : va_W} {mc ms : Nat} {B : va_W → Prop} (hy : plainName y.cls = true) (hyn : y.name = "<init>") (hn : (lg_sl as).length ≤ n)
    (body : ∀ (p : Program) (e : Env) (s : State) (m : MethodId) (args : Array Value) (below : List Frame) (meth : Method) (c : Code) (A : Nat → Prop) (ls : Array Slot), pz_B p s m args meth c cc n none y.cls → va_P D vwCl ws s.heap → pz_KK D cyI s → va_D A ws → va_S A s.heap s.heap [] → (∀ q : Nat, s.heap.size ≤ q → A q) → meth.name = "<init>" → lv_has ls n (lv_args 0 as) → W p l e rm s m args below meth c s.heap [] 0 0 (pz_QN below args s D A mc ms B) (F0 m 0 ls [])) : pz_MN l y cc n rm as D cyI ws mc ms B := by
  intro sz
  refine Met.ofW (cc := cc) (maxL := n) (ret := none) hy rfl ?_
  intro p e s m args below meth c s₁ BB hml hv
  obtain ⟨rfl, hsz, hP, hK, hD0⟩ := hv
  subst hsz
  have hts := atoms_spec (ws := .code y cc n none :: pz_L) BB.pre
  have hown : s.vm.findClass y.cls = some m.cls := findClass_of_methodNamed BB.named
  have hl := lv_entry as (n := n) hn
  rw [lg_entry_eq]
  exact body p e s m as.toArray below meth c (va_A ws s.heap.size) _ ⟨BB.exec, BB.bytes, BB.returns, hml, hown, fun w hw => hts w (List.mem_cons_of_mem _ hw), BB.notSynchronized⟩ hP hK (hD0.self (sz := s.heap.size)) va_S.rf (fun q h => Or.inr h) ((name_of_methodNamed BB.named BB.method).1.trans hyn) hl
theorem pz_vin {i : Int32} {n : Nat} (h : ¬ (i < 0 ∨ n ≤ i.toNatClampNeg)) : vp_in i n := h
section PZ3
variable {p : Program} {l : Launch} {e : Env} {R : Room} {s : State} {m : MethodId} {args : Array Value} {below : List Frame} {meth : Method} {c : Code} {H : Heap} {locs : List Loc} {cells slots : Nat} {Q : State → Prop}
variable {cc : ByteArray} {pc n : Nat} {ret : Option FieldType} {own : String} {ls : Array Slot} {rest : List Value} {D : va_G} {cyI : ClassId} {A : Nat → Prop} {a : Nat} {ws wc wr : va_W} {B : va_W → Prop}
theorem pz_vretN {ws' : va_W} (hB : pz_B p s m args meth c cc n none own) (hP : va_P D vwCl ws' H) (hD : va_D A ws') (hS : va_S A s.heap H locs) (hdg : decode cc pc = .ok (.return_, 1)) (hb : B ws') : W p l e R s m args below meth c H locs cells slots (pz_QN below args s D A cells slots B) (F0 m pc ls []) :=
  W.vret hB.1 hB.2.1 hB.2.2.1 (fun t ht _ => ⟨⟨ws', rfl, hb, by rw [ht]; exact hP, hD⟩, hS.F ht⟩) hS.2.2 hdg hB.2.2.2.2.2.2
theorem pz_newa (hB : pz_B p s m args meth c cc n ret own) (hK : pz_KK D cyI s) (hP : va_P D vwCl ws H) (hD : va_D A ws) (hS : va_S A s.heap H locs) (hA : ∀ q : Nat, s.heap.size ≤ q → A q) (harr : Cond.arrayClass .int ∈ pz_L) {x : Int32} {N : Nat} (hn : ¬ x < 0) (hN : x.toNatClampNeg = N) (hbytes : N * 4 ≤ 536870912) (hcells : cells + 1 ≤ R.cells) (hslots : slots + N ≤ R.slots) (hdg : decode cc pc = .ok (.newarray .int, 2))
    (kk : ∀ (q : Nat) (H1 : Heap), va_P D vwCl (ws ++ [(q, .inl (cyI, N, .inl (fun _ => 0)))]) H1 → va_D A (ws ++ [(q, .inl (cyI, N, .inl (fun _ => 0)))]) → va_S A s.heap H1 locs → W p l e R s m args below meth c H1 locs (cells + 1) (slots + N) Q (F0 m (pc + 2) ls (.ref q :: rest))) : W p l e R s m args below meth c H locs cells slots Q (F0 m pc ls (.int x :: rest)) := by
  refine va_newa (atype := .int) (ty := .int) (a0 := (N, .inl (fun _ => 0))) (N' := N) hB.1 hB.2.1 (hB.2.2.2.2.2.1 _ harr) rfl hK.1 hP hD hS hA (fun cA => rfl) hn hN hbytes hcells hslots hdg (fun q cA H1 hK2 hP1 hD1 hS1 => ?_)
  have h1 : s.vm.findClass ("[" ++ (FieldType.int).toString) = some cA := (hK2.2 1 _ rfl).2
  have h2 : s.vm.findClass ("[" ++ (FieldType.int).toString) = some cyI := (hK.1.2 0 _ rfl).2
  obtain rfl : cA = cyI := Option.some.inj (h1.symm.trans h2)
  exact kk q H1 hP1 hD1 hS1
theorem pz_newo {idx ci : Nat} {C : String} {T : u_T} {N : Nat} {ty : Nat → FieldType} {fs : List Value} (hB : pz_B p s m args meth c cc n ret own) (hK : pz_KK D cyI s) (hP : va_P D vwCl ws H) (hD : va_D A ws) (hS : va_S A s.heap H locs) (hA : ∀ q : Nat, s.heap.size ≤ q → A q) (hin : ∀ w ∈ u_ws C T N, w ∈ pz_L) (hty : ∀ k, k < N → parseFieldDescriptor (T k).2.2.1 = some (ty k)) (h1 : Cond.classLink own idx C ∈ pz_L) (h2 : Cond.instantiable C N ∈ pz_L) (h3 : Cond.initialized C ∈ pz_L) (hc : vwCl[ci]? = some (C, T, N)) (hfs : ∀ j, j < N → defaultValue (ty j) = vp_V fs j) (hcells : cells + 1 ≤ R.cells) (hslots : slots + N ≤ R.slots) (hdg : decode cc pc = .ok (.new idx, 3))
    (kk : ∀ (q : Nat) (H1 : Heap), va_P D vwCl (ws ++ [(q, .inr (ci, fs))]) H1 → va_D A (ws ++ [(q, .inr (ci, fs))]) → va_S A s.heap H1 locs → W p l e R s m args below meth c H1 locs (cells + 1) (slots + N) Q (F0 m (pc + 3) ls (.ref q :: rest))) : W p l e R s m args below meth c H locs cells slots Q (F0 m pc ls rest) :=
  va_new hB.1 hB.2.1 hB.2.2.2.2.2.1 hin ty hty hB.2.2.2.2.1 (hB.2.2.2.2.2.1 _ h1) (hB.2.2.2.2.2.1 _ h2) (hB.2.2.2.2.2.1 _ h3) hK.1 hP hD hS hA hc hfs hcells hslots hdg kk
theorem pz_putF {idx ci k : Nat} {ty : FieldType} (FF : pz_F own idx ci k) (FT : pz_T ci k true ty) (hcl : (vwCl[ci]?).map (fun q => q.1) = some own) (hi : meth.name = "<init>") (hB : pz_B p s m args meth c cc n ret own) (hK : pz_KK D cyI s) (hP : va_P D vwCl ws H) (hD : va_D A ws) (hS : va_S A s.heap H locs) (q0 : Nat) {fs : List Value} (he : ws[q0]? = some (a, .inr (ci, fs))) {v : Value} (hn : narrow ty v = v) (hfit : fits ty v = true) (hl : k < fs.length) (hdg : decode cc pc = .ok (.putfield idx, 3)) (ws' : va_W) (hset : ws.set q0 (a, .inr (ci, fs.set k v)) = ws')
    (kk : ∀ (H1 : Heap) (locs1 : List Loc), va_P D vwCl ws' H1 → va_D A ws' → va_S A s.heap H1 locs1 → W p l e R s m args below meth c H1 locs1 cells slots Q (F0 m (pc + 3) ls rest)) : W p l e R s m args below meth c H locs cells slots Q (F0 m pc ls (v :: .ref a :: rest)) := by
  obtain ⟨C, T, N, hc, hin, hk, hlink⟩ := FF
  obtain ⟨C2, T2, N2, ty0, hc2, hty, hnm, hfin, hpd, hC⟩ := FT
  obtain ⟨rfl, rfl, rfl⟩ : C = C2 ∧ T = T2 ∧ N = N2 := by
    have h := hc.symm.trans hc2
    simp only [Option.some.injEq, Prod.mk.injEq] at h
    exact h
  have hown2 : C = own := by rw [hc] at hcl; exact Option.some.inj hcl
  obtain ⟨hx, hb, -, -, hown, hts, -⟩ := hB
  subst hset
  exact va_putF hx hb hts hin ty0 hty hnm hown hK.1 hP hD hS q0 he hc k hk (hts _ hlink) (fun _ h => h) hfin hi (hC.trans hown2) hpd hn hfit hl hdg kk
theorem pz_obj {idx : Nat} (hB : pz_B p s m args meth c cc n ret own) {lv : List (Nat × Value)} (hl : lv_has ls n lv) (h1 : Cond.methodLink own idx Lib.objectInit ∈ pz_L) (h2 : Cond.instanceMethod Lib.objectInit ∈ pz_L) (h3 : Cond.code Lib.objectInit ⟨#[0xb1]⟩ 1 none ∈ pz_L) (hR : 1 ≤ R.frames ∧ 12 ≤ R.locals) (hdg : decode cc pc = .ok (.invokespecial idx, 3))
    (kk : W p l e R s m args below meth c H locs cells slots Q (F0 m (pc + 3) ls [])) : W p l e R s m args below meth c H locs cells slots Q (F0 m pc ls [.ref a]) := by
  refine W.objInit hB.1 hB.2.1 hB.2.2.2.2.1 (hB.2.2.2.2.2.1 _ h1) (hB.2.2.2.2.2.1 _ h2) (hB.2.2.2.2.2.1 _ h3) rfl (by rw [hB.2.2.2.1]; exact hl.1) rfl hdg hR.1 ?_ ?_
  · show 2 * 0 + 0 + 12 ≤ _
    omega
  · exact W.eq (g2 := F0 m (pc + 3) ls []) rfl kk
/-- a constructor's call: the callee's cells wc (places isC of ws) become some ws' with B ws', all others stay ahead of them -/
theorem pz_callN {y : MethodName} {cc' : ByteArray} {n' idx na b mc ms : Nat} {rm' : Room} {As : List Value} (h1 : Cond.methodLink own idx y ∈ pz_L) (h2 : Cond.instanceMethod y ∈ pz_L) (h3 : Cond.initialized y.cls ∈ pz_L) (h4 : Cond.code y cc' n' none ∈ pz_L) (hyn : y.name = "<init>") (hy : y.cls ≠ "java/lang/invoke/MethodHandle" ∧ y.cls ≠ "java/lang/invoke/VarHandle") (hna2 : (parseMethodDescriptor y.desc).map (fun d => d.parameters.length) = some na) (M : pz_MN l y cc' n' rm' (.ref b :: As) D cyI wc mc ms B) (hB : pz_B p s m args meth c cc n ret own) (hK : pz_KK D cyI s) (hP : va_P D vwCl ws H) (hD : va_D A ws) (hS : va_S A s.heap H locs) (hA : ∀ q : Nat, s.heap.size ≤ q → A q) {lv : List (Nat × Value)} (hl : lv_has ls n lv) (hna : As.length = na)
    (hc0 : rm'.cells = mc) (hs0 : rm'.slots = ms) (hR : rm'.frames + 1 ≤ R.frames ∧ 8 + (n' + 11) + rm'.locals ≤ R.locals) (isC isR : List Nat) (hC : isC.map (fun i => ws[i]?) = wc.map some) (hRr : isR.map (fun i => ws[i]?) = wr.map some) (hn : va_nd isR = true) (hdis : ∀ i ∈ isR, i ∉ isC) (hnC : va_nd isC = true)
    (hst : (rest.map fun v => v.category).sum ≤ 8) (hdg : decode cc pc = .ok (.invokespecial idx, 3)) (hcl : cells + mc ≤ R.cells) (hsl : slots + ms ≤ R.slots) {st0 : List Value} (hst0 : st0 = As.reverse ++ .ref b :: rest)
    (kk : ∀ (H1 : Heap) (locs1 : List Loc) (ws' : va_W), B ws' → va_P D vwCl (wr ++ ws') H1 → va_D A (wr ++ ws') → va_S A s.heap H1 locs1 → W p l e R s m args below meth c H1 locs1 (cells + mc) (slots + ms) Q (F0 m (pc + 3) ls rest)) : W p l e R s m args below meth c H locs cells slots Q (F0 m pc ls st0) := by
  subst hst0
  obtain ⟨hx, hb, hret, hml, hown, hts, hlk⟩ := hB
  have hfm : isC.filterMap (fun i => ws[i]?) = wc := by
    have h := congrArg (List.filterMap id) hC
    simpa [List.filterMap_map] using h
  have hPc := hP.sub (ws' := wc) isC hfm
  have hDc := hD.sub (ws' := wc) isC hnC hC
  have hFc := va_free (wc := wc) hD hS hA isC hC
  have hg : GoodIn pz_L (.code y cc' n' none :: pz_L) := pz_good (fun w hw => (List.mem_cons.mp hw).elim (fun e => by rw [e]; exact h4) id)
  refine va_callv (va_runI (As := As) (rest := rest) ⟨hx, hb, hml, hown, hts⟩ (M H.size) (cwI na hts hg rfl hc0 hs0 (hts _ h3) (hts _ h1) (hts _ h2) hyn ⟨hy.1, hy.2, hna2⟩ hR) ⟨fun a U g mk q => ?_, fun U hU hW => ⟨rfl, by rw [hU], by rw [hU]; exact hPc, hK.warm hW, hDc.weaken (fun _ _ _ _ => trivial)⟩⟩ rfl hna hl.1 rfl (lv_room hst) hdg ⟨hcl, hsl⟩) hS (fun q _ h => hFc q h) hFc (fun u t H1 locs1 ht hvm hw hBt hz1 hk1 hS1 => ?_)
  · obtain ⟨q0, q1, qP, qK, qD⟩ := q
    exact ⟨q0, q1, qP, qK.calling, qD⟩
  obtain ⟨hP1, hD1⟩ := hBt
  rw [ht] at hP1
  obtain ⟨hP2, hD2⟩ := va_join (wr := wr) (w1 := u) hP hD isC isR hC hRr hn hdis hk1 hFc hP1 hD1
  exact kk H1 locs1 u hw hP2 hD2 hS1
/-- the same of a private constructor of a nest mate -/
theorem pz_callNN {y : MethodName} {cc' : ByteArray} {n' idx na b mc ms : Nat} {host : String} {rm' : Room} {As : List Value} (h1 : Cond.methodLinkNest own idx y host ∈ pz_nest) (h2 : Cond.instanceMethod y ∈ pz_L) (h3 : Cond.initialized y.cls ∈ pz_L) (h4 : Cond.code y cc' n' none ∈ pz_L) (hyn : y.name = "<init>") (hy : y.cls ≠ "java/lang/invoke/MethodHandle" ∧ y.cls ≠ "java/lang/invoke/VarHandle") (hna2 : (parseMethodDescriptor y.desc).map (fun d => d.parameters.length) = some na) (M : pz_MN l y cc' n' rm' (.ref b :: As) D cyI wc mc ms B) (hB : pz_B p s m args meth c cc n ret own) (hK : pz_KK D cyI s) (hP : va_P D vwCl ws H) (hD : va_D A ws) (hS : va_S A s.heap H locs) (hA : ∀ q : Nat, s.heap.size ≤ q → A q) {lv : List (Nat × Value)} (hl : lv_has ls n lv) (hna : As.length = na)
    (hc0 : rm'.cells = mc) (hs0 : rm'.slots = ms) (hR : rm'.frames + 1 ≤ R.frames ∧ 8 + (n' + 11) + rm'.locals ≤ R.locals) (isC isR : List Nat) (hC : isC.map (fun i => ws[i]?) = wc.map some) (hRr : isR.map (fun i => ws[i]?) = wr.map some) (hn : va_nd isR = true) (hdis : ∀ i ∈ isR, i ∉ isC) (hnC : va_nd isC = true)
    (hst : (rest.map fun v => v.category).sum ≤ 8) (hdg : decode cc pc = .ok (.invokespecial idx, 3)) (hcl : cells + mc ≤ R.cells) (hsl : slots + ms ≤ R.slots) {st0 : List Value} (hst0 : st0 = As.reverse ++ .ref b :: rest)
    (kk : ∀ (H1 : Heap) (locs1 : List Loc) (ws' : va_W), B ws' → va_P D vwCl (wr ++ ws') H1 → va_D A (wr ++ ws') → va_S A s.heap H1 locs1 → W p l e R s m args below meth c H1 locs1 (cells + mc) (slots + ms) Q (F0 m (pc + 3) ls rest)) : W p l e R s m args below meth c H locs cells slots Q (F0 m pc ls st0) := by
  subst hst0
  obtain ⟨hx, hb, hret, hml, hown, hts, hlk⟩ := hB
  have hfm : isC.filterMap (fun i => ws[i]?) = wc := by
    have h := congrArg (List.filterMap id) hC
    simpa [List.filterMap_map] using h
  have hPc := hP.sub (ws' := wc) isC hfm
  have hDc := hD.sub (ws' := wc) isC hnC hC
  have hFc := va_free (wc := wc) hD hS hA isC hC
  have hg : GoodIn pz_L (.code y cc' n' none :: pz_L) := pz_good (fun w hw => (List.mem_cons.mp hw).elim (fun e => by rw [e]; exact h4) id)
  refine va_callv (va_runIN (As := As) (rest := rest) ⟨hx, hb, hml, hown, hts⟩ (M H.size) ⟨va_cnB na hts hg rfl hc0 hs0 (hK.2 _ h1) (hts _ h3) ⟨hy.1, hy.2, hna2⟩ hR, hyn, hts _ h2⟩ ⟨fun a U g mk q => ?_, fun U hU hW => ⟨rfl, by rw [hU], by rw [hU]; exact hPc, hK.warm hW, hDc.weaken (fun _ _ _ _ => trivial)⟩⟩ rfl hna hl.1 rfl (lv_room hst) hdg ⟨hcl, hsl⟩) hS (fun q _ h => hFc q h) hFc (fun u t H1 locs1 ht hvm hw hBt hz1 hk1 hS1 => ?_)
  · obtain ⟨q0, q1, qP, qK, qD⟩ := q
    exact ⟨q0, q1, qP, qK.calling, qD⟩
  obtain ⟨hP1, hD1⟩ := hBt
  rw [ht] at hP1
  obtain ⟨hP2, hD2⟩ := va_join (wr := wr) (w1 := u) hP hD isC isR hC hRr hn hdis hk1 hFc hP1 hD1
  exact kk H1 locs1 u hw hP2 hD2 hS1
end PZ3
