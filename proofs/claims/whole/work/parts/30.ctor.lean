def zNW (U : State) : Prop := va_AO "DownhillPost$Sheet" U ∧ va_Nw (.methodLinkNest RX6 9 yX0_init RX6) U ∧ va_Nw (.methodLinkNest RX6 24 yX5_init RX6) U ∧ va_Nw (.methodLinkNest RX6 31 yX4_init RX6) U ∧ va_Nw (.methodLinkNest RX6 46 yX3_init RX6) U
theorem zNW.warm {s U : State} (hW : s.WarmedH U.vm) (h : zNW s) : zNW U := ⟨h.1.moved hW.alike, h.2.1.warmM hW, h.2.2.1.warmM hW, h.2.2.2.1.warmM hW, h.2.2.2.2.warmM hW⟩
theorem zNW.same {u U : State} (hv : U.vm = u.vm) (h : zNW u) : zNW U := ⟨h.1.moved (by rw [hv]; exact Vm.Alike.refl _), h.2.1.same rfl hv.symm, h.2.2.1.same rfl hv.symm, h.2.2.2.1.same rfl hv.symm, h.2.2.2.2.same rfl hv.symm⟩
abbrev zNB : Type := String × ByteArray × Nat × Room × Nat × Nat
def zNx (N : zNB) (D : va_G) (c3 : zC3) (A : Nat → Prop) (p : Program) (s : State) (m : MethodId) (args : Array Value) (meth : Method) (c : Code) : Prop :=
  p.tables.exec = Jvm.exec ∧ c.code = N.2.1 ∧ c.maxLocals = N.2.2.1 ∧ meth.sig.returnType = none ∧ meth.locks = false ∧ s.vm.findClass N.1 = some m.cls ∧ (∀ w ∈ zT, w.before args s = true) ∧ va_K D vwCl (ztys c3) s ∧ zNW s ∧ meth.name = "<init>" ∧ (∀ q, s.heap.size ≤ q → A q)
def znQ (D : va_G) (A : Nat → Prop) (Qf : va_W → Prop) : Array Value → State → Outcome → State → Prop := fun _ st o t => (o = .returned none ∧ ∃ ws, Qf ws ∧ va_P D vwCl ws t.heap ∧ va_D A ws) ∧ va_F A st t
def zNP (N : zNB) (D : va_G) (c3 : zC3) (A : Nat → Prop) (Qf : va_W → Prop) (pc : Nat) (ls : List (Option Value)) (st : List Value) (ws : va_W) (k n : Nat) : Prop :=
  ∀ (p : Program) (l : Launch) (e : Env) (s : State) (m : MethodId) (args : Array Value) (below : List Frame) (meth : Method) (c : Code) (H : Heap) (locs : List Loc) (la : Array Slot),
    zNx N D c3 A p s m args meth c → va_P D vwCl ws H → va_D A ws → va_S A s.heap H locs → zL (fun a => a) N.2.2.1 la ls →
    W p l e N.2.2.2.1 s m args below meth c H locs k n (MQ below (znQ D A Qf) args s N.2.2.2.2.1 N.2.2.2.2.2 A) (F0 m pc la (st.map (ztr fun a => a)))
def zNew (y : MethodName) (cc : ByteArray) (nL : Nat) (RM : Room) (ci : Nat) (fs : List Value) (mc ms : Nat) (Qf : zC3 → Nat → va_W → Prop) : Prop :=
  ∀ (l : Launch) (D : va_G) (c3 : zC3) (h0 sz : Nat), Met l y (.code y cc nL none :: zT) RM (va_Pc [.ref h0] (fun U => U.heap.size = sz ∧ va_P D vwCl [(h0, .inr (ci, fs))] U.heap ∧ va_K D vwCl (ztys c3) U ∧ zNW U)) (znQ D (va_A [(h0, .inr (ci, fs))] sz) (Qf c3 h0)) mc ms (va_A [(h0, .inr (ci, fs))] sz)
theorem zw_ai : Cond.arrayClass .int ∈ zT := zT_of (List.mem_of_getElem? (i := 97) (by decide +kernel)) rfl
theorem zw_al : Cond.arrayClass .long ∈ zT := zT_of (List.mem_of_getElem? (i := 183) (by decide +kernel)) rfl
theorem zw_oi : Cond.instanceMethod objectInit ∈ zT := zT_of (List.mem_of_getElem? (i := 22) (by decide +kernel)) rfl
theorem zw_oc : Cond.code objectInit ⟨#[0xb1]⟩ 1 none ∈ zT := zT_of (List.mem_of_getElem? (i := 23) (by decide +kernel)) rfl
theorem kL_7c : Cond.classLink RL 7 RX6 ∈ zT := zT_of (List.mem_of_getElem? (i := 16) (by decide +kernel)) rfl
theorem zw_newX6 : Cond.instantiable RX6 8 ∈ zT := zT_of (List.mem_of_getElem? (i := 17) (by decide +kernel)) rfl
theorem kX6_1 : Cond.methodLink RX6 1 objectInit ∈ zT := zT_of (List.mem_of_getElem? (i := 21) (by decide +kernel)) rfl
theorem kX6_7c : Cond.classLink RX6 7 RX0 ∈ zT := zT_of (List.mem_of_getElem? (i := 24) (by decide +kernel)) rfl
theorem zw_newX0 : Cond.instantiable RX0 15 ∈ zT := zT_of (List.mem_of_getElem? (i := 25) (by decide +kernel)) rfl
theorem kX0_3 : Cond.methodLink RX0 3 objectInit ∈ zT := zT_of (List.mem_of_getElem? (i := 29) (by decide +kernel)) rfl
theorem kX6_22c : Cond.classLink RX6 22 RX5 ∈ zT := zT_of (List.mem_of_getElem? (i := 98) (by decide +kernel)) rfl
theorem zw_newX5 : Cond.instantiable RX5 9 ∈ zT := zT_of (List.mem_of_getElem? (i := 99) (by decide +kernel)) rfl
theorem kX5_3 : Cond.methodLink RX5 3 objectInit ∈ zT := zT_of (List.mem_of_getElem? (i := 103) (by decide +kernel)) rfl
theorem kX6_29c : Cond.classLink RX6 29 RX4 ∈ zT := zT_of (List.mem_of_getElem? (i := 135) (by decide +kernel)) rfl
theorem zw_newX4 : Cond.instantiable RX4 6 ∈ zT := zT_of (List.mem_of_getElem? (i := 136) (by decide +kernel)) rfl
theorem kX4_3 : Cond.methodLink RX4 3 objectInit ∈ zT := zT_of (List.mem_of_getElem? (i := 140) (by decide +kernel)) rfl
theorem kX6_36c : Cond.classLink RX6 36 RX3 ∈ zT := zT_of (List.mem_of_getElem? (i := 163) (by decide +kernel)) rfl
theorem zw_newX3 : Cond.instantiable RX3 3 ∈ zT := zT_of (List.mem_of_getElem? (i := 165) (by decide +kernel)) rfl
theorem kX3_3 : Cond.methodLink RX3 3 objectInit ∈ zT := zT_of (List.mem_of_getElem? (i := 169) (by decide +kernel)) rfl
theorem kL_10c : Cond.classLink RL 10 RX7 ∈ zT := zT_of (List.mem_of_getElem? (i := 881) (by decide +kernel)) rfl
theorem zw_newX7 : Cond.instantiable RX7 21 ∈ zT := zT_of (List.mem_of_getElem? (i := 882) (by decide +kernel)) rfl
theorem kX7_1 : Cond.methodLink RX7 1 objectInit ∈ zT := zT_of (List.mem_of_getElem? (i := 886) (by decide +kernel)) rfl
theorem zw_iniX0 : Cond.initialized RX0 ∈ zT := zT_of (List.mem_of_getElem? (i := 2) (by decide +kernel)) rfl
theorem zw_iniX3 : Cond.initialized RX3 ∈ zT := zT_of (List.mem_of_getElem? (i := 5) (by decide +kernel)) rfl
theorem zw_iniX4 : Cond.initialized RX4 ∈ zT := zT_of (List.mem_of_getElem? (i := 4) (by decide +kernel)) rfl
theorem zw_iniX5 : Cond.initialized RX5 ∈ zT := zT_of (List.mem_of_getElem? (i := 3) (by decide +kernel)) rfl
theorem zw_iniX6 : Cond.initialized RX6 ∈ zT := zT_of (List.mem_of_getElem? (i := 1) (by decide +kernel)) rfl
theorem zw_iniX7 : Cond.initialized RX7 ∈ zT := zT_of (List.mem_of_getElem? (i := 6) (by decide +kernel)) rfl
theorem zw_co0 : Cond.code yX0_init cX0_init 1 none ∈ zT := zT_of (List.mem_of_getElem? (i := 28) (by decide +kernel)) rfl
theorem zw_im0 : Cond.instanceMethod yX0_init ∈ zT := zT_of (List.mem_of_getElem? (i := 27) (by decide +kernel)) rfl
theorem zw_co3 : Cond.code yX3_init cX3_init 1 none ∈ zT := zT_of (List.mem_of_getElem? (i := 168) (by decide +kernel)) rfl
theorem zw_im3 : Cond.instanceMethod yX3_init ∈ zT := zT_of (List.mem_of_getElem? (i := 167) (by decide +kernel)) rfl
theorem zw_co4 : Cond.code yX4_init cX4_init 1 none ∈ zT := zT_of (List.mem_of_getElem? (i := 139) (by decide +kernel)) rfl
theorem zw_im4 : Cond.instanceMethod yX4_init ∈ zT := zT_of (List.mem_of_getElem? (i := 138) (by decide +kernel)) rfl
theorem zw_co5 : Cond.code yX5_init cX5_init 1 none ∈ zT := zT_of (List.mem_of_getElem? (i := 102) (by decide +kernel)) rfl
theorem zw_im5 : Cond.instanceMethod yX5_init ∈ zT := zT_of (List.mem_of_getElem? (i := 101) (by decide +kernel)) rfl
theorem zw_co6 : Cond.code yX6_init cX6_init 2 none ∈ zT := zT_of (List.mem_of_getElem? (i := 20) (by decide +kernel)) rfl
theorem zw_im6 : Cond.instanceMethod yX6_init ∈ zT := zT_of (List.mem_of_getElem? (i := 19) (by decide +kernel)) rfl
theorem zw_co7 : Cond.code yX7_init cX7_init 1 none ∈ zT := zT_of (List.mem_of_getElem? (i := 885) (by decide +kernel)) rfl
theorem zw_im7 : Cond.instanceMethod yX7_init ∈ zT := zT_of (List.mem_of_getElem? (i := 884) (by decide +kernel)) rfl
section ZNR
variable {N : zNB} {D : va_G} {c3 : zC3} {A : Nat → Prop} {Qf : va_W → Prop} {pc : Nat} {ls : List (Option Value)} {st : List Value} {ws : va_W} {k n : Nat}
theorem zn_aload_n {j : Fin 4} {x : Nat} (hd : decode N.2.1 pc = .ok (.aload_n j, 1)) (hl : ls[(j : Nat)]? = some (some (.ref x))) (kk : zNP N D c3 A Qf (pc + 1) ls (.ref x :: st) ws k n) : zNP N D c3 A Qf pc ls st ws k n := by
  intro p l e s m args below meth c H locs la hC hP hD hS hL
  exact lv_aload_n hC.1 hC.2.1 hd rfl (hL.2.2 _ _ hl) (kk p l e s m args below meth c H locs la hC hP hD hS hL)
theorem zn_iload_n {j : Fin 4} {x : Int32} (hd : decode N.2.1 pc = .ok (.iload_n j, 1)) (hl : ls[(j : Nat)]? = some (some (.int x))) (kk : zNP N D c3 A Qf (pc + 1) ls (.int x :: st) ws k n) : zNP N D c3 A Qf pc ls st ws k n := by
  intro p l e s m args below meth c H locs la hC hP hD hS hL
  exact lv_iload_n hC.1 hC.2.1 hd rfl (hL.2.2 _ _ hl) (kk p l e s m args below meth c H locs la hC hP hD hS hL)
theorem zn_iconst {i : Int} (v : Int32) (hd : decode N.2.1 pc = .ok (.iconst i, 1)) (hv : Int32.ofInt i = v) (kk : zNP N D c3 A Qf (pc + 1) ls (.int v :: st) ws k n) : zNP N D c3 A Qf pc ls st ws k n := by
  intro p l e s m args below meth c H locs la hC hP hD hS hL
  exact lv_iconst hC.1 hC.2.1 hd hv (kk p l e s m args below meth c H locs la hC hP hD hS hL)
theorem zn_bipush {i : Int} (v : Int32) (hd : decode N.2.1 pc = .ok (.bipush i, 2)) (hv : (Int8.ofInt i).toInt32 = v) (kk : zNP N D c3 A Qf (pc + 2) ls (.int v :: st) ws k n) : zNP N D c3 A Qf pc ls st ws k n := by
  intro p l e s m args below meth c H locs la hC hP hD hS hL
  exact lv_bipush hC.1 hC.2.1 hd hv (kk p l e s m args below meth c H locs la hC hP hD hS hL)
theorem zn_sipush {i : Int} (v : Int32) (hd : decode N.2.1 pc = .ok (.sipush i, 3)) (hv : (Int16.ofInt i).toInt32 = v) (kk : zNP N D c3 A Qf (pc + 3) ls (.int v :: st) ws k n) : zNP N D c3 A Qf pc ls st ws k n := by
  intro p l e s m args below meth c H locs la hC hP hD hS hL
  exact lv_sipush hC.1 hC.2.1 hd hv (kk p l e s m args below meth c H locs la hC hP hD hS hL)
theorem zn_dup {v : Value} (hd : decode N.2.1 pc = .ok (.dup, 1)) (hc : v.category = 1) (kk : zNP N D c3 A Qf (pc + 1) ls (v :: v :: st) ws k n) : zNP N D c3 A Qf pc ls (v :: st) ws k n := by
  intro p l e s m args below meth c H locs la hC hP hD hS hL
  exact lv_dup hC.1 hC.2.1 hd ((ztr_cat _ v).trans hc) (kk p l e s m args below meth c H locs la hC hP hD hS hL)
theorem zn_goto {off : Int} (tgt : Nat) (hd : decode N.2.1 pc = .ok (.goto off, 3)) (ht : (pc : Int) + off = (tgt : Int)) (kk : zNP N D c3 A Qf tgt ls st ws k n) : zNP N D c3 A Qf pc ls st ws k n := by
  intro p l e s m args below meth c H locs la hC hP hD hS hL
  exact lv_goto hC.1 hC.2.1 hd ht (kk p l e s m args below meth c H locs la hC hP hD hS hL)
theorem zn_icmp_ge {x y : Int32} {off : Int} (tgt : Nat) (hd : decode N.2.1 pc = .ok (.if_icmp .ge off, 3)) (ht : (pc : Int) + off = (tgt : Int)) (kt : y ≤ x → zNP N D c3 A Qf tgt ls st ws k n) (kf : ¬ y ≤ x → zNP N D c3 A Qf (pc + 3) ls st ws k n) : zNP N D c3 A Qf pc ls (.int y :: .int x :: st) ws k n := by
  intro p l e s m args below meth c H locs la hC hP hD hS hL
  exact lv_icmp_ge hC.1 hC.2.1 hd ht (fun h => kt h p l e s m args below meth c H locs la hC hP hD hS hL) (fun h => kf h p l e s m args below meth c H locs la hC hP hD hS hL)
theorem zn_istore_n {j : Fin 4} {x : Int32} (ls' : List (Option Value)) (hd : decode N.2.1 pc = .ok (.istore_n j, 1)) (hj : (j : Nat) < N.2.2.1) (hz : zok ls j = true) (hls : ls.set (j : Nat) (some (.int x)) = ls') (kk : zNP N D c3 A Qf (pc + 1) ls' st ws k n) : zNP N D c3 A Qf pc ls (.int x :: st) ws k n := by
  intro p l e s m args below meth c H locs la hC hP hD hS hL
  exact lv_istore_n hC.1 hC.2.1 hd rfl hL.has hj rfl (fun la2 hl2 => kk p l e s m args below meth c H locs la2 hC hP hD hS (hls ▸ hL.set1 hz rfl hl2))
theorem zn_iinc {j : Nat} {i : Int} {x : Int32} (v : Int32) (ls' : List (Option Value)) (hd : decode N.2.1 pc = .ok (.iinc j i, 3)) (hl : ls[j]? = some (some (.int x))) (hv : x + Int32.ofInt i = v) (hj : j < N.2.2.1) (hz : zok ls j = true) (hls : ls.set j (some (.int v)) = ls') (kk : zNP N D c3 A Qf (pc + 3) ls' st ws k n) : zNP N D c3 A Qf pc ls st ws k n := by
  intro p l e s m args below meth c H locs la hC hP hD hS hL
  obtain ⟨i9, h9⟩ := List.getElem?_of_mem (zll_in (fun a => a) hl)
  exact lv_iinc hC.1 hC.2.1 hd hL.has h9 hv hj rfl (fun la2 hl2 => kk p l e s m args below meth c H locs la2 hC hP hD hS (hls ▸ hL.set1 hz rfl hl2))
theorem zn_obj {i a : Nat} (hlk : Cond.methodLink N.1 i objectInit ∈ zT) (hd : decode N.2.1 pc = .ok (.invokespecial i, 3)) (hf : 1 ≤ N.2.2.2.1.frames) (hlo : (st.map fun v => v.category).sum + 12 ≤ N.2.2.2.1.locals) (kk : zNP N D c3 A Qf (pc + 3) ls st ws k n) : zNP N D c3 A Qf pc ls (.ref a :: st) ws k n := by
  intro p l e s m args below meth c H locs la hC hP hD hS hL
  have hts := hC.2.2.2.2.2.2.1
  refine W.objInit hC.1 hC.2.1 hC.2.2.2.2.2.1 (hts _ hlk) (hts _ zw_oi) (hts _ zw_oc) rfl (hL.1.trans hC.2.2.1.symm) rfl hd hf ?_ (kk p l e s m args below meth c H locs la hC hP hD hS hL)
  have h1 := zcatsum (fun a => a) st
  show 2 * 0 + _ + 12 ≤ _
  omega
theorem zn_newi {i : Int32} (M : Nat) (hd : decode N.2.1 pc = .ok (.newarray .int, 2)) (hn : ¬ i < 0) (hN : i.toNatClampNeg = M) (hb : M * 4 ≤ 536870912) (hc : k + 1 ≤ N.2.2.2.1.cells) (hs : n + M ≤ N.2.2.2.1.slots) (kk : ∀ q : Nat, zNP N D c3 A Qf (pc + 2) ls (.ref q :: st) (ws ++ [(q, .inl (c3.1, M, .inl (fun _ => 0)))]) (k + 1) (n + M)) : zNP N D c3 A Qf pc ls (.int i :: st) ws k n := by
  intro p l e s m args below meth c H locs la hC hP hD hS hL
  have hts := hC.2.2.2.2.2.2.1
  refine va_newa (atype := .int) hC.1 hC.2.1 (hts _ zw_ai) (ty := .int) rfl hC.2.2.2.2.2.2.2.1 hP hD hS hC.2.2.2.2.2.2.2.2.2.2 (a0 := (M, .inl (fun _ => 0))) (fun cA => rfl) hn hN hb hc hs hd (fun q cA H1 hK1 hP1 hD1 hS1 => ?_)
  have e1 : s.vm.findClass ("[" ++ FieldType.toString .int) = some cA := (hK1.2 3 (cA, .int) rfl).2
  have e2 : s.vm.findClass ("[" ++ FieldType.toString .int) = some c3.1 := (hC.2.2.2.2.2.2.2.1.2 0 (c3.1, .int) rfl).2
  have e3 : cA = c3.1 := Option.some.inj (e1.symm.trans e2)
  subst e3
  exact kk q p l e s m args below meth c H1 locs la hC hP1 hD1 hS1 hL
theorem zn_newl {i : Int32} (M : Nat) (hd : decode N.2.1 pc = .ok (.newarray .long, 2)) (hn : ¬ i < 0) (hN : i.toNatClampNeg = M) (hb : M * 8 ≤ 536870912) (hc : k + 1 ≤ N.2.2.2.1.cells) (hs : n + M ≤ N.2.2.2.1.slots) (kk : ∀ q : Nat, zNP N D c3 A Qf (pc + 2) ls (.ref q :: st) (ws ++ [(q, .inl (c3.2.1, M, .inr (.inl (fun _ => 0))))]) (k + 1) (n + M)) : zNP N D c3 A Qf pc ls (.int i :: st) ws k n := by
  intro p l e s m args below meth c H locs la hC hP hD hS hL
  have hts := hC.2.2.2.2.2.2.1
  refine va_newa (atype := .long) hC.1 hC.2.1 (hts _ zw_al) (ty := .long) rfl hC.2.2.2.2.2.2.2.1 hP hD hS hC.2.2.2.2.2.2.2.2.2.2 (a0 := (M, .inr (.inl (fun _ => 0)))) (fun cA => rfl) hn hN hb hc hs hd (fun q cA H1 hK1 hP1 hD1 hS1 => ?_)
  have e1 : s.vm.findClass ("[" ++ FieldType.toString .long) = some cA := (hK1.2 3 (cA, .long) rfl).2
  have e2 : s.vm.findClass ("[" ++ FieldType.toString .long) = some c3.2.1 := (hC.2.2.2.2.2.2.2.1.2 1 (c3.2.1, .long) rfl).2
  have e3 : cA = c3.2.1 := Option.some.inj (e1.symm.trans e2)
  subst e3
  exact kk q p l e s m args below meth c H1 locs la hC hP1 hD1 hS1 hL
theorem zn_newq {i : Int32} {x : Nat} (M : Nat) (hlk : Cond.classLink N.1 x "DownhillPost$Sheet" ∈ zT) (hd : decode N.2.1 pc = .ok (.anewarray x, 3)) (hn : ¬ i < 0) (hN : i.toNatClampNeg = M) (hb : M * 4 ≤ 536870912) (hc : k + 1 ≤ N.2.2.2.1.cells) (hs : n + M ≤ N.2.2.2.1.slots) (kk : ∀ q : Nat, zNP N D c3 A Qf (pc + 3) ls (.ref q :: st) (ws ++ [(q, .inl (c3.2.2, M, .inr (.inr (.inr (.inr (fun _ => none))))))]) (k + 1) (n + M)) : zNP N D c3 A Qf pc ls (.int i :: st) ws k n := by
  intro p l e s m args below meth c H locs la hC hP hD hS hL
  have hts := hC.2.2.2.2.2.2.1
  refine va_newq hC.1 hC.2.1 hC.2.2.2.2.2.1 (hts _ hlk) hC.2.2.2.2.2.2.2.2.1.1 hC.2.2.2.2.2.2.2.1 hP hD hS hC.2.2.2.2.2.2.2.2.2.2 hn hN hb hc hs hd (fun q cA H1 hK1 hP1 hD1 hS1 => ?_)
  obtain ⟨_, _, _, _, _, e1⟩ := (hK1.2 3 (cA, .object "DownhillPost$Sheet") rfl).2
  obtain ⟨_, _, _, _, _, e2⟩ := (hC.2.2.2.2.2.2.2.1.2 2 (c3.2.2, .object "DownhillPost$Sheet") rfl).2
  have e3 : cA = c3.2.2 := Option.some.inj (e1.symm.trans e2)
  subst e3
  exact kk q p l e s m args below meth c H1 locs la hC hP1 hD1 hS1 hL
theorem zn_new {C : String} {T : u_T} {F ci x : Nat} (fs : List Value) (ty : Nat → FieldType) (hin : ∀ w ∈ u_ws C T F, w ∈ zT) (hty : ∀ k, k < F → parseFieldDescriptor (T k).2.2.1 = some (ty k)) (hcl : Cond.classLink N.1 x C ∈ zT) (hins : Cond.instantiable C F ∈ zT) (hini : Cond.initialized C ∈ zT) (hci : vwCl[ci]? = some (C, T, F)) (hfs : ∀ j, j < F → defaultValue (ty j) = vp_V fs j) (hd : decode N.2.1 pc = .ok (.new x, 3)) (hc : k + 1 ≤ N.2.2.2.1.cells) (hs : n + F ≤ N.2.2.2.1.slots)
    (kk : ∀ q : Nat, zNP N D c3 A Qf (pc + 3) ls (.ref q :: st) (ws ++ [(q, .inr (ci, fs))]) (k + 1) (n + F)) : zNP N D c3 A Qf pc ls st ws k n := by
  intro p l e s m args below meth c H locs la hC hP hD hS hL
  have hts := hC.2.2.2.2.2.2.1
  exact va_new hC.1 hC.2.1 hts hin ty hty hC.2.2.2.2.2.1 (hts _ hcl) (hts _ hins) (hts _ hini) hC.2.2.2.2.2.2.2.1 hP hD hS hC.2.2.2.2.2.2.2.2.2.2 hci hfs hc hs hd (fun q H1 hP1 hD1 hS1 => kk q p l e s m args below meth c H1 locs la hC hP1 hD1 hS1 hL)
theorem zn_putF {T : u_T} {F ci x a : Nat} {fs : List Value} {v : Value} (ws' : va_W) (ty0 : Nat → FieldType) (hin : ∀ w ∈ u_ws N.1 T F, w ∈ zT) (hty : ∀ k, k < F → parseFieldDescriptor (T k).2.2.1 = some (ty0 k)) (hnm : ∀ a, a < F → ∀ b, b < F → a ≠ b → (T a).2.1 ≠ (T b).2.1) (hci : vwCl[ci]? = some (N.1, T, F)) (f : Nat) (hf : f < F) (hl : Cond.fieldLink N.1 x N.1 (T f).2.1 (T f).2.2.1 ∈ zT) (hT : (T f).1 = N.1) (hfin : (T f).2.2.2 = true) (he : ws[0]? = some (a, .inr (ci, fs))) (hn : narrow (ty0 f) (ztr (fun a => a) v) = ztr (fun a => a) v) (hfit : fits (ty0 f) (ztr (fun a => a) v) = true) (hlt : f < fs.length) (hd : decode N.2.1 pc = .ok (.putfield x, 3)) (hw : ws.set 0 (a, .inr (ci, fs.set f (ztr (fun a => a) v))) = ws')
    (kk : zNP N D c3 A Qf (pc + 3) ls st ws' k n) : zNP N D c3 A Qf pc ls (v :: .ref a :: st) ws k n := by
  intro p l e s m args below meth c H locs la hC hP hD hS hL
  have hts := hC.2.2.2.2.2.2.1
  subst hw
  exact va_putF hC.1 hC.2.1 hts hin ty0 hty hnm hC.2.2.2.2.2.1 hC.2.2.2.2.2.2.2.1 hP hD hS 0 he hci f hf (hts _ hl) (fun y h => hT ▸ h) hfin hC.2.2.2.2.2.2.2.2.2.1 hT (hty f hf) hn hfit hlt hd (fun H1 locs1 hP1 hD1 hS1 => kk p l e s m args below meth c H1 locs1 la hC hP1 hD1 hS1 hL)
theorem zn_put {T : u_T} {F ci x a : Nat} {fs : List Value} {v : Value} (ws' : va_W) (ty0 : Nat → FieldType) (hin : ∀ w ∈ u_ws N.1 T F, w ∈ zT) (hty : ∀ k, k < F → parseFieldDescriptor (T k).2.2.1 = some (ty0 k)) (hnm : ∀ a, a < F → ∀ b, b < F → a ≠ b → (T a).2.1 ≠ (T b).2.1) (hci : vwCl[ci]? = some (N.1, T, F)) (f : Nat) (hf : f < F) (hl : Cond.fieldLink N.1 x N.1 (T f).2.1 (T f).2.2.1 ∈ zT) (hT : (T f).1 = N.1) (hfin : (T f).2.2.2 = false) (he : ws[0]? = some (a, .inr (ci, fs))) (hn : narrow (ty0 f) (ztr (fun a => a) v) = ztr (fun a => a) v) (hfit : fits (ty0 f) (ztr (fun a => a) v) = true) (hlt : f < fs.length) (hd : decode N.2.1 pc = .ok (.putfield x, 3)) (hw : ws.set 0 (a, .inr (ci, fs.set f (ztr (fun a => a) v))) = ws')
    (kk : zNP N D c3 A Qf (pc + 3) ls st ws' k n) : zNP N D c3 A Qf pc ls (v :: .ref a :: st) ws k n := by
  intro p l e s m args below meth c H locs la hC hP hD hS hL
  have hts := hC.2.2.2.2.2.2.1
  subst hw
  exact va_put hC.1 hC.2.1 hts hin ty0 hty hnm hC.2.2.2.2.2.1 hC.2.2.2.2.2.2.2.1 hP hD hS 0 he hci f hf (hts _ hl) (fun y h => hT ▸ h) hfin (hty f hf) hn hfit hlt hd (fun H1 locs1 hP1 hD1 hS1 => kk p l e s m args below meth c H1 locs1 la hC hP1 hD1 hS1 hL)
theorem zn_get {T : u_T} {F ci x a : Nat} {fs : List Value} {v : Value} (hin : ∀ w ∈ u_ws N.1 T F, w ∈ zT) (hci : vwCl[ci]? = some (N.1, T, F)) (f : Nat) (hf : f < F) (hl : Cond.fieldLink N.1 x N.1 (T f).2.1 (T f).2.2.1 ∈ zT) (hT : (T f).1 = N.1) (he : ws[0]? = some (a, .inr (ci, fs))) (hv : fs[f]? = some (ztr (fun a => a) v)) (hd : decode N.2.1 pc = .ok (.getfield x, 3))
    (kk : zNP N D c3 A Qf (pc + 3) ls (v :: st) ws k n) : zNP N D c3 A Qf pc ls (.ref a :: st) ws k n := by
  intro p l e s m args below meth c H locs la hC hP hD hS hL
  have hts := hC.2.2.2.2.2.2.1
  exact va_get hC.1 hC.2.1 hts hin hC.2.2.2.2.2.1 hC.2.2.2.2.2.2.2.1 hP 0 he hci f hf (hts _ hl) (fun y h => hT ▸ h) hv hd (kk p l e s m args below meth c H locs la hC hP hD hS hL)
theorem zn_iast {a M j : Nat} {f : Nat → Int32} {i v : Int32} (ws' : va_W) (he : ws[j]? = some (a, .inl (c3.1, M, .inl f))) (hin : vp_in i M) (hd : decode N.2.1 pc = .ok (.iastore, 1)) (hw : ws.set j (a, .inl (c3.1, M, .inl (upd f i.toNatClampNeg v))) = ws')
    (kk : zNP N D c3 A Qf (pc + 1) ls st ws' k n) : zNP N D c3 A Qf pc ls (.int v :: .int i :: .ref a :: st) ws k n := by
  intro p l e s m args below meth c H locs la hC hP hD hS hL
  subst hw
  exact va_iast hC.1 hC.2.1 hC.2.2.2.2.2.2.2.1 hP hD hS j 0 he rfl hin hd (fun H1 locs1 hP1 hD1 hS1 => kk p l e s m args below meth c H1 locs1 la hC hP1 hD1 hS1 hL)
theorem zn_aast {a M j qk v ci : Nat} {vs : List Value} {r : vw_C} {f : Nat → Option Nat} {i : Int32} (ws' : va_W) (he : ws[j]? = some (a, .inl (c3.2.2, M, .inr (.inr (.inr (.inr f)))))) (hr : r.1 = "DownhillPost$Sheet") (hv : ws[qk]? = some (v, .inr (ci, vs))) (hci : vwCl[ci]? = some r) (hin : vp_in i M) (hd : decode N.2.1 pc = .ok (.aastore, 1)) (hw : ws.set j (a, .inl (c3.2.2, M, .inr (.inr (.inr (.inr (va_up f i.toNatClampNeg (some v))))))) = ws')
    (kk : zNP N D c3 A Qf (pc + 1) ls st ws' k n) : zNP N D c3 A Qf pc ls (.ref v :: .int i :: .ref a :: st) ws k n := by
  intro p l e s m args below meth c H locs la hC hP hD hS hL
  subst hw
  exact va_astq hC.1 hC.2.1 hC.2.2.2.2.2.2.2.1 hP hD hS j 2 qk ci he (by rw [hr]; rfl) hv hci hin hd (fun H1 locs1 hP1 hD1 hS1 => kk p l e s m args below meth c H1 locs1 la hC hP1 hD1 hS1 hL)
theorem zn_vret (hd : decode N.2.1 pc = .ok (.return_, 1)) (hq : Qf ws) : zNP N D c3 A Qf pc ls [] ws N.2.2.2.2.1 N.2.2.2.2.2 := by
  intro p l e s m args below meth c H locs la hC hP hD hS hL
  exact W.vret hC.1 hC.2.1 hC.2.2.2.1 (fun t ht hW => ⟨⟨rfl, ws, hq, by rw [ht]; exact hP, hD⟩, hS.F ht⟩) hS.2.2 hd hC.2.2.2.2.1
theorem zn_ws (ws' : va_W) (hw : ws = ws') (kk : zNP N D c3 A Qf pc ls st ws' k n) : zNP N D c3 A Qf pc ls st ws k n := hw ▸ kk
end ZNR
theorem znd : ∀ n, n < 60 → va_nd (List.range n) = true := by decide +kernel
theorem zn_join {A0 : Nat → Prop} {D : va_G} {wr w1 : va_W} {x : Nat × va_E} {H H1 : Heap} (hn : wr.length < 60) (hP : va_P D vwCl (wr ++ [x]) H) (hD : va_D A0 (wr ++ [x])) (hk : ∀ q : Nat, q < H.size → ¬ va_A [x] H.size q → H1[q]? = H[q]?) (hF : ∀ q, va_A [x] H.size q → A0 q) (hP1 : va_P D vwCl w1 H1) (hD1 : va_D (va_A [x] H.size) w1) : va_P D vwCl (wr ++ w1) H1 ∧ va_D A0 (wr ++ w1) := by
  refine va_join hP hD [wr.length] (List.range wr.length) ?_ ?_ (znd _ hn) ?_ hk hF hP1 hD1
  · simp
  · apply List.ext_getElem?
    intro i
    rw [List.getElem?_map, List.getElem?_map]
    by_cases hi : i < wr.length
    · rw [List.getElem?_range hi]
      simp only [Option.map_some]
      rw [List.getElem?_append_left hi, List.getElem?_eq_getElem hi]
      rfl
    · rw [List.getElem?_eq_none (by simp; omega), List.getElem?_eq_none (by omega)]
      rfl
  · intro i hi
    have := List.mem_range.mp hi
    simp
    omega
section ZNC
variable {N : zNB} {D : va_G} {c3 : zC3} {A : Nat → Prop} {Qf : va_W → Prop} {pc : Nat} {ls : List (Option Value)} {st : List Value} {ws : va_W} {k n : Nat}
theorem zn_ctor {y : MethodName} {cc : ByteArray} {nL x b ci mc ms : Nat} {RM : Room} {fs : List Value} {Q1 : zC3 → Nat → va_W → Prop} {wr : va_W} (hM : zNew y cc nL RM ci fs mc ms Q1) (hrm : RM.cells = mc ∧ RM.slots = ms) (hy : y.name = "<init>" ∧ y.cls ≠ "java/lang/invoke/MethodHandle" ∧ y.cls ≠ "java/lang/invoke/VarHandle" ∧ (parseMethodDescriptor y.desc).map (fun d => d.parameters.length) = some 0) (hco : Cond.code y cc nL none ∈ zT) (him : Cond.instanceMethod y ∈ zT) (hini : Cond.initialized y.cls ∈ zT) {host : String} (hnw : ∀ U : State, zNW U → va_Nw (.methodLinkNest N.1 x y host) U)
    (hd : decode N.2.1 pc = .ok (.invokespecial x, 3)) (hw : ws = wr ++ [(b, .inr (ci, fs))]) (hn : wr.length < 60) (hcat : (st.map fun v => v.category).sum ≤ 8) (hR : RM.frames + 1 ≤ N.2.2.2.1.frames ∧ 8 + (nL + 11) + RM.locals ≤ N.2.2.2.1.locals) (hf : k + mc ≤ N.2.2.2.1.cells ∧ n + ms ≤ N.2.2.2.1.slots)
    (kk : ∀ w1 : va_W, Q1 c3 b w1 → zNP N D c3 A Qf (pc + 3) ls st (wr ++ w1) (k + mc) (n + ms)) : zNP N D c3 A Qf pc ls (.ref b :: st) ws k n := by
  intro p l e s m args below meth c H locs la hC hP hD hS hL
  subst hw
  obtain ⟨hx, hb, hml, hr, hlk, hown, hts, hK, hNW, hnm, hA⟩ := id hC
  have hG : GoodIn zT (Cond.code y cc nL none :: zT) := by
    intro w h
    rcases List.mem_cons.mp h with rfl | h
    · exact ⟨hco, zgood hco⟩
    · exact ⟨h, zgood h⟩
  have hPc : va_P D vwCl [(b, .inr (ci, fs))] H := hP.sub [wr.length] (by simp)
  have hFc : ∀ q, va_A [(b, (.inr (ci, fs) : va_E))] H.size q → A q := va_free hD hS hA [wr.length] (by simp)
  have hrun := va_runIN (As := []) (b := b) (rest := st.map (ztr fun a => a)) (n := 0) (index := x) (host := host) (own := N.1) (Ts := zT) (cc := N.2.1) (nL := N.2.2.1) (bytes := cc) (maxL := nL) (e := e) (below := below) (R := N.2.2.2.1) (locs := locs) (cells := k) (slots := n) (g := F0 m pc la ((Value.ref b :: st).map (ztr fun a => a))) (H := H) (meth := meth) ⟨hx, hb, hml, hown, hts⟩ (hM l D c3 b H.size) ⟨va_cnB 0 hts hG rfl hrm.1 hrm.2 (hnw s hNW) (hts _ hini) ⟨hy.2.1, hy.2.2.1, hy.2.2.2⟩ hR, hy.1, hts _ him⟩
    ⟨fun a U g mk q => by obtain ⟨q0, q1, q2, q3, q4⟩ := q; exact ⟨q0, q1, q2, va_K.moved (u := U) (U := U.calling g mk a) (Vm.Alike.refl U.vm) q3, zNW.same (u := U) (U := U.calling g mk a) rfl q4⟩, fun U hU hW => ⟨rfl, by rw [hU], by rw [hU]; exact hPc, va_K.moved hW.alike hK, hNW.warm hW⟩⟩ rfl rfl hL.1 rfl (lv_room (by rw [zcatsum]; exact hcat)) hd hf
  intro T hT X
  obtain ⟨v, st₀, t, T', L, h0, X', hL', e1, e2, ⟨⟨hv, w1, hq, hp1, hd1⟩, hz, hk1⟩, stp⟩ := hrun T hT X
  cases hv
  rw [h0] at hz hk1
  have hS' : va_S A s.heap T'.heap (locs ++ L) := ⟨Nat.le_trans hS.1 (by rw [e1]; exact hz), fun q g1 g2 => by rw [e1, hk1 q (Nat.lt_of_lt_of_le g1 hS.1) (fun z => g2 (hFc q z))]; exact hS.2.1 q g1 g2, fun q hq => by
      rcases List.mem_append.mp hq with g | g
      · exact hS.2.2 q g
      · exact hFc _ (hL' q g)⟩
  have hJ := zn_join (H1 := T'.heap) hn hP hD (fun q g1 g2 => by rw [e1]; exact hk1 q g1 g2) hFc (by rw [e1]; exact hp1) hd1
  obtain ⟨t2, a1, b1⟩ := kk w1 hq p l e s m args below meth c T'.heap (locs ++ L) la hC hJ.1 hJ.2 hS' hL T' rfl X'
  exact ⟨t2, stp t2 a1, b1⟩
end ZNC
theorem zNew.of {y : MethodName} {cc : ByteArray} {nL : Nat} {RM : Room} {ci kn : Nat} {fs : List Value} {mc ms : Nat} {Q1 : zC3 → Nat → va_W → Prop} {own : String} (hy : plainName y.cls = true) (ho : y.cls = own) (hn : y.name = "<init>") (hk : 1 + kn = nL) (h : ∀ (D : va_G) (c3 : zC3) (h0 : Nat) (A : Nat → Prop), zNP (own, cc, nL, RM, mc, ms) D c3 A (Q1 c3 h0) 0 (some (.ref h0) :: List.replicate kn none) [] [(h0, .inr (ci, fs))] 0 0) : zNew y cc nL RM ci fs mc ms Q1 := by
  intro l D c3 h0 sz
  refine Met.ofW (cc := cc) (maxL := nL) (ret := none) hy rfl ?_
  intro p e s m args below meth c s₁ B hml hv
  obtain ⟨rfl, hsz, hP, hK, hNW⟩ := hv
  subst hsz
  have hts := atoms_spec (ws := .code y cc nL none :: zT) B.pre
  have hown : s.vm.findClass own = some m.cls := by rw [← ho]; exact findClass_of_methodNamed B.named
  have hl := lv_entry [Value.ref h0] (n := nL) (by show 1 ≤ nL; omega)
  rw [lg_entry_eq]
  have hin : meth.name = "<init>" := ((name_of_methodNamed B.named B.method).1).trans hn
  have hD : va_D (va_A [(h0, (.inr (ci, fs) : va_E))] s.heap.size) [(h0, (.inr (ci, fs) : va_E))] := ⟨fun i j p q h1 h2 _ => by
      have a := (List.getElem?_eq_some_iff.mp h1).1
      have b := (List.getElem?_eq_some_iff.mp h2).1
      simp at a b
      omega, fun _ _ hk => va_A.in hk⟩
  refine h D c3 h0 (va_A [(h0, (.inr (ci, fs) : va_E))] s.heap.size) p l e s m _ below meth c s.heap [] _ ⟨B.exec, B.bytes, hml, B.returns, B.notSynchronized, hown, fun w hw => hts w (List.mem_cons_of_mem _ hw), hK, hNW, hin, fun q h => Or.inr h⟩ hP hD va_S.rf ⟨hl.1, hl.2.1, fun i v hi => ?_⟩
  cases i with
  | zero => cases hi; exact hl.2.2 (0, .ref h0) List.mem_cons_self
  | succ i =>
    rw [List.getElem?_cons_succ, List.getElem?_replicate] at hi
    split at hi <;> cases hi
