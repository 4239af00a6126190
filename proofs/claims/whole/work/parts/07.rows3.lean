theorem zT_of {w : Cond} (h : w ∈ tables_1) (hg : goodWord w = true) : w ∈ zT := List.mem_filter.mpr ⟨List.mem_append_right _ h, hg⟩
theorem zT_priv {q : MethodName × Nat} (h : q ∈ lw_privs) : Cond.selects q.1.cls q.1 q.1 ∈ zT := List.mem_filter.mpr ⟨List.mem_append_left _ (List.mem_map.mpr ⟨q, h, rfl⟩), rfl⟩
theorem zgood {w : Cond} (h : w ∈ zT) : (w.onTables && w.keeps) = true ∨ ∃ ty, w = .arrayClass ty := good_of_word (List.mem_filter.mp h).2
/-- what the tables say of a method -/
def zMo (y : MethodName) (cc : ByteArray) (nL : Nat) (ret : Option FieldType) (n : Nat) : Prop :=
  Cond.code y cc nL ret ∈ zT ∧ Cond.initialized y.cls ∈ zT ∧ (y.cls ≠ "java/lang/invoke/MethodHandle" ∧ y.cls ≠ "java/lang/invoke/VarHandle") ∧ (parseMethodDescriptor y.desc).map (fun d => d.parameters.length) = some n ∧ nL ≤ 21
theorem zMo.good {y : MethodName} {cc : ByteArray} {nL n : Nat} {ret : Option FieldType} (h : zMo y cc nL ret n) : GoodIn zT (Cond.code y cc nL ret :: zT) := by
  intro w hw
  rcases List.mem_cons.mp hw with rfl | hw
  · exact ⟨h.1, zgood h.1⟩
  · exact ⟨hw, zgood hw⟩
theorem zblind {D : va_G} {ad : Nat → Nat} {c3 : zC3} {as : List Value} {w : zW} : FrameBlind (zPc D ad c3 as w) := by
  intro a U g mk h
  obtain ⟨h0, h1, h2, h3⟩ := h
  exact ⟨h0, h1, va_K.moved (u := U) (U := U.calling g mk a) (Vm.Alike.refl U.vm) h2, zX.same (u := U) (U := U.calling g mk a) rfl h3⟩
section ZCALL
variable {own : String} {cc : ByteArray} {B : zB} {pc : Nat} {ls : List (Option Value)} {st : List Value} {w : zW}
/-- behind a call -/
theorem zs_back {p : Program} {l : Launch} {e : Env} {s : State} {m : MethodId} {args : Array Value} {below : List Frame} {meth : Method} {c : Code} {D : va_G} {ad : Nat → Nat} {c3 : zC3} {H : Heap} {locs : List Loc} {la : Array Slot} {st0 rest : List Value} {a : Array Value} {Qc : Option Value → zW → Prop}
    (hC : zCx own cc B p s m args meth c D ad c3) (hS : va_S (B.2.2.2.2.1 s ad) s.heap H locs) (hL : zL ad B.1 la ls)
    (hr : va_Run p l e B.2.2.1 s m args below meth c H locs B.2.2.2.1.1 B.2.2.2.1.2 0 0 (F0 m pc la st0) (rest.map (ztr ad)) (zQc D ad c3 Qc a) (zA ad))
    (kk : ∀ (r : Option Value) (w' : zW), Qc r w' → zWP own cc B (pc + 3) ls (r.toList ++ rest) w') : W p l e B.2.2.1 s m args below meth c H locs B.2.2.2.1.1 B.2.2.2.1.2 (B.2.2.2.2.2.2 s args below D ad c3) (F0 m pc la st0) := by
  intro T hT X
  obtain ⟨v, st₀, t, T', L, h0, X', hL', e1, e2, ⟨⟨r, w', hv, hq, hp⟩, hz, hk⟩, stp⟩ := hr T hT X
  cases hv
  rw [h0] at hz hk
  have hsub := hC.2.2.2.2.2.2.2.2.2.2.1
  have hS' : va_S (B.2.2.2.2.1 s ad) s.heap T'.heap (locs ++ L) := ⟨Nat.le_trans hS.1 (by rw [e1]; exact hz), fun q h1 h2 => by rw [e1, hk q (Nat.lt_of_lt_of_le h1 hS.1) (fun z => h2 (hsub q z))]; exact hS.2.1 q h1 h2, fun q hq => by
      rcases List.mem_append.mp hq with h | h
      · exact hS.2.2 q h
      · exact hsub _ (hL' q h)⟩
  have K := kk r w' hq p l e s m args below meth c D ad c3 T'.heap (locs ++ L) la hC (by rw [e1]; exact hp) hS' hL
  obtain ⟨t2, a1, b1⟩ := K T' rfl X'
  refine ⟨t2, stp t2 ?_, b1⟩
  cases r with
  | none => exact a1
  | some r => exact a1
theorem zs_pre {p : Program} {s : State} {m : MethodId} {args : Array Value} {meth : Method} {c : Code} {D : va_G} {ad : Nat → Nat} {c3 : zC3} {H : Heap} {locs : List Loc} {as : List Value} (hC : zCx own cc B p s m args meth c D ad c3) (hP : va_P D vwCl (zws ad c3 w) H) (hS : va_S (B.2.2.2.2.1 s ad) s.heap H locs) : ∀ U : State, U.heap = H → s.WarmedH U.vm → zPc D ad c3 as w (as.map (ztr ad)).toArray U := by
  intro U hU hW
  obtain ⟨hx, hb, hml, hr, hlk, hown, hts, hinj, hK, hX, hsub, hp0⟩ := hC
  exact ⟨rfl, by rw [hU]; exact hP, va_K.moved hW.alike hK, hX.go hW (fun a h1 h2 => by rw [hU]; exact hS.2.1 a h1 h2) hsub⟩
theorem zs_callV {y : MethodName} {cc' : ByteArray} {nL' n d i o ci N : Nat} {ret' : Option FieldType} {as rest : List Value} {Qc : Option Value → zW → Prop} {T : u_T} {fk : List Nat} (hm : zMo y cc' nL' ret' n) (hv : Cond.instanceMethod y ∈ zT ∧ Cond.selects y.cls y y ∈ zT) (hlk : Cond.methodLink own i y ∈ zT) (hci : vwCl[ci]? = some (y.cls, T, N))
    (hd : decode cc pc = .ok (.invokevirtual i, 3)) (ha : zAt o (0, ci, fk)) (hst : st = as.reverse ++ .ref o :: rest) (hn : as.length = n) (hcat : (rest.map fun v => v.category).sum ≤ 8) (hR : d + 1 ≤ B.2.2.1.frames ∧ 40 * d + 40 ≤ B.2.2.1.locals ∧ B.2.2.2.1.1 ≤ B.2.2.1.cells ∧ B.2.2.2.1.2 ≤ B.2.2.1.slots) (hrun : zRun y cc' nL' ret' d (.ref o :: as) w Qc)
    (kk : ∀ (r : Option Value) (w' : zW), Qc r w' → zWP own cc B (pc + 3) ls (r.toList ++ rest) w') : zWP own cc B pc ls st w := by
  intro p l e s m args below meth c D ad c3 H locs la hC hP hS hL
  obtain ⟨hx, hb, hml, hr, hlk', hown, hts, hinj, hK, hX, hsub, hp0⟩ := id hC
  obtain ⟨j, hj⟩ := ha.ix
  have he := zws_get (ad := ad) (c3 := c3) (w := w) hj
  rw [ha.cell] at he
  refine zs_back (Qc := Qc) hC hS hL (va_runV (As := as.map (ztr ad)) (b := ad o) (rest := rest.map (ztr ad)) (n := n) ⟨hx, hb, hml, hown, hts⟩ (hrun l D ad c3 hinj) (C := y.cls) (index := i) ⟨⟨rfl, rfl, hR.1, ?_, pay_in hts hm.good, List.mem_cons_self, hts _ hm.1, hts _ hm.2.1, hm.2.2.1, fun sig h => ?_, hts _ hlk⟩, hts _ hv.1, hts _ hv.2⟩ ⟨zblind, va_recv hK hP hci he, zs_pre (as := .ref o :: as) hC hP hS⟩ rfl (by rw [List.length_map]; exact hn) hL.1 ?_ ?_ hd ⟨hR.2.2.1, hR.2.2.2⟩) kk
  · have := hm.2.2.2.2
    show 8 + (nL' + 11) + 40 * d ≤ _
    have h2 := hR.2.1
    omega
  · have h2 := hm.2.2.2.1
    rw [h] at h2
    exact (Option.some.inj h2).symm
  · show st.map (ztr ad) = _
    rw [hst]
    simp [ztr]
  · refine lv_room ?_
    rw [List.map_map]
    have : ((fun v : Value => v.category) ∘ ztr ad) = fun v : Value => v.category := by funext v; exact ztr_cat ad v
    rw [this]
    exact hcat
theorem zs_callS {y : MethodName} {cc' : ByteArray} {nL' n d i : Nat} {ret' : Option FieldType} {as rest : List Value} {Qc : Option Value → zW → Prop} (hm : zMo y cc' nL' ret' n) (hv : Cond.static y ∈ zT) (hlk : Cond.methodLink own i y ∈ zT)
    (hd : decode cc pc = .ok (.invokestatic i, 3)) (hst : st = as.reverse ++ rest) (hn : as.length = n) (hcat : (rest.map fun v => v.category).sum ≤ 8) (hR : d + 1 ≤ B.2.2.1.frames ∧ 40 * d + 40 ≤ B.2.2.1.locals ∧ B.2.2.2.1.1 ≤ B.2.2.1.cells ∧ B.2.2.2.1.2 ≤ B.2.2.1.slots) (hrun : zRun y cc' nL' ret' d as w Qc)
    (kk : ∀ (r : Option Value) (w' : zW), Qc r w' → zWP own cc B (pc + 3) ls (r.toList ++ rest) w') : zWP own cc B pc ls st w := by
  intro p l e s m args below meth c D ad c3 H locs la hC hP hS hL
  obtain ⟨hx, hb, hml, hr, hlk', hown, hts, hinj, hK, hX, hsub, hp0⟩ := id hC
  refine zs_back (Qc := Qc) hC hS hL (va_runS (As := as.map (ztr ad)) (rest := rest.map (ztr ad)) (n := n) ⟨hx, hb, hml, hown, hts⟩ (hrun l D ad c3 hinj) (index := i) ⟨⟨rfl, rfl, hR.1, ?_, pay_in hts hm.good, List.mem_cons_self, hts _ hm.1, hts _ hm.2.1, hm.2.2.1, fun sig h => ?_, hts _ hlk⟩, hts _ hv⟩ ⟨zblind, zs_pre (as := as) hC hP hS⟩ rfl (by rw [List.length_map]; exact hn) hL.1 ?_ ?_ hd ⟨hR.2.2.1, hR.2.2.2⟩) kk
  · have := hm.2.2.2.2
    show 8 + (nL' + 11) + 40 * d ≤ _
    have h2 := hR.2.1
    omega
  · have h2 := hm.2.2.2.1
    rw [h] at h2
    exact (Option.some.inj h2).symm
  · show st.map (ztr ad) = _
    rw [hst]
    simp
  · refine lv_room ?_
    rw [List.map_map]
    have : ((fun v : Value => v.category) ∘ ztr ad) = fun v : Value => v.category := by funext v; exact ztr_cat ad v
    rw [this]
    exact hcat
/-- a virtual call of a String constant -/
theorem zs_callT {y : MethodName} {cc' : ByteArray} {nL' n d i k : Nat} {ret' : Option FieldType} {as rest : List Value} {Qc : Option Value → zW → Prop} (hm : zMo y cc' nL' ret' n) (hv : Cond.instanceMethod y ∈ zT ∧ Cond.selects y.cls y y ∈ zT) (hlk : Cond.methodLink own i y ∈ zT) (hci : y.cls = "java/lang/String")
    (hd : decode cc pc = .ok (.invokevirtual i, 3)) (hk : k < 13) (hst : st = as.reverse ++ .ref (100 + k) :: rest) (hn : as.length = n) (hcat : (rest.map fun v => v.category).sum ≤ 8) (hR : d + 1 ≤ B.2.2.1.frames ∧ 40 * d + 40 ≤ B.2.2.1.locals ∧ B.2.2.2.1.1 ≤ B.2.2.1.cells ∧ B.2.2.2.1.2 ≤ B.2.2.1.slots) (hrun : zRun y cc' nL' ret' d (.ref (100 + k) :: as) w Qc)
    (kk : ∀ (r : Option Value) (w' : zW), Qc r w' → zWP own cc B (pc + 3) ls (r.toList ++ rest) w') : zWP own cc B pc ls st w := by
  intro p l e s m args below meth c D ad c3 H locs la hC hP hS hL
  obtain ⟨hx, hb, hml, hr, hlk', hown, hts, hinj, hK, hX, hsub, hp0⟩ := id hC
  refine zs_back (Qc := Qc) hC hS hL (va_runV (As := as.map (ztr ad)) (b := ad (100 + k)) (rest := rest.map (ztr ad)) (n := n) ⟨hx, hb, hml, hown, hts⟩ (hrun l D ad c3 hinj) (C := y.cls) (index := i) ⟨⟨rfl, rfl, hR.1, ?_, pay_in hts hm.good, List.mem_cons_self, hts _ hm.1, hts _ hm.2.1, hm.2.2.1, fun sig h => ?_, hts _ hlk⟩, hts _ hv.1, hts _ hv.2⟩ ⟨zblind, by rw [hci]; exact vk_recv (i := k) (adK := fun k => ad (100 + k)) hX.1 hk hS, zs_pre (as := .ref (100 + k) :: as) hC hP hS⟩ rfl (by rw [List.length_map]; exact hn) hL.1 ?_ ?_ hd ⟨hR.2.2.1, hR.2.2.2⟩) kk
  · have := hm.2.2.2.2
    show 8 + (nL' + 11) + 40 * d ≤ _
    have h2 := hR.2.1
    omega
  · have h2 := hm.2.2.2.1
    rw [h] at h2
    exact (Option.some.inj h2).symm
  · show st.map (ztr ad) = _
    rw [hst]
    simp [ztr]
  · refine lv_room ?_
    rw [List.map_map]
    have : ((fun v : Value => v.category) ∘ ztr ad) = fun v : Value => v.category := by funext v; exact ztr_cat ad v
    rw [this]
    exact hcat
end ZCALL
section ZRET
variable {own : String} {cc : ByteArray} {pc nL d : Nat} {ls : List (Option Value)} {w : zW} {Q : Option Value → zW → Prop}
theorem zs_iret {v : Int32} (hd : decode cc pc = .ok (.ireturn, 1)) (hq : Q (some (.int v)) w) : zWP own cc (zMB nL (some .int) d Q) pc ls [.int v] w := by
  intro p l e s m args below meth c D ad c3 H locs la hC hP hS hL
  exact W.iret (v := v) hC.1 hC.2.1 hC.2.2.2.1 (fun t ht hW => ⟨⟨some (.int v), w, rfl, hq, by rw [ht]; exact hP⟩, hS.F ht⟩) hS.2.2 hd hC.2.2.2.2.1
theorem zs_zret {ty : FieldType} {v : Int32} (hd : decode cc pc = .ok (.ireturn, 1)) (hn : narrow ty (.int v) = .int v) (hq : Q (some (.int v)) w) : zWP own cc (zMB nL (some ty) d Q) pc ls [.int v] w := by
  intro p l e s m args below meth c D ad c3 H locs la hC hP hS hL
  exact W.zret (v := v) hC.1 hC.2.1 hC.2.2.2.1 hn (fun t ht hW => ⟨⟨some (.int v), w, rfl, hq, by rw [ht]; exact hP⟩, hS.F ht⟩) hS.2.2 hd hC.2.2.2.2.1
theorem zs_bret {v : Int32} (hd : decode cc pc = .ok (.ireturn, 1)) (hn : v = 0 ∨ v = 1) (hq : Q (some (.int v)) w) : zWP own cc (zMB nL (some .boolean) d Q) pc ls [.int v] w := zs_zret hd (by rcases hn with rfl | rfl <;> rfl) hq
theorem zs_lret {v : Int64} (hd : decode cc pc = .ok (.lreturn, 1)) (hq : Q (some (.long v)) w) : zWP own cc (zMB nL (some .long) d Q) pc ls [.long v] w := by
  intro p l e s m args below meth c D ad c3 H locs la hC hP hS hL
  exact W.lret (v := v) hC.1 hC.2.1 hC.2.2.2.1 (fun t ht hW => ⟨⟨some (.long v), w, rfl, hq, by rw [ht]; exact hP⟩, hS.F ht⟩) hS.2.2 hd hC.2.2.2.2.1
theorem zs_vret (hd : decode cc pc = .ok (.return_, 1)) (hq : Q none w) : zWP own cc (zMB nL none d Q) pc ls [] w := by
  intro p l e s m args below meth c D ad c3 H locs la hC hP hS hL
  exact W.vret hC.1 hC.2.1 hC.2.2.2.1 (fun t ht hW => ⟨⟨none, w, rfl, hq, by rw [ht]; exact hP⟩, hS.F ht⟩) hS.2.2 hd hC.2.2.2.2.1
theorem zs_aret {v : Option Nat} {n : String} (hd : decode cc pc = .ok (.areturn, 1)) (hq : Q (some (va_rf v)) w) : zWP own cc (zMB nL (some (.object n)) d Q) pc ls [va_rf v] w := by
  intro p l e s m args below meth c D ad c3 H locs la hC hP hS hL
  exact W.aret (v := ztr ad (va_rf v)) hC.1 hC.2.1 hC.2.2.2.1 (Or.inl ⟨n, rfl⟩) (by cases v with | none => exact Or.inl rfl | some a => exact Or.inr ⟨_, rfl⟩) (fun t ht hW => ⟨⟨some (va_rf v), w, rfl, hq, by rw [ht]; exact hP⟩, hS.F ht⟩) hS.2.2 hd hC.2.2.2.2.1
end ZRET
/-- the locals at a method's start -/
def zent : List Value → List (Option Value)
  | [] => []
  | v :: vs => if v.category = 2 then some v :: none :: zent vs else some v :: zent vs
theorem zent_in (ad : Nat → Nat) : ∀ (vs : List Value) (b i : Nat) (v : Value), (zent vs)[i]? = some (some v) → (b + i, ztr ad v) ∈ lv_args b (vs.map (ztr ad)) := by
  intro vs
  induction vs with
  | nil => intro b i v h; simp [zent] at h
  | cons x vs ih =>
    intro b i v h
    simp only [List.map_cons, lv_args, ztr_cat]
    unfold zent at h
    by_cases hc : x.category = 2
    · rw [if_pos hc] at h ⊢
      match i with
      | 0 => cases h; exact List.mem_cons_self
      | 1 => cases h
      | i + 2 =>
        have := ih (b + 2) i v (by simpa using h)
        rw [show b + 2 + i = b + (i + 2) by omega] at this
        exact List.mem_cons_of_mem _ this
    · rw [if_neg hc] at h ⊢
      match i with
      | 0 => cases h; exact List.mem_cons_self
      | i + 1 =>
        have := ih (b + 1) i v (by simpa using h)
        rw [show b + 1 + i = b + (i + 1) by omega] at this
        exact List.mem_cons_of_mem _ this
theorem zent_len (ad : Nat → Nat) : ∀ vs : List Value, (lg_sl (vs.map (ztr ad))).length = (zent vs).length := by
  intro vs
  induction vs with
  | nil => rfl
  | cons x vs ih =>
    unfold lg_sl at ih ⊢
    unfold zent
    simp only [List.map_cons, List.flatMap_cons, List.length_append, ztr_cat]
    by_cases hc : x.category = 2
    · rw [if_pos hc, if_pos hc]; simp only [List.length_cons, List.length_nil]; omega
    · rw [if_neg hc, if_neg hc]; simp only [List.length_cons, List.length_nil]; omega
theorem zRun.of {y : MethodName} {cc : ByteArray} {nL d k : Nat} {ret : Option FieldType} {as : List Value} {w : zW} {Q : Option Value → zW → Prop} {own : String} (hy : plainName y.cls = true) (ho : y.cls = own) (hk : (zent as).length + k = nL) (h : zWP own cc (zMB nL ret d Q) 0 (zent as ++ List.replicate k none) [] w) : zRun y cc nL ret d as w Q := by
  intro l D ad c3 hinj
  refine Met.ofW (cc := cc) (maxL := nL) (ret := ret) hy rfl ?_
  intro p e s m args below meth c s₁ B hml hv
  obtain ⟨rfl, hP, hK, hX⟩ := hv
  have hts := atoms_spec (ws := .code y cc nL ret :: zT) B.pre
  have hown : s.vm.findClass own = some m.cls := by rw [← ho]; exact findClass_of_methodNamed B.named
  have hlen : (lg_sl (as.map (ztr ad))).length ≤ nL := by rw [zent_len]; omega
  have hl := lv_entry (as.map (ztr ad)) (n := nL) hlen
  rw [lg_entry_eq]
  refine h p l e s m _ below meth c D ad c3 s.heap [] _ ⟨B.exec, B.bytes, hml, B.returns, B.notSynchronized, hown, fun w hw => hts w (List.mem_cons_of_mem _ hw), hinj, hK, hX, fun _ h => h, trivial⟩ hP va_S.rf ⟨hl.1, hl.2.1, fun i v hi => ?_⟩
  by_cases c1 : i < (zent as).length
  · rw [List.getElem?_append_left c1] at hi
    have := zent_in ad as 0 i v hi
    rw [Nat.zero_add] at this
    exact hl.2.2 _ this
  · rw [List.getElem?_append_right (by omega), List.getElem?_replicate] at hi
    split at hi <;> cases hi
