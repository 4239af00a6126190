/-! THE FRAME: the machine behind one simple judgement. The world: ints by place and index, longs by place and index; a reference is a place. -/
/-- the tables' words that hold at every call, too -/
def zT : List Cond := lw_tbl.filter goodWord
abbrev zW : Type := (Nat → Nat → Int32) × (Nat → Nat → Int64)
abbrev zC3 : Type := ClassId × ClassId × ClassId
def zsf (w : zW) (o k : Nat) (v : Int32) : zW := (fun a b => if a = o ∧ b = k then v else w.1 a b, w.2)
def zsg (w : zW) (o k : Nat) (v : Int64) : zW := (w.1, fun a b => if a = o ∧ b = k then v else w.2 a b)
def zcf (w : zW) (o : Nat) (f : Nat → Int32) : zW := (fun a b => if a = o then f b else w.1 a b, w.2)
def zcg (w : zW) (o : Nat) (f : Nat → Int64) : zW := (w.1, fun a b => if a = o then f b else w.2 a b)
def zIsLand (o : Nat) : Prop := o = 10 ∨ o = 20 ∨ o = 30
def zIsSheet (o : Nat) : Prop := o = 50 ∨ o = 52 ∨ o = 54 ∨ o = 56
def zIsStr (o : Nat) : Prop := ∃ k : Nat, k < 13 ∧ o = 100 + k
/-- what lies at a place: an object (its number in vwCl, its fields: 0 int, 1 long, q + 2 a reference to q), a row of ints, of longs, of references -/
def zlay (o : Nat) : Nat × Nat × List Nat :=
  if o = 10 ∨ o = 20 ∨ o = 30 then (0, 0, [0, o + 3, 0, 0, o + 4, o + 5, o + 6, 0, 0, 0, o + 7, o + 8, o + 9, o + 10, o + 11])
  else if o = 50 ∨ o = 52 ∨ o = 54 ∨ o = 56 then (0, 1, [0, 0, o + 3])
  else if o = 0 then (0, 4, [12, 22, 32, 42, 45, 47, 48, 0])
  else if o = 40 then (0, 3, [43, 44, 0, 0, 0, 0, 0, 0, 0])
  else if o = 43 then (0, 2, [46, 0, 0, 0, 0, 0])
  else if o = 60 then (0, 5, [63, 64, 65, 0, 0, 66, 67, 0, 0, 0, 0, 1, 0, 0, 68, 69, 70, 71, 72, 73, 0])
  else if o = 11 ∨ o = 21 ∨ o = 31 then (1, 12, [])
  else if o = 12 ∨ o = 22 ∨ o = 32 ∨ o = 13 ∨ o = 23 ∨ o = 33 ∨ o = 14 ∨ o = 24 ∨ o = 34 then (1, 24, [])
  else if o < 40 then (1, 10, [])
  else if o = 41 ∨ o = 42 then (1, 144, [])
  else if o = 44 ∨ o = 65 then (1, 120, [])
  else if o = 45 then (3, 4, [50, 52, 54, 56])
  else if o = 46 ∨ o = 62 then (1, 7, [])
  else if o = 51 ∨ o = 53 ∨ o = 55 ∨ o = 57 ∨ o = 69 then (2, 40, [])
  else if o = 61 ∨ o = 64 ∨ o = 70 ∨ o = 71 then (1, 151, [])
  else if o = 63 then (1, 12, [])
  else if o = 68 then (2, 160, [])
  else (1, 4, [])
def zpls : List Nat := [0, 10, 11, 12, 13, 14, 15, 16, 17, 18, 19, 20, 21, 22, 23, 24, 25, 26, 27, 28, 29, 30, 31, 32, 33, 34, 35, 36, 37, 38, 39, 40, 41, 42, 43, 44, 45, 46, 50, 51, 52, 53, 54, 55, 56, 57, 60, 61, 62, 63, 64, 65, 66, 67, 68, 69, 70, 71]
def zAt (o : Nat) (x : Nat × Nat × List Nat) : Prop := o ∈ zpls ∧ zlay o = x
def zval (ad : Nat → Nat) (w : zW) (o k q : Nat) : Value := match q with
  | 0 => .int (w.1 o k)
  | 1 => .long (w.2 o k)
  | q + 2 => .ref (ad q)
def zfs (ad : Nat → Nat) (w : zW) (o : Nat) : Nat → List Nat → List Value
  | _, [] => []
  | k, q :: qs => zval ad w o k q :: zfs ad w o (k + 1) qs
def zcellOf (ad : Nat → Nat) (c3 : zC3) (w : zW) (o : Nat) (x : Nat × Nat × List Nat) : va_E := match x with
  | (0, ci, fk) => .inr (ci, zfs ad w o 0 fk)
  | (1, n, _) => .inl (c3.1, n, .inl (w.1 o))
  | (2, n, _) => .inl (c3.2.1, n, .inr (.inl (w.2 o)))
  | (_, n, rs) => .inl (c3.2.2, n, .inr (.inr (.inr (.inr (fun i => (rs[i]?).map ad)))))
def zcell (ad : Nat → Nat) (c3 : zC3) (w : zW) (o : Nat) : va_E := zcellOf ad c3 w o (zlay o)
def zws (ad : Nat → Nat) (c3 : zC3) (w : zW) : va_W := zpls.map (fun o => (ad o, zcell ad c3 w o))
def ztr (ad : Nat → Nat) (v : Value) : Value := match v with
  | .ref o => .ref (ad o)
  | .int x => .int x
  | .long x => .long x
  | .float x => .float x
  | .double x => .double x
  | .null => .null
  | .retAddr x => .retAddr x
def zA (ad : Nat → Nat) : Nat → Prop := fun q => ∃ o, o ∈ zpls ∧ q = ad o
def zInj (ad : Nat → Nat) : Prop := ∀ a b : Nat, a ∈ zpls → b ∈ zpls → ad a = ad b → a = b
def ztys (c3 : zC3) : List (ClassId × FieldType) := [(c3.1, .int), (c3.2.1, .long), (c3.2.2, .object "DownhillPost$Sheet")]
theorem zfs_get (ad : Nat → Nat) (w : zW) (o : Nat) : ∀ (qs : List Nat) (k i : Nat), (zfs ad w o k qs)[i]? = (qs[i]?).map (fun q => zval ad w o (k + i) q) := by
  intro qs
  induction qs with
  | nil => intro k i; simp [zfs]
  | cons q qs ih =>
    intro k i
    cases i with
    | zero => simp [zfs]
    | succ i => simp only [zfs, List.getElem?_cons_succ]; rw [ih (k + 1) i, show k + 1 + i = k + (i + 1) by omega]
theorem zfs_len (ad : Nat → Nat) (w : zW) (o : Nat) : ∀ (qs : List Nat) (k : Nat), (zfs ad w o k qs).length = qs.length := by
  intro qs
  induction qs with
  | nil => intro k; rfl
  | cons q qs ih => intro k; simp [zfs, ih]
theorem zpls_ix : ∀ i, i < 58 → zpls.idxOf (zpls.getD i 0) = i := by decide +kernel
theorem zpls_one {i j o : Nat} (hi : zpls[i]? = some o) (hj : zpls[j]? = some o) : i = j := by
  have li : i < 58 := (List.getElem?_eq_some_iff.mp hi).1
  have lj : j < 58 := (List.getElem?_eq_some_iff.mp hj).1
  have a := zpls_ix i li
  have b := zpls_ix j lj
  rw [List.getD_eq_getElem?_getD, hi] at a
  rw [List.getD_eq_getElem?_getD, hj] at b
  exact a.symm.trans b
theorem zws_get {ad : Nat → Nat} {c3 : zC3} {w : zW} {i o : Nat} (h : zpls[i]? = some o) : (zws ad c3 w)[i]? = some (ad o, zcell ad c3 w o) := by
  unfold zws
  rw [List.getElem?_map, h]
  rfl
theorem zws_inv {ad : Nat → Nat} {c3 : zC3} {w : zW} {i : Nat} {q : Nat × va_E} (h : (zws ad c3 w)[i]? = some q) : ∃ o, zpls[i]? = some o ∧ q = (ad o, zcell ad c3 w o) := by
  unfold zws at h
  rw [List.getElem?_map] at h
  cases ho : zpls[i]? with
  | none => rw [ho] at h; cases h
  | some o => rw [ho] at h; cases h; exact ⟨o, rfl, rfl⟩
theorem zAt.ix {o : Nat} {x : Nat × Nat × List Nat} (h : zAt o x) : ∃ i : Nat, zpls[i]? = some o := List.getElem?_of_mem h.1
theorem zAt.cell {ad : Nat → Nat} {c3 : zC3} {w : zW} {o : Nat} {x : Nat × Nat × List Nat} (h : zAt o x) : zcell ad c3 w o = zcellOf ad c3 w o x := by
  unfold zcell
  rw [h.2]
theorem zws_set {ad : Nat → Nat} {c3 : zC3} {w w' : zW} {i o : Nat} (h : zpls[i]? = some o) (hk : ∀ o', o' ≠ o → zcell ad c3 w' o' = zcell ad c3 w o') : (zws ad c3 w).set i (ad o, zcell ad c3 w' o) = zws ad c3 w' := by
  apply List.ext_getElem?
  intro j
  have li : i < 58 := (List.getElem?_eq_some_iff.mp h).1
  by_cases e : i = j
  · subst e
    rw [zws_get h, List.getElem?_set_self]
    show i < (zws ad c3 w).length
    unfold zws
    rw [List.length_map]
    exact li
  · rw [List.getElem?_set_ne e]
    cases hj : zpls[j]? with
    | none => unfold zws; rw [List.getElem?_map, List.getElem?_map, hj]; rfl
    | some o' =>
      rw [zws_get hj, zws_get hj, hk o' (fun e2 => e (zpls_one h (e2 ▸ hj)))]
theorem zD {ad : Nat → Nat} {c3 : zC3} {w : zW} {A : Nat → Prop} (hi : zInj ad) (hA : ∀ q, zA ad q → A q) : va_D A (zws ad c3 w) := by
  refine ⟨fun i j p q h1 h2 e => ?_, fun k q h => ?_⟩
  · obtain ⟨o1, a1, rfl⟩ := zws_inv h1
    obtain ⟨o2, a2, rfl⟩ := zws_inv h2
    have e2 := hi o1 o2 (List.mem_of_getElem? a1) (List.mem_of_getElem? a2) e
    subst e2
    exact zpls_one a1 a2
  · obtain ⟨o, a, rfl⟩ := zws_inv h
    exact hA _ ⟨o, List.mem_of_getElem? a, rfl⟩
theorem zfs_other {ad : Nat → Nat} {w w' : zW} {o : Nat} (h1 : w'.1 o = w.1 o) (h2 : w'.2 o = w.2 o) : ∀ (qs : List Nat) (k : Nat), zfs ad w' o k qs = zfs ad w o k qs := by
  intro qs
  induction qs with
  | nil => intro k; rfl
  | cons q qs ih =>
    intro k
    have e : zval ad w' o k q = zval ad w o k q := by
      match q with
      | 0 => simp [zval, h1]
      | 1 => simp [zval, h2]
      | q + 2 => rfl
    simp [zfs, ih, e]
theorem zcell_other {ad : Nat → Nat} {c3 : zC3} {w w' : zW} {o : Nat} (h1 : w'.1 o = w.1 o) (h2 : w'.2 o = w.2 o) : zcell ad c3 w' o = zcell ad c3 w o := by
  unfold zcell zcellOf
  split <;> simp [h1, h2, zfs_other h1 h2]
theorem zcell_sf {ad : Nat → Nat} {c3 : zC3} {w : zW} {o k : Nat} {v : Int32} : ∀ o', o' ≠ o → zcell ad c3 (zsf w o k v) o' = zcell ad c3 w o' := fun o' h => zcell_other (by funext b; simp [zsf, h]) rfl
theorem zcell_sg {ad : Nat → Nat} {c3 : zC3} {w : zW} {o k : Nat} {v : Int64} : ∀ o', o' ≠ o → zcell ad c3 (zsg w o k v) o' = zcell ad c3 w o' := fun o' h => zcell_other rfl (by funext b; simp [zsg, h])
theorem zcell_cf {ad : Nat → Nat} {c3 : zC3} {w : zW} {o : Nat} {f : Nat → Int32} : ∀ o', o' ≠ o → zcell ad c3 (zcf w o f) o' = zcell ad c3 w o' := fun o' h => zcell_other (by funext b; simp [zcf, h]) rfl
theorem zcell_cg {ad : Nat → Nat} {c3 : zC3} {w : zW} {o : Nat} {f : Nat → Int64} : ∀ o', o' ≠ o → zcell ad c3 (zcg w o f) o' = zcell ad c3 w o' := fun o' h => zcell_other rfl (by funext b; simp [zcg, h])
/-- what lies outside the world: String constants, the static row ABOVE, String's and the others' statics -/
def zlen : List Nat := [7, 6, 4, 2, 4, 5, 5, 5, 5, 7, 4, 6, 6]
def zbyt : List (List Int32) := [[118, 105, 108, 108, 97, 103, 101], [104, 101, 114, 109, 105, 116], [114, 111, 97, 100], [116, 111], [100, 97, 121, 115], [115, 108, 105, 100, 101], [101, 118, 101, 114, 121], [113, 117, 105, 99, 107], [104, 101, 97, 118, 121], [102, 101, 97, 116, 104, 101, 114], [98, 105, 108, 108], [115, 101, 99, 114, 101, 116], [108, 101, 116, 116, 101, 114]]
def zstr : List (Nat × String) := [(34, "village"), (78, "hermit"), (43, "road"), (90, "to"), (95, "days"), (48, "slide"), (53, "every"), (120, "quick"), (122, "heavy"), (124, "feather"), (126, "bill"), (128, "secret"), (130, "letter")]
def zabove : List Int32 := [-1, 0, 0, 0, 2, 3]
def zX (ad : Nat → Nat) (A : Nat → Prop) (U : State) (H : Heap) : Prop :=
  vk_S 13 zlen zbyt (fun k => ad (100 + k)) (fun k => ad (200 + k)) A U H ∧ (∀ (k : Nat) (q : Nat × String), zstr[k]? = some q → vk_R RX1 q.1 q.2 (ad (100 + k)) U) ∧ va_Z "DownhillPost$Post" "ABOVE" "[I" (.ref (ad 80)) A U H ∧ va_T .int (ad 80) 6 (fun j => .int (zabove.getD j 0)) A U H ∧ va_Z "java/lang/String" "COMPACT_STRINGS" "Z" (.int 1) A U H ∧ (va_Z "jdk/internal/util/Preconditions" "SIOOBE_FORMATTER" "Ljava/util/function/BiFunction;" .null A U H ∨ va_Z "jdk/internal/util/Preconditions" "SIOOBE_FORMATTER" "Ljava/util/function/BiFunction;" (.ref (ad 85)) A U H)
theorem zX.go {ad : Nat → Nat} {A B : Nat → Prop} {s U : State} {H0 H : Heap} (h : zX ad A s H0) (hW : s.WarmedH U.vm) (hq : ∀ a : Nat, a < H0.size → ¬ A a → H[a]? = H0[a]?) (hAB : ∀ q, B q → A q) : zX ad B U H := by
  obtain ⟨h1, h2, h3, h4, h5, h6⟩ := h
  exact ⟨((h1.kept hq).moved hW.alike).narrow hAB, fun k q hk => (h2 k q hk).warm hW, ((h3.kept hq).moved hW.alike).narrow hAB, ((h4.kept hq).moved hW.alike).narrow hAB, ((h5.kept hq).moved hW.alike).narrow hAB, by
    rcases h6 with h6 | h6
    · exact Or.inl (((h6.kept hq).moved hW.alike).narrow hAB)
    · exact Or.inr (((h6.kept hq).moved hW.alike).narrow hAB)⟩
theorem zX.same {ad : Nat → Nat} {A : Nat → Prop} {u U : State} {H : Heap} (hv : U.vm = u.vm) (h : zX ad A u H) : zX ad A U H := by
  obtain ⟨h1, h2, h3, h4, h5, h6⟩ := h
  have ha : u.vm.Alike U.vm := by rw [hv]; exact Vm.Alike.refl _
  exact ⟨h1.moved ha, fun k q hk => (h2 k q hk).same hv, h3.moved ha, h4.moved ha, h5.moved ha, h6.imp (fun h => h.moved ha) (fun h => h.moved ha)⟩
/-- the locals: what is known of each -/
def zL (ad : Nat → Nat) (nL : Nat) (la : Array Slot) (ls : List (Option Value)) : Prop := la.size = nL ∧ lv_wf la ∧ ∀ (i : Nat) (v : Value), ls[i]? = some (some v) → la[i]? = some (.val (ztr ad v))
/-- what is the same all along a method: locals' number, answer's type, room, cells made so far, what it may write, a premise of its own, where it ends -/
abbrev zB : Type := Nat × Option FieldType × Room × (Nat × Nat) × (State → (Nat → Nat) → Nat → Prop) × (State → (Nat → Nat) → Prop) × (State → Array Value → List Frame → va_G → (Nat → Nat) → zC3 → State → Prop)
def zCx (own : String) (cc : ByteArray) (B : zB) (p : Program) (s : State) (m : MethodId) (args : Array Value) (meth : Method) (c : Code) (D : va_G) (ad : Nat → Nat) (c3 : zC3) : Prop :=
  p.tables.exec = Jvm.exec ∧ c.code = cc ∧ c.maxLocals = B.1 ∧ meth.sig.returnType = B.2.1 ∧ meth.locks = false ∧ s.vm.findClass own = some m.cls ∧ (∀ w ∈ zT, w.before args s = true) ∧ zInj ad ∧ va_K D vwCl (ztys c3) s ∧ zX ad (B.2.2.2.2.1 s ad) s s.heap ∧ (∀ q, zA ad q → B.2.2.2.2.1 s ad q) ∧ B.2.2.2.2.2.1 s ad
def zWP (own : String) (cc : ByteArray) (B : zB) (pc : Nat) (ls : List (Option Value)) (st : List Value) (w : zW) : Prop :=
  ∀ (p : Program) (l : Launch) (e : Env) (s : State) (m : MethodId) (args : Array Value) (below : List Frame) (meth : Method) (c : Code) (D : va_G) (ad : Nat → Nat) (c3 : zC3) (H : Heap) (locs : List Loc) (la : Array Slot),
    zCx own cc B p s m args meth c D ad c3 → va_P D vwCl (zws ad c3 w) H → va_S (B.2.2.2.2.1 s ad) s.heap H locs → zL ad B.1 la ls →
    W p l e B.2.2.1 s m args below meth c H locs B.2.2.2.1.1 B.2.2.2.1.2 (B.2.2.2.2.2.2 s args below D ad c3) (F0 m pc la (st.map (ztr ad)))
/-- a method's end: the answer and the world behind it -/
def zQc (D : va_G) (ad : Nat → Nat) (c3 : zC3) (Q : Option Value → zW → Prop) : Array Value → State → Outcome → State → Prop := fun _ st o t =>
  (∃ (r : Option Value) (w' : zW), o = .returned (r.map (ztr ad)) ∧ Q r w' ∧ va_P D vwCl (zws ad c3 w') t.heap) ∧ va_F (zA ad) st t
def zR (d : Nat) : Room := { frames := d, cells := 0, slots := 0, locals := 40 * d }
abbrev zMB (nL : Nat) (ret : Option FieldType) (d : Nat) (Q : Option Value → zW → Prop) : zB :=
  (nL, ret, zR d, (0, 0), fun _ ad => zA ad, fun _ _ => True, fun s args below D ad c3 => MQ below (zQc D ad c3 Q) args s 0 0 (zA ad))
def zPc (D : va_G) (ad : Nat → Nat) (c3 : zC3) (as : List Value) (w : zW) : Array Value → State → Prop := va_Pc (as.map (ztr ad)) (fun U => va_P D vwCl (zws ad c3 w) U.heap ∧ va_K D vwCl (ztys c3) U ∧ zX ad (zA ad) U U.heap)
def zRun (y : MethodName) (cc : ByteArray) (nL : Nat) (ret : Option FieldType) (d : Nat) (as : List Value) (w : zW) (Q : Option Value → zW → Prop) : Prop :=
  ∀ (l : Launch) (D : va_G) (ad : Nat → Nat) (c3 : zC3), zInj ad → Met l y (.code y cc nL ret :: zT) (zR d) (zPc D ad c3 as w) (zQc D ad c3 Q) 0 0 (zA ad)
