theorem ztr_cat (ad : Nat → Nat) (v : Value) : (ztr ad v).category = v.category := by cases v <;> rfl
def zll (ad : Nat → Nat) (ls : List (Option Value)) : List (Nat × Value) := (List.range ls.length).filterMap (fun i => match ls[i]? with | some (some v) => some (i, ztr ad v) | _ => none)
theorem zll_in (ad : Nat → Nat) {ls : List (Option Value)} {i : Nat} {v : Value} (h : ls[i]? = some (some v)) : (i, ztr ad v) ∈ zll ad ls := by
  unfold zll
  refine List.mem_filterMap.mpr ⟨i, List.mem_range.mpr (List.getElem?_eq_some_iff.mp h).1, ?_⟩
  rw [h]
theorem zll_out {ad : Nat → Nat} {ls : List (Option Value)} {q : Nat × Value} (h : q ∈ zll ad ls) : ∃ v, ls[q.1]? = some (some v) ∧ q.2 = ztr ad v := by
  unfold zll at h
  obtain ⟨i, -, h⟩ := List.mem_filterMap.mp h
  match hv : ls[i]? with
  | none => rw [hv] at h; cases h
  | some none => rw [hv] at h; cases h
  | some (some v) => rw [hv] at h; cases h; exact ⟨v, hv, rfl⟩
theorem zL.has {ad : Nat → Nat} {nL : Nat} {la : Array Slot} {ls : List (Option Value)} (h : zL ad nL la ls) : lv_has la nL (zll ad ls) := by
  refine ⟨h.1, h.2.1, fun q hq => ?_⟩
  obtain ⟨v, h1, h2⟩ := zll_out hq
  rw [h2]
  exact h.2.2 _ _ h1
/-- no long lies just ahead of a slot that is written -/
def zok (ls : List (Option Value)) (i : Nat) : Bool := match i with
  | 0 => true
  | j + 1 => match ls[j]? with
    | some (some (.long _)) => false
    | some (some (.double _)) => false
    | _ => true
theorem zok_cat {ad : Nat → Nat} {ls : List (Option Value)} {i j : Nat} {v : Value} (hz : zok ls i = true) (hj : ls[j]? = some (some v)) (e : j + 1 = i) : ¬ (ztr ad v).category = 2 := by
  subst e
  simp only [zok, hj] at hz
  cases v <;> simp_all [ztr, Value.category]
theorem zL.set1 {ad : Nat → Nat} {nL : Nat} {la la2 : Array Slot} {ls : List (Option Value)} {i : Nat} {v : Value} (_ : zL ad nL la ls) (hz : zok ls i = true) {u : Value} (hu : ztr ad v = u) (h2 : lv_has la2 nL ((i, u) :: (zll ad ls).filter (fun q => !(q.1 == i) && !(q.1 + 1 == i && q.2.category == 2)))) : zL ad nL la2 (ls.set i (some v)) := by
  subst hu
  refine ⟨h2.1, h2.2.1, fun j x hx => ?_⟩
  by_cases e : i = j
  · subst e
    rw [List.getElem?_set] at hx
    simp only [if_true] at hx
    split at hx
    · cases hx; exact h2.2.2 _ List.mem_cons_self
    · cases hx
  · rw [List.getElem?_set_ne e] at hx
    refine h2.2.2 (j, ztr ad x) (List.mem_cons_of_mem _ (List.mem_filter.mpr ⟨zll_in ad hx, ?_⟩))
    have e1 : (j == i) = false := by simp [Ne.symm e]
    have e2 : (j + 1 == i && (ztr ad x).category == 2) = false := by
      by_cases q : j + 1 = i
      · have := zok_cat (ad := ad) hz hx q
        simp [this]
      · simp [q]
    simp [e1, e2]
theorem zL.set2 {ad : Nat → Nat} {nL : Nat} {la la2 : Array Slot} {ls : List (Option Value)} {i : Nat} {v : Value} (_ : zL ad nL la ls) (hz : zok ls i = true) {u : Value} (hu : ztr ad v = u) (h2 : lv_has la2 nL ((i, u) :: (zll ad ls).filter (fun q => !(q.1 == i) && (!(q.1 == i + 1) && !(q.1 + 1 == i && q.2.category == 2))))) : zL ad nL la2 ((ls.set i (some v)).set (i + 1) none) := by
  subst hu
  refine ⟨h2.1, h2.2.1, fun j x hx => ?_⟩
  by_cases e3 : i + 1 = j
  · subst e3
    rw [List.getElem?_set] at hx
    simp only [if_true] at hx
    split at hx <;> cases hx
  rw [List.getElem?_set_ne e3] at hx
  by_cases e : i = j
  · subst e
    rw [List.getElem?_set] at hx
    simp only [if_true] at hx
    split at hx
    · cases hx; exact h2.2.2 _ List.mem_cons_self
    · cases hx
  · rw [List.getElem?_set_ne e] at hx
    refine h2.2.2 (j, ztr ad x) (List.mem_cons_of_mem _ (List.mem_filter.mpr ⟨zll_in ad hx, ?_⟩))
    have e1 : (j == i) = false := by simp [Ne.symm e]
    have e4 : (j == i + 1) = false := by simp [Ne.symm e3]
    have e2 : (j + 1 == i && (ztr ad x).category == 2) = false := by
      by_cases q : j + 1 = i
      · have := zok_cat (ad := ad) hz hx q
        simp [this]
      · simp [q]
    simp [e1, e2, e4]
section ZROWS
variable {own : String} {cc : ByteArray} {B : zB} {pc : Nat} {ls : List (Option Value)} {st : List Value} {w : zW}
theorem zs_iadd {x y : Int32} (hd : decode cc pc = .ok (.iadd, 1)) (k : zWP own cc B (pc + 1) ls (.int (x + y) :: st) w) : zWP own cc B pc ls (.int y :: .int x :: st) w := by
  intro p l e s m args below meth c D ad c3 H locs la hC hP hS hL
  exact lv_iadd hC.1 hC.2.1 hd (k p l e s m args below meth c D ad c3 H locs la hC hP hS hL)
theorem zs_isub {x y : Int32} (hd : decode cc pc = .ok (.isub, 1)) (k : zWP own cc B (pc + 1) ls (.int (x - y) :: st) w) : zWP own cc B pc ls (.int y :: .int x :: st) w := by
  intro p l e s m args below meth c D ad c3 H locs la hC hP hS hL
  exact lv_isub hC.1 hC.2.1 hd (k p l e s m args below meth c D ad c3 H locs la hC hP hS hL)
theorem zs_imul {x y : Int32} (hd : decode cc pc = .ok (.imul, 1)) (k : zWP own cc B (pc + 1) ls (.int (x * y) :: st) w) : zWP own cc B pc ls (.int y :: .int x :: st) w := by
  intro p l e s m args below meth c D ad c3 H locs la hC hP hS hL
  exact lv_imul hC.1 hC.2.1 hd (k p l e s m args below meth c D ad c3 H locs la hC hP hS hL)
theorem zs_iand {x y : Int32} (hd : decode cc pc = .ok (.iand, 1)) (k : zWP own cc B (pc + 1) ls (.int (x &&& y) :: st) w) : zWP own cc B pc ls (.int y :: .int x :: st) w := by
  intro p l e s m args below meth c D ad c3 H locs la hC hP hS hL
  exact lv_iand hC.1 hC.2.1 hd (k p l e s m args below meth c D ad c3 H locs la hC hP hS hL)
theorem zs_ior {x y : Int32} (hd : decode cc pc = .ok (.ior, 1)) (k : zWP own cc B (pc + 1) ls (.int (x ||| y) :: st) w) : zWP own cc B pc ls (.int y :: .int x :: st) w := by
  intro p l e s m args below meth c D ad c3 H locs la hC hP hS hL
  exact lv_ior hC.1 hC.2.1 hd (k p l e s m args below meth c D ad c3 H locs la hC hP hS hL)
theorem zs_ixor {x y : Int32} (hd : decode cc pc = .ok (.ixor, 1)) (k : zWP own cc B (pc + 1) ls (.int (x ^^^ y) :: st) w) : zWP own cc B pc ls (.int y :: .int x :: st) w := by
  intro p l e s m args below meth c D ad c3 H locs la hC hP hS hL
  exact lv_ixor hC.1 hC.2.1 hd (k p l e s m args below meth c D ad c3 H locs la hC hP hS hL)
theorem zs_ishl {x y : Int32} (hd : decode cc pc = .ok (.ishl, 1)) (k : zWP own cc B (pc + 1) ls (.int (x <<< (y &&& 31)) :: st) w) : zWP own cc B pc ls (.int y :: .int x :: st) w := by
  intro p l e s m args below meth c D ad c3 H locs la hC hP hS hL
  exact lv_ishl hC.1 hC.2.1 hd (k p l e s m args below meth c D ad c3 H locs la hC hP hS hL)
theorem zs_ishr {x y : Int32} (hd : decode cc pc = .ok (.ishr, 1)) (k : zWP own cc B (pc + 1) ls (.int (x >>> (y &&& 31)) :: st) w) : zWP own cc B pc ls (.int y :: .int x :: st) w := by
  intro p l e s m args below meth c D ad c3 H locs la hC hP hS hL
  exact lv_ishr hC.1 hC.2.1 hd (k p l e s m args below meth c D ad c3 H locs la hC hP hS hL)
theorem zs_ladd {x y : Int64} (hd : decode cc pc = .ok (.ladd, 1)) (k : zWP own cc B (pc + 1) ls (.long (x + y) :: st) w) : zWP own cc B pc ls (.long y :: .long x :: st) w := by
  intro p l e s m args below meth c D ad c3 H locs la hC hP hS hL
  exact lv_ladd hC.1 hC.2.1 hd (k p l e s m args below meth c D ad c3 H locs la hC hP hS hL)
theorem zs_lsub {x y : Int64} (hd : decode cc pc = .ok (.lsub, 1)) (k : zWP own cc B (pc + 1) ls (.long (x - y) :: st) w) : zWP own cc B pc ls (.long y :: .long x :: st) w := by
  intro p l e s m args below meth c D ad c3 H locs la hC hP hS hL
  exact lv_lsub hC.1 hC.2.1 hd (k p l e s m args below meth c D ad c3 H locs la hC hP hS hL)
theorem zs_lmul {x y : Int64} (hd : decode cc pc = .ok (.lmul, 1)) (k : zWP own cc B (pc + 1) ls (.long (x * y) :: st) w) : zWP own cc B pc ls (.long y :: .long x :: st) w := by
  intro p l e s m args below meth c D ad c3 H locs la hC hP hS hL
  exact lv_lmul hC.1 hC.2.1 hd (k p l e s m args below meth c D ad c3 H locs la hC hP hS hL)
theorem zs_land {x y : Int64} (hd : decode cc pc = .ok (.land, 1)) (k : zWP own cc B (pc + 1) ls (.long (x &&& y) :: st) w) : zWP own cc B pc ls (.long y :: .long x :: st) w := by
  intro p l e s m args below meth c D ad c3 H locs la hC hP hS hL
  exact lv_land hC.1 hC.2.1 hd (k p l e s m args below meth c D ad c3 H locs la hC hP hS hL)
theorem zs_lor {x y : Int64} (hd : decode cc pc = .ok (.lor, 1)) (k : zWP own cc B (pc + 1) ls (.long (x ||| y) :: st) w) : zWP own cc B pc ls (.long y :: .long x :: st) w := by
  intro p l e s m args below meth c D ad c3 H locs la hC hP hS hL
  exact lv_lor hC.1 hC.2.1 hd (k p l e s m args below meth c D ad c3 H locs la hC hP hS hL)
theorem zs_idiv {x y : Int32} (hd : decode cc pc = .ok (.idiv, 1)) (hne : ¬ y = 0) (k : zWP own cc B (pc + 1) ls (.int (x / y) :: st) w) : zWP own cc B pc ls (.int y :: .int x :: st) w := by
  intro p l e s m args below meth c D ad c3 H locs la hC hP hS hL
  exact lv_idiv hC.1 hC.2.1 hd hne (k p l e s m args below meth c D ad c3 H locs la hC hP hS hL)
theorem zs_irem {x y : Int32} (hd : decode cc pc = .ok (.irem, 1)) (hne : ¬ y = 0) (k : zWP own cc B (pc + 1) ls (.int (x - x / y * y) :: st) w) : zWP own cc B pc ls (.int y :: .int x :: st) w := by
  intro p l e s m args below meth c D ad c3 H locs la hC hP hS hL
  exact lv_irem hC.1 hC.2.1 hd hne (k p l e s m args below meth c D ad c3 H locs la hC hP hS hL)
theorem zs_iushr {x y : Int32} (hd : decode cc pc = .ok (.iushr, 1)) (k : zWP own cc B (pc + 1) ls (.int ((x.toUInt32 >>> (y.toUInt32 &&& Int32.toUInt32 31)).toInt32) :: st) w) : zWP own cc B pc ls (.int y :: .int x :: st) w := by
  intro p l e s m args below meth c D ad c3 H locs la hC hP hS hL
  exact lv_iushr hC.1 hC.2.1 hd rfl (k p l e s m args below meth c D ad c3 H locs la hC hP hS hL)
theorem zs_ineg {x : Int32} (hd : decode cc pc = .ok (.ineg, 1)) (k : zWP own cc B (pc + 1) ls (.int (-x) :: st) w) : zWP own cc B pc ls (.int x :: st) w := by
  intro p l e s m args below meth c D ad c3 H locs la hC hP hS hL
  exact lv_ineg hC.1 hC.2.1 hd (k p l e s m args below meth c D ad c3 H locs la hC hP hS hL)
theorem zs_lshl {x : Int64} {y : Int32} (hd : decode cc pc = .ok (.lshl, 1)) (k : zWP own cc B (pc + 1) ls (.long (x <<< (y.toInt64 &&& 63)) :: st) w) : zWP own cc B pc ls (.int y :: .long x :: st) w := by
  intro p l e s m args below meth c D ad c3 H locs la hC hP hS hL
  exact lv_lshl hC.1 hC.2.1 hd rfl (k p l e s m args below meth c D ad c3 H locs la hC hP hS hL)
theorem zs_lshr {x : Int64} {y : Int32} (hd : decode cc pc = .ok (.lshr, 1)) (k : zWP own cc B (pc + 1) ls (.long (x >>> (y.toInt64 &&& 63)) :: st) w) : zWP own cc B pc ls (.int y :: .long x :: st) w := by
  intro p l e s m args below meth c D ad c3 H locs la hC hP hS hL
  exact lv_lshr hC.1 hC.2.1 hd rfl (k p l e s m args below meth c D ad c3 H locs la hC hP hS hL)
theorem zs_i2l {x : Int32} (hd : decode cc pc = .ok (.i2l, 1)) (k : zWP own cc B (pc + 1) ls (.long x.toInt64 :: st) w) : zWP own cc B pc ls (.int x :: st) w := by
  intro p l e s m args below meth c D ad c3 H locs la hC hP hS hL
  exact lv_i2l hC.1 hC.2.1 hd rfl (k p l e s m args below meth c D ad c3 H locs la hC hP hS hL)
theorem zs_l2i {x : Int64} (hd : decode cc pc = .ok (.l2i, 1)) (k : zWP own cc B (pc + 1) ls (.int x.toInt32 :: st) w) : zWP own cc B pc ls (.long x :: st) w := by
  intro p l e s m args below meth c D ad c3 H locs la hC hP hS hL
  exact lv_l2i hC.1 hC.2.1 hd rfl (k p l e s m args below meth c D ad c3 H locs la hC hP hS hL)
theorem zs_i2b {x : Int32} (hd : decode cc pc = .ok (.i2b, 1)) (k : zWP own cc B (pc + 1) ls (.int x.toInt8.toInt32 :: st) w) : zWP own cc B pc ls (.int x :: st) w := by
  intro p l e s m args below meth c D ad c3 H locs la hC hP hS hL
  exact lv_i2b hC.1 hC.2.1 hd rfl (k p l e s m args below meth c D ad c3 H locs la hC hP hS hL)
theorem zs_i2s {x : Int32} (hd : decode cc pc = .ok (.i2s, 1)) (k : zWP own cc B (pc + 1) ls (.int x.toInt16.toInt32 :: st) w) : zWP own cc B pc ls (.int x :: st) w := by
  intro p l e s m args below meth c D ad c3 H locs la hC hP hS hL
  exact lv_i2s hC.1 hC.2.1 hd rfl (k p l e s m args below meth c D ad c3 H locs la hC hP hS hL)
theorem zs_i2c {x : Int32} (hd : decode cc pc = .ok (.i2c, 1)) (k : zWP own cc B (pc + 1) ls (.int (x.toUInt32 % 65536).toInt32 :: st) w) : zWP own cc B pc ls (.int x :: st) w := by
  intro p l e s m args below meth c D ad c3 H locs la hC hP hS hL
  exact lv_i2c hC.1 hC.2.1 hd rfl (k p l e s m args below meth c D ad c3 H locs la hC hP hS hL)
theorem zs_lcmp {x y : Int64} (hd : decode cc pc = .ok (.lcmp, 1)) (k : zWP own cc B (pc + 1) ls (.int (lg_cmp x y) :: st) w) : zWP own cc B pc ls (.long y :: .long x :: st) w := by
  intro p l e s m args below meth c D ad c3 H locs la hC hP hS hL
  exact W.lcmp hC.1 hC.2.1 hd (k p l e s m args below meth c D ad c3 H locs la hC hP hS hL)
theorem zs_iconst {n : Int} (v : Int32) (hd : decode cc pc = .ok (.iconst n, 1)) (hv : Int32.ofInt n = v) (k : zWP own cc B (pc + 1) ls (.int v :: st) w) : zWP own cc B pc ls st w := by
  intro p l e s m args below meth c D ad c3 H locs la hC hP hS hL
  exact lv_iconst hC.1 hC.2.1 hd hv (k p l e s m args below meth c D ad c3 H locs la hC hP hS hL)
theorem zs_bipush {n : Int} (v : Int32) (hd : decode cc pc = .ok (.bipush n, 2)) (hv : (Int8.ofInt n).toInt32 = v) (k : zWP own cc B (pc + 2) ls (.int v :: st) w) : zWP own cc B pc ls st w := by
  intro p l e s m args below meth c D ad c3 H locs la hC hP hS hL
  exact lv_bipush hC.1 hC.2.1 hd hv (k p l e s m args below meth c D ad c3 H locs la hC hP hS hL)
theorem zs_sipush {n : Int} (v : Int32) (hd : decode cc pc = .ok (.sipush n, 3)) (hv : (Int16.ofInt n).toInt32 = v) (k : zWP own cc B (pc + 3) ls (.int v :: st) w) : zWP own cc B pc ls st w := by
  intro p l e s m args below meth c D ad c3 H locs la hC hP hS hL
  exact lv_sipush hC.1 hC.2.1 hd hv (k p l e s m args below meth c D ad c3 H locs la hC hP hS hL)
theorem zs_lconst {n : Fin 2} (v : Int64) (hd : decode cc pc = .ok (.lconst n, 1)) (hv : Int64.ofNat (n : Nat) = v) (k : zWP own cc B (pc + 1) ls (.long v :: st) w) : zWP own cc B pc ls st w := by
  intro p l e s m args below meth c D ad c3 H locs la hC hP hS hL
  exact lv_lconst hC.1 hC.2.1 hd hv (k p l e s m args below meth c D ad c3 H locs la hC hP hS hL)
theorem zs_ldc {i : Nat} {v : Int32} (hw : Cond.constant own i v ∈ zT) (hd : decode cc pc = .ok (.ldc i, 2)) (k : zWP own cc B (pc + 2) ls (.int v :: st) w) : zWP own cc B pc ls st w := by
  intro p l e s m args below meth c D ad c3 H locs la hC hP hS hL
  exact lv_ldc hC.1 hC.2.1 hC.2.2.2.2.2.1 (hC.2.2.2.2.2.2.1 _ hw) hd (k p l e s m args below meth c D ad c3 H locs la hC hP hS hL)
theorem zs_ldc_w {i : Nat} {v : Int32} (hw : Cond.constant own i v ∈ zT) (hd : decode cc pc = .ok (.ldc_w i, 3)) (k : zWP own cc B (pc + 3) ls (.int v :: st) w) : zWP own cc B pc ls st w := by
  intro p l e s m args below meth c D ad c3 H locs la hC hP hS hL
  exact lv_ldcw hC.1 hC.2.1 hC.2.2.2.2.2.1 (hC.2.2.2.2.2.2.1 _ hw) hd (k p l e s m args below meth c D ad c3 H locs la hC hP hS hL)
theorem zs_ldc2_w {i : Nat} {v : Int64} (hw : Cond.constantLong own i v ∈ zT) (hd : decode cc pc = .ok (.ldc2_w i, 3)) (k : zWP own cc B (pc + 3) ls (.long v :: st) w) : zWP own cc B pc ls st w := by
  intro p l e s m args below meth c D ad c3 H locs la hC hP hS hL
  exact lv_ldc2 hC.1 hC.2.1 hC.2.2.2.2.2.1 (hC.2.2.2.2.2.2.1 _ hw) hd (k p l e s m args below meth c D ad c3 H locs la hC hP hS hL)
theorem zs_iload_n {j : Fin 4} {x : Int32} (hd : decode cc pc = .ok (.iload_n j, 1)) (hl : ls[(j : Nat)]? = some (some (.int x))) (k : zWP own cc B (pc + 1) ls (.int x :: st) w) : zWP own cc B pc ls st w := by
  intro p l e s m args below meth c D ad c3 H locs la hC hP hS hL
  exact lv_iload_n hC.1 hC.2.1 hd rfl (hL.2.2 _ _ hl) (k p l e s m args below meth c D ad c3 H locs la hC hP hS hL)
theorem zs_iload {j : Nat} {x : Int32} (hd : decode cc pc = .ok (.iload j, 2)) (hl : ls[j]? = some (some (.int x))) (k : zWP own cc B (pc + 2) ls (.int x :: st) w) : zWP own cc B pc ls st w := by
  intro p l e s m args below meth c D ad c3 H locs la hC hP hS hL
  exact lv_iload hC.1 hC.2.1 hd (hL.2.2 _ _ hl) (k p l e s m args below meth c D ad c3 H locs la hC hP hS hL)
theorem zs_lload_n {j : Fin 4} {x : Int64} (hd : decode cc pc = .ok (.lload_n j, 1)) (hl : ls[(j : Nat)]? = some (some (.long x))) (k : zWP own cc B (pc + 1) ls (.long x :: st) w) : zWP own cc B pc ls st w := by
  intro p l e s m args below meth c D ad c3 H locs la hC hP hS hL
  exact lv_lload_n hC.1 hC.2.1 hd rfl (hL.2.2 _ _ hl) (k p l e s m args below meth c D ad c3 H locs la hC hP hS hL)
theorem zs_lload {j : Nat} {x : Int64} (hd : decode cc pc = .ok (.lload j, 2)) (hl : ls[j]? = some (some (.long x))) (k : zWP own cc B (pc + 2) ls (.long x :: st) w) : zWP own cc B pc ls st w := by
  intro p l e s m args below meth c D ad c3 H locs la hC hP hS hL
  exact lv_lload hC.1 hC.2.1 hd (hL.2.2 _ _ hl) (k p l e s m args below meth c D ad c3 H locs la hC hP hS hL)
theorem zs_aload_n {j : Fin 4} {x : Nat} (hd : decode cc pc = .ok (.aload_n j, 1)) (hl : ls[(j : Nat)]? = some (some (.ref x))) (k : zWP own cc B (pc + 1) ls (.ref x :: st) w) : zWP own cc B pc ls st w := by
  intro p l e s m args below meth c D ad c3 H locs la hC hP hS hL
  exact lv_aload_n hC.1 hC.2.1 hd rfl (hL.2.2 _ _ hl) (k p l e s m args below meth c D ad c3 H locs la hC hP hS hL)
theorem zs_aload {j : Nat} {x : Nat} (hd : decode cc pc = .ok (.aload j, 2)) (hl : ls[j]? = some (some (.ref x))) (k : zWP own cc B (pc + 2) ls (.ref x :: st) w) : zWP own cc B pc ls st w := by
  intro p l e s m args below meth c D ad c3 H locs la hC hP hS hL
  exact lv_aload hC.1 hC.2.1 hd (hL.2.2 _ _ hl) (k p l e s m args below meth c D ad c3 H locs la hC hP hS hL)
theorem zs_aload_nN {j : Fin 4} (hd : decode cc pc = .ok (.aload_n j, 1)) (hl : ls[(j : Nat)]? = some (some .null)) (k : zWP own cc B (pc + 1) ls (.null :: st) w) : zWP own cc B pc ls st w := by
  intro p l e s m args below meth c D ad c3 H locs la hC hP hS hL
  exact lv_aload_nN hC.1 hC.2.1 hd rfl (hL.2.2 _ _ hl) (k p l e s m args below meth c D ad c3 H locs la hC hP hS hL)
theorem zs_aloadN {j : Nat} (hd : decode cc pc = .ok (.aload j, 2)) (hl : ls[j]? = some (some .null)) (k : zWP own cc B (pc + 2) ls (.null :: st) w) : zWP own cc B pc ls st w := by
  intro p l e s m args below meth c D ad c3 H locs la hC hP hS hL
  exact lv_aloadN hC.1 hC.2.1 hd (hL.2.2 _ _ hl) (k p l e s m args below meth c D ad c3 H locs la hC hP hS hL)
theorem zs_dup {v : Value} (hd : decode cc pc = .ok (.dup, 1)) (hc : v.category = 1) (k : zWP own cc B (pc + 1) ls (v :: v :: st) w) : zWP own cc B pc ls (v :: st) w := by
  intro p l e s m args below meth c D ad c3 H locs la hC hP hS hL
  exact lv_dup hC.1 hC.2.1 hd ((ztr_cat ad v).trans hc) (k p l e s m args below meth c D ad c3 H locs la hC hP hS hL)
theorem zs_dup2 {v u : Value} (hd : decode cc pc = .ok (.dup2, 1)) (hc : v.category = 1) (hc2 : u.category = 1) (k : zWP own cc B (pc + 1) ls (v :: u :: v :: u :: st) w) : zWP own cc B pc ls (v :: u :: st) w := by
  intro p l e s m args below meth c D ad c3 H locs la hC hP hS hL
  exact lv_dup2_11 hC.1 hC.2.1 hd ((ztr_cat ad v).trans hc) ((ztr_cat ad u).trans hc2) (k p l e s m args below meth c D ad c3 H locs la hC hP hS hL)
theorem zs_dup_x1 {v u : Value} (hd : decode cc pc = .ok (.dup_x1, 1)) (hc : v.category = 1) (hc2 : u.category = 1) (k : zWP own cc B (pc + 1) ls (v :: u :: v :: st) w) : zWP own cc B pc ls (v :: u :: st) w := by
  intro p l e s m args below meth c D ad c3 H locs la hC hP hS hL
  exact lv_dup_x1 hC.1 hC.2.1 hd ((ztr_cat ad v).trans hc) ((ztr_cat ad u).trans hc2) (k p l e s m args below meth c D ad c3 H locs la hC hP hS hL)
theorem zs_pop {v : Value} (hd : decode cc pc = .ok (.pop, 1)) (hc : v.category = 1) (k : zWP own cc B (pc + 1) ls st w) : zWP own cc B pc ls (v :: st) w := by
  intro p l e s m args below meth c D ad c3 H locs la hC hP hS hL
  exact lv_pop hC.1 hC.2.1 hd ((ztr_cat ad v).trans hc) (k p l e s m args below meth c D ad c3 H locs la hC hP hS hL)
theorem zs_goto {off : Int} (tgt : Nat) (hd : decode cc pc = .ok (.goto off, 3)) (ht : (pc : Int) + off = (tgt : Int)) (k : zWP own cc B tgt ls st w) : zWP own cc B pc ls st w := by
  intro p l e s m args below meth c D ad c3 H locs la hC hP hS hL
  exact lv_goto hC.1 hC.2.1 hd ht (k p l e s m args below meth c D ad c3 H locs la hC hP hS hL)
theorem zs_ifnonnull {x : Nat} {off : Int} (tgt : Nat) (hd : decode cc pc = .ok (.ifnonnull off, 3)) (ht : (pc : Int) + off = (tgt : Int)) (k : zWP own cc B tgt ls st w) : zWP own cc B pc ls (.ref x :: st) w := by
  intro p l e s m args below meth c D ad c3 H locs la hC hP hS hL
  exact lv_ifnonnull hC.1 hC.2.1 hd ht (k p l e s m args below meth c D ad c3 H locs la hC hP hS hL)
theorem zs_ifnull {x : Nat} {off : Int} (hd : decode cc pc = .ok (.ifnull off, 3)) (k : zWP own cc B (pc + 3) ls st w) : zWP own cc B pc ls (.ref x :: st) w := by
  intro p l e s m args below meth c D ad c3 H locs la hC hP hS hL
  exact lv_ifnull hC.1 hC.2.1 hd (k p l e s m args below meth c D ad c3 H locs la hC hP hS hL)
theorem zs_ifnullN {off : Int} (tgt : Nat) (hd : decode cc pc = .ok (.ifnull off, 3)) (ht : (pc : Int) + off = (tgt : Int)) (k : zWP own cc B tgt ls st w) : zWP own cc B pc ls (.null :: st) w := by
  intro p l e s m args below meth c D ad c3 H locs la hC hP hS hL
  exact lv_ifnullN hC.1 hC.2.1 hd ht (k p l e s m args below meth c D ad c3 H locs la hC hP hS hL)
theorem zs_ifnonnullN {off : Int} (hd : decode cc pc = .ok (.ifnonnull off, 3)) (k : zWP own cc B (pc + 3) ls st w) : zWP own cc B pc ls (.null :: st) w := by
  intro p l e s m args below meth c D ad c3 H locs la hC hP hS hL
  exact lv_ifnonnullN hC.1 hC.2.1 hd (k p l e s m args below meth c D ad c3 H locs la hC hP hS hL)
theorem zs_if_eq {x : Int32} {off : Int} (tgt : Nat) (hd : decode cc pc = .ok (.ifCond .eq off, 3)) (ht : (pc : Int) + off = (tgt : Int)) (kt : x = 0 → zWP own cc B tgt ls st w) (kf : ¬ x = 0 → zWP own cc B (pc + 3) ls st w) : zWP own cc B pc ls (.int x :: st) w := by
  intro p l e s m args below meth c D ad c3 H locs la hC hP hS hL
  exact lv_if_eq hC.1 hC.2.1 hd ht (fun h => kt h p l e s m args below meth c D ad c3 H locs la hC hP hS hL) (fun h => kf h p l e s m args below meth c D ad c3 H locs la hC hP hS hL)
theorem zs_icmp_eq {x y : Int32} {off : Int} (tgt : Nat) (hd : decode cc pc = .ok (.if_icmp .eq off, 3)) (ht : (pc : Int) + off = (tgt : Int)) (kt : x = y → zWP own cc B tgt ls st w) (kf : ¬ x = y → zWP own cc B (pc + 3) ls st w) : zWP own cc B pc ls (.int y :: .int x :: st) w := by
  intro p l e s m args below meth c D ad c3 H locs la hC hP hS hL
  exact lv_icmp_eq hC.1 hC.2.1 hd ht (fun h => kt h p l e s m args below meth c D ad c3 H locs la hC hP hS hL) (fun h => kf h p l e s m args below meth c D ad c3 H locs la hC hP hS hL)
theorem zs_if_ne {x : Int32} {off : Int} (tgt : Nat) (hd : decode cc pc = .ok (.ifCond .ne off, 3)) (ht : (pc : Int) + off = (tgt : Int)) (kt : ¬ x = 0 → zWP own cc B tgt ls st w) (kf : x = 0 → zWP own cc B (pc + 3) ls st w) : zWP own cc B pc ls (.int x :: st) w := by
  intro p l e s m args below meth c D ad c3 H locs la hC hP hS hL
  exact lv_if_ne hC.1 hC.2.1 hd ht (fun h => kt h p l e s m args below meth c D ad c3 H locs la hC hP hS hL) (fun h => kf h p l e s m args below meth c D ad c3 H locs la hC hP hS hL)
theorem zs_icmp_ne {x y : Int32} {off : Int} (tgt : Nat) (hd : decode cc pc = .ok (.if_icmp .ne off, 3)) (ht : (pc : Int) + off = (tgt : Int)) (kt : ¬ x = y → zWP own cc B tgt ls st w) (kf : x = y → zWP own cc B (pc + 3) ls st w) : zWP own cc B pc ls (.int y :: .int x :: st) w := by
  intro p l e s m args below meth c D ad c3 H locs la hC hP hS hL
  exact lv_icmp_ne hC.1 hC.2.1 hd ht (fun h => kt h p l e s m args below meth c D ad c3 H locs la hC hP hS hL) (fun h => kf h p l e s m args below meth c D ad c3 H locs la hC hP hS hL)
theorem zs_if_lt {x : Int32} {off : Int} (tgt : Nat) (hd : decode cc pc = .ok (.ifCond .lt off, 3)) (ht : (pc : Int) + off = (tgt : Int)) (kt : x < 0 → zWP own cc B tgt ls st w) (kf : ¬ x < 0 → zWP own cc B (pc + 3) ls st w) : zWP own cc B pc ls (.int x :: st) w := by
  intro p l e s m args below meth c D ad c3 H locs la hC hP hS hL
  exact lv_if_lt hC.1 hC.2.1 hd ht (fun h => kt h p l e s m args below meth c D ad c3 H locs la hC hP hS hL) (fun h => kf h p l e s m args below meth c D ad c3 H locs la hC hP hS hL)
theorem zs_icmp_lt {x y : Int32} {off : Int} (tgt : Nat) (hd : decode cc pc = .ok (.if_icmp .lt off, 3)) (ht : (pc : Int) + off = (tgt : Int)) (kt : x < y → zWP own cc B tgt ls st w) (kf : ¬ x < y → zWP own cc B (pc + 3) ls st w) : zWP own cc B pc ls (.int y :: .int x :: st) w := by
  intro p l e s m args below meth c D ad c3 H locs la hC hP hS hL
  exact lv_icmp_lt hC.1 hC.2.1 hd ht (fun h => kt h p l e s m args below meth c D ad c3 H locs la hC hP hS hL) (fun h => kf h p l e s m args below meth c D ad c3 H locs la hC hP hS hL)
theorem zs_if_ge {x : Int32} {off : Int} (tgt : Nat) (hd : decode cc pc = .ok (.ifCond .ge off, 3)) (ht : (pc : Int) + off = (tgt : Int)) (kt : 0 ≤ x → zWP own cc B tgt ls st w) (kf : ¬ 0 ≤ x → zWP own cc B (pc + 3) ls st w) : zWP own cc B pc ls (.int x :: st) w := by
  intro p l e s m args below meth c D ad c3 H locs la hC hP hS hL
  exact lv_if_ge hC.1 hC.2.1 hd ht (fun h => kt h p l e s m args below meth c D ad c3 H locs la hC hP hS hL) (fun h => kf h p l e s m args below meth c D ad c3 H locs la hC hP hS hL)
theorem zs_icmp_ge {x y : Int32} {off : Int} (tgt : Nat) (hd : decode cc pc = .ok (.if_icmp .ge off, 3)) (ht : (pc : Int) + off = (tgt : Int)) (kt : y ≤ x → zWP own cc B tgt ls st w) (kf : ¬ y ≤ x → zWP own cc B (pc + 3) ls st w) : zWP own cc B pc ls (.int y :: .int x :: st) w := by
  intro p l e s m args below meth c D ad c3 H locs la hC hP hS hL
  exact lv_icmp_ge hC.1 hC.2.1 hd ht (fun h => kt h p l e s m args below meth c D ad c3 H locs la hC hP hS hL) (fun h => kf h p l e s m args below meth c D ad c3 H locs la hC hP hS hL)
theorem zs_if_gt {x : Int32} {off : Int} (tgt : Nat) (hd : decode cc pc = .ok (.ifCond .gt off, 3)) (ht : (pc : Int) + off = (tgt : Int)) (kt : 0 < x → zWP own cc B tgt ls st w) (kf : ¬ 0 < x → zWP own cc B (pc + 3) ls st w) : zWP own cc B pc ls (.int x :: st) w := by
  intro p l e s m args below meth c D ad c3 H locs la hC hP hS hL
  exact lv_if_gt hC.1 hC.2.1 hd ht (fun h => kt h p l e s m args below meth c D ad c3 H locs la hC hP hS hL) (fun h => kf h p l e s m args below meth c D ad c3 H locs la hC hP hS hL)
theorem zs_icmp_gt {x y : Int32} {off : Int} (tgt : Nat) (hd : decode cc pc = .ok (.if_icmp .gt off, 3)) (ht : (pc : Int) + off = (tgt : Int)) (kt : y < x → zWP own cc B tgt ls st w) (kf : ¬ y < x → zWP own cc B (pc + 3) ls st w) : zWP own cc B pc ls (.int y :: .int x :: st) w := by
  intro p l e s m args below meth c D ad c3 H locs la hC hP hS hL
  exact lv_icmp_gt hC.1 hC.2.1 hd ht (fun h => kt h p l e s m args below meth c D ad c3 H locs la hC hP hS hL) (fun h => kf h p l e s m args below meth c D ad c3 H locs la hC hP hS hL)
theorem zs_if_le {x : Int32} {off : Int} (tgt : Nat) (hd : decode cc pc = .ok (.ifCond .le off, 3)) (ht : (pc : Int) + off = (tgt : Int)) (kt : x ≤ 0 → zWP own cc B tgt ls st w) (kf : ¬ x ≤ 0 → zWP own cc B (pc + 3) ls st w) : zWP own cc B pc ls (.int x :: st) w := by
  intro p l e s m args below meth c D ad c3 H locs la hC hP hS hL
  exact lv_if_le hC.1 hC.2.1 hd ht (fun h => kt h p l e s m args below meth c D ad c3 H locs la hC hP hS hL) (fun h => kf h p l e s m args below meth c D ad c3 H locs la hC hP hS hL)
theorem zs_icmp_le {x y : Int32} {off : Int} (tgt : Nat) (hd : decode cc pc = .ok (.if_icmp .le off, 3)) (ht : (pc : Int) + off = (tgt : Int)) (kt : x ≤ y → zWP own cc B tgt ls st w) (kf : ¬ x ≤ y → zWP own cc B (pc + 3) ls st w) : zWP own cc B pc ls (.int y :: .int x :: st) w := by
  intro p l e s m args below meth c D ad c3 H locs la hC hP hS hL
  exact lv_icmp_le hC.1 hC.2.1 hd ht (fun h => kt h p l e s m args below meth c D ad c3 H locs la hC hP hS hL) (fun h => kf h p l e s m args below meth c D ad c3 H locs la hC hP hS hL)
theorem zs_istore_n {j : Fin 4} {x : Int32} (ls' : List (Option Value)) (hd : decode cc pc = .ok (.istore_n j, 1)) (hj : (j : Nat) < B.1) (hz : zok ls j = true) (hls : ls.set (j : Nat) (some (.int x)) = ls') (k : zWP own cc B (pc + 1) ls' st w) : zWP own cc B pc ls (.int x :: st) w := by
  intro p l e s m args below meth c D ad c3 H locs la hC hP hS hL
  exact lv_istore_n hC.1 hC.2.1 hd rfl hL.has hj rfl (fun la2 hl2 => k p l e s m args below meth c D ad c3 H locs la2 hC hP hS (hls ▸ hL.set1 hz rfl hl2))
theorem zs_istore {j : Nat} {x : Int32} (ls' : List (Option Value)) (hd : decode cc pc = .ok (.istore j, 2)) (hj : j < B.1) (hz : zok ls j = true) (hls : ls.set j (some (.int x)) = ls') (k : zWP own cc B (pc + 2) ls' st w) : zWP own cc B pc ls (.int x :: st) w := by
  intro p l e s m args below meth c D ad c3 H locs la hC hP hS hL
  exact lv_istore hC.1 hC.2.1 hd hL.has hj rfl (fun la2 hl2 => k p l e s m args below meth c D ad c3 H locs la2 hC hP hS (hls ▸ hL.set1 hz rfl hl2))
theorem zs_astore_n {j : Fin 4} {x : Nat} (ls' : List (Option Value)) (hd : decode cc pc = .ok (.astore_n j, 1)) (hj : (j : Nat) < B.1) (hz : zok ls j = true) (hls : ls.set (j : Nat) (some (.ref x)) = ls') (k : zWP own cc B (pc + 1) ls' st w) : zWP own cc B pc ls (.ref x :: st) w := by
  intro p l e s m args below meth c D ad c3 H locs la hC hP hS hL
  exact lv_astore_n hC.1 hC.2.1 hd rfl hL.has hj rfl (fun la2 hl2 => k p l e s m args below meth c D ad c3 H locs la2 hC hP hS (hls ▸ hL.set1 hz rfl hl2))
theorem zs_astore {j : Nat} {x : Nat} (ls' : List (Option Value)) (hd : decode cc pc = .ok (.astore j, 2)) (hj : j < B.1) (hz : zok ls j = true) (hls : ls.set j (some (.ref x)) = ls') (k : zWP own cc B (pc + 2) ls' st w) : zWP own cc B pc ls (.ref x :: st) w := by
  intro p l e s m args below meth c D ad c3 H locs la hC hP hS hL
  exact lv_astore hC.1 hC.2.1 hd hL.has hj rfl (fun la2 hl2 => k p l e s m args below meth c D ad c3 H locs la2 hC hP hS (hls ▸ hL.set1 hz rfl hl2))
theorem zs_astore_nN {j : Fin 4} (ls' : List (Option Value)) (hd : decode cc pc = .ok (.astore_n j, 1)) (hj : (j : Nat) < B.1) (hz : zok ls j = true) (hls : ls.set (j : Nat) (some .null) = ls') (k : zWP own cc B (pc + 1) ls' st w) : zWP own cc B pc ls (.null :: st) w := by
  intro p l e s m args below meth c D ad c3 H locs la hC hP hS hL
  exact lv_astore_nN hC.1 hC.2.1 hd rfl hL.has hj rfl (fun la2 hl2 => k p l e s m args below meth c D ad c3 H locs la2 hC hP hS (hls ▸ hL.set1 hz rfl hl2))
theorem zs_astoreN {j : Nat} (ls' : List (Option Value)) (hd : decode cc pc = .ok (.astore j, 2)) (hj : j < B.1) (hz : zok ls j = true) (hls : ls.set j (some .null) = ls') (k : zWP own cc B (pc + 2) ls' st w) : zWP own cc B pc ls (.null :: st) w := by
  intro p l e s m args below meth c D ad c3 H locs la hC hP hS hL
  exact lv_astoreN hC.1 hC.2.1 hd hL.has hj rfl (fun la2 hl2 => k p l e s m args below meth c D ad c3 H locs la2 hC hP hS (hls ▸ hL.set1 hz rfl hl2))
theorem zs_lstore_n {j : Fin 4} {x : Int64} (ls' : List (Option Value)) (hd : decode cc pc = .ok (.lstore_n j, 1)) (hj : (j : Nat) + 1 < B.1) (hz : zok ls j = true) (hls : (ls.set (j : Nat) (some (.long x))).set ((j : Nat) + 1) none = ls') (k : zWP own cc B (pc + 1) ls' st w) : zWP own cc B pc ls (.long x :: st) w := by
  intro p l e s m args below meth c D ad c3 H locs la hC hP hS hL
  exact lv_lstore_n hC.1 hC.2.1 hd rfl hL.has hj rfl (fun la2 hl2 => k p l e s m args below meth c D ad c3 H locs la2 hC hP hS (hls ▸ hL.set2 hz rfl hl2))
theorem zs_lstore {j : Nat} {x : Int64} (ls' : List (Option Value)) (hd : decode cc pc = .ok (.lstore j, 2)) (hj : j + 1 < B.1) (hz : zok ls j = true) (hls : (ls.set j (some (.long x))).set (j + 1) none = ls') (k : zWP own cc B (pc + 2) ls' st w) : zWP own cc B pc ls (.long x :: st) w := by
  intro p l e s m args below meth c D ad c3 H locs la hC hP hS hL
  exact lv_lstore hC.1 hC.2.1 hd hL.has hj rfl (fun la2 hl2 => k p l e s m args below meth c D ad c3 H locs la2 hC hP hS (hls ▸ hL.set2 hz rfl hl2))
theorem zs_iinc {j : Nat} {n : Int} {x : Int32} (v : Int32) (ls' : List (Option Value)) (hd : decode cc pc = .ok (.iinc j n, 3)) (hl : ls[j]? = some (some (.int x))) (hv : x + Int32.ofInt n = v) (hj : j < B.1) (hz : zok ls j = true) (hls : ls.set j (some (.int v)) = ls') (k : zWP own cc B (pc + 3) ls' st w) : zWP own cc B pc ls st w := by
  intro p l e s m args below meth c D ad c3 H locs la hC hP hS hL
  obtain ⟨i9, h9⟩ := List.getElem?_of_mem (zll_in ad hl)
  exact lv_iinc hC.1 hC.2.1 hd hL.has h9 hv hj rfl (fun la2 hl2 => k p l e s m args below meth c D ad c3 H locs la2 hC hP hS (hls ▸ hL.set1 hz rfl hl2))
end ZROWS
