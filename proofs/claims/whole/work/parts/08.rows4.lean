section ZROWS4
variable {own : String} {cc : ByteArray} {B : zB} {pc : Nat} {ls : List (Option Value)} {st : List Value} {w : zW}
theorem zs_null (hd : decode cc pc = .ok (.aconst_null, 1)) (k : zWP own cc B (pc + 1) ls (.null :: st) w) : zWP own cc B pc ls st w := by
  intro p l e s m args below meth c D ad c3 H locs la hC hP hS hL
  exact lv_null hC.1 hC.2.1 hd (k p l e s m args below meth c D ad c3 H locs la hC hP hS hL)
theorem zcatsum (ad : Nat → Nat) (rest : List Value) : ((rest.map (ztr ad)).map fun v => v.category).sum = (rest.map fun v => v.category).sum := by
  rw [List.map_map]
  have : ((fun v : Value => v.category) ∘ ztr ad) = fun v : Value => v.category := by funext v; exact ztr_cat ad v
  rw [this]
theorem zs_max {i : Nat} {x y : Int32} (hlk : Cond.methodLink own i Lib.Math.max.name ∈ zT) (hst : Cond.static Lib.Math.max.name ∈ zT) (hin : Cond.initialized "java/lang/Math" ∈ zT) (hco : Cond.code Lib.Math.max.name Lib.Math.max.code 2 (some .int) ∈ zT) (hR : 1 ≤ B.2.2.1.frames ∧ 21 ≤ B.2.2.1.locals ∧ B.2.2.2.1.1 ≤ B.2.2.1.cells ∧ B.2.2.2.1.2 ≤ B.2.2.1.slots) (hcat : (st.map fun v => v.category).sum ≤ 8) (hd : decode cc pc = .ok (.invokestatic i, 3))
    (k : zWP own cc B (pc + 3) ls (.int (zmax x y) :: st) w) : zWP own cc B pc ls (.int y :: .int x :: st) w := by
  intro p l e s m args below meth c D ad c3 H locs la hC hP hS hL
  have hts := hC.2.2.2.2.2.2.1
  exact va_mmax hC.1 hC.2.1 (hC.2.2.1.trans hL.1.symm) hC.2.2.2.2.2.1 (hts _ hlk) (hts _ hst) (hts _ hin) (hts _ hco) hR.1 (by have h1 := zcatsum ad st; have h2 := hR.2.1; omega) hR.2.2.1 hR.2.2.2 hd (k p l e s m args below meth c D ad c3 H locs la hC hP hS hL)
theorem zs_min {i : Nat} {x y : Int32} (hlk : Cond.methodLink own i Lib.Math.min.name ∈ zT) (hst : Cond.static Lib.Math.min.name ∈ zT) (hin : Cond.initialized "java/lang/Math" ∈ zT) (hco : Cond.code Lib.Math.min.name Lib.Math.min.code 2 (some .int) ∈ zT) (hR : 1 ≤ B.2.2.1.frames ∧ 21 ≤ B.2.2.1.locals ∧ B.2.2.2.1.1 ≤ B.2.2.1.cells ∧ B.2.2.2.1.2 ≤ B.2.2.1.slots) (hcat : (st.map fun v => v.category).sum ≤ 8) (hd : decode cc pc = .ok (.invokestatic i, 3))
    (k : zWP own cc B (pc + 3) ls (.int (zmin x y) :: st) w) : zWP own cc B pc ls (.int y :: .int x :: st) w := by
  intro p l e s m args below meth c D ad c3 H locs la hC hP hS hL
  have hts := hC.2.2.2.2.2.2.1
  exact va_mmin hC.1 hC.2.1 (hC.2.2.1.trans hL.1.symm) hC.2.2.2.2.2.1 (hts _ hlk) (hts _ hst) (hts _ hin) (hts _ hco) hR.1 (by have h1 := zcatsum ad st; have h2 := hR.2.1; omega) hR.2.2.1 hR.2.2.2 hd (k p l e s m args below meth c D ad c3 H locs la hC hP hS hL)
theorem zcp_in {α : Type} {sp dp n : Int32} {n1 n2 : Nat} {a : Option α} {v : α} (h : (if sp < 0 ∨ dp < 0 ∨ n < 0 ∨ n1 < sp.toNatClampNeg + n.toNatClampNeg ∨ n2 < dp.toNatClampNeg + n.toNatClampNeg then none else a) = some v) : (¬ sp < 0 ∧ ¬ dp < 0 ∧ ¬ n < 0 ∧ sp.toNatClampNeg + n.toNatClampNeg ≤ n1 ∧ dp.toNatClampNeg + n.toNatClampNeg ≤ n2) ∧ a = some v := by
  by_cases hc : sp < 0 ∨ dp < 0 ∨ n < 0 ∨ n1 < sp.toNatClampNeg + n.toNatClampNeg ∨ n2 < dp.toNatClampNeg + n.toNatClampNeg
  · rw [if_pos hc] at h; cases h
  · rw [if_neg hc] at h
    exact ⟨⟨fun q => hc (Or.inl q), fun q => hc (Or.inr (Or.inl q)), fun q => hc (Or.inr (Or.inr (Or.inl q))), Nat.le_of_not_lt fun q => hc (Or.inr (Or.inr (Or.inr (Or.inl q)))), Nat.le_of_not_lt fun q => hc (Or.inr (Or.inr (Or.inr (Or.inr q))))⟩, h⟩
theorem zs_cpi {i o1 o2 n1 n2 : Nat} {sp dp n : Int32} {w' : zW} (hlk : Cond.methodLink own i arraycopyName ∈ zT) (hnat : Cond.native arraycopyName ∈ zT) (hst : Cond.static arraycopyName ∈ zT) (hin : Cond.initialized "java/lang/System" ∈ zT) (hR : 1 ≤ B.2.2.1.frames ∧ 40 ≤ B.2.2.1.locals) (hcat : (st.map fun v => v.category).sum ≤ 8) (hd : decode cc pc = .ok (.invokestatic i, 3)) (ha1 : zAt o1 (1, n1, [])) (ha2 : zAt o2 (1, n2, [])) (h : zcpi w o1 n1 sp o2 n2 dp n = some w')
    (k : zWP own cc B (pc + 3) ls st w') : zWP own cc B pc ls (.int n :: .int dp :: .ref o2 :: .int sp :: .ref o1 :: st) w := by
  intro p l e s m args below meth c D ad c3 H locs la hC hP hS hL
  have hts := hC.2.2.2.2.2.2.1
  obtain ⟨j1, hj1⟩ := ha1.ix
  have he1 := zws_get (ad := ad) (c3 := c3) (w := w) hj1
  rw [ha1.cell] at he1
  obtain ⟨j2, hj2⟩ := ha2.ix
  have he2 := zws_get (ad := ad) (c3 := c3) (w := w) hj2
  rw [ha2.cell] at he2
  obtain ⟨⟨g1, g2, g3, g4, g5⟩, h2⟩ := zcp_in h
  cases h2
  refine va_copyi hC.1 hC.2.1 (hC.2.2.1.trans hL.1.symm) hC.2.2.2.2.2.1 (hts _ hlk) (hts _ hnat) (hts _ hst) (hts _ hin) hC.2.2.2.2.2.2.2.2.1 hP (zD hC.2.2.2.2.2.2.2.1 hC.2.2.2.2.2.2.2.2.2.2.1) hS j1 j2 0 0 he1 he2 rfl rfl rfl g1 g2 g3 g4 g5 (fun _ _ => rfl) hR.1 ?_ hd (fun H1 locs1 q1 _ q3 => k p l e s m args below meth c D ad c3 H1 locs1 la hC ?_ q3 hL)
  · have h1 := zcatsum ad st
    have h2 := hR.2
    have h3 : nativeFrameWords "java/lang/System" "arraycopy" 5 + 11 ≤ 32 := by decide +kernel
    omega
  · have e2 := zws_set (ad := ad) (c3 := c3) (w := w) (w' := zcf w o2 (va_cpy (w.1 o1) (w.1 o2) sp.toNatClampNeg dp.toNatClampNeg n.toNatClampNeg)) hj2 zcell_cf
    rw [ha2.cell] at e2
    have e3 : (zcf w o2 (va_cpy (w.1 o1) (w.1 o2) sp.toNatClampNeg dp.toNatClampNeg n.toNatClampNeg)).1 o2 = va_cpy (w.1 o1) (w.1 o2) sp.toNatClampNeg dp.toNatClampNeg n.toNatClampNeg := by funext b; simp [zcf]
    rw [← e2]
    show va_P D vwCl ((zws ad c3 w).set j2 (ad o2, Sum.inl (c3.1, n2, .inl ((zcf w o2 (va_cpy (w.1 o1) (w.1 o2) sp.toNatClampNeg dp.toNatClampNeg n.toNatClampNeg)).1 o2)))) H1
    rw [e3]
    exact q1
theorem zs_cpl {i o1 o2 n1 n2 : Nat} {sp dp n : Int32} {w' : zW} (hlk : Cond.methodLink own i arraycopyName ∈ zT) (hnat : Cond.native arraycopyName ∈ zT) (hst : Cond.static arraycopyName ∈ zT) (hin : Cond.initialized "java/lang/System" ∈ zT) (hR : 1 ≤ B.2.2.1.frames ∧ 40 ≤ B.2.2.1.locals) (hcat : (st.map fun v => v.category).sum ≤ 8) (hd : decode cc pc = .ok (.invokestatic i, 3)) (ha1 : zAt o1 (2, n1, [])) (ha2 : zAt o2 (2, n2, [])) (h : zcpl w o1 n1 sp o2 n2 dp n = some w')
    (k : zWP own cc B (pc + 3) ls st w') : zWP own cc B pc ls (.int n :: .int dp :: .ref o2 :: .int sp :: .ref o1 :: st) w := by
  intro p l e s m args below meth c D ad c3 H locs la hC hP hS hL
  have hts := hC.2.2.2.2.2.2.1
  obtain ⟨j1, hj1⟩ := ha1.ix
  have he1 := zws_get (ad := ad) (c3 := c3) (w := w) hj1
  rw [ha1.cell] at he1
  obtain ⟨j2, hj2⟩ := ha2.ix
  have he2 := zws_get (ad := ad) (c3 := c3) (w := w) hj2
  rw [ha2.cell] at he2
  obtain ⟨⟨g1, g2, g3, g4, g5⟩, h2⟩ := zcp_in h
  cases h2
  refine va_copyl hC.1 hC.2.1 (hC.2.2.1.trans hL.1.symm) hC.2.2.2.2.2.1 (hts _ hlk) (hts _ hnat) (hts _ hst) (hts _ hin) hC.2.2.2.2.2.2.2.2.1 hP (zD hC.2.2.2.2.2.2.2.1 hC.2.2.2.2.2.2.2.2.2.2.1) hS j1 j2 1 1 he1 he2 rfl rfl rfl g1 g2 g3 g4 g5 (fun _ _ => rfl) hR.1 ?_ hd (fun H1 locs1 q1 _ q3 => k p l e s m args below meth c D ad c3 H1 locs1 la hC ?_ q3 hL)
  · have h1 := zcatsum ad st
    have h2 := hR.2
    have h3 : nativeFrameWords "java/lang/System" "arraycopy" 5 + 11 ≤ 32 := by decide +kernel
    omega
  · have e2 := zws_set (ad := ad) (c3 := c3) (w := w) (w' := zcg w o2 (va_cpy (w.2 o1) (w.2 o2) sp.toNatClampNeg dp.toNatClampNeg n.toNatClampNeg)) hj2 zcell_cg
    rw [ha2.cell] at e2
    have e3 : (zcg w o2 (va_cpy (w.2 o1) (w.2 o2) sp.toNatClampNeg dp.toNatClampNeg n.toNatClampNeg)).2 o2 = va_cpy (w.2 o1) (w.2 o2) sp.toNatClampNeg dp.toNatClampNeg n.toNatClampNeg := by funext b; simp [zcg]
    rw [← e2]
    show va_P D vwCl ((zws ad c3 w).set j2 (ad o2, Sum.inl (c3.2.1, n2, .inr (.inl ((zcg w o2 (va_cpy (w.2 o1) (w.2 o2) sp.toNatClampNeg dp.toNatClampNeg n.toNatClampNeg)).2 o2))))) H1
    rw [e3]
    exact q1
-- statics and String constants
theorem zs_above {i : Nat} (hl : Cond.fieldLink own i "DownhillPost$Post" "ABOVE" "[I" ∈ zT) (hd : decode cc pc = .ok (.getstatic i, 3)) (k : zWP own cc B (pc + 3) ls (.ref 80 :: st) w) : zWP own cc B pc ls st w := by
  intro p l e s m args below meth c D ad c3 H locs la hC hP hS hL
  exact va_gets hC.1 hC.2.1 hC.2.2.2.2.2.2.2.2.2.1.2.2.1 hS hC.2.2.2.2.2.1 (hC.2.2.2.2.2.2.1 _ hl) (fun _ h => h) hd (k p l e s m args below meth c D ad c3 H locs la hC hP hS hL)
def zrdA (i : Int32) : Option Int32 := if i < 0 ∨ 6 ≤ i.toNatClampNeg then none else some (zabove.getD i.toNatClampNeg 0)
theorem zs_aboveLd {i v : Int32} (hd : decode cc pc = .ok (.iaload, 1)) (h : zrdA i = some v) (k : zWP own cc B (pc + 1) ls (.int v :: st) w) : zWP own cc B pc ls (.int i :: .ref 80 :: st) w := by
  intro p l e s m args below meth c D ad c3 H locs la hC hP hS hL
  obtain ⟨h1, h2⟩ := zin h
  cases h2
  exact va_ti hC.1 hC.2.1 hC.2.2.2.2.2.2.2.2.2.1.2.2.2.1 hS h1 rfl hd (k p l e s m args below meth c D ad c3 H locs la hC hP hS hL)
theorem zs_aboveLen (hd : decode cc pc = .ok (.arraylength, 1)) (k : zWP own cc B (pc + 1) ls (.int 6 :: st) w) : zWP own cc B pc ls (.ref 80 :: st) w := by
  intro p l e s m args below meth c D ad c3 H locs la hC hP hS hL
  exact va_tlen hC.1 hC.2.1 hC.2.2.2.2.2.2.2.2.2.1.2.2.2.1 hS rfl hd (k p l e s m args below meth c D ad c3 H locs la hC hP hS hL)
theorem zs_ldcS {i q : Nat} {tx : String} (ho : own = RX1) (hz : zstr[q]? = some (i, tx)) (hd : decode cc pc = .ok (.ldc i, 2)) (k : zWP own cc B (pc + 2) ls (.ref (100 + q) :: st) w) : zWP own cc B pc ls st w := by
  subst ho
  intro p l e s m args below meth c D ad c3 H locs la hC hP hS hL
  exact va_ldcS hC.1 hC.2.1 hC.2.2.2.2.2.1 (hC.2.2.2.2.2.2.2.2.2.1.2.1 _ _ hz) hd (k p l e s m args below meth c D ad c3 H locs la hC hP hS hL)
theorem zs_strVal {i q : Nat} (hl : Cond.fieldLink own i "java/lang/String" "value" "[B" ∈ zT) (hq : q < 13) (hd : decode cc pc = .ok (.getfield i, 3)) (k : zWP own cc B (pc + 3) ls (.ref (200 + q) :: st) w) : zWP own cc B pc ls (.ref (100 + q) :: st) w := by
  intro p l e s m args below meth c D ad c3 H locs la hC hP hS hL
  exact vk_getf hC.1 hC.2.1 (hC.2.2.2.2.2.2.2.2.2.1.1.1 q hq).2.2.1 hS hC.2.2.2.2.2.1 (hC.2.2.2.2.2.2.1 _ hl) (fun _ h => h) hd (k p l e s m args below meth c D ad c3 H locs la hC hP hS hL)
theorem zs_strCoder {i q : Nat} (hl : Cond.fieldLink own i "java/lang/String" "coder" "B" ∈ zT) (hq : q < 13) (hd : decode cc pc = .ok (.getfield i, 3)) (k : zWP own cc B (pc + 3) ls (.int 0 :: st) w) : zWP own cc B pc ls (.ref (100 + q) :: st) w := by
  intro p l e s m args below meth c D ad c3 H locs la hC hP hS hL
  exact vk_getf hC.1 hC.2.1 (hC.2.2.2.2.2.2.2.2.2.1.1.1 q hq).2.1 hS hC.2.2.2.2.2.1 (hC.2.2.2.2.2.2.1 _ hl) (fun _ h => h) hd (k p l e s m args below meth c D ad c3 H locs la hC hP hS hL)
theorem zs_strLen {q : Nat} (hq : q < 13) (hd : decode cc pc = .ok (.arraylength, 1)) (k : zWP own cc B (pc + 1) ls (.int (Int32.ofNat (zlen.getD q 0)) :: st) w) : zWP own cc B pc ls (.ref (200 + q) :: st) w := by
  intro p l e s m args below meth c D ad c3 H locs la hC hP hS hL
  exact va_tlen hC.1 hC.2.1 (hC.2.2.2.2.2.2.2.2.2.1.1.1 q hq).2.2.2 hS rfl hd (k p l e s m args below meth c D ad c3 H locs la hC hP hS hL)
def zrdT (q : Nat) (i : Int32) : Option Int32 := if i < 0 ∨ zlen.getD q 0 ≤ i.toNatClampNeg then none else some ((zbyt.getD q []).getD i.toNatClampNeg 0)
theorem zs_strByte {q : Nat} {i v : Int32} (hq : q < 13) (hd : decode cc pc = .ok (.baload, 1)) (h : zrdT q i = some v) (k : zWP own cc B (pc + 1) ls (.int v :: st) w) : zWP own cc B pc ls (.int i :: .ref (200 + q) :: st) w := by
  intro p l e s m args below meth c D ad c3 H locs la hC hP hS hL
  obtain ⟨h1, h2⟩ := zin h
  cases h2
  exact va_tb hC.1 hC.2.1 (hC.2.2.2.2.2.2.2.2.2.1.1.1 q hq).2.2.2 hS h1 rfl hd (k p l e s m args below meth c D ad c3 H locs la hC hP hS hL)
theorem zs_compact {i : Nat} (hl : Cond.fieldLink own i "java/lang/String" "COMPACT_STRINGS" "Z" ∈ zT) (hd : decode cc pc = .ok (.getstatic i, 3)) (k : zWP own cc B (pc + 3) ls (.int 1 :: st) w) : zWP own cc B pc ls st w := by
  intro p l e s m args below meth c D ad c3 H locs la hC hP hS hL
  exact va_gets hC.1 hC.2.1 hC.2.2.2.2.2.2.2.2.2.1.2.2.2.2.1 hS hC.2.2.2.2.2.1 (hC.2.2.2.2.2.2.1 _ hl) (fun _ h => h) hd (k p l e s m args below meth c D ad c3 H locs la hC hP hS hL)
theorem zs_former {i : Nat} (hl : Cond.fieldLink own i "jdk/internal/util/Preconditions" "SIOOBE_FORMATTER" "Ljava/util/function/BiFunction;" ∈ zT) (hd : decode cc pc = .ok (.getstatic i, 3)) (k : ∀ v : Value, v = .null ∨ v = .ref 85 → zWP own cc B (pc + 3) ls (v :: st) w) : zWP own cc B pc ls st w := by
  intro p l e s m args below meth c D ad c3 H locs la hC hP hS hL
  rcases hC.2.2.2.2.2.2.2.2.2.1.2.2.2.2.2 with hz | hz
  · exact va_gets hC.1 hC.2.1 hz hS hC.2.2.2.2.2.1 (hC.2.2.2.2.2.2.1 _ hl) (fun _ h => h) hd (k .null (Or.inl rfl) p l e s m args below meth c D ad c3 H locs la hC hP hS hL)
  · exact va_gets hC.1 hC.2.1 hz hS hC.2.2.2.2.2.1 (hC.2.2.2.2.2.2.1 _ hl) (fun _ h => h) hd (k (.ref 85) (Or.inr rfl) p l e s m args below meth c D ad c3 H locs la hC hP hS hL)
-- switches
theorem zs_tswIn {dflt lo hi off : Int} {offs : Array Int} {len : Nat} {x : Int32} (v : Int32) (tgt : Nat) (hd : decode cc pc = .ok (.tableswitch dflt lo hi offs, len)) (hx : x = v) (h1 : ¬ v.toInt < lo) (h2 : ¬ hi < v.toInt) (ho : offs[(v.toInt - lo).toNat]? = some off) (ht : (pc : Int) + off = (tgt : Int)) (k : zWP own cc B tgt ls st w) : zWP own cc B pc ls (.int x :: st) w := by
  subst hx
  intro p l e s m args below meth c D ad c3 H locs la hC hP hS hL
  exact lv_tableIn hC.1 hC.2.1 hd h1 h2 ho ht (k p l e s m args below meth c D ad c3 H locs la hC hP hS hL)
theorem zs_tswOut {dflt lo hi : Int} {offs : Array Int} {len : Nat} {x : Int32} (tgt : Nat) (hd : decode cc pc = .ok (.tableswitch dflt lo hi offs, len)) (h : x.toInt < lo ∨ hi < x.toInt) (ht : (pc : Int) + dflt = (tgt : Int)) (k : zWP own cc B tgt ls st w) : zWP own cc B pc ls (.int x :: st) w := by
  intro p l e s m args below meth c D ad c3 H locs la hC hP hS hL
  exact lv_tableOut hC.1 hC.2.1 hd h ht (k p l e s m args below meth c D ad c3 H locs la hC hP hS hL)
theorem zs_lsw {dflt off : Int} {ps : Array (Int × Int)} {len : Nat} {x : Int32} (tgt : Nat) (hd : decode cc pc = .ok (.lookupswitch dflt ps, len)) (hp : (ps.toList.zip (ps.toList.drop 1)).all (fun (a, next) => a.1 < next.1) = true) (ho : Op.lookupswitch.offset ps.toList dflt x.toInt = off) (ht : (pc : Int) + off = (tgt : Int)) (k : zWP own cc B tgt ls st w) : zWP own cc B pc ls (.int x :: st) w := by
  intro p l e s m args below meth c D ad c3 H locs la hC hP hS hL
  exact lv_lookup hC.1 hC.2.1 hd hp ho ht (k p l e s m args below meth c D ad c3 H locs la hC hP hS hL)
end ZROWS4
/-- a number that is none of lo, lo + 1, .. hi lies outside -/
theorem zout {x : Int32} {n : Nat} {lo : Int} (h : ∀ i : Nat, i < n → x ≠ Int32.ofInt (lo + i)) : x.toInt < lo ∨ lo + n - 1 < x.toInt := by
  by_cases h1 : x.toInt < lo
  · exact Or.inl h1
  · by_cases h2 : lo + n - 1 < x.toInt
    · exact Or.inr h2
    · exfalso
      have h3 := h (x.toInt - lo).toNat (by omega)
      apply h3
      have e : lo + ((x.toInt - lo).toNat : Int) = x.toInt := by omega
      rw [e, Int32.ofInt_toInt]
