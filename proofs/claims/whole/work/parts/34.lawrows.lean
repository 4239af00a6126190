/-- the law's own judgement -/
abbrev zBL (L : Nat) (xs : Nat → Int32) : zB := (4, ret, room_1, (600000, 7302250), fun s _ q => s.heap.size ≤ q, fun s ad => va_X (ad 90) L xs s s.heap ∧ ad 90 < s.heap.size, fun s args below _ _ _ => lw_Z below args s)
theorem zlw_ret {p : Program} {l : Launch} {e : Env} {s : State} {m : MethodId} {args : Array Value} {below : List Frame} {meth : Method} {c : Code} (hx : p.tables.exec = Jvm.exec) (hb : c.code = code) (hr : meth.sig.returnType = ret) (hlocks : meth.locks = false) {pc : Nat} {H : Heap} {ls : Array Slot} (hdg : decode code pc = .ok (.ireturn, 1)) : W p l e room_1 s m args below meth c H [] 600000 7302250 (lw_Z below args s) (F0 m pc ls [.int 1]) := by
  intro T hT X
  obtain ⟨fs, hret, hrun, hended, hW, hframe⟩ := X.leave (v := some (.int 1)) (hlocks := hlocks) (fun h => by rw [hr] at h; cases h)
  have hmeth' : T.vm.method? m = some meth := X.method'
  refine ⟨T.setFrames fs, ?_, .returned (some (.int 1)), hrun, hended, rfl, ⟨_, rfl⟩, hW, hframe⟩
  jvm_step X.here [X.here.top, hx, hb, hdg, hmeth', hr, ret, narrow_b1]
  (try refine ⟨rfl, ?_⟩); (try refine ⟨rfl, ?_⟩)
  first | (intro acts; rw [hret _ acts rfl rfl rfl]) | rw [hret _ _ rfl rfl rfl]
  exact Steps.refl _
def zrs (L : Nat) (xs : Nat → Int32) (i : Int32) : Option Int32 := if i < 0 ∨ L ≤ i.toNatClampNeg then none else some (xs i.toNatClampNeg)
section ZLAW
variable {L : Nat} {xs : Nat → Int32} {pc : Nat} {ls : List (Option Value)} {st : List Value} {w : zW}
theorem zs_lret1 (hd : decode cL_law pc = .ok (.ireturn, 1)) : zWP RL cL_law (zBL L xs) pc ls [.int 1] w := by
  intro p l e s m args below meth c D ad c3 H locs la hC hP hS hL
  refine va_forget (fun q hq => hS.2.2 q hq) ?_
  exact zlw_ret hC.1 hC.2.1 hC.2.2.2.1 hC.2.2.2.2.1 hd
theorem zs_sld {i v : Int32} (hd : decode cL_law pc = .ok (.iaload, 1)) (h : zrs L xs i = some v) (k : zWP RL cL_law (zBL L xs) (pc + 1) ls (.int v :: st) w) : zWP RL cL_law (zBL L xs) pc ls (.int i :: .ref 90 :: st) w := by
  intro p l e s m args below meth c D ad c3 H locs la hC hP hS hL
  obtain ⟨h1, h2⟩ := zin h
  cases h2
  have hp := hC.2.2.2.2.2.2.2.2.2.2.2
  exact va_sld hC.1 hC.2.1 hp.1 hp.2 (Nat.not_le.mpr hp.2) hS h1 hd (k p l e s m args below meth c D ad c3 H locs la hC hP hS hL)
theorem zs_slen (hd : decode cL_law pc = .ok (.arraylength, 1)) (k : zWP RL cL_law (zBL L xs) (pc + 1) ls (.int (Int32.ofNat L) :: st) w) : zWP RL cL_law (zBL L xs) pc ls (.ref 90 :: st) w := by
  intro p l e s m args below meth c D ad c3 H locs la hC hP hS hL
  have hp := hC.2.2.2.2.2.2.2.2.2.2.2
  exact va_slen hC.1 hC.2.1 hp.1 hp.2 (Nat.not_le.mpr hp.2) hS hd (k p l e s m args below meth c D ad c3 H locs la hC hP hS hL)
theorem zrmL {d : Nat} (h : d ≤ 12) : d + 1 ≤ (zBL L xs).2.2.1.frames ∧ 40 * d + 40 ≤ (zBL L xs).2.2.1.locals ∧ (zBL L xs).2.2.2.1.1 ≤ (zBL L xs).2.2.1.cells ∧ (zBL L xs).2.2.2.1.2 ≤ (zBL L xs).2.2.1.slots := ⟨by show d + 1 ≤ 13; omega, by show 40 * d + 40 ≤ 552; omega, Nat.le_refl _, Nat.le_refl _⟩
end ZLAW
