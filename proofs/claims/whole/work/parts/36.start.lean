theorem zT_lw : ∀ w ∈ zT, w ∈ lw_tbl := fun _ h => (List.mem_filter.mp h).1
/-- classes and rows that the tables know -/
theorem zst_K {s : State} {args : Array Value} (hts : ∀ w ∈ zT, w.before args s = true) (hao : va_AO "DownhillPost$Sheet" s) : ∃ (D : va_G) (c3 : zC3), va_K D vwCl (ztys c3) s := by
  obtain ⟨c0, i0, h0⟩ := u_known (C := RX0) (T := TX0) (N := 15) (n := 15) hts inX0 (hts _ zw_newX0)
  obtain ⟨c1, i1, h1⟩ := u_known (C := RX3) (T := TX3) (N := 3) (n := 3) hts inX3 (hts _ zw_newX3)
  obtain ⟨c2, i2, h2⟩ := u_known (C := RX4) (T := TX4) (N := 6) (n := 6) hts inX4 (hts _ zw_newX4)
  obtain ⟨c3, i3, h3⟩ := u_known (C := RX5) (T := TX5) (N := 9) (n := 9) hts inX5 (hts _ zw_newX5)
  obtain ⟨c4, i4, h4⟩ := u_known (C := RX6) (T := TX6) (N := 8) (n := 8) hts inX6 (hts _ zw_newX6)
  obtain ⟨c5, i5, h5⟩ := u_known (C := RX7) (T := TX7) (N := 21) (n := 21) hts inX7 (hts _ zw_newX7)
  obtain ⟨d0, k0, m0, x0, y0, z0⟩ := Cond.arrayClass_spec (hts _ zw_ai)
  obtain ⟨d1, k1, m1, x1, y1, z1⟩ := Cond.arrayClass_spec (hts _ zw_al)
  obtain ⟨m2, d2, k2, x2, -, y2, z2, u2⟩ := Cond.arrayOver_spec (args := #[]) (first := s) (o := none) (s := s) (idx := []) hao
  refine ⟨(fun k => [c0, c1, c2, c3, c4, c5].getD k 0, fun k => [i0, i1, i2, i3, i4, i5].getD k i0), (d0, d1, d2), fun k q hq => ?_, fun k q hq => ?_⟩
  · match k, hq with
    | 0, hq => cases hq; exact h0
    | 1, hq => cases hq; exact h1
    | 2, hq => cases hq; exact h2
    | 3, hq => cases hq; exact h3
    | 4, hq => cases hq; exact h4
    | 5, hq => cases hq; exact h5
    | k + 6, hq => simp [vwCl] at hq
  · match k, hq with
    | 0, hq => cases hq; exact ⟨fun N z => ⟨(fun k h => by cases h), k0, y0, m0, z0⟩, x0⟩
    | 1, hq => cases hq; exact ⟨fun N z => ⟨(fun k h => by cases h), k1, y1, m1, z1⟩, x1⟩
    | 2, hq => cases hq; exact ⟨fun N z => ⟨(fun k h => by cases h), k2, y2, m2, z2⟩, ⟨k2, m2, y2, z2, x2, u2⟩⟩
    | k + 3, hq => simp [ztys] at hq
def zgn : List Cond := flatC (Jvm.Cond.and given_1 narrow_1)
def ztm (i : Nat) : Term := .string RX1 ((zstr.getD i (0, "")).1)
theorem zg1 : ∀ i, i < 13 → Cond.exactly (ztm i) "java/lang/String" ∈ zgn := by decide +kernel
theorem zg2 : ∀ i, i < 13 → Cond.eq (.field (ztm i) "java/lang/String" "coder" "B") (.int 0) ∈ zgn := by decide +kernel
theorem zg3 : ∀ i, i < 13 → Cond.arrayOf (.field (ztm i) "java/lang/String" "value" "[B") .byte ∈ zgn := by decide +kernel
theorem zg4 : ∀ i, i < 13 → Cond.eq (.length (.field (ztm i) "java/lang/String" "value" "[B")) (.int (Int32.ofNat (zlen.getD i 0))) ∈ zgn := by decide +kernel
theorem zg5 : ∀ i, i < 13 → ∀ j, j < zlen.getD i 0 → Cond.eq (.elem (.field (ztm i) "java/lang/String" "value" "[B") (.int (Int32.ofNat j))) (.int ((zbyt.getD i []).getD j 0)) ∈ zgn := by decide +kernel
theorem zg6 : ∀ i, i < 13 → ∀ j, j < 13 → i ≠ j → Cond.not (Cond.eq (ztm i) (ztm j)) ∈ zgn ∨ Cond.not (Cond.eq (ztm j) (ztm i)) ∈ zgn := by decide +kernel
theorem zg7 : ∀ j, j < 6 → Cond.eq (.elem (.static "DownhillPost$Post" "ABOVE" "[I") (.int (Int32.ofNat j))) (.int (zabove.getD j 0)) ∈ zgn := by decide +kernel
theorem zw_str : ∀ k, k < 13 → Cond.stringRef RX1 (zstr.getD k (0, "")).1 (zstr.getD k (0, "")).2 ∈ tables_1 := by
  intro k hk
  match k, hk with
  | 0, _ => exact List.mem_of_getElem? (i := 673) (by decide +kernel)
  | 1, _ => exact List.mem_of_getElem? (i := 735) (by decide +kernel)
  | 2, _ => exact List.mem_of_getElem? (i := 737) (by decide +kernel)
  | 3, _ => exact List.mem_of_getElem? (i := 745) (by decide +kernel)
  | 4, _ => exact List.mem_of_getElem? (i := 747) (by decide +kernel)
  | 5, _ => exact List.mem_of_getElem? (i := 749) (by decide +kernel)
  | 6, _ => exact List.mem_of_getElem? (i := 754) (by decide +kernel)
  | 7, _ => exact List.mem_of_getElem? (i := 764) (by decide +kernel)
  | 8, _ => exact List.mem_of_getElem? (i := 765) (by decide +kernel)
  | 9, _ => exact List.mem_of_getElem? (i := 766) (by decide +kernel)
  | 10, _ => exact List.mem_of_getElem? (i := 767) (by decide +kernel)
  | 11, _ => exact List.mem_of_getElem? (i := 768) (by decide +kernel)
  | 12, _ => exact List.mem_of_getElem? (i := 769) (by decide +kernel)
theorem zw_ls_above : Cond.laysStatic "DownhillPost$Post" "ABOVE" "[I" ∈ tables_1 := List.mem_of_getElem? (i := 367) (by decide +kernel)
theorem zw_ls_compact : Cond.laysStatic "java/lang/String" "COMPACT_STRINGS" "Z" ∈ tables_1 := List.mem_of_getElem? (i := 687) (by decide +kernel)
theorem zw_ls_former : Cond.laysStatic "jdk/internal/util/Preconditions" "SIOOBE_FORMATTER" "Ljava/util/function/BiFunction;" ∈ tables_1 := List.mem_of_getElem? (i := 703) (by decide +kernel)
theorem zw_in_post : Cond.initialized "DownhillPost$Post" ∈ tables_1 := List.mem_of_getElem? (i := 7) (by decide +kernel)
theorem zw_in_string : Cond.initialized "java/lang/String" ∈ tables_1 := List.mem_of_getElem? (i := 12) (by decide +kernel)
theorem zw_in_prec : Cond.initialized "jdk/internal/util/Preconditions" ∈ tables_1 := List.mem_of_getElem? (i := 14) (by decide +kernel)
theorem zw_over : Cond.arrayOver (.object "DownhillPost$Sheet") ∈ tables_1 := List.mem_of_getElem? (i := 164) (by decide +kernel)
theorem zw_nest0 : Cond.methodLinkNest RX6 9 yX0_init RX6 ∈ tables_1 := List.mem_of_getElem? (i := 26) (by decide +kernel)
theorem zw_nest5 : Cond.methodLinkNest RX6 24 yX5_init RX6 ∈ tables_1 := List.mem_of_getElem? (i := 100) (by decide +kernel)
theorem zw_nest4 : Cond.methodLinkNest RX6 31 yX4_init RX6 ∈ tables_1 := List.mem_of_getElem? (i := 137) (by decide +kernel)
theorem zw_nest3 : Cond.methodLinkNest RX6 46 yX3_init RX6 ∈ tables_1 := List.mem_of_getElem? (i := 166) (by decide +kernel)
theorem zw_lawi6 : Cond.methodLink RL 9 yX6_init ∈ zT := zT_of (List.mem_of_getElem? (i := 18) (by decide +kernel)) rfl
theorem zw_lawi7 : Cond.methodLink RL 12 yX7_init ∈ zT := zT_of (List.mem_of_getElem? (i := 883) (by decide +kernel)) rfl
theorem ztab {w : Cond} (h : w ∈ tables_1) : w ∈ lw_tbl := List.mem_append_right _ h
theorem zst_X {s : State} {args : Array Value} (hts : ∀ w ∈ lw_tbl, w.before args s = true) (hgv : (Jvm.Cond.and given_1 narrow_1).before args s = true) (A : Nat → Prop) (hA : ∀ a : Nat, a < s.heap.size → ¬ A a) : ∃ (adK adV : Nat → Nat) (t8 t9 : Nat), vk_S 13 zlen zbyt adK adV A s s.heap ∧ (∀ (k : Nat) (q : Nat × String), zstr[k]? = some q → vk_R RX1 q.1 q.2 (adK k) s) ∧ va_Z "DownhillPost$Post" "ABOVE" "[I" (.ref t8) A s s.heap ∧ va_T .int t8 6 (fun j => .int (zabove.getD j 0)) A s s.heap ∧ va_Z "java/lang/String" "COMPACT_STRINGS" "Z" (.int 1) A s s.heap ∧ (va_Z "jdk/internal/util/Preconditions" "SIOOBE_FORMATTER" "Ljava/util/function/BiFunction;" .null A s s.heap ∨ va_Z "jdk/internal/util/Preconditions" "SIOOBE_FORMATTER" "Ljava/util/function/BiFunction;" (.ref t9) A s s.heap) := by
  have hs : ∀ c ∈ zgn, c.before args s = true := flat_of_before _ hgv
  obtain ⟨adK, adV, hS, hE⟩ := vk_Sof (args := args) (s := s) (N := 13) (tm := ztm) (len := zlen) (byt := zbyt) (A := A) (by decide) (fun i hi => hs _ (zg1 i hi)) (fun i hi => hs _ (zg2 i hi)) (fun i hi => hs _ (zg3 i hi)) (fun i hi => hs _ (zg4 i hi)) (fun i hi j hj => hs _ (zg5 i hi j hj)) (fun i j hi hj hn => (zg6 i hi j hj hn).imp (hs _) (hs _)) hA
  obtain ⟨t8, h8, hT⟩ := va_Tof (args := args) (s := s) (tm := .static "DownhillPost$Post" "ABOVE" "[I") (ty := .int) (N := 6) (f := fun j => .int (zabove.getD j 0)) (A := A) (by decide) (hs _ (by decide +kernel)) (va_eqt (hs (Cond.eq (.length (.static "DownhillPost$Post" "ABOVE" "[I")) (.int 6)) (by decide +kernel))) (fun j hj => va_eqt (hs _ (zg7 j hj))) hA
  have hq := va_Zqof (A := A) (hts _ (ztab zw_ls_former)) (hts _ (ztab zw_in_prec)) (hs (Cond.isRef (.static "jdk/internal/util/Preconditions" "SIOOBE_FORMATTER" "Ljava/util/function/BiFunction;")) (by decide +kernel)) hA
  have h1 := va_Zof (A := A) (hts _ (ztab zw_ls_above)) (hts _ (ztab zw_in_post)) h8 hA
  have h2 := va_Zof (A := A) (hts _ (ztab zw_ls_compact)) (hts _ (ztab zw_in_string)) (va_eqi (hs (Cond.eq (.static "java/lang/String" "COMPACT_STRINGS" "Z") (.int 1)) (by decide +kernel))) hA
  have hR : ∀ (k : Nat) (q : Nat × String), zstr[k]? = some q → vk_R RX1 q.1 q.2 (adK k) s := by
    intro k q hk
    have hl : k < 13 := (List.getElem?_eq_some_iff.mp hk).1
    have e : zstr.getD k (0, "") = q := by rw [List.getD_eq_getElem?_getD, hk]; rfl
    have a := hts _ (ztab (zw_str k hl))
    have b := hE k hl
    unfold ztm at b
    rw [e] at a b
    exact vk_R.of a b
  rcases hq with hq | ⟨t9, hq⟩
  · exact ⟨adK, adV, t8, 0, hS, hR, h1, hT, h2, Or.inl hq⟩
  · exact ⟨adK, adV, t8, t9, hS, hR, h1, hT, h2, Or.inr hq⟩
section ZLC
variable {p : Program} {l : Launch} {e : Env} {R : Room} {s : State} {m : MethodId} {args : Array Value} {below : List Frame} {meth : Method} {c : Code} {H : Heap} {locs : List Loc} {k n : Nat} {Q : State → Prop} {D : va_G} {c3 : zC3} {A : Nat → Prop} {pc : Nat} {la : Array Slot} {rest : List Value}
/-- a public constructor, from the law -/
theorem zl_ctor {y : MethodName} {cc cc0 : ByteArray} {nL nL0 x b ci mc ms : Nat} {own : String} {RM : Room} {fs : List Value} {Q1 : zC3 → Nat → va_W → Prop} {wr : va_W} (hM : zNew y cc nL RM ci fs mc ms Q1) (hrm : RM.cells = mc ∧ RM.slots = ms) (hy : y.name = "<init>" ∧ y.cls ≠ "java/lang/invoke/MethodHandle" ∧ y.cls ≠ "java/lang/invoke/VarHandle" ∧ (parseMethodDescriptor y.desc).map (fun d => d.parameters.length) = some 0) (hco : Cond.code y cc nL none ∈ zT) (him : Cond.instanceMethod y ∈ zT) (hini : Cond.initialized y.cls ∈ zT) (hlk : Cond.methodLink own x y ∈ zT)
    (hx : p.tables.exec = Jvm.exec) (hb : c.code = cc0) (hml : c.maxLocals = nL0) (hown : s.vm.findClass own = some m.cls) (hts : ∀ w ∈ zT, w.before args s = true) (hK : va_K D vwCl (ztys c3) s) (hNW : zNW s) (hA : ∀ q, s.heap.size ≤ q → A q) (hls : la.size = nL0)
    (hd : decode cc0 pc = .ok (.invokespecial x, 3)) (hn : wr.length < 60) (hcat : (rest.map fun v => v.category).sum ≤ 8) (hR : RM.frames + 1 ≤ R.frames ∧ 8 + (nL + 11) + RM.locals ≤ R.locals) (hf : k + mc ≤ R.cells ∧ n + ms ≤ R.slots)
    (hP : va_P D vwCl (wr ++ [(b, .inr (ci, fs))]) H) (hD : va_D A (wr ++ [(b, .inr (ci, fs))])) (hS : va_S A s.heap H locs)
    (kk : ∀ (w1 : va_W) (H1 : Heap) (locs1 : List Loc), Q1 c3 b w1 → va_P D vwCl (wr ++ w1) H1 → va_D A (wr ++ w1) → va_S A s.heap H1 locs1 → W p l e R s m args below meth c H1 locs1 (k + mc) (n + ms) Q (F0 m (pc + 3) la rest)) : W p l e R s m args below meth c H locs k n Q (F0 m pc la (.ref b :: rest)) := by
  have hG : GoodIn zT (Cond.code y cc nL none :: zT) := by
    intro w h
    rcases List.mem_cons.mp h with rfl | h
    · exact ⟨hco, zgood hco⟩
    · exact ⟨h, zgood h⟩
  have hPc : va_P D vwCl [(b, .inr (ci, fs))] H := hP.sub [wr.length] (by simp)
  have hFc : ∀ q, va_A [(b, (.inr (ci, fs) : va_E))] H.size q → A q := va_free hD hS hA [wr.length] (by simp)
  have hrun := va_runI (As := []) (b := b) (rest := rest) (n := 0) (index := x) (own := own) (Ts := zT) (cc := cc0) (nL := nL0) (bytes := cc) (maxL := nL) (e := e) (below := below) (R := R) (locs := locs) (cells := k) (slots := n) (g := F0 m pc la (Value.ref b :: rest)) (H := H) (meth := meth) ⟨hx, hb, hml, hown, hts⟩ (hM l D c3 b H.size) (cwI 0 hts hG rfl hrm.1 hrm.2 (hts _ hini) (hts _ hlk) (hts _ him) hy.1 ⟨hy.2.1, hy.2.2.1, hy.2.2.2⟩ hR)
    ⟨fun a U g mk q => by obtain ⟨q0, q1, q2, q3, q4⟩ := q; exact ⟨q0, q1, q2, va_K.moved (u := U) (U := U.calling g mk a) (Vm.Alike.refl U.vm) q3, zNW.same (u := U) (U := U.calling g mk a) rfl q4⟩, fun U hU hW => ⟨rfl, by rw [hU], by rw [hU]; exact hPc, va_K.moved hW.alike hK, hNW.warm hW⟩⟩ rfl rfl hls rfl (lv_room hcat) hd hf
  intro T hT X
  obtain ⟨v, st₀, t, T', L, h0, X', hL', e1, e2, ⟨⟨hv, w1, hq, hp1, hd1⟩, hz, hk1⟩, stp⟩ := hrun T hT X
  cases hv
  rw [h0] at hz hk1
  have hS' : va_S A s.heap T'.heap (locs ++ L) := ⟨Nat.le_trans hS.1 (by rw [e1]; exact hz), fun q g1 g2 => by rw [e1, hk1 q (Nat.lt_of_lt_of_le g1 hS.1) (fun z => g2 (hFc q z))]; exact hS.2.1 q g1 g2, fun q hq => by
      rcases List.mem_append.mp hq with g | g
      · exact hS.2.2 q g
      · exact hFc _ (hL' q g)⟩
  have hJ := zn_join (H1 := T'.heap) hn hP hD (fun q g1 g2 => by rw [e1]; exact hk1 q g1 g2) hFc (by rw [e1]; exact hp1) hd1
  obtain ⟨t2, a1, b1⟩ := kk w1 T'.heap (locs ++ L) hq hJ.1 hJ.2 hS' T' rfl X'
  exact ⟨t2, stp t2 a1, b1⟩
end ZLC
def zad (q : Nat → Nat) (b t8 t9 : Nat) (adK adV : Nat → Nat) (o : Nat) : Nat := if o < 80 then q o else if o = 80 then t8 else if o = 85 then t9 else if o = 90 then b else if o < 200 then adK (o - 100) else adV (o - 200)
/-- the world at the start -/
def zw0 : zW := (fun a b => if a = 61 then (if b = 3 then 7 else 0) else if (a = 10 ∨ a = 20 ∨ a = 30) then (if b = 7 then 7 else 0) else 0, fun _ _ => 0)
def zaq (a0 a1 a2 a3 a4 a5 a6 a7 a8 a9 a10 a11 a12 a13 a14 a15 a16 a17 a18 a19 a20 a21 a22 a23 a24 a25 a26 a27 a28 a29 a30 a31 a32 a33 a34 a35 a36 a37 a38 a39 a40 a41 a42 a43 a44 a45 b0 b1 b2 b3 b4 b5 b6 b7 b8 b9 b10 b11 : Nat) (o : Nat) : Nat := [a0, 0, 0, 0, 0, 0, 0, 0, 0, 0, a1, a2, a3, a4, a5, a6, a7, a8, a9, a10, a11, a12, a13, a14, a15, a16, a17, a18, a19, a20, a21, a22, a23, a24, a25, a26, a27, a28, a29, a30, a31, a32, a33, a34, a35, a36, a37, 0, 0, 0, a38, a39, a40, a41, a42, a43, a44, a45, 0, 0, b0, b1, b2, b3, b4, b5, b6, b7, b8, b9, b10, b11].getD o 0
set_option maxRecDepth 100000 in
set_option maxHeartbeats 40000000 in
theorem zst_W (c3 : zC3) (a0 a1 a2 a3 a4 a5 a6 a7 a8 a9 a10 a11 a12 a13 a14 a15 a16 a17 a18 a19 a20 a21 a22 a23 a24 a25 a26 a27 a28 a29 a30 a31 a32 a33 a34 a35 a36 a37 a38 a39 a40 a41 a42 a43 a44 a45 b0 b1 b2 b3 b4 b5 b6 b7 b8 b9 b10 b11 : Nat) (b t8 t9 : Nat) (adK adV : Nat → Nat) : wX6 c3 a0 a1 a2 a3 a4 a5 a6 a7 a8 a9 a10 a11 a12 a13 a14 a15 a16 a17 a18 a19 a20 a21 a22 a23 a24 a25 a26 a27 a28 a29 a30 a31 a32 a33 a34 a35 a36 a37 a38 a39 a40 a41 a42 a43 a44 a45 ++ wX7 c3 b0 b1 b2 b3 b4 b5 b6 b7 b8 b9 b10 b11 = zws (zad (zaq a0 a1 a2 a3 a4 a5 a6 a7 a8 a9 a10 a11 a12 a13 a14 a15 a16 a17 a18 a19 a20 a21 a22 a23 a24 a25 a26 a27 a28 a29 a30 a31 a32 a33 a34 a35 a36 a37 a38 a39 a40 a41 a42 a43 a44 a45 b0 b1 b2 b3 b4 b5 b6 b7 b8 b9 b10 b11) b t8 t9 adK adV) c3 zw0 := by
  have e1 : ∀ (x0 x1 x2 x3 : Nat), (va_up (va_up (va_up (va_up (fun _ => (none : Option Nat)) (Int32.toNatClampNeg (0 : Int32)) (some x0)) (Int32.toNatClampNeg (1 : Int32)) (some x1)) (Int32.toNatClampNeg (2 : Int32)) (some x2)) (Int32.toNatClampNeg (3 : Int32)) (some x3)) = fun i => ([x0, x1, x2, x3][i]?) := by
    intro x0 x1 x2 x3
    have g0 : Int32.toNatClampNeg (0 : Int32) = 0 := by decide
    have g1 : Int32.toNatClampNeg (1 : Int32) = 1 := by decide
    have g2 : Int32.toNatClampNeg (2 : Int32) = 2 := by decide
    have g3 : Int32.toNatClampNeg (3 : Int32) = 3 := by decide
    rw [g0, g1, g2, g3]
    funext i
    match i with
    | 0 => rfl
    | 1 => rfl
    | 2 => rfl
    | 3 => rfl
    | i + 4 => simp [va_up]
  have e2 : (upd (fun _ => (0 : Int32)) (Int32.toNatClampNeg (3 : Int32)) 7) = fun b => if b = 3 then (7 : Int32) else 0 := by
    have g3 : Int32.toNatClampNeg (3 : Int32) = 3 := by decide
    rw [g3]
    funext i
    simp [upd]
  have e3 : ∀ (ad : Nat → Nat), (fun i : Nat => (([50, 52, 54, 56] : List Nat)[i]?).map ad) = fun i => [ad 50, ad 52, ad 54, ad 56][i]? := by
    intro ad
    funext i
    match i with
    | 0 => rfl
    | 1 => rfl
    | 2 => rfl
    | 3 => rfl
    | i + 4 => simp
  have e4 : ∀ (ad : Nat → Nat), zcell ad c3 zw0 45 = .inl (c3.2.2, 4, .inr (.inr (.inr (.inr (fun i => [ad 50, ad 52, ad 54, ad 56][i]?))))) := by
    intro ad
    rw [← e3 ad]
    rfl
  unfold wX6 wX7
  rw [e1, e2]
  unfold zws zpls
  simp only [List.map_cons, List.map_nil, e4]
  rfl
set_option maxRecDepth 100000 in
set_option maxHeartbeats 40000000 in
/-- the law's walk, if its loop, as a function, comes to its end -/
theorem zwhole {p : Program} {e : Env} {s : State} {m : MethodId} {below : List Frame} {meth : Method} {c : Code} (l : Launch) {b L : Nat} {xs : Nat → Int32} (hlaw : ∃ n u, lpL_law L xs n zw0 0 = some u) (C0 : lw_At p s m meth c b L xs) : W p l e room_1 s m #[Value.ref b] below meth c s.heap [] 0 0 (lw_Z below #[Value.ref b] s) (entryFrame m ([Value.ref b] : List Value).toArray 4) := by
  obtain ⟨hx, hb, hr, hml, hown, hts0, hX, hbl, hlocks, hgv⟩ := id C0
  have hts : ∀ w ∈ zT, w.before #[Value.ref b] s = true := fun w h => hts0 w (zT_lw w h)
  have hA : ∀ q : Nat, s.heap.size ≤ q → (fun q : Nat => s.heap.size ≤ q) q := fun _ h => h
  have hNW : zNW s := ⟨va_AO.of (hts0 _ (ztab zw_over)), va_Nw.of rfl (hts0 _ (ztab zw_nest0)), va_Nw.of rfl (hts0 _ (ztab zw_nest5)), va_Nw.of rfl (hts0 _ (ztab zw_nest4)), va_Nw.of rfl (hts0 _ (ztab zw_nest3))⟩
  obtain ⟨D, c3, hK⟩ := zst_K hts hNW.1
  obtain ⟨adK, adV, t8, t9, x1, x2, x3, x4, x5, x6⟩ := zst_X hts0 hgv (fun q : Nat => s.heap.size ≤ q) (fun a h => Nat.not_le.mpr h)
  have hS : va_S (fun q : Nat => s.heap.size ≤ q) s.heap s.heap [] := va_S.rf
  have hP : va_P D vwCl [] s.heap := fun k q h => by simp at h
  have hD : va_D (fun q : Nat => s.heap.size ≤ q) [] := ⟨fun i j p q h => by simp at h, fun k q h => by simp at h⟩
  have hl := lv_entry ([.ref b]) (n := 4) (Nat.le_of_ble_eq_true rfl)
  rw [lg_entry_eq]
  generalize (lg_sl ([.ref b]) ++ List.replicate (4 - (lg_sl ([.ref b])).length) Slot.unset).toArray = la at hl ⊢
  have hl : lv_has la 4 [(0, .ref b)] := hl
  refine va_new (ci := 4) (fs := [.null, .null, .null, .null, .null, .null, .null, .int 0]) (C := RX6) (T := TX6) (N := 8) hx hb hts inX6 tyX6 tyX6_ok hown (hts _ kL_7c) (hts _ zw_newX6) (hts _ zw_iniX6) hK hP hD hS hA rfl (by decide +kernel) (Nat.le_of_ble_eq_true rfl) (Nat.le_of_ble_eq_true rfl) dL_law_0 (fun a0 H hP hD hS => ?_)
  refine lv_dup hx hb dL_law_3 rfl ?_
  refine zl_ctor (wr := []) (b := a0) (c3 := c3) nX6 ⟨rfl, rfl⟩ (by decide +kernel) zw_co6 zw_im6 zw_iniX6 zw_lawi6 hx hb hml hown hts hK hNW hA hl.1 dL_law_4 (by simp) (Nat.le_of_ble_eq_true rfl) ⟨Nat.le_of_ble_eq_true rfl, Nat.le_of_ble_eq_true rfl⟩ ⟨Nat.le_of_ble_eq_true rfl, Nat.le_of_ble_eq_true rfl⟩ hP hD hS (fun w1 H locs hq hP hD hS => ?_)
  obtain ⟨a1, a2, a3, a4, a5, a6, a7, a8, a9, a10, a11, a12, a13, a14, a15, a16, a17, a18, a19, a20, a21, a22, a23, a24, a25, a26, a27, a28, a29, a30, a31, a32, a33, a34, a35, a36, a37, a38, a39, a40, a41, a42, a43, a44, a45, rfl⟩ := hq
  refine lv_astore_n (lv' := [(1, .ref a0), (0, .ref b)]) hx hb dL_law_7 rfl hl (by decide) rfl (fun la hl => ?_)
  refine va_new (ci := 5) (fs := [.null, .null, .null, .int 0, .int 0, .null, .null, .int 0, .int 0, .int 0, .int 0, .long 0, .int 0, .int 0, .null, .null, .null, .null, .null, .null, .int 0]) (C := RX7) (T := TX7) (N := 21) hx hb hts inX7 tyX7 tyX7_ok hown (hts _ kL_10c) (hts _ zw_newX7) (hts _ zw_iniX7) hK hP hD hS hA rfl (by decide +kernel) (Nat.le_of_ble_eq_true rfl) (Nat.le_of_ble_eq_true rfl) dL_law_8 (fun b0 H hP hD hS => ?_)
  refine lv_dup hx hb dL_law_11 rfl ?_
  refine zl_ctor (wr := [] ++ wX6 c3 a0 a1 a2 a3 a4 a5 a6 a7 a8 a9 a10 a11 a12 a13 a14 a15 a16 a17 a18 a19 a20 a21 a22 a23 a24 a25 a26 a27 a28 a29 a30 a31 a32 a33 a34 a35 a36 a37 a38 a39 a40 a41 a42 a43 a44 a45) (b := b0) (c3 := c3) nX7 ⟨rfl, rfl⟩ (by decide +kernel) zw_co7 zw_im7 zw_iniX7 zw_lawi7 hx hb hml hown hts hK hNW hA hl.1 dL_law_12 (Nat.le_of_ble_eq_true rfl) (Nat.le_of_ble_eq_true rfl) ⟨Nat.le_of_ble_eq_true rfl, Nat.le_of_ble_eq_true rfl⟩ ⟨Nat.le_of_ble_eq_true rfl, Nat.le_of_ble_eq_true rfl⟩ hP hD hS (fun w1 H locs hq hP hD hS => ?_)
  obtain ⟨b1, b2, b3, b4, b5, b6, b7, b8, b9, b10, b11, rfl⟩ := hq
  refine lv_astore_n (lv' := [(2, .ref b0), (1, .ref a0), (0, .ref b)]) hx hb dL_law_15 rfl hl (by decide) rfl (fun la hl => ?_)
  refine lv_iconst (v := 0) hx hb dL_law_16 (by decide) ?_
  refine lv_istore_n (lv' := [(3, .int 0), (2, .ref b0), (1, .ref a0), (0, .ref b)]) hx hb dL_law_17 rfl hl (by decide) rfl (fun la hl => ?_)
  rw [List.nil_append, zst_W c3 a0 a1 a2 a3 a4 a5 a6 a7 a8 a9 a10 a11 a12 a13 a14 a15 a16 a17 a18 a19 a20 a21 a22 a23 a24 a25 a26 a27 a28 a29 a30 a31 a32 a33 a34 a35 a36 a37 a38 a39 a40 a41 a42 a43 a44 a45 b0 b1 b2 b3 b4 b5 b6 b7 b8 b9 b10 b11 b t8 t9 adK adV] at hP hD
  generalize had : zad (zaq a0 a1 a2 a3 a4 a5 a6 a7 a8 a9 a10 a11 a12 a13 a14 a15 a16 a17 a18 a19 a20 a21 a22 a23 a24 a25 a26 a27 a28 a29 a30 a31 a32 a33 a34 a35 a36 a37 a38 a39 a40 a41 a42 a43 a44 a45 b0 b1 b2 b3 b4 b5 b6 b7 b8 b9 b10 b11) b t8 t9 adK adV = ad at hP hD
  have g0 : ad 0 = a0 := by rw [← had]; rfl
  have g60 : ad 60 = b0 := by rw [← had]; rfl
  have g90 : ad 90 = b := by rw [← had]; rfl
  have g80 : ad 80 = t8 := by rw [← had]; rfl
  have g85 : ad 85 = t9 := by rw [← had]; rfl
  have gK : ∀ k, k < 13 → ad (100 + k) = adK k := by
    intro k hk
    rw [← had]
    unfold zad
    rw [if_neg (by omega), if_neg (by omega), if_neg (by omega), if_neg (by omega), if_pos (by omega), Nat.add_sub_cancel_left]
  have gV : ∀ k, k < 13 → ad (200 + k) = adV k := by
    intro k hk
    rw [← had]
    unfold zad
    rw [if_neg (by omega), if_neg (by omega), if_neg (by omega), if_neg (by omega), if_neg (by omega), Nat.add_sub_cancel_left]
  have hinj : zInj ad := by
    intro o1 o2 h1 h2 he
    obtain ⟨i, hi⟩ := List.getElem?_of_mem h1
    obtain ⟨j, hj⟩ := List.getElem?_of_mem h2
    have := hD.1 i j _ _ (zws_get hi) (zws_get hj) he
    subst this
    exact Option.some.inj (hi.symm.trans hj)
  have hsub : ∀ q, zA ad q → s.heap.size ≤ q := by
    intro q hq
    obtain ⟨o, ho, rfl⟩ := hq
    obtain ⟨i, hi⟩ := List.getElem?_of_mem ho
    exact hD.2 i _ (zws_get hi)
  have hZ : zX ad (fun q : Nat => s.heap.size ≤ q) s s.heap := by
    refine ⟨⟨fun i hi => ?_, fun i j hi hj he => ?_⟩, fun k q hk => ?_, by rw [g80]; exact x3, by rw [g80]; exact x4, x5, by rw [g85]; exact x6⟩
    · have := x1.1 i hi
      simp only [gK i hi, gV i hi]
      exact this
    · simp only [gK i hi, gK j hj] at he
      exact x1.2 i j hi hj he
    · have hl : k < 13 := (List.getElem?_eq_some_iff.mp hk).1
      rw [gK k hl]
      exact x2 k q hk
  obtain ⟨n, u, hlw⟩ := hlaw
  refine W.widen (k := 600000) (n := 7302250) (Nat.le_of_ble_eq_true rfl) (Nat.le_of_ble_eq_true rfl) ?_
  refine tlL_law n zw0 0 u hlw p l e s m #[Value.ref b] below meth c D ad c3 H locs la ⟨hx, hb, hml, hr, hlocks, hown, hts, hinj, hK, hZ, hsub, by show va_X (ad 90) L xs s s.heap ∧ ad 90 < s.heap.size; rw [g90]; exact ⟨hX, hbl⟩⟩ hP hS ⟨hl.1, hl.2.1, fun i v hi => ?_⟩
  match i, hi with
  | 0, hi => cases hi; show la[0]? = some (.val (.ref (ad 90))); rw [g90]; exact lv_at hl 3 rfl
  | 1, hi => cases hi; show la[1]? = some (.val (.ref (ad 0))); rw [g0]; exact lv_at hl 2 rfl
  | 2, hi => cases hi; show la[2]? = some (.val (.ref (ad 60))); rw [g60]; exact lv_at hl 1 rfl
  | 3, hi => cases hi; exact lv_at hl 0 rfl
  | i + 4, hi => simp at hi
