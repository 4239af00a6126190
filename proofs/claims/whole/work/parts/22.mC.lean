def fX4_byteAt (w : zW) (p1 : Int32) : Option Int32 := (if p1 < 0 then (some (-1 : Int32)) else ((if (w.1 43 1) ≤ p1 then (some (-1 : Int32)) else ((if (120 : Int32) ≤ p1 then (some (-1 : Int32)) else (Option.bind (zrd w 44 120 p1) fun v1 => some v1))))))
set_option maxRecDepth 100000 in
theorem tX4_byteAt {w : zW} {p1 : Int32}  {r : Int32} (h : fX4_byteAt w p1 = some r) : zRun yX4_byteAt cX4_byteAt 2 (some .int) 0 [.ref 43, .int p1] w (zI r w) := by
  refine zRun.of (k := 0) rfl rfl rfl ?_
  show zWP RX4 cX4_byteAt (zMB 2 (some .int) 0 (zI r w)) 0 [some (.ref 43), some (.int p1)] [] w
  unfold fX4_byteAt at h
  refine zs_iload_n dX4_byteAt_0 rfl ?_
  refine zs_if_lt 27 dX4_byteAt_1 rfl (fun c5 => ?_) (fun c5 => ?_)
  · replace h := zite_t c5 h
    refine zs_iconst (-1 : Int32) dX4_byteAt_27 ziconst_m1 ?_
    obtain rfl := Option.some.inj h
    exact zs_iret dX4_byteAt_28 ⟨rfl, rfl⟩
  · replace h := zite_f c5 h
    refine zs_iload_n dX4_byteAt_4 rfl ?_
    refine zs_aload_n dX4_byteAt_5 rfl ?_
    refine gX4_15 dX4_byteAt_6 ?_
    refine zs_icmp_ge 27 dX4_byteAt_9 rfl (fun c4 => ?_) (fun c4 => ?_)
    · replace h := zite_t c4 h
      refine zs_iconst (-1 : Int32) dX4_byteAt_27 ziconst_m1 ?_
      obtain rfl := Option.some.inj h
      exact zs_iret dX4_byteAt_28 ⟨rfl, rfl⟩
    · replace h := zite_f c4 h
      refine zs_iload_n dX4_byteAt_12 rfl ?_
      refine zs_bipush (120 : Int32) dX4_byteAt_13 zbipush_120 ?_
      refine zs_icmp_ge 27 dX4_byteAt_15 rfl (fun c3 => ?_) (fun c3 => ?_)
      · replace h := zite_t c3 h
        refine zs_iconst (-1 : Int32) dX4_byteAt_27 ziconst_m1 ?_
        obtain rfl := Option.some.inj h
        exact zs_iret dX4_byteAt_28 ⟨rfl, rfl⟩
      · replace h := zite_f c3 h
        refine zs_aload_n dX4_byteAt_18 rfl ?_
        refine gX4_9 dX4_byteAt_19 ?_
        refine zs_iload_n dX4_byteAt_22 rfl ?_
        obtain ⟨v1, e2, h⟩ := zbind h
        refine zs_iald dX4_byteAt_23 za_44 e2 ?_
        refine zs_goto 28 dX4_byteAt_24 rfl ?_
        obtain rfl := Option.some.inj h
        exact zs_iret dX4_byteAt_28 ⟨rfl, rfl⟩
def fX4_sortOf (w : zW) (p0 : Int32) : Option Int32 := (if 0 ≤ p0 then ((if p0 < (97 : Int32) then ((if p0 < (48 : Int32) then ((if p0 = (59 : Int32) then (some (3 : Int32)) else (some (4 : Int32)))) else ((if (57 : Int32) < p0 then ((if p0 = (59 : Int32) then (some (3 : Int32)) else (some (4 : Int32)))) else (some (2 : Int32)))))) else ((if (122 : Int32) < p0 then ((if p0 < (48 : Int32) then ((if p0 = (59 : Int32) then (some (3 : Int32)) else (some (4 : Int32)))) else ((if (57 : Int32) < p0 then ((if p0 = (59 : Int32) then (some (3 : Int32)) else (some (4 : Int32)))) else (some (2 : Int32)))))) else (some (1 : Int32)))))) else (some (0 : Int32)))
set_option maxRecDepth 100000 in
theorem tX4_sortOf {w : zW} {p0 : Int32}  {r : Int32} (h : fX4_sortOf w p0 = some r) : zRun yX4_sortOf cX4_sortOf 1 (some .int) 0 [.int p0] w (zI r w) := by
  refine zRun.of (k := 0) rfl rfl rfl ?_
  show zWP RX4 cX4_sortOf (zMB 1 (some .int) 0 (zI r w)) 0 [some (.int p0)] [] w
  unfold fX4_sortOf at h
  refine zs_iload_n dX4_sortOf_0 rfl ?_
  refine zs_if_ge 6 dX4_sortOf_1 rfl (fun c11 => ?_) (fun c11 => ?_)
  · replace h := zite_t c11 h
    refine zs_iload_n dX4_sortOf_6 rfl ?_
    refine zs_bipush (97 : Int32) dX4_sortOf_7 zbipush_97 ?_
    refine zs_icmp_lt 20 dX4_sortOf_9 rfl (fun c10 => ?_) (fun c10 => ?_)
    · replace h := zite_t c10 h
      refine zs_iload_n dX4_sortOf_20 rfl ?_
      refine zs_bipush (48 : Int32) dX4_sortOf_21 zbipush_48 ?_
      refine zs_icmp_lt 34 dX4_sortOf_23 rfl (fun c4 => ?_) (fun c4 => ?_)
      · replace h := zite_t c4 h
        refine zs_iload_n dX4_sortOf_34 rfl ?_
        refine zs_bipush (59 : Int32) dX4_sortOf_35 zbipush_59 ?_
        refine zs_icmp_ne 44 dX4_sortOf_37 rfl (fun c1 => ?_) (fun c1 => ?_)
        · replace h := zite_f c1 h
          refine zs_iconst (4 : Int32) dX4_sortOf_44 ziconst_4 ?_
          obtain rfl := Option.some.inj h
          exact zs_iret dX4_sortOf_45 ⟨rfl, rfl⟩
        · replace h := zite_t c1 h
          refine zs_iconst (3 : Int32) dX4_sortOf_40 ziconst_3 ?_
          refine zs_goto 45 dX4_sortOf_41 rfl ?_
          obtain rfl := Option.some.inj h
          exact zs_iret dX4_sortOf_45 ⟨rfl, rfl⟩
      · replace h := zite_f c4 h
        refine zs_iload_n dX4_sortOf_26 rfl ?_
        refine zs_bipush (57 : Int32) dX4_sortOf_27 zbipush_57 ?_
        refine zs_icmp_gt 34 dX4_sortOf_29 rfl (fun c3 => ?_) (fun c3 => ?_)
        · replace h := zite_t c3 h
          refine zs_iload_n dX4_sortOf_34 rfl ?_
          refine zs_bipush (59 : Int32) dX4_sortOf_35 zbipush_59 ?_
          refine zs_icmp_ne 44 dX4_sortOf_37 rfl (fun c2 => ?_) (fun c2 => ?_)
          · replace h := zite_f c2 h
            refine zs_iconst (4 : Int32) dX4_sortOf_44 ziconst_4 ?_
            obtain rfl := Option.some.inj h
            exact zs_iret dX4_sortOf_45 ⟨rfl, rfl⟩
          · replace h := zite_t c2 h
            refine zs_iconst (3 : Int32) dX4_sortOf_40 ziconst_3 ?_
            refine zs_goto 45 dX4_sortOf_41 rfl ?_
            obtain rfl := Option.some.inj h
            exact zs_iret dX4_sortOf_45 ⟨rfl, rfl⟩
        · replace h := zite_f c3 h
          refine zs_iconst (2 : Int32) dX4_sortOf_32 ziconst_2 ?_
          obtain rfl := Option.some.inj h
          exact zs_iret dX4_sortOf_33 ⟨rfl, rfl⟩
    · replace h := zite_f c10 h
      refine zs_iload_n dX4_sortOf_12 rfl ?_
      refine zs_bipush (122 : Int32) dX4_sortOf_13 zbipush_122 ?_
      refine zs_icmp_gt 20 dX4_sortOf_15 rfl (fun c9 => ?_) (fun c9 => ?_)
      · replace h := zite_t c9 h
        refine zs_iload_n dX4_sortOf_20 rfl ?_
        refine zs_bipush (48 : Int32) dX4_sortOf_21 zbipush_48 ?_
        refine zs_icmp_lt 34 dX4_sortOf_23 rfl (fun c8 => ?_) (fun c8 => ?_)
        · replace h := zite_t c8 h
          refine zs_iload_n dX4_sortOf_34 rfl ?_
          refine zs_bipush (59 : Int32) dX4_sortOf_35 zbipush_59 ?_
          refine zs_icmp_ne 44 dX4_sortOf_37 rfl (fun c5 => ?_) (fun c5 => ?_)
          · replace h := zite_f c5 h
            refine zs_iconst (4 : Int32) dX4_sortOf_44 ziconst_4 ?_
            obtain rfl := Option.some.inj h
            exact zs_iret dX4_sortOf_45 ⟨rfl, rfl⟩
          · replace h := zite_t c5 h
            refine zs_iconst (3 : Int32) dX4_sortOf_40 ziconst_3 ?_
            refine zs_goto 45 dX4_sortOf_41 rfl ?_
            obtain rfl := Option.some.inj h
            exact zs_iret dX4_sortOf_45 ⟨rfl, rfl⟩
        · replace h := zite_f c8 h
          refine zs_iload_n dX4_sortOf_26 rfl ?_
          refine zs_bipush (57 : Int32) dX4_sortOf_27 zbipush_57 ?_
          refine zs_icmp_gt 34 dX4_sortOf_29 rfl (fun c7 => ?_) (fun c7 => ?_)
          · replace h := zite_t c7 h
            refine zs_iload_n dX4_sortOf_34 rfl ?_
            refine zs_bipush (59 : Int32) dX4_sortOf_35 zbipush_59 ?_
            refine zs_icmp_ne 44 dX4_sortOf_37 rfl (fun c6 => ?_) (fun c6 => ?_)
            · replace h := zite_f c6 h
              refine zs_iconst (4 : Int32) dX4_sortOf_44 ziconst_4 ?_
              obtain rfl := Option.some.inj h
              exact zs_iret dX4_sortOf_45 ⟨rfl, rfl⟩
            · replace h := zite_t c6 h
              refine zs_iconst (3 : Int32) dX4_sortOf_40 ziconst_3 ?_
              refine zs_goto 45 dX4_sortOf_41 rfl ?_
              obtain rfl := Option.some.inj h
              exact zs_iret dX4_sortOf_45 ⟨rfl, rfl⟩
          · replace h := zite_f c7 h
            refine zs_iconst (2 : Int32) dX4_sortOf_32 ziconst_2 ?_
            obtain rfl := Option.some.inj h
            exact zs_iret dX4_sortOf_33 ⟨rfl, rfl⟩
      · replace h := zite_f c9 h
        refine zs_iconst (1 : Int32) dX4_sortOf_18 ziconst_1 ?_
        obtain rfl := Option.some.inj h
        exact zs_iret dX4_sortOf_19 ⟨rfl, rfl⟩
  · replace h := zite_f c11 h
    refine zs_iconst (0 : Int32) dX4_sortOf_4 ziconst_0 ?_
    obtain rfl := Option.some.inj h
    exact zs_iret dX4_sortOf_5 ⟨rfl, rfl⟩
def lpX4_passNumber_5  : Nat → zW → Option zW
  | 0, _ => none
  | n + 1, w3 => (if (w3.1 43 1) ≤ (w3.1 43 3) then (some w3) else (Option.bind (fX4_byteAt w3 (w3.1 43 3)) fun v6 => Option.bind (fX4_sortOf w3 v6) fun v8 => (if v8 = (2 : Int32) then (Option.bind (fX4_byteAt w3 (w3.1 43 3)) fun v10 => Option.bind (some (zsf w3 43 5 (zmin ((((w3.1 43 5) * (10 : Int32)) + v10) - (48 : Int32)) (10000 : Int32)))) fun w11 => Option.bind (some (zsf w11 43 3 ((w11.1 43 3) + (1 : Int32)))) fun w13 => lpX4_passNumber_5 n w13) else (some w3))))
def fX4_passNumber (w : zW)  : Option zW := Option.bind (some (zsf w 43 5 (0 : Int32))) fun w1 => Option.bind (lpX4_passNumber_5  zF w1) fun w19 => some w19
set_option maxRecDepth 100000 in
theorem tlX4_passNumber_5   {Q : Option Value → zW → Prop} : ∀ (n : Nat) (w3 : zW) (w4 : zW), lpX4_passNumber_5  n w3 = some w4 → zWP RX4 cX4_passNumber (zMB 1 none 1 Q) 73 [none] [] w4 → zWP RX4 cX4_passNumber (zMB 1 none 1 Q) 5 [some (.ref 43)] [] w3 := by
  intro n
  induction n with
  | zero => intro w3 w4 h K; simp [lpX4_passNumber_5] at h
  | succ n ih =>
    intro w3 w4 h K
    rw [lpX4_passNumber_5] at h
    refine zs_aload_n dX4_passNumber_5 rfl ?_
    refine gX4_19 dX4_passNumber_6 ?_
    refine zs_aload_n dX4_passNumber_9 rfl ?_
    refine gX4_15 dX4_passNumber_10 ?_
    refine zs_icmp_ge 73 dX4_passNumber_13 rfl (fun c16 => ?_) (fun c16 => ?_)
    · replace h := zite_t c16 h
      refine zs_fo [false] rfl ?_
      obtain rfl := Option.some.inj h
      exact K
    · replace h := zite_f c16 h
      refine zs_aload_n dX4_passNumber_16 rfl ?_
      refine zs_aload_n dX4_passNumber_17 rfl ?_
      refine gX4_19 dX4_passNumber_18 ?_
      obtain ⟨v6, e5, h⟩ := zbind h
      refine zc_V1i moX4_byteAt mvX4_byteAt kX4_28 rfl dX4_passNumber_21 za_43 (Nat.le_of_ble_eq_true rfl) (zrm (by decide)) (tX4_byteAt e5) ?_
      obtain ⟨v8, e7, h⟩ := zbind h
      refine zc_S1i moX4_sortOf mvX4_sortOf kX4_32 dX4_passNumber_24 (Nat.le_of_ble_eq_true rfl) (zrm (by decide)) (tX4_sortOf e7) ?_
      refine zs_iconst (2 : Int32) dX4_passNumber_27 ziconst_2 ?_
      refine zs_icmp_ne 73 dX4_passNumber_28 rfl (fun c15 => ?_) (fun c15 => ?_)
      · replace h := zite_f c15 h
        refine zs_fo [false] rfl ?_
        obtain rfl := Option.some.inj h
        exact K
      · replace h := zite_t c15 h
        refine zs_aload_n dX4_passNumber_31 rfl ?_
        refine zs_aload_n dX4_passNumber_32 rfl ?_
        refine gX4_44 dX4_passNumber_33 ?_
        refine zs_bipush (10 : Int32) dX4_passNumber_36 zbipush_10 ?_
        refine zs_imul dX4_passNumber_38 ?_
        refine zs_aload_n dX4_passNumber_39 rfl ?_
        refine zs_aload_n dX4_passNumber_40 rfl ?_
        refine gX4_19 dX4_passNumber_41 ?_
        obtain ⟨v10, e9, h⟩ := zbind h
        refine zc_V1i moX4_byteAt mvX4_byteAt kX4_28 rfl dX4_passNumber_44 za_43 (Nat.le_of_ble_eq_true rfl) (zrm (by decide)) (tX4_byteAt e9) ?_
        refine zs_iadd dX4_passNumber_47 ?_
        refine zs_bipush (48 : Int32) dX4_passNumber_48 zbipush_48 ?_
        refine zs_isub dX4_passNumber_50 ?_
        refine zs_sipush (10000 : Int32) dX4_passNumber_51 zsipush_10000 ?_
        refine zs_min kX4_47 zst_min zin_math zco_min (zrm1 (by decide)) (Nat.le_of_ble_eq_true rfl) dX4_passNumber_54 ?_
        obtain ⟨w11, e12, h⟩ := zbind h
        refine pX4_44 dX4_passNumber_57 ?_
        refine zs_nmw (Option.some.inj e12) ?_
        refine zs_aload_n dX4_passNumber_60 rfl ?_
        refine zs_dup dX4_passNumber_61 rfl ?_
        refine gX4_19 dX4_passNumber_62 ?_
        refine zs_iconst (1 : Int32) dX4_passNumber_65 ziconst_1 ?_
        refine zs_iadd dX4_passNumber_66 ?_
        obtain ⟨w13, e14, h⟩ := zbind h
        refine pX4_19 dX4_passNumber_67 ?_
        refine zs_nmw (Option.some.inj e14) ?_
        refine zs_goto 5 dX4_passNumber_70 rfl ?_
        exact ih _ _ h K
set_option maxRecDepth 100000 in
theorem tX4_passNumber {w : zW}    {w' : zW} (h : fX4_passNumber w  = some w') : zRun yX4_passNumber cX4_passNumber 1 none 1 [.ref 43] w (zV w') := by
  refine zRun.of (k := 0) rfl rfl rfl ?_
  show zWP RX4 cX4_passNumber (zMB 1 none 1 (zV w')) 0 [some (.ref 43)] [] w
  unfold fX4_passNumber at h
  refine zs_aload_n dX4_passNumber_0 rfl ?_
  refine zs_iconst (0 : Int32) dX4_passNumber_1 ziconst_0 ?_
  obtain ⟨w1, e2, h⟩ := zbind h
  refine pX4_44 dX4_passNumber_2 ?_
  refine zs_nmw (Option.some.inj e2) ?_
  obtain ⟨w19, e17, h⟩ := zbind h
  have K18 : zWP RX4 cX4_passNumber (zMB 1 none 1 (zV w')) 73 [none] [] w19 := by
    obtain rfl := Option.some.inj h
    exact zs_vret dX4_passNumber_73 ⟨rfl, rfl⟩
  exact tlX4_passNumber_5  zF _ _ e17 K18
def lpX4_passWord_0  : Nat → zW → Option zW
  | 0, _ => none
  | n + 1, w1 => (if (w1.1 43 1) ≤ (w1.1 43 3) then (some w1) else (Option.bind (fX4_byteAt w1 (w1.1 43 3)) fun v4 => Option.bind (fX4_sortOf w1 v4) fun v6 => (if v6 = (1 : Int32) then (Option.bind (some (zsf w1 43 3 ((w1.1 43 3) + (1 : Int32)))) fun w7 => lpX4_passWord_0 n w7) else (some w1))))
def fX4_passWord (w : zW)  : Option zW := Option.bind (lpX4_passWord_0  zF w) fun w13 => some w13
set_option maxRecDepth 100000 in
theorem tlX4_passWord_0   {Q : Option Value → zW → Prop} : ∀ (n : Nat) (w1 : zW) (w2 : zW), lpX4_passWord_0  n w1 = some w2 → zWP RX4 cX4_passWord (zMB 1 none 1 Q) 39 [none] [] w2 → zWP RX4 cX4_passWord (zMB 1 none 1 Q) 0 [some (.ref 43)] [] w1 := by
  intro n
  induction n with
  | zero => intro w1 w2 h K; simp [lpX4_passWord_0] at h
  | succ n ih =>
    intro w1 w2 h K
    rw [lpX4_passWord_0] at h
    refine zs_aload_n dX4_passWord_0 rfl ?_
    refine gX4_19 dX4_passWord_1 ?_
    refine zs_aload_n dX4_passWord_4 rfl ?_
    refine gX4_15 dX4_passWord_5 ?_
    refine zs_icmp_ge 39 dX4_passWord_8 rfl (fun c10 => ?_) (fun c10 => ?_)
    · replace h := zite_t c10 h
      refine zs_fo [false] rfl ?_
      obtain rfl := Option.some.inj h
      exact K
    · replace h := zite_f c10 h
      refine zs_aload_n dX4_passWord_11 rfl ?_
      refine zs_aload_n dX4_passWord_12 rfl ?_
      refine gX4_19 dX4_passWord_13 ?_
      obtain ⟨v4, e3, h⟩ := zbind h
      refine zc_V1i moX4_byteAt mvX4_byteAt kX4_28 rfl dX4_passWord_16 za_43 (Nat.le_of_ble_eq_true rfl) (zrm (by decide)) (tX4_byteAt e3) ?_
      obtain ⟨v6, e5, h⟩ := zbind h
      refine zc_S1i moX4_sortOf mvX4_sortOf kX4_32 dX4_passWord_19 (Nat.le_of_ble_eq_true rfl) (zrm (by decide)) (tX4_sortOf e5) ?_
      refine zs_iconst (1 : Int32) dX4_passWord_22 ziconst_1 ?_
      refine zs_icmp_ne 39 dX4_passWord_23 rfl (fun c9 => ?_) (fun c9 => ?_)
      · replace h := zite_f c9 h
        refine zs_fo [false] rfl ?_
        obtain rfl := Option.some.inj h
        exact K
      · replace h := zite_t c9 h
        refine zs_aload_n dX4_passWord_26 rfl ?_
        refine zs_dup dX4_passWord_27 rfl ?_
        refine gX4_19 dX4_passWord_28 ?_
        refine zs_iconst (1 : Int32) dX4_passWord_31 ziconst_1 ?_
        refine zs_iadd dX4_passWord_32 ?_
        obtain ⟨w7, e8, h⟩ := zbind h
        refine pX4_19 dX4_passWord_33 ?_
        refine zs_nmw (Option.some.inj e8) ?_
        refine zs_goto 0 dX4_passWord_36 rfl ?_
        exact ih _ _ h K
set_option maxRecDepth 100000 in
theorem tX4_passWord {w : zW}    {w' : zW} (h : fX4_passWord w  = some w') : zRun yX4_passWord cX4_passWord 1 none 1 [.ref 43] w (zV w') := by
  refine zRun.of (k := 0) rfl rfl rfl ?_
  show zWP RX4 cX4_passWord (zMB 1 none 1 (zV w')) 0 [some (.ref 43)] [] w
  unfold fX4_passWord at h
  obtain ⟨w13, e11, h⟩ := zbind h
  have K12 : zWP RX4 cX4_passWord (zMB 1 none 1 (zV w')) 39 [none] [] w13 := by
    obtain rfl := Option.some.inj h
    exact zs_vret dX4_passWord_39 ⟨rfl, rfl⟩
  exact tlX4_passWord_0  zF _ _ e11 K12
def lpX4_advance_8  : Nat → zW → Option zW
  | 0, _ => none
  | n + 1, w3 => (if (w3.1 43 1) ≤ (w3.1 43 2) then (some w3) else (Option.bind (fX4_byteAt w3 (w3.1 43 2)) fun v6 => (if v6 = (32 : Int32) then (Option.bind (some (zsf w3 43 2 ((w3.1 43 2) + (1 : Int32)))) fun w7 => lpX4_advance_8 n w7) else (some w3))))
def fX4_advance (w : zW)  : Option zW := Option.bind (some (zsf w 43 2 (w.1 43 3))) fun w1 => Option.bind (lpX4_advance_8  zF w1) fun w13 => Option.bind (fX4_byteAt w13 (w13.1 43 2)) fun v15 => Option.bind (fX4_sortOf w13 v15) fun v17 => Option.bind (some (zsf w13 43 4 v17)) fun w18 => Option.bind (some (zsf w18 43 3 (w18.1 43 2))) fun w20 => (if (w20.1 43 4) = (3 : Int32) then (Option.bind (some (zsf w20 43 3 ((w20.1 43 3) + (1 : Int32)))) fun w22 => some w22) else ((if (w20.1 43 4) = (4 : Int32) then (Option.bind (some (zsf w20 43 3 ((w20.1 43 3) + (1 : Int32)))) fun w30 => some w30) else ((if (w20.1 43 4) = (2 : Int32) then (Option.bind (fX4_passNumber w20) fun w28 => some w28) else ((if (w20.1 43 4) = (1 : Int32) then (Option.bind (fX4_passWord w20) fun w25 => some w25) else (some w20))))))))
set_option maxRecDepth 100000 in
theorem tlX4_advance_8   {Q : Option Value → zW → Prop} : ∀ (n : Nat) (w3 : zW) (w4 : zW), lpX4_advance_8  n w3 = some w4 → zWP RX4 cX4_advance (zMB 1 none 2 Q) 45 [some (.ref 43)] [] w4 → zWP RX4 cX4_advance (zMB 1 none 2 Q) 8 [some (.ref 43)] [] w3 := by
  intro n
  induction n with
  | zero => intro w3 w4 h K; simp [lpX4_advance_8] at h
  | succ n ih =>
    intro w3 w4 h K
    rw [lpX4_advance_8] at h
    refine zs_aload_n dX4_advance_8 rfl ?_
    refine gX4_25 dX4_advance_9 ?_
    refine zs_aload_n dX4_advance_12 rfl ?_
    refine gX4_15 dX4_advance_13 ?_
    refine zs_icmp_ge 45 dX4_advance_16 rfl (fun c10 => ?_) (fun c10 => ?_)
    · replace h := zite_t c10 h
      obtain rfl := Option.some.inj h
      exact K
    · replace h := zite_f c10 h
      refine zs_aload_n dX4_advance_19 rfl ?_
      refine zs_aload_n dX4_advance_20 rfl ?_
      refine gX4_25 dX4_advance_21 ?_
      obtain ⟨v6, e5, h⟩ := zbind h
      refine zc_V1i moX4_byteAt mvX4_byteAt kX4_28 rfl dX4_advance_24 za_43 (Nat.le_of_ble_eq_true rfl) (zrm (by decide)) (tX4_byteAt e5) ?_
      refine zs_bipush (32 : Int32) dX4_advance_27 zbipush_32 ?_
      refine zs_icmp_ne 45 dX4_advance_29 rfl (fun c9 => ?_) (fun c9 => ?_)
      · replace h := zite_f c9 h
        obtain rfl := Option.some.inj h
        exact K
      · replace h := zite_t c9 h
        refine zs_aload_n dX4_advance_32 rfl ?_
        refine zs_dup dX4_advance_33 rfl ?_
        refine gX4_25 dX4_advance_34 ?_
        refine zs_iconst (1 : Int32) dX4_advance_37 ziconst_1 ?_
        refine zs_iadd dX4_advance_38 ?_
        obtain ⟨w7, e8, h⟩ := zbind h
        refine pX4_25 dX4_advance_39 ?_
        refine zs_nmw (Option.some.inj e8) ?_
        refine zs_goto 8 dX4_advance_42 rfl ?_
        exact ih _ _ h K
set_option maxRecDepth 100000 in
theorem tX4_advance {w : zW}    {w' : zW} (h : fX4_advance w  = some w') : zRun yX4_advance cX4_advance 1 none 2 [.ref 43] w (zV w') := by
  refine zRun.of (k := 0) rfl rfl rfl ?_
  show zWP RX4 cX4_advance (zMB 1 none 2 (zV w')) 0 [some (.ref 43)] [] w
  unfold fX4_advance at h
  refine zs_aload_n dX4_advance_0 rfl ?_
  refine zs_aload_n dX4_advance_1 rfl ?_
  refine gX4_19 dX4_advance_2 ?_
  obtain ⟨w1, e2, h⟩ := zbind h
  refine pX4_25 dX4_advance_5 ?_
  refine zs_nmw (Option.some.inj e2) ?_
  obtain ⟨w13, e11, h⟩ := zbind h
  have K12 : zWP RX4 cX4_advance (zMB 1 none 2 (zV w')) 45 [some (.ref 43)] [] w13 := by
    refine zs_aload_n dX4_advance_45 rfl ?_
    refine zs_aload_n dX4_advance_46 rfl ?_
    refine zs_aload_n dX4_advance_47 rfl ?_
    refine gX4_25 dX4_advance_48 ?_
    obtain ⟨v15, e14, h⟩ := zbind h
    refine zc_V1i moX4_byteAt mvX4_byteAt kX4_28 rfl dX4_advance_51 za_43 (Nat.le_of_ble_eq_true rfl) (zrm (by decide)) (tX4_byteAt e14) ?_
    obtain ⟨v17, e16, h⟩ := zbind h
    refine zc_S1i moX4_sortOf mvX4_sortOf kX4_32 dX4_advance_54 (Nat.le_of_ble_eq_true rfl) (zrm (by decide)) (tX4_sortOf e16) ?_
    obtain ⟨w18, e19, h⟩ := zbind h
    refine pX4_35 dX4_advance_57 ?_
    refine zs_nmw (Option.some.inj e19) ?_
    refine zs_aload_n dX4_advance_60 rfl ?_
    refine zs_aload_n dX4_advance_61 rfl ?_
    refine gX4_25 dX4_advance_62 ?_
    obtain ⟨w20, e21, h⟩ := zbind h
    refine pX4_19 dX4_advance_65 ?_
    refine zs_nmw (Option.some.inj e21) ?_
    refine zs_aload_n dX4_advance_68 rfl ?_
    refine gX4_35 dX4_advance_69 ?_
    refine zs_iconst (3 : Int32) dX4_advance_72 ziconst_3 ?_
    refine zs_icmp_eq 84 dX4_advance_73 rfl (fun c33 => ?_) (fun c33 => ?_)
    · replace h := zite_t c33 h
      refine zs_aload_n dX4_advance_84 rfl ?_
      refine zs_dup dX4_advance_85 rfl ?_
      refine gX4_19 dX4_advance_86 ?_
      refine zs_iconst (1 : Int32) dX4_advance_89 ziconst_1 ?_
      refine zs_iadd dX4_advance_90 ?_
      obtain ⟨w22, e23, h⟩ := zbind h
      refine pX4_19 dX4_advance_91 ?_
      refine zs_nmw (Option.some.inj e23) ?_
      refine zs_goto 124 dX4_advance_94 rfl ?_
      obtain rfl := Option.some.inj h
      exact zs_vret dX4_advance_124 ⟨rfl, rfl⟩
    · replace h := zite_f c33 h
      refine zs_aload_n dX4_advance_76 rfl ?_
      refine gX4_35 dX4_advance_77 ?_
      refine zs_iconst (4 : Int32) dX4_advance_80 ziconst_4 ?_
      refine zs_icmp_ne 97 dX4_advance_81 rfl (fun c32 => ?_) (fun c32 => ?_)
      · replace h := zite_f c32 h
        refine zs_aload_n dX4_advance_97 rfl ?_
        refine gX4_35 dX4_advance_98 ?_
        refine zs_iconst (2 : Int32) dX4_advance_101 ziconst_2 ?_
        refine zs_icmp_ne 112 dX4_advance_102 rfl (fun c29 => ?_) (fun c29 => ?_)
        · replace h := zite_f c29 h
          refine zs_aload_n dX4_advance_112 rfl ?_
          refine gX4_35 dX4_advance_113 ?_
          refine zs_iconst (1 : Int32) dX4_advance_116 ziconst_1 ?_
          refine zs_icmp_ne 124 dX4_advance_117 rfl (fun c26 => ?_) (fun c26 => ?_)
          · replace h := zite_f c26 h
            obtain rfl := Option.some.inj h
            exact zs_vret dX4_advance_124 ⟨rfl, rfl⟩
          · replace h := zite_t c26 h
            refine zs_aload_n dX4_advance_120 rfl ?_
            obtain ⟨w25, e24, h⟩ := zbind h
            refine zc_V0v moX4_passWord mvX4_passWord kX4_41 rfl dX4_advance_121 za_43 (Nat.le_of_ble_eq_true rfl) (zrm (by decide)) (tX4_passWord e24) ?_
            obtain rfl := Option.some.inj h
            exact zs_vret dX4_advance_124 ⟨rfl, rfl⟩
        · replace h := zite_t c29 h
          refine zs_aload_n dX4_advance_105 rfl ?_
          obtain ⟨w28, e27, h⟩ := zbind h
          refine zc_V0v moX4_passNumber mvX4_passNumber kX4_38 rfl dX4_advance_106 za_43 (Nat.le_of_ble_eq_true rfl) (zrm (by decide)) (tX4_passNumber e27) ?_
          refine zs_goto 124 dX4_advance_109 rfl ?_
          obtain rfl := Option.some.inj h
          exact zs_vret dX4_advance_124 ⟨rfl, rfl⟩
      · replace h := zite_t c32 h
        refine zs_aload_n dX4_advance_84 rfl ?_
        refine zs_dup dX4_advance_85 rfl ?_
        refine gX4_19 dX4_advance_86 ?_
        refine zs_iconst (1 : Int32) dX4_advance_89 ziconst_1 ?_
        refine zs_iadd dX4_advance_90 ?_
        obtain ⟨w30, e31, h⟩ := zbind h
        refine pX4_19 dX4_advance_91 ?_
        refine zs_nmw (Option.some.inj e31) ?_
        refine zs_goto 124 dX4_advance_94 rfl ?_
        obtain rfl := Option.some.inj h
        exact zs_vret dX4_advance_124 ⟨rfl, rfl⟩
  exact tlX4_advance_8  zF _ _ e11 K12
def fX4_isNumber (w : zW) (p1 : Int32) (p2 : Int32) : Option Int32 := (if (w.1 43 4) = (2 : Int32) then ((if (w.1 43 5) < p1 then (some (0 : Int32)) else ((if p2 < (w.1 43 5) then (some (0 : Int32)) else (some (1 : Int32)))))) else (some (0 : Int32)))
set_option maxRecDepth 100000 in
theorem tX4_isNumber {w : zW} {p1 : Int32} {p2 : Int32}  {r : Int32} (h : fX4_isNumber w p1 p2 = some r) : zRun yX4_isNumber cX4_isNumber 3 (some .boolean) 0 [.ref 43, .int p1, .int p2] w (zI r w) := by
  refine zRun.of (k := 0) rfl rfl rfl ?_
  show zWP RX4 cX4_isNumber (zMB 3 (some .boolean) 0 (zI r w)) 0 [some (.ref 43), some (.int p1), some (.int p2)] [] w
  unfold fX4_isNumber at h
  refine zs_aload_n dX4_isNumber_0 rfl ?_
  refine gX4_35 dX4_isNumber_1 ?_
  refine zs_iconst (2 : Int32) dX4_isNumber_4 ziconst_2 ?_
  refine zs_icmp_ne 28 dX4_isNumber_5 rfl (fun c3 => ?_) (fun c3 => ?_)
  · replace h := zite_f c3 h
    refine zs_iconst (0 : Int32) dX4_isNumber_28 ziconst_0 ?_
    obtain rfl := Option.some.inj h
    exact zs_bret dX4_isNumber_29 (Or.inl rfl) ⟨rfl, rfl⟩
  · replace h := zite_t c3 h
    refine zs_aload_n dX4_isNumber_8 rfl ?_
    refine gX4_44 dX4_isNumber_9 ?_
    refine zs_iload_n dX4_isNumber_12 rfl ?_
    refine zs_icmp_lt 28 dX4_isNumber_13 rfl (fun c2 => ?_) (fun c2 => ?_)
    · replace h := zite_t c2 h
      refine zs_iconst (0 : Int32) dX4_isNumber_28 ziconst_0 ?_
      obtain rfl := Option.some.inj h
      exact zs_bret dX4_isNumber_29 (Or.inl rfl) ⟨rfl, rfl⟩
    · replace h := zite_f c2 h
      refine zs_aload_n dX4_isNumber_16 rfl ?_
      refine gX4_44 dX4_isNumber_17 ?_
      refine zs_iload_n dX4_isNumber_20 rfl ?_
      refine zs_icmp_gt 28 dX4_isNumber_21 rfl (fun c1 => ?_) (fun c1 => ?_)
      · replace h := zite_t c1 h
        refine zs_iconst (0 : Int32) dX4_isNumber_28 ziconst_0 ?_
        obtain rfl := Option.some.inj h
        exact zs_bret dX4_isNumber_29 (Or.inl rfl) ⟨rfl, rfl⟩
      · replace h := zite_f c1 h
        refine zs_iconst (1 : Int32) dX4_isNumber_24 ziconst_1 ?_
        refine zs_goto 29 dX4_isNumber_25 rfl ?_
        obtain rfl := Option.some.inj h
        exact zs_bret dX4_isNumber_29 (Or.inr rfl) ⟨rfl, rfl⟩
def fX1_bringEvery (w : zW) (o1 : Nat) : Option (Int32 × zW) := Option.bind (fX4_advance w) fun w2 => Option.bind (fX4_isNumber w2 (1 : Int32) (99 : Int32)) fun v4 => (if v4 = 0 then (some ((0 : Int32), w2)) else (Option.bind (some (zsf w2 o1 7 (w2.1 43 5))) fun w5 => Option.bind (fX4_advance w5) fun w8 => some ((1 : Int32), w8)))
set_option maxRecDepth 100000 in
theorem tX1_bringEvery {w : zW} {o1 : Nat} (ho1 : zIsLand o1) {r : Int32} {w' : zW} (h : fX1_bringEvery w o1 = some (r, w')) : zRun yX1_bringEvery cX1_bringEvery 2 (some .boolean) 3 [.ref 43, .ref o1] w (zI r w') := by
  refine zRun.of (k := 0) rfl rfl rfl ?_
  show zWP RX1 cX1_bringEvery (zMB 2 (some .boolean) 3 (zI r w')) 0 [some (.ref 43), some (.ref o1)] [] w
  unfold fX1_bringEvery at h
  refine zs_aload_n dX1_bringEvery_0 rfl ?_
  obtain ⟨w2, e1, h⟩ := zbind h
  refine zc_V0v moX4_advance mvX4_advance kX1_31 rfl dX1_bringEvery_1 za_43 (Nat.le_of_ble_eq_true rfl) (zrm (by decide)) (tX4_advance e1) ?_
  refine zs_aload_n dX1_bringEvery_4 rfl ?_
  refine zs_iconst (1 : Int32) dX1_bringEvery_5 ziconst_1 ?_
  refine zs_bipush (99 : Int32) dX1_bringEvery_6 zbipush_99 ?_
  obtain ⟨v4, e3, h⟩ := zbind h
  refine zc_V2i moX4_isNumber mvX4_isNumber kX1_71 rfl dX1_bringEvery_8 za_43 (Nat.le_of_ble_eq_true rfl) (zrm (by decide)) (tX4_isNumber e3) ?_
  refine zs_if_ne 16 dX1_bringEvery_11 rfl (fun c9 => ?_) (fun c9 => ?_)
  · replace h := zite_f c9 h
    refine zs_aload_n dX1_bringEvery_16 rfl ?_
    refine zs_aload_n dX1_bringEvery_17 rfl ?_
    refine gX1_75 dX1_bringEvery_18 ?_
    obtain ⟨w5, e6, h⟩ := zbind h
    refine pX1_105 ho1 dX1_bringEvery_21 ?_
    refine zs_nmw (Option.some.inj e6) ?_
    refine zs_aload_n dX1_bringEvery_24 rfl ?_
    obtain ⟨w8, e7, h⟩ := zbind h
    refine zc_V0v moX4_advance mvX4_advance kX1_31 rfl dX1_bringEvery_25 za_43 (Nat.le_of_ble_eq_true rfl) (zrm (by decide)) (tX4_advance e7) ?_
    refine zs_iconst (1 : Int32) dX1_bringEvery_28 ziconst_1 ?_
    obtain ⟨rfl, rfl⟩ := zpi2 h
    exact zs_bret dX1_bringEvery_29 (Or.inr rfl) ⟨rfl, rfl⟩
  · replace h := zite_t c9 h
    refine zs_iconst (0 : Int32) dX1_bringEvery_14 ziconst_0 ?_
    obtain ⟨rfl, rfl⟩ := zpi2 h
    exact zs_bret dX1_bringEvery_15 (Or.inl rfl) ⟨rfl, rfl⟩
def fX1_standsVillage (w : zW) (o1 : Nat) : Option Int32 := Option.bind (fX4_isNumber w (0 : Int32) ((w.1 o1 0) - (1 : Int32))) fun v2 => Option.bind (zgb v2) fun b3 => some b3
set_option maxRecDepth 100000 in
theorem tX1_standsVillage {w : zW} {o1 : Nat} (ho1 : zIsLand o1) {r : Int32} (h : fX1_standsVillage w o1 = some r) : zRun yX1_standsVillage cX1_standsVillage 2 (some .boolean) 1 [.ref 43, .ref o1] w (zI r w) := by
  refine zRun.of (k := 0) rfl rfl rfl ?_
  show zWP RX1 cX1_standsVillage (zMB 2 (some .boolean) 1 (zI r w)) 0 [some (.ref 43), some (.ref o1)] [] w
  unfold fX1_standsVillage at h
  refine zs_aload_n dX1_standsVillage_0 rfl ?_
  refine zs_iconst (0 : Int32) dX1_standsVillage_1 ziconst_0 ?_
  refine zs_aload_n dX1_standsVillage_2 rfl ?_
  refine gX1_113 ho1 dX1_standsVillage_3 ?_
  refine zs_iconst (1 : Int32) dX1_standsVillage_6 ziconst_1 ?_
  refine zs_isub dX1_standsVillage_7 ?_
  obtain ⟨v2, e1, h⟩ := zbind h
  refine zc_V2i moX4_isNumber mvX4_isNumber kX1_71 rfl dX1_standsVillage_8 za_43 (Nat.le_of_ble_eq_true rfl) (zrm (by decide)) (tX4_isNumber e1) ?_
  obtain ⟨b3, e4, h⟩ := zbind h
  refine zs_nmi (zgb_inv e4).2 ?_
  obtain rfl := Option.some.inj h
  exact zs_bret dX1_standsVillage_11 (by have q := zgb_inv e4; exact q.2 ▸ q.1) ⟨rfl, rfl⟩
def lpX4_isWord_28 (w : zW) (q1 : Nat) : Nat → Int32 → Option (Int32 ⊕ Unit)
  | 0, _ => none
  | n + 1, x3 => Option.bind (fJ0_length_8abf5 q1) fun v4 => (if v4 ≤ x3 then (some (.inr ())) else (Option.bind (fX4_byteAt w ((w.1 43 2) + x3)) fun v7 => Option.bind (fJ0_charAt_5068e q1 x3) fun v8 => (if v7 = v8 then (lpX4_isWord_28 w q1 n (x3 + 1)) else (some (.inl (0 : Int32))))))
def fX4_isWord (w : zW) (q1 : Nat) : Option Int32 := (if (w.1 43 4) = (1 : Int32) then (Option.bind (fJ0_length_8abf5 q1) fun v1 => (if ((w.1 43 3) - (w.1 43 2)) = v1 then (zbs (lpX4_isWord_28 w q1 zF (0 : Int32)) fun _ => some (1 : Int32)) else (some (0 : Int32)))) else (some (0 : Int32)))
set_option maxRecDepth 100000 in
theorem tlX4_isWord_28 {w : zW} {q1 : Nat} (hq1 : q1 < 13) {Q : Option Value → zW → Prop} : ∀ (n : Nat) (x3 : Int32) (s : (Int32 ⊕ Unit)), lpX4_isWord_28 w q1 n x3 = some s → (∀ a, s = .inl a → Q (some (.int a)) w) → (∀ (a : Unit), s = .inr a → zWP RX4 cX4_isWord (zMB 3 (some .boolean) 5 Q) 62 [none, none, none] [] w) → zWP RX4 cX4_isWord (zMB 3 (some .boolean) 5 Q) 28 [some (.ref 43), some (.ref (100 + q1)), some (.int x3)] [] w := by
  intro n
  induction n with
  | zero => intro x3 s h K1 K; simp [lpX4_isWord_28] at h
  | succ n ih =>
    intro x3 s h K1 K
    rw [lpX4_isWord_28] at h
    refine zs_iload_n dX4_isWord_28 rfl ?_
    refine zs_aload_n dX4_isWord_29 rfl ?_
    obtain ⟨v4, e5, h⟩ := zbind h
    refine zc_T0i moJ0_length_8abf5 mvJ0_length_8abf5 kX4_53 rfl dX4_isWord_30 hq1 (Nat.le_of_ble_eq_true rfl) (zrm (by decide)) (tJ0_length_8abf5 hq1 e5) ?_
    refine zs_icmp_ge 62 dX4_isWord_33 rfl (fun c11 => ?_) (fun c11 => ?_)
    · replace h := zite_t c11 h
      refine zs_fo [false, false, false] rfl ?_
      obtain rfl := Option.some.inj h
      exact K () rfl
    · replace h := zite_f c11 h
      refine zs_aload_n dX4_isWord_36 rfl ?_
      refine zs_aload_n dX4_isWord_37 rfl ?_
      refine gX4_25 dX4_isWord_38 ?_
      refine zs_iload_n dX4_isWord_41 rfl ?_
      refine zs_iadd dX4_isWord_42 ?_
      obtain ⟨v7, e6, h⟩ := zbind h
      refine zc_V1i moX4_byteAt mvX4_byteAt kX4_28 rfl dX4_isWord_43 za_43 (Nat.le_of_ble_eq_true rfl) (zrm (by decide)) (tX4_byteAt e6) ?_
      refine zs_aload_n dX4_isWord_46 rfl ?_
      refine zs_iload_n dX4_isWord_47 rfl ?_
      obtain ⟨v8, e9, h⟩ := zbind h
      refine zc_T1i moJ0_charAt_5068e mvJ0_charAt_5068e kX4_58 rfl dX4_isWord_48 hq1 (Nat.le_of_ble_eq_true rfl) (zrm (by decide)) (tJ0_charAt_5068e hq1 e9) ?_
      refine zs_icmp_eq 56 dX4_isWord_51 rfl (fun c10 => ?_) (fun c10 => ?_)
      · replace h := zite_t c10 h
        refine zs_iinc (x3 + 1) [some (.ref 43), some (.ref (100 + q1)), some (.int (x3 + 1))] dX4_isWord_56 rfl rfl (Nat.le_of_ble_eq_true rfl) rfl rfl ?_
        refine zs_goto 28 dX4_isWord_59 rfl ?_
        exact ih _ _ h K1 K
      · replace h := zite_f c10 h
        refine zs_iconst (0 : Int32) dX4_isWord_54 ziconst_0 ?_
        obtain rfl := Option.some.inj h
        exact zs_bret dX4_isWord_55 (Or.inl rfl) (K1 (0 : Int32) rfl)
set_option maxRecDepth 100000 in
theorem tX4_isWord {w : zW} {q1 : Nat} (hq1 : q1 < 13) {r : Int32} (h : fX4_isWord w q1 = some r) : zRun yX4_isWord cX4_isWord 3 (some .boolean) 5 [.ref 43, .ref (100 + q1)] w (zI r w) := by
  refine zRun.of (k := 1) rfl rfl rfl ?_
  show zWP RX4 cX4_isWord (zMB 3 (some .boolean) 5 (zI r w)) 0 [some (.ref 43), some (.ref (100 + q1)), none] [] w
  unfold fX4_isWord at h
  refine zs_aload_n dX4_isWord_0 rfl ?_
  refine gX4_35 dX4_isWord_1 ?_
  refine zs_iconst (1 : Int32) dX4_isWord_4 ziconst_1 ?_
  refine zs_icmp_ne 24 dX4_isWord_5 rfl (fun c15 => ?_) (fun c15 => ?_)
  · replace h := zite_f c15 h
    refine zs_iconst (0 : Int32) dX4_isWord_24 ziconst_0 ?_
    obtain rfl := Option.some.inj h
    exact zs_bret dX4_isWord_25 (Or.inl rfl) ⟨rfl, rfl⟩
  · replace h := zite_t c15 h
    refine zs_aload_n dX4_isWord_8 rfl ?_
    refine gX4_19 dX4_isWord_9 ?_
    refine zs_aload_n dX4_isWord_12 rfl ?_
    refine gX4_25 dX4_isWord_13 ?_
    refine zs_isub dX4_isWord_16 ?_
    refine zs_aload_n dX4_isWord_17 rfl ?_
    obtain ⟨v1, e2, h⟩ := zbind h
    refine zc_T0i moJ0_length_8abf5 mvJ0_length_8abf5 kX4_53 rfl dX4_isWord_18 hq1 (Nat.le_of_ble_eq_true rfl) (zrm (by decide)) (tJ0_length_8abf5 hq1 e2) ?_
    refine zs_icmp_eq 26 dX4_isWord_21 rfl (fun c14 => ?_) (fun c14 => ?_)
    · replace h := zite_t c14 h
      refine zs_iconst (0 : Int32) dX4_isWord_26 ziconst_0 ?_
      refine zs_istore_n [some (.ref 43), some (.ref (100 + q1)), some (.int (0 : Int32))] dX4_isWord_27 (Nat.le_of_ble_eq_true rfl) rfl rfl ?_
      rcases zbs_inv h with e12 | ⟨_, e12, h⟩
      · skip
        exact tlX4_isWord_28 hq1 zF _ _ e12 (fun _ q => by cases q; exact ⟨rfl, rfl⟩) (fun _ q => by cases q)
      · have K13 : zWP RX4 cX4_isWord (zMB 3 (some .boolean) 5 (zI r w)) 62 [none, none, none] [] w := by
          refine zs_iconst (1 : Int32) dX4_isWord_62 ziconst_1 ?_
          obtain rfl := Option.some.inj h
          exact zs_bret dX4_isWord_63 (Or.inr rfl) ⟨rfl, rfl⟩
        exact tlX4_isWord_28 hq1 zF _ _ e12 (fun _ q => by cases q) (fun _ q => by cases q; exact K13)
    · replace h := zite_f c14 h
      refine zs_iconst (0 : Int32) dX4_isWord_24 ziconst_0 ?_
      obtain rfl := Option.some.inj h
      exact zs_bret dX4_isWord_25 (Or.inl rfl) ⟨rfl, rfl⟩
def fX1_bringLetter (w : zW) (o1 : Nat) (p2 : Int32) : Option (Int32 × zW) := Option.bind (fX0_lettersFull w o1) fun v2 => (if v2 = 0 then (Option.bind (fX4_advance w) fun w4 => Option.bind (some ((w4.1 43 5))) fun x5 => Option.bind (fX1_standsVillage w4 o1) fun v8 => (if v8 = 0 then (some ((0 : Int32), w4)) else (Option.bind (fX4_advance w4) fun w10 => Option.bind (fX4_isWord w10 3) fun v12 => (if v12 = 0 then (some ((0 : Int32), w10)) else (Option.bind (fX4_advance w10) fun w14 => Option.bind (fX1_standsVillage w14 o1) fun v16 => (if v16 = 0 then (some ((0 : Int32), w14)) else (zb2 (fX0_addLetter w14 o1 p2 x5 (w14.1 43 5)) fun v18 w19 => Option.bind (fX4_advance w19) fun w21 => some ((1 : Int32), w21)))))))) else (some ((0 : Int32), w)))
set_option maxRecDepth 100000 in
theorem tX1_bringLetter {w : zW} {o1 : Nat} {p2 : Int32} (ho1 : zIsLand o1) {r : Int32} {w' : zW} (h : fX1_bringLetter w o1 p2 = some (r, w')) : zRun yX1_bringLetter cX1_bringLetter 4 (some .boolean) 6 [.ref 43, .ref o1, .int p2] w (zI r w') := by
  refine zRun.of (k := 1) rfl rfl rfl ?_
  show zWP RX1 cX1_bringLetter (zMB 4 (some .boolean) 6 (zI r w')) 0 [some (.ref 43), some (.ref o1), some (.int p2), none] [] w
  unfold fX1_bringLetter at h
  refine zs_aload_n dX1_bringLetter_0 rfl ?_
  obtain ⟨v2, e1, h⟩ := zbind h
  refine zc_V0i moX0_lettersFull mvX0_lettersFull kX1_107 rfl dX1_bringLetter_1 (za_L ho1) (Nat.le_of_ble_eq_true rfl) (zrm (by decide)) (tX0_lettersFull ho1 e1) ?_
  refine zs_if_eq 9 dX1_bringLetter_4 rfl (fun c25 => ?_) (fun c25 => ?_)
  · replace h := zite_t c25 h
    refine zs_aload_n dX1_bringLetter_9 rfl ?_
    obtain ⟨w4, e3, h⟩ := zbind h
    refine zc_V0v moX4_advance mvX4_advance kX1_31 rfl dX1_bringLetter_10 za_43 (Nat.le_of_ble_eq_true rfl) (zrm (by decide)) (tX4_advance e3) ?_
    refine zs_aload_n dX1_bringLetter_13 rfl ?_
    refine gX1_75 dX1_bringLetter_14 ?_
    obtain ⟨x5, e6, h⟩ := zbind h
    refine zs_nmi (Option.some.inj e6) ?_
    refine zs_istore_n [some (.ref 43), some (.ref o1), some (.int p2), some (.int x5)] dX1_bringLetter_17 (Nat.le_of_ble_eq_true rfl) rfl rfl ?_
    refine zs_aload_n dX1_bringLetter_18 rfl ?_
    refine zs_aload_n dX1_bringLetter_19 rfl ?_
    obtain ⟨v8, e7, h⟩ := zbind h
    refine zc_S2i moX1_standsVillage mvX1_standsVillage kX1_87 dX1_bringLetter_20 (Nat.le_of_ble_eq_true rfl) (zrm (by decide)) (tX1_standsVillage ho1 e7) ?_
    refine zs_if_ne 28 dX1_bringLetter_23 rfl (fun c24 => ?_) (fun c24 => ?_)
    · replace h := zite_f c24 h
      refine zs_aload_n dX1_bringLetter_28 rfl ?_
      obtain ⟨w10, e9, h⟩ := zbind h
      refine zc_V0v moX4_advance mvX4_advance kX1_31 rfl dX1_bringLetter_29 za_43 (Nat.le_of_ble_eq_true rfl) (zrm (by decide)) (tX4_advance e9) ?_
      refine zs_aload_n dX1_bringLetter_32 rfl ?_
      refine zs_ldcS (q := 3) rfl rfl dX1_bringLetter_33 ?_
      obtain ⟨v12, e11, h⟩ := zbind h
      refine zc_V1i moX4_isWord mvX4_isWord kX1_36 rfl dX1_bringLetter_35 za_43 (Nat.le_of_ble_eq_true rfl) (zrm (by decide)) (tX4_isWord (by decide) e11) ?_
      refine zs_if_ne 43 dX1_bringLetter_38 rfl (fun c23 => ?_) (fun c23 => ?_)
      · replace h := zite_f c23 h
        refine zs_aload_n dX1_bringLetter_43 rfl ?_
        obtain ⟨w14, e13, h⟩ := zbind h
        refine zc_V0v moX4_advance mvX4_advance kX1_31 rfl dX1_bringLetter_44 za_43 (Nat.le_of_ble_eq_true rfl) (zrm (by decide)) (tX4_advance e13) ?_
        refine zs_aload_n dX1_bringLetter_47 rfl ?_
        refine zs_aload_n dX1_bringLetter_48 rfl ?_
        obtain ⟨v16, e15, h⟩ := zbind h
        refine zc_S2i moX1_standsVillage mvX1_standsVillage kX1_87 dX1_bringLetter_49 (Nat.le_of_ble_eq_true rfl) (zrm (by decide)) (tX1_standsVillage ho1 e15) ?_
        refine zs_if_ne 57 dX1_bringLetter_52 rfl (fun c22 => ?_) (fun c22 => ?_)
        · replace h := zite_f c22 h
          refine zs_aload_n dX1_bringLetter_57 rfl ?_
          refine zs_iload_n dX1_bringLetter_58 rfl ?_
          refine zs_iload_n dX1_bringLetter_59 rfl ?_
          refine zs_aload_n dX1_bringLetter_60 rfl ?_
          refine gX1_75 dX1_bringLetter_61 ?_
          obtain ⟨v18, w19, e17, h⟩ := zb2_inv h
          refine zc_V3i moX0_addLetter mvX0_addLetter kX1_110 rfl dX1_bringLetter_64 (za_L ho1) (Nat.le_of_ble_eq_true rfl) (zrm (by decide)) (tX0_addLetter ho1 e17) ?_
          refine zs_pop dX1_bringLetter_67 rfl ?_
          refine zs_aload_n dX1_bringLetter_68 rfl ?_
          obtain ⟨w21, e20, h⟩ := zbind h
          refine zc_V0v moX4_advance mvX4_advance kX1_31 rfl dX1_bringLetter_69 za_43 (Nat.le_of_ble_eq_true rfl) (zrm (by decide)) (tX4_advance e20) ?_
          refine zs_iconst (1 : Int32) dX1_bringLetter_72 ziconst_1 ?_
          obtain ⟨rfl, rfl⟩ := zpi2 h
          exact zs_bret dX1_bringLetter_73 (Or.inr rfl) ⟨rfl, rfl⟩
        · replace h := zite_t c22 h
          refine zs_iconst (0 : Int32) dX1_bringLetter_55 ziconst_0 ?_
          obtain ⟨rfl, rfl⟩ := zpi2 h
          exact zs_bret dX1_bringLetter_56 (Or.inl rfl) ⟨rfl, rfl⟩
      · replace h := zite_t c23 h
        refine zs_iconst (0 : Int32) dX1_bringLetter_41 ziconst_0 ?_
        obtain ⟨rfl, rfl⟩ := zpi2 h
        exact zs_bret dX1_bringLetter_42 (Or.inl rfl) ⟨rfl, rfl⟩
    · replace h := zite_t c24 h
      refine zs_iconst (0 : Int32) dX1_bringLetter_26 ziconst_0 ?_
      obtain ⟨rfl, rfl⟩ := zpi2 h
      exact zs_bret dX1_bringLetter_27 (Or.inl rfl) ⟨rfl, rfl⟩
  · replace h := zite_f c25 h
    refine zs_iconst (0 : Int32) dX1_bringLetter_7 ziconst_0 ?_
    obtain ⟨rfl, rfl⟩ := zpi2 h
    exact zs_bret dX1_bringLetter_8 (Or.inl rfl) ⟨rfl, rfl⟩
def fX1_bringRoad (w : zW) (o1 : Nat) : Option (Int32 × zW) := Option.bind (fX0_roadsFull w o1) fun v2 => (if v2 = 0 then (Option.bind (fX4_advance w) fun w4 => Option.bind (some ((w4.1 43 5))) fun x5 => Option.bind (fX1_standsVillage w4 o1) fun v8 => (if v8 = 0 then (some ((0 : Int32), w4)) else (Option.bind (fX4_advance w4) fun w10 => Option.bind (fX4_isWord w10 3) fun v12 => (if v12 = 0 then (some ((0 : Int32), w10)) else (Option.bind (fX4_advance w10) fun w14 => Option.bind (some ((w14.1 43 5))) fun x15 => Option.bind (fX1_standsVillage w14 o1) fun v18 => (if v18 = 0 then (some ((0 : Int32), w14)) else ((if x5 = x15 then (some ((0 : Int32), w14)) else (Option.bind (fX0_areJoined w14 o1 x5 x15) fun v20 => (if v20 = 0 then (Option.bind (fX4_advance w14) fun w22 => Option.bind (fX4_isWord w22 4) fun v24 => (if v24 = 0 then (zb2 (fX0_addRoad w22 o1 x5 x15 (1 : Int32)) fun v26 w27 => some ((1 : Int32), w27)) else (Option.bind (fX4_advance w22) fun w29 => Option.bind (fX4_isNumber w29 (1 : Int32) (9 : Int32)) fun v31 => (if v31 = 0 then (some ((0 : Int32), w29)) else (Option.bind (some ((w29.1 43 5))) fun x32 => Option.bind (fX4_advance w29) fun w35 => zb2 (fX0_addRoad w35 o1 x5 x15 x32) fun v37 w38 => some ((1 : Int32), w38)))))) else (some ((0 : Int32), w14)))))))))))) else (some ((0 : Int32), w)))
set_option maxRecDepth 100000 in
theorem tX1_bringRoad {w : zW} {o1 : Nat} (ho1 : zIsLand o1) {r : Int32} {w' : zW} (h : fX1_bringRoad w o1 = some (r, w')) : zRun yX1_bringRoad cX1_bringRoad 5 (some .boolean) 6 [.ref 43, .ref o1] w (zI r w') := by
  refine zRun.of (k := 3) rfl rfl rfl ?_
  show zWP RX1 cX1_bringRoad (zMB 5 (some .boolean) 6 (zI r w')) 0 [some (.ref 43), some (.ref o1), none, none, none] [] w
  unfold fX1_bringRoad at h
  refine zs_aload_n dX1_bringRoad_0 rfl ?_
  obtain ⟨v2, e1, h⟩ := zbind h
  refine zc_V0i moX0_roadsFull mvX0_roadsFull kX1_84 rfl dX1_bringRoad_1 (za_L ho1) (Nat.le_of_ble_eq_true rfl) (zrm (by decide)) (tX0_roadsFull ho1 e1) ?_
  refine zs_if_eq 9 dX1_bringRoad_4 rfl (fun c46 => ?_) (fun c46 => ?_)
  · replace h := zite_t c46 h
    refine zs_aload_n dX1_bringRoad_9 rfl ?_
    obtain ⟨w4, e3, h⟩ := zbind h
    refine zc_V0v moX4_advance mvX4_advance kX1_31 rfl dX1_bringRoad_10 za_43 (Nat.le_of_ble_eq_true rfl) (zrm (by decide)) (tX4_advance e3) ?_
    refine zs_aload_n dX1_bringRoad_13 rfl ?_
    refine gX1_75 dX1_bringRoad_14 ?_
    obtain ⟨x5, e6, h⟩ := zbind h
    refine zs_nmi (Option.some.inj e6) ?_
    refine zs_istore_n [some (.ref 43), some (.ref o1), some (.int x5), none, none] dX1_bringRoad_17 (Nat.le_of_ble_eq_true rfl) rfl rfl ?_
    refine zs_aload_n dX1_bringRoad_18 rfl ?_
    refine zs_aload_n dX1_bringRoad_19 rfl ?_
    obtain ⟨v8, e7, h⟩ := zbind h
    refine zc_S2i moX1_standsVillage mvX1_standsVillage kX1_87 dX1_bringRoad_20 (Nat.le_of_ble_eq_true rfl) (zrm (by decide)) (tX1_standsVillage ho1 e7) ?_
    refine zs_if_ne 28 dX1_bringRoad_23 rfl (fun c45 => ?_) (fun c45 => ?_)
    · replace h := zite_f c45 h
      refine zs_aload_n dX1_bringRoad_28 rfl ?_
      obtain ⟨w10, e9, h⟩ := zbind h
      refine zc_V0v moX4_advance mvX4_advance kX1_31 rfl dX1_bringRoad_29 za_43 (Nat.le_of_ble_eq_true rfl) (zrm (by decide)) (tX4_advance e9) ?_
      refine zs_aload_n dX1_bringRoad_32 rfl ?_
      refine zs_ldcS (q := 3) rfl rfl dX1_bringRoad_33 ?_
      obtain ⟨v12, e11, h⟩ := zbind h
      refine zc_V1i moX4_isWord mvX4_isWord kX1_36 rfl dX1_bringRoad_35 za_43 (Nat.le_of_ble_eq_true rfl) (zrm (by decide)) (tX4_isWord (by decide) e11) ?_
      refine zs_if_ne 43 dX1_bringRoad_38 rfl (fun c44 => ?_) (fun c44 => ?_)
      · replace h := zite_f c44 h
        refine zs_aload_n dX1_bringRoad_43 rfl ?_
        obtain ⟨w14, e13, h⟩ := zbind h
        refine zc_V0v moX4_advance mvX4_advance kX1_31 rfl dX1_bringRoad_44 za_43 (Nat.le_of_ble_eq_true rfl) (zrm (by decide)) (tX4_advance e13) ?_
        refine zs_aload_n dX1_bringRoad_47 rfl ?_
        refine gX1_75 dX1_bringRoad_48 ?_
        obtain ⟨x15, e16, h⟩ := zbind h
        refine zs_nmi (Option.some.inj e16) ?_
        refine zs_istore_n [some (.ref 43), some (.ref o1), some (.int x5), some (.int x15), none] dX1_bringRoad_51 (Nat.le_of_ble_eq_true rfl) rfl rfl ?_
        refine zs_aload_n dX1_bringRoad_52 rfl ?_
        refine zs_aload_n dX1_bringRoad_53 rfl ?_
        obtain ⟨v18, e17, h⟩ := zbind h
        refine zc_S2i moX1_standsVillage mvX1_standsVillage kX1_87 dX1_bringRoad_54 (Nat.le_of_ble_eq_true rfl) (zrm (by decide)) (tX1_standsVillage ho1 e17) ?_
        refine zs_if_eq 74 dX1_bringRoad_57 rfl (fun c43 => ?_) (fun c43 => ?_)
        · replace h := zite_t c43 h
          refine zs_iconst (0 : Int32) dX1_bringRoad_74 ziconst_0 ?_
          obtain ⟨rfl, rfl⟩ := zpi2 h
          exact zs_bret dX1_bringRoad_75 (Or.inl rfl) ⟨rfl, rfl⟩
        · replace h := zite_f c43 h
          refine zs_iload_n dX1_bringRoad_60 rfl ?_
          refine zs_iload_n dX1_bringRoad_61 rfl ?_
          refine zs_icmp_eq 74 dX1_bringRoad_62 rfl (fun c42 => ?_) (fun c42 => ?_)
          · replace h := zite_t c42 h
            refine zs_iconst (0 : Int32) dX1_bringRoad_74 ziconst_0 ?_
            obtain ⟨rfl, rfl⟩ := zpi2 h
            exact zs_bret dX1_bringRoad_75 (Or.inl rfl) ⟨rfl, rfl⟩
          · replace h := zite_f c42 h
            refine zs_aload_n dX1_bringRoad_65 rfl ?_
            refine zs_iload_n dX1_bringRoad_66 rfl ?_
            refine zs_iload_n dX1_bringRoad_67 rfl ?_
            obtain ⟨v20, e19, h⟩ := zbind h
            refine zc_V2i moX0_areJoined mvX0_areJoined kX1_92 rfl dX1_bringRoad_68 (za_L ho1) (Nat.le_of_ble_eq_true rfl) (zrm (by decide)) (tX0_areJoined ho1 e19) ?_
            refine zs_if_eq 76 dX1_bringRoad_71 rfl (fun c41 => ?_) (fun c41 => ?_)
            · replace h := zite_t c41 h
              refine zs_aload_n dX1_bringRoad_76 rfl ?_
              obtain ⟨w22, e21, h⟩ := zbind h
              refine zc_V0v moX4_advance mvX4_advance kX1_31 rfl dX1_bringRoad_77 za_43 (Nat.le_of_ble_eq_true rfl) (zrm (by decide)) (tX4_advance e21) ?_
              refine zs_iconst (1 : Int32) dX1_bringRoad_80 ziconst_1 ?_
              refine zs_istore [some (.ref 43), some (.ref o1), some (.int x5), some (.int x15), some (.int (1 : Int32))] dX1_bringRoad_81 (Nat.le_of_ble_eq_true rfl) rfl rfl ?_
              refine zs_aload_n dX1_bringRoad_83 rfl ?_
              refine zs_ldcS (q := 4) rfl rfl dX1_bringRoad_84 ?_
              obtain ⟨v24, e23, h⟩ := zbind h
              refine zc_V1i moX4_isWord mvX4_isWord kX1_36 rfl dX1_bringRoad_86 za_43 (Nat.le_of_ble_eq_true rfl) (zrm (by decide)) (tX4_isWord (by decide) e23) ?_
              refine zs_if_eq 118 dX1_bringRoad_89 rfl (fun c40 => ?_) (fun c40 => ?_)
              · replace h := zite_t c40 h
                refine zs_aload_n dX1_bringRoad_118 rfl ?_
                refine zs_iload_n dX1_bringRoad_119 rfl ?_
                refine zs_iload_n dX1_bringRoad_120 rfl ?_
                refine zs_iload dX1_bringRoad_121 rfl ?_
                obtain ⟨v26, w27, e25, h⟩ := zb2_inv h
                refine zc_V3i moX0_addRoad mvX0_addRoad kX1_97 rfl dX1_bringRoad_123 (za_L ho1) (Nat.le_of_ble_eq_true rfl) (zrm (by decide)) (tX0_addRoad ho1 e25) ?_
                refine zs_pop dX1_bringRoad_126 rfl ?_
                refine zs_iconst (1 : Int32) dX1_bringRoad_127 ziconst_1 ?_
                obtain ⟨rfl, rfl⟩ := zpi2 h
                exact zs_bret dX1_bringRoad_128 (Or.inr rfl) ⟨rfl, rfl⟩
              · replace h := zite_f c40 h
                refine zs_aload_n dX1_bringRoad_92 rfl ?_
                obtain ⟨w29, e28, h⟩ := zbind h
                refine zc_V0v moX4_advance mvX4_advance kX1_31 rfl dX1_bringRoad_93 za_43 (Nat.le_of_ble_eq_true rfl) (zrm (by decide)) (tX4_advance e28) ?_
                refine zs_aload_n dX1_bringRoad_96 rfl ?_
                refine zs_iconst (1 : Int32) dX1_bringRoad_97 ziconst_1 ?_
                refine zs_bipush (9 : Int32) dX1_bringRoad_98 zbipush_9 ?_
                obtain ⟨v31, e30, h⟩ := zbind h
                refine zc_V2i moX4_isNumber mvX4_isNumber kX1_71 rfl dX1_bringRoad_100 za_43 (Nat.le_of_ble_eq_true rfl) (zrm (by decide)) (tX4_isNumber e30) ?_
                refine zs_if_ne 108 dX1_bringRoad_103 rfl (fun c39 => ?_) (fun c39 => ?_)
                · replace h := zite_f c39 h
                  refine zs_aload_n dX1_bringRoad_108 rfl ?_
                  refine gX1_75 dX1_bringRoad_109 ?_
                  obtain ⟨x32, e33, h⟩ := zbind h
                  refine zs_nmi (Option.some.inj e33) ?_
                  refine zs_istore [some (.ref 43), some (.ref o1), some (.int x5), some (.int x15), some (.int x32)] dX1_bringRoad_112 (Nat.le_of_ble_eq_true rfl) rfl rfl ?_
                  refine zs_aload_n dX1_bringRoad_114 rfl ?_
                  obtain ⟨w35, e34, h⟩ := zbind h
                  refine zc_V0v moX4_advance mvX4_advance kX1_31 rfl dX1_bringRoad_115 za_43 (Nat.le_of_ble_eq_true rfl) (zrm (by decide)) (tX4_advance e34) ?_
                  refine zs_aload_n dX1_bringRoad_118 rfl ?_
                  refine zs_iload_n dX1_bringRoad_119 rfl ?_
                  refine zs_iload_n dX1_bringRoad_120 rfl ?_
                  refine zs_iload dX1_bringRoad_121 rfl ?_
                  obtain ⟨v37, w38, e36, h⟩ := zb2_inv h
                  refine zc_V3i moX0_addRoad mvX0_addRoad kX1_97 rfl dX1_bringRoad_123 (za_L ho1) (Nat.le_of_ble_eq_true rfl) (zrm (by decide)) (tX0_addRoad ho1 e36) ?_
                  refine zs_pop dX1_bringRoad_126 rfl ?_
                  refine zs_iconst (1 : Int32) dX1_bringRoad_127 ziconst_1 ?_
                  obtain ⟨rfl, rfl⟩ := zpi2 h
                  exact zs_bret dX1_bringRoad_128 (Or.inr rfl) ⟨rfl, rfl⟩
                · replace h := zite_t c39 h
                  refine zs_iconst (0 : Int32) dX1_bringRoad_106 ziconst_0 ?_
                  obtain ⟨rfl, rfl⟩ := zpi2 h
                  exact zs_bret dX1_bringRoad_107 (Or.inl rfl) ⟨rfl, rfl⟩
            · replace h := zite_f c41 h
              refine zs_iconst (0 : Int32) dX1_bringRoad_74 ziconst_0 ?_
              obtain ⟨rfl, rfl⟩ := zpi2 h
              exact zs_bret dX1_bringRoad_75 (Or.inl rfl) ⟨rfl, rfl⟩
      · replace h := zite_t c44 h
        refine zs_iconst (0 : Int32) dX1_bringRoad_41 ziconst_0 ?_
        obtain ⟨rfl, rfl⟩ := zpi2 h
        exact zs_bret dX1_bringRoad_42 (Or.inl rfl) ⟨rfl, rfl⟩
    · replace h := zite_t c45 h
      refine zs_iconst (0 : Int32) dX1_bringRoad_26 ziconst_0 ?_
      obtain ⟨rfl, rfl⟩ := zpi2 h
      exact zs_bret dX1_bringRoad_27 (Or.inl rfl) ⟨rfl, rfl⟩
  · replace h := zite_f c46 h
    refine zs_iconst (0 : Int32) dX1_bringRoad_7 ziconst_0 ?_
    obtain ⟨rfl, rfl⟩ := zpi2 h
    exact zs_bret dX1_bringRoad_8 (Or.inl rfl) ⟨rfl, rfl⟩
def fX1_bringSlide (w : zW) (o1 : Nat) : Option (Int32 × zW) := Option.bind (fX4_advance w) fun w2 => Option.bind (some ((w2.1 43 5))) fun x3 => Option.bind (fX1_standsVillage w2 o1) fun v6 => (if v6 = 0 then (some ((0 : Int32), w2)) else (Option.bind (fX4_advance w2) fun w8 => Option.bind (fX4_isNumber w8 (0 : Int32) (9999 : Int32)) fun v10 => (if v10 = 0 then (some ((0 : Int32), w8)) else (Option.bind (fX0_setHeight w8 o1 x3 (w8.1 43 5)) fun w12 => Option.bind (fX4_advance w12) fun w14 => some ((1 : Int32), w14)))))
set_option maxRecDepth 100000 in
theorem tX1_bringSlide {w : zW} {o1 : Nat} (ho1 : zIsLand o1) {r : Int32} {w' : zW} (h : fX1_bringSlide w o1 = some (r, w')) : zRun yX1_bringSlide cX1_bringSlide 3 (some .boolean) 3 [.ref 43, .ref o1] w (zI r w') := by
  refine zRun.of (k := 1) rfl rfl rfl ?_
  show zWP RX1 cX1_bringSlide (zMB 3 (some .boolean) 3 (zI r w')) 0 [some (.ref 43), some (.ref o1), none] [] w
  unfold fX1_bringSlide at h
  refine zs_aload_n dX1_bringSlide_0 rfl ?_
  obtain ⟨w2, e1, h⟩ := zbind h
  refine zc_V0v moX4_advance mvX4_advance kX1_31 rfl dX1_bringSlide_1 za_43 (Nat.le_of_ble_eq_true rfl) (zrm (by decide)) (tX4_advance e1) ?_
  refine zs_aload_n dX1_bringSlide_4 rfl ?_
  refine gX1_75 dX1_bringSlide_5 ?_
  obtain ⟨x3, e4, h⟩ := zbind h
  refine zs_nmi (Option.some.inj e4) ?_
  refine zs_istore_n [some (.ref 43), some (.ref o1), some (.int x3)] dX1_bringSlide_8 (Nat.le_of_ble_eq_true rfl) rfl rfl ?_
  refine zs_aload_n dX1_bringSlide_9 rfl ?_
  refine zs_aload_n dX1_bringSlide_10 rfl ?_
  obtain ⟨v6, e5, h⟩ := zbind h
  refine zc_S2i moX1_standsVillage mvX1_standsVillage kX1_87 dX1_bringSlide_11 (Nat.le_of_ble_eq_true rfl) (zrm (by decide)) (tX1_standsVillage ho1 e5) ?_
  refine zs_if_ne 19 dX1_bringSlide_14 rfl (fun c16 => ?_) (fun c16 => ?_)
  · replace h := zite_f c16 h
    refine zs_aload_n dX1_bringSlide_19 rfl ?_
    obtain ⟨w8, e7, h⟩ := zbind h
    refine zc_V0v moX4_advance mvX4_advance kX1_31 rfl dX1_bringSlide_20 za_43 (Nat.le_of_ble_eq_true rfl) (zrm (by decide)) (tX4_advance e7) ?_
    refine zs_aload_n dX1_bringSlide_23 rfl ?_
    refine zs_iconst (0 : Int32) dX1_bringSlide_24 ziconst_0 ?_
    refine zs_sipush (9999 : Int32) dX1_bringSlide_25 zsipush_9999 ?_
    obtain ⟨v10, e9, h⟩ := zbind h
    refine zc_V2i moX4_isNumber mvX4_isNumber kX1_71 rfl dX1_bringSlide_28 za_43 (Nat.le_of_ble_eq_true rfl) (zrm (by decide)) (tX4_isNumber e9) ?_
    refine zs_if_ne 36 dX1_bringSlide_31 rfl (fun c15 => ?_) (fun c15 => ?_)
    · replace h := zite_f c15 h
      refine zs_aload_n dX1_bringSlide_36 rfl ?_
      refine zs_iload_n dX1_bringSlide_37 rfl ?_
      refine zs_aload_n dX1_bringSlide_38 rfl ?_
      refine gX1_75 dX1_bringSlide_39 ?_
      obtain ⟨w12, e11, h⟩ := zbind h
      refine zc_V2v moX0_setHeight mvX0_setHeight kX1_101 rfl dX1_bringSlide_42 (za_L ho1) (Nat.le_of_ble_eq_true rfl) (zrm (by decide)) (tX0_setHeight ho1 e11) ?_
      refine zs_aload_n dX1_bringSlide_45 rfl ?_
      obtain ⟨w14, e13, h⟩ := zbind h
      refine zc_V0v moX4_advance mvX4_advance kX1_31 rfl dX1_bringSlide_46 za_43 (Nat.le_of_ble_eq_true rfl) (zrm (by decide)) (tX4_advance e13) ?_
      refine zs_iconst (1 : Int32) dX1_bringSlide_49 ziconst_1 ?_
      obtain ⟨rfl, rfl⟩ := zpi2 h
      exact zs_bret dX1_bringSlide_50 (Or.inr rfl) ⟨rfl, rfl⟩
    · replace h := zite_t c15 h
      refine zs_iconst (0 : Int32) dX1_bringSlide_34 ziconst_0 ?_
      obtain ⟨rfl, rfl⟩ := zpi2 h
      exact zs_bret dX1_bringSlide_35 (Or.inl rfl) ⟨rfl, rfl⟩
  · replace h := zite_t c16 h
    refine zs_iconst (0 : Int32) dX1_bringSlide_17 ziconst_0 ?_
    obtain ⟨rfl, rfl⟩ := zpi2 h
    exact zs_bret dX1_bringSlide_18 (Or.inl rfl) ⟨rfl, rfl⟩
def fX1_bringVillage (w : zW) (o1 : Nat) : Option (Int32 × zW) := Option.bind (fX0_villagesFull w o1) fun v2 => (if v2 = 0 then (Option.bind (fX4_advance w) fun w4 => Option.bind (fX4_isNumber w4 (0 : Int32) (9999 : Int32)) fun v6 => (if v6 = 0 then (some ((0 : Int32), w4)) else (Option.bind (some ((w4.1 43 5))) fun x7 => Option.bind (fX4_advance w4) fun w10 => Option.bind (fX4_isWord w10 1) fun v12 => Option.bind (if v12 = 0 then (some w10) else (Option.bind (fX4_advance w10) fun w19 => some w19)) fun w15 => zb2 (fX0_addVillage w15 o1 x7 v12) fun v21 w22 => some ((1 : Int32), w22)))) else (some ((0 : Int32), w)))
set_option maxRecDepth 100000 in
theorem tX1_bringVillage {w : zW} {o1 : Nat} (ho1 : zIsLand o1) {r : Int32} {w' : zW} (h : fX1_bringVillage w o1 = some (r, w')) : zRun yX1_bringVillage cX1_bringVillage 4 (some .boolean) 6 [.ref 43, .ref o1] w (zI r w') := by
  refine zRun.of (k := 2) rfl rfl rfl ?_
  show zWP RX1 cX1_bringVillage (zMB 4 (some .boolean) 6 (zI r w')) 0 [some (.ref 43), some (.ref o1), none, none] [] w
  unfold fX1_bringVillage at h
  refine zs_aload_n dX1_bringVillage_0 rfl ?_
  obtain ⟨v2, e1, h⟩ := zbind h
  refine zc_V0i moX0_villagesFull mvX0_villagesFull kX1_66 rfl dX1_bringVillage_1 (za_L ho1) (Nat.le_of_ble_eq_true rfl) (zrm (by decide)) (tX0_villagesFull ho1 e1) ?_
  refine zs_if_eq 9 dX1_bringVillage_4 rfl (fun c25 => ?_) (fun c25 => ?_)
  · replace h := zite_t c25 h
    refine zs_aload_n dX1_bringVillage_9 rfl ?_
    obtain ⟨w4, e3, h⟩ := zbind h
    refine zc_V0v moX4_advance mvX4_advance kX1_31 rfl dX1_bringVillage_10 za_43 (Nat.le_of_ble_eq_true rfl) (zrm (by decide)) (tX4_advance e3) ?_
    refine zs_aload_n dX1_bringVillage_13 rfl ?_
    refine zs_iconst (0 : Int32) dX1_bringVillage_14 ziconst_0 ?_
    refine zs_sipush (9999 : Int32) dX1_bringVillage_15 zsipush_9999 ?_
    obtain ⟨v6, e5, h⟩ := zbind h
    refine zc_V2i moX4_isNumber mvX4_isNumber kX1_71 rfl dX1_bringVillage_18 za_43 (Nat.le_of_ble_eq_true rfl) (zrm (by decide)) (tX4_isNumber e5) ?_
    refine zs_if_ne 26 dX1_bringVillage_21 rfl (fun c24 => ?_) (fun c24 => ?_)
    · replace h := zite_f c24 h
      refine zs_aload_n dX1_bringVillage_26 rfl ?_
      refine gX1_75 dX1_bringVillage_27 ?_
      obtain ⟨x7, e8, h⟩ := zbind h
      refine zs_nmi (Option.some.inj e8) ?_
      refine zs_istore_n [some (.ref 43), some (.ref o1), some (.int x7), none] dX1_bringVillage_30 (Nat.le_of_ble_eq_true rfl) rfl rfl ?_
      refine zs_aload_n dX1_bringVillage_31 rfl ?_
      obtain ⟨w10, e9, h⟩ := zbind h
      refine zc_V0v moX4_advance mvX4_advance kX1_31 rfl dX1_bringVillage_32 za_43 (Nat.le_of_ble_eq_true rfl) (zrm (by decide)) (tX4_advance e9) ?_
      refine zs_aload_n dX1_bringVillage_35 rfl ?_
      refine zs_ldcS (q := 1) rfl rfl dX1_bringVillage_36 ?_
      obtain ⟨v12, e11, h⟩ := zbind h
      refine zc_V1i moX4_isWord mvX4_isWord kX1_36 rfl dX1_bringVillage_38 za_43 (Nat.le_of_ble_eq_true rfl) (zrm (by decide)) (tX4_isWord (by decide) e11) ?_
      refine zs_istore_n [some (.ref 43), some (.ref o1), some (.int x7), some (.int v12)] dX1_bringVillage_41 (Nat.le_of_ble_eq_true rfl) rfl rfl ?_
      refine zs_iload_n dX1_bringVillage_42 rfl ?_
      obtain ⟨w15, m17, h⟩ := zbind h
      have K16 : zWP RX1 cX1_bringVillage (zMB 4 (some .boolean) 6 (zI r w')) 50 [none, some (.ref o1), some (.int x7), some (.int v12)] [] w15 := by
        refine zs_aload_n dX1_bringVillage_50 rfl ?_
        refine zs_iload_n dX1_bringVillage_51 rfl ?_
        refine zs_iload_n dX1_bringVillage_52 rfl ?_
        obtain ⟨v21, w22, e20, h⟩ := zb2_inv h
        refine zc_V2i moX0_addVillage mvX0_addVillage kX1_80 rfl dX1_bringVillage_53 (za_L ho1) (Nat.le_of_ble_eq_true rfl) (zrm (by decide)) (tX0_addVillage ho1 e20) ?_
        refine zs_pop dX1_bringVillage_56 rfl ?_
        refine zs_iconst (1 : Int32) dX1_bringVillage_57 ziconst_1 ?_
        obtain ⟨rfl, rfl⟩ := zpi2 h
        exact zs_bret dX1_bringVillage_58 (Or.inr rfl) ⟨rfl, rfl⟩
      refine zs_if_eq 50 dX1_bringVillage_43 rfl (fun c23 => ?_) (fun c23 => ?_)
      · replace m17 := zite_t c23 m17
        refine zs_fo [false, true, true, true] rfl ?_
        obtain rfl := Option.some.inj m17
        exact K16
      · replace m17 := zite_f c23 m17
        refine zs_aload_n dX1_bringVillage_46 rfl ?_
        obtain ⟨w19, e18, m17⟩ := zbind m17
        refine zc_V0v moX4_advance mvX4_advance kX1_31 rfl dX1_bringVillage_47 za_43 (Nat.le_of_ble_eq_true rfl) (zrm (by decide)) (tX4_advance e18) ?_
        refine zs_fo [false, true, true, true] rfl ?_
        obtain rfl := Option.some.inj m17
        exact K16
    · replace h := zite_t c24 h
      refine zs_iconst (0 : Int32) dX1_bringVillage_24 ziconst_0 ?_
      obtain ⟨rfl, rfl⟩ := zpi2 h
      exact zs_bret dX1_bringVillage_25 (Or.inl rfl) ⟨rfl, rfl⟩
  · replace h := zite_f c25 h
    refine zs_iconst (0 : Int32) dX1_bringVillage_7 ziconst_0 ?_
    obtain ⟨rfl, rfl⟩ := zpi2 h
    exact zs_bret dX1_bringVillage_8 (Or.inl rfl) ⟨rfl, rfl⟩
def fX1_nameOf (w : zW) (p0 : Int32) : Option Nat := (if p0 = 1 then (some 7) else (if p0 = 2 then (some 8) else (if p0 = 3 then (some 9) else (if p0 = 4 then (some 10) else (if p0 = 5 then (some 11) else (some 12))))))
set_option maxRecDepth 100000 in
theorem tX1_nameOf {w : zW} {p0 : Int32}  {r : Nat} (h : fX1_nameOf w p0 = some r) : zRun yX1_nameOf cX1_nameOf 1 (some (.object "java/lang/String")) 0 [.int p0] w (zO (some (100 + r)) w) := by
  refine zRun.of (k := 0) rfl rfl rfl ?_
  show zWP RX1 cX1_nameOf (zMB 1 (some (.object "java/lang/String")) 0 (zO (some (100 + r)) w)) 0 [some (.int p0)] [] w
  unfold fX1_nameOf at h
  refine zs_iload_n dX1_nameOf_0 rfl ?_
  by_cases c1 : p0 = 1
  · replace h := zite_t c1 h
    refine zs_tswIn (1 : Int32) 36 dX1_nameOf_1 c1 (by decide) (by decide) rfl rfl ?_
    refine zs_ldcS (q := 7) rfl rfl dX1_nameOf_36 ?_
    obtain rfl := Option.some.inj h
    exact zs_aret (v := some (100 + 7)) dX1_nameOf_38 ⟨rfl, rfl⟩
  · replace h := zite_f c1 h
    by_cases c2 : p0 = 2
    · replace h := zite_t c2 h
      refine zs_tswIn (2 : Int32) 39 dX1_nameOf_1 c2 (by decide) (by decide) rfl rfl ?_
      refine zs_ldcS (q := 8) rfl rfl dX1_nameOf_39 ?_
      obtain rfl := Option.some.inj h
      exact zs_aret (v := some (100 + 8)) dX1_nameOf_41 ⟨rfl, rfl⟩
    · replace h := zite_f c2 h
      by_cases c3 : p0 = 3
      · replace h := zite_t c3 h
        refine zs_tswIn (3 : Int32) 42 dX1_nameOf_1 c3 (by decide) (by decide) rfl rfl ?_
        refine zs_ldcS (q := 9) rfl rfl dX1_nameOf_42 ?_
        obtain rfl := Option.some.inj h
        exact zs_aret (v := some (100 + 9)) dX1_nameOf_44 ⟨rfl, rfl⟩
      · replace h := zite_f c3 h
        by_cases c4 : p0 = 4
        · replace h := zite_t c4 h
          refine zs_tswIn (4 : Int32) 45 dX1_nameOf_1 c4 (by decide) (by decide) rfl rfl ?_
          refine zs_ldcS (q := 10) rfl rfl dX1_nameOf_45 ?_
          obtain rfl := Option.some.inj h
          exact zs_aret (v := some (100 + 10)) dX1_nameOf_47 ⟨rfl, rfl⟩
        · replace h := zite_f c4 h
          by_cases c5 : p0 = 5
          · replace h := zite_t c5 h
            refine zs_tswIn (5 : Int32) 48 dX1_nameOf_1 c5 (by decide) (by decide) rfl rfl ?_
            refine zs_ldcS (q := 11) rfl rfl dX1_nameOf_48 ?_
            obtain rfl := Option.some.inj h
            exact zs_aret (v := some (100 + 11)) dX1_nameOf_50 ⟨rfl, rfl⟩
          · replace h := zite_f c5 h
            refine zs_tswOut 51 dX1_nameOf_1 (by have q := zout (x := p0) (n := 5) (lo := 1) (fun i hi => by match i, hi with | 0, _ => exact c1 | 1, _ => exact c2 | 2, _ => exact c3 | 3, _ => exact c4 | 4, _ => exact c5); omega) rfl ?_
            refine zs_ldcS (q := 12) rfl rfl dX1_nameOf_51 ?_
            obtain rfl := Option.some.inj h
            exact zs_aret (v := some (100 + 12)) dX1_nameOf_53 ⟨rfl, rfl⟩
theorem fX1_nameOf_ok {w : zW} {a : Int32} {q : Nat} (h : fX1_nameOf w a = some q) : q < 13 := by
  unfold fX1_nameOf at h
  repeat' split at h
  all_goals (cases h; decide)
def lpX1_kindNamed_2 (w : zW) : Nat → Int32 → Option (Int32 ⊕ Unit)
  | 0, _ => none
  | n + 1, x1 => (if (6 : Int32) ≤ x1 then (some (.inr ())) else (Option.bind (fX1_nameOf w x1) fun q3 => Option.bind (fX4_isWord w q3) fun v6 => (if v6 = 0 then (lpX1_kindNamed_2 w n (x1 + 1)) else (some (.inl x1)))))
def fX1_kindNamed (w : zW)  : Option Int32 := zbs (lpX1_kindNamed_2 w zF (0 : Int32)) fun _ => some (-1 : Int32)
set_option maxRecDepth 100000 in
theorem tlX1_kindNamed_2 {w : zW}  {Q : Option Value → zW → Prop} : ∀ (n : Nat) (x1 : Int32) (s : (Int32 ⊕ Unit)), lpX1_kindNamed_2 w n x1 = some s → (∀ a, s = .inl a → Q (some (.int a)) w) → (∀ (a : Unit), s = .inr a → zWP RX1 cX1_kindNamed (zMB 2 (some .int) 6 Q) 27 [none, none] [] w) → zWP RX1 cX1_kindNamed (zMB 2 (some .int) 6 Q) 2 [some (.ref 43), some (.int x1)] [] w := by
  intro n
  induction n with
  | zero => intro x1 s h K1 K; simp [lpX1_kindNamed_2] at h
  | succ n ih =>
    intro x1 s h K1 K
    rw [lpX1_kindNamed_2] at h
    refine zs_iload_n dX1_kindNamed_2 rfl ?_
    refine zs_bipush (6 : Int32) dX1_kindNamed_3 zbipush_6 ?_
    refine zs_icmp_ge 27 dX1_kindNamed_5 rfl (fun c8 => ?_) (fun c8 => ?_)
    · replace h := zite_t c8 h
      refine zs_fo [false, false] rfl ?_
      obtain rfl := Option.some.inj h
      exact K () rfl
    · replace h := zite_f c8 h
      refine zs_aload_n dX1_kindNamed_8 rfl ?_
      refine zs_iload_n dX1_kindNamed_9 rfl ?_
      obtain ⟨q3, e2, h⟩ := zbind h
      have h4 : q3 < 13 := fX1_nameOf_ok e2
      refine zc_S1r moX1_nameOf mvX1_nameOf kX1_116 dX1_kindNamed_10 (Nat.le_of_ble_eq_true rfl) (zrm (by decide)) (tX1_nameOf e2) ?_
      obtain ⟨v6, e5, h⟩ := zbind h
      refine zc_V1i moX4_isWord mvX4_isWord kX1_36 rfl dX1_kindNamed_13 za_43 (Nat.le_of_ble_eq_true rfl) (zrm (by decide)) (tX4_isWord h4 e5) ?_
      refine zs_if_eq 21 dX1_kindNamed_16 rfl (fun c7 => ?_) (fun c7 => ?_)
      · replace h := zite_t c7 h
        refine zs_iinc (x1 + 1) [some (.ref 43), some (.int (x1 + 1))] dX1_kindNamed_21 rfl rfl (Nat.le_of_ble_eq_true rfl) rfl rfl ?_
        refine zs_goto 2 dX1_kindNamed_24 rfl ?_
        exact ih _ _ h K1 K
      · replace h := zite_f c7 h
        refine zs_iload_n dX1_kindNamed_19 rfl ?_
        obtain rfl := Option.some.inj h
        exact zs_iret dX1_kindNamed_20 (K1 x1 rfl)
set_option maxRecDepth 100000 in
theorem tX1_kindNamed {w : zW}   {r : Int32} (h : fX1_kindNamed w  = some r) : zRun yX1_kindNamed cX1_kindNamed 2 (some .int) 6 [.ref 43] w (zI r w) := by
  refine zRun.of (k := 1) rfl rfl rfl ?_
  show zWP RX1 cX1_kindNamed (zMB 2 (some .int) 6 (zI r w)) 0 [some (.ref 43), none] [] w
  unfold fX1_kindNamed at h
  refine zs_iconst (0 : Int32) dX1_kindNamed_0 ziconst_0 ?_
  refine zs_istore_n [some (.ref 43), some (.int (0 : Int32))] dX1_kindNamed_1 (Nat.le_of_ble_eq_true rfl) rfl rfl ?_
  rcases zbs_inv h with e9 | ⟨_, e9, h⟩
  · skip
    exact tlX1_kindNamed_2  zF _ _ e9 (fun _ q => by cases q; exact ⟨rfl, rfl⟩) (fun _ q => by cases q)
  · have K10 : zWP RX1 cX1_kindNamed (zMB 2 (some .int) 6 (zI r w)) 27 [none, none] [] w := by
      refine zs_iconst (-1 : Int32) dX1_kindNamed_27 ziconst_m1 ?_
      obtain rfl := Option.some.inj h
      exact zs_iret dX1_kindNamed_28 ⟨rfl, rfl⟩
    exact tlX1_kindNamed_2  zF _ _ e9 (fun _ q => by cases q) (fun _ q => by cases q; exact K10)
def fX1_bringItem (w : zW) (o1 : Nat) : Option (Int32 × zW) := Option.bind (fX4_isWord w 0) fun v2 => (if v2 = 0 then (Option.bind (fX4_isWord w 2) fun v4 => (if v4 = 0 then (Option.bind (fX4_isWord w 5) fun v6 => (if v6 = 0 then (Option.bind (fX4_isWord w 6) fun v8 => (if v8 = 0 then (Option.bind (fX1_kindNamed w) fun v10 => (if v10 < 0 then (some ((0 : Int32), w)) else (zb2 (fX1_bringLetter w o1 v10) fun v12 w13 => (if v12 = 0 then (some ((0 : Int32), w13)) else (some ((1 : Int32), w13)))))) else (zb2 (fX1_bringEvery w o1) fun v17 w18 => Option.bind (zgb v17) fun b19 => some (b19, w18)))) else (zb2 (fX1_bringSlide w o1) fun v23 w24 => Option.bind (zgb v23) fun b25 => some (b25, w24)))) else (zb2 (fX1_bringRoad w o1) fun v29 w30 => Option.bind (zgb v29) fun b31 => some (b31, w30)))) else (zb2 (fX1_bringVillage w o1) fun v35 w36 => Option.bind (zgb v35) fun b37 => some (b37, w36)))
set_option maxRecDepth 100000 in
theorem tX1_bringItem {w : zW} {o1 : Nat} (ho1 : zIsLand o1) {r : Int32} {w' : zW} (h : fX1_bringItem w o1 = some (r, w')) : zRun yX1_bringItem cX1_bringItem 3 (some .boolean) 7 [.ref 43, .ref o1] w (zI r w') := by
  refine zRun.of (k := 1) rfl rfl rfl ?_
  show zWP RX1 cX1_bringItem (zMB 3 (some .boolean) 7 (zI r w')) 0 [some (.ref 43), some (.ref o1), none] [] w
  unfold fX1_bringItem at h
  refine zs_aload_n dX1_bringItem_0 rfl ?_
  refine zs_ldcS (q := 0) rfl rfl dX1_bringItem_1 ?_
  obtain ⟨v2, e1, h⟩ := zbind h
  refine zc_V1i moX4_isWord mvX4_isWord kX1_36 rfl dX1_bringItem_3 za_43 (Nat.le_of_ble_eq_true rfl) (zrm (by decide)) (tX4_isWord (by decide) e1) ?_
  refine zs_if_eq 15 dX1_bringItem_6 rfl (fun c39 => ?_) (fun c39 => ?_)
  · replace h := zite_t c39 h
    refine zs_aload_n dX1_bringItem_15 rfl ?_
    refine zs_ldcS (q := 2) rfl rfl dX1_bringItem_16 ?_
    obtain ⟨v4, e3, h⟩ := zbind h
    refine zc_V1i moX4_isWord mvX4_isWord kX1_36 rfl dX1_bringItem_18 za_43 (Nat.le_of_ble_eq_true rfl) (zrm (by decide)) (tX4_isWord (by decide) e3) ?_
    refine zs_if_eq 30 dX1_bringItem_21 rfl (fun c33 => ?_) (fun c33 => ?_)
    · replace h := zite_t c33 h
      refine zs_aload_n dX1_bringItem_30 rfl ?_
      refine zs_ldcS (q := 5) rfl rfl dX1_bringItem_31 ?_
      obtain ⟨v6, e5, h⟩ := zbind h
      refine zc_V1i moX4_isWord mvX4_isWord kX1_36 rfl dX1_bringItem_33 za_43 (Nat.le_of_ble_eq_true rfl) (zrm (by decide)) (tX4_isWord (by decide) e5) ?_
      refine zs_if_eq 45 dX1_bringItem_36 rfl (fun c27 => ?_) (fun c27 => ?_)
      · replace h := zite_t c27 h
        refine zs_aload_n dX1_bringItem_45 rfl ?_
        refine zs_ldcS (q := 6) rfl rfl dX1_bringItem_46 ?_
        obtain ⟨v8, e7, h⟩ := zbind h
        refine zc_V1i moX4_isWord mvX4_isWord kX1_36 rfl dX1_bringItem_48 za_43 (Nat.le_of_ble_eq_true rfl) (zrm (by decide)) (tX4_isWord (by decide) e7) ?_
        refine zs_if_eq 60 dX1_bringItem_51 rfl (fun c21 => ?_) (fun c21 => ?_)
        · replace h := zite_t c21 h
          refine zs_aload_n dX1_bringItem_60 rfl ?_
          obtain ⟨v10, e9, h⟩ := zbind h
          refine zc_S1i moX1_kindNamed mvX1_kindNamed kX1_58 dX1_bringItem_61 (Nat.le_of_ble_eq_true rfl) (zrm (by decide)) (tX1_kindNamed e9) ?_
          refine zs_istore_n [some (.ref 43), some (.ref o1), some (.int v10)] dX1_bringItem_64 (Nat.le_of_ble_eq_true rfl) rfl rfl ?_
          refine zs_iload_n dX1_bringItem_65 rfl ?_
          refine zs_if_lt 82 dX1_bringItem_66 rfl (fun c15 => ?_) (fun c15 => ?_)
          · replace h := zite_t c15 h
            refine zs_iconst (0 : Int32) dX1_bringItem_82 ziconst_0 ?_
            obtain ⟨rfl, rfl⟩ := zpi2 h
            exact zs_bret dX1_bringItem_83 (Or.inl rfl) ⟨rfl, rfl⟩
          · replace h := zite_f c15 h
            refine zs_aload_n dX1_bringItem_69 rfl ?_
            refine zs_aload_n dX1_bringItem_70 rfl ?_
            refine zs_iload_n dX1_bringItem_71 rfl ?_
            obtain ⟨v12, w13, e11, h⟩ := zb2_inv h
            refine zc_S3i moX1_bringLetter mvX1_bringLetter kX1_62 dX1_bringItem_72 (Nat.le_of_ble_eq_true rfl) (zrm (by decide)) (tX1_bringLetter ho1 e11) ?_
            refine zs_if_eq 82 dX1_bringItem_75 rfl (fun c14 => ?_) (fun c14 => ?_)
            · replace h := zite_t c14 h
              refine zs_iconst (0 : Int32) dX1_bringItem_82 ziconst_0 ?_
              obtain ⟨rfl, rfl⟩ := zpi2 h
              exact zs_bret dX1_bringItem_83 (Or.inl rfl) ⟨rfl, rfl⟩
            · replace h := zite_f c14 h
              refine zs_iconst (1 : Int32) dX1_bringItem_78 ziconst_1 ?_
              refine zs_goto 83 dX1_bringItem_79 rfl ?_
              obtain ⟨rfl, rfl⟩ := zpi2 h
              exact zs_bret dX1_bringItem_83 (Or.inr rfl) ⟨rfl, rfl⟩
        · replace h := zite_f c21 h
          refine zs_aload_n dX1_bringItem_54 rfl ?_
          refine zs_aload_n dX1_bringItem_55 rfl ?_
          obtain ⟨v17, w18, e16, h⟩ := zb2_inv h
          refine zc_S2i moX1_bringEvery mvX1_bringEvery kX1_55 dX1_bringItem_56 (Nat.le_of_ble_eq_true rfl) (zrm (by decide)) (tX1_bringEvery ho1 e16) ?_
          obtain ⟨b19, e20, h⟩ := zbind h
          refine zs_nmi (zgb_inv e20).2 ?_
          obtain ⟨rfl, rfl⟩ := zpi2 h
          exact zs_bret dX1_bringItem_59 (by have q := zgb_inv e20; exact q.2 ▸ q.1) ⟨rfl, rfl⟩
      · replace h := zite_f c27 h
        refine zs_aload_n dX1_bringItem_39 rfl ?_
        refine zs_aload_n dX1_bringItem_40 rfl ?_
        obtain ⟨v23, w24, e22, h⟩ := zb2_inv h
        refine zc_S2i moX1_bringSlide mvX1_bringSlide kX1_50 dX1_bringItem_41 (Nat.le_of_ble_eq_true rfl) (zrm (by decide)) (tX1_bringSlide ho1 e22) ?_
        obtain ⟨b25, e26, h⟩ := zbind h
        refine zs_nmi (zgb_inv e26).2 ?_
        obtain ⟨rfl, rfl⟩ := zpi2 h
        exact zs_bret dX1_bringItem_44 (by have q := zgb_inv e26; exact q.2 ▸ q.1) ⟨rfl, rfl⟩
    · replace h := zite_f c33 h
      refine zs_aload_n dX1_bringItem_24 rfl ?_
      refine zs_aload_n dX1_bringItem_25 rfl ?_
      obtain ⟨v29, w30, e28, h⟩ := zb2_inv h
      refine zc_S2i moX1_bringRoad mvX1_bringRoad kX1_45 dX1_bringItem_26 (Nat.le_of_ble_eq_true rfl) (zrm (by decide)) (tX1_bringRoad ho1 e28) ?_
      obtain ⟨b31, e32, h⟩ := zbind h
      refine zs_nmi (zgb_inv e32).2 ?_
      obtain ⟨rfl, rfl⟩ := zpi2 h
      exact zs_bret dX1_bringItem_29 (by have q := zgb_inv e32; exact q.2 ▸ q.1) ⟨rfl, rfl⟩
  · replace h := zite_f c39 h
    refine zs_aload_n dX1_bringItem_9 rfl ?_
    refine zs_aload_n dX1_bringItem_10 rfl ?_
    obtain ⟨v35, w36, e34, h⟩ := zb2_inv h
    refine zc_S2i moX1_bringVillage mvX1_bringVillage kX1_40 dX1_bringItem_11 (Nat.le_of_ble_eq_true rfl) (zrm (by decide)) (tX1_bringVillage ho1 e34) ?_
    obtain ⟨b37, e38, h⟩ := zbind h
    refine zs_nmi (zgb_inv e38).2 ?_
    obtain ⟨rfl, rfl⟩ := zpi2 h
    exact zs_bret dX1_bringItem_14 (by have q := zgb_inv e38; exact q.2 ▸ q.1) ⟨rfl, rfl⟩
def fX4_isEnd (w : zW)  : Option Int32 := (if (w.1 43 4) = 0 then (some (1 : Int32)) else (some (0 : Int32)))
set_option maxRecDepth 100000 in
theorem tX4_isEnd {w : zW}   {r : Int32} (h : fX4_isEnd w  = some r) : zRun yX4_isEnd cX4_isEnd 1 (some .boolean) 0 [.ref 43] w (zI r w) := by
  refine zRun.of (k := 0) rfl rfl rfl ?_
  show zWP RX4 cX4_isEnd (zMB 1 (some .boolean) 0 (zI r w)) 0 [some (.ref 43)] [] w
  unfold fX4_isEnd at h
  refine zs_aload_n dX4_isEnd_0 rfl ?_
  refine gX4_35 dX4_isEnd_1 ?_
  refine zs_if_ne 11 dX4_isEnd_4 rfl (fun c1 => ?_) (fun c1 => ?_)
  · replace h := zite_f c1 h
    refine zs_iconst (0 : Int32) dX4_isEnd_11 ziconst_0 ?_
    obtain rfl := Option.some.inj h
    exact zs_bret dX4_isEnd_12 (Or.inl rfl) ⟨rfl, rfl⟩
  · replace h := zite_t c1 h
    refine zs_iconst (1 : Int32) dX4_isEnd_7 ziconst_1 ?_
    refine zs_goto 12 dX4_isEnd_8 rfl ?_
    obtain rfl := Option.some.inj h
    exact zs_bret dX4_isEnd_12 (Or.inr rfl) ⟨rfl, rfl⟩
def fX4_isSemicolon (w : zW)  : Option Int32 := (if (w.1 43 4) = (3 : Int32) then (some (1 : Int32)) else (some (0 : Int32)))
set_option maxRecDepth 100000 in
theorem tX4_isSemicolon {w : zW}   {r : Int32} (h : fX4_isSemicolon w  = some r) : zRun yX4_isSemicolon cX4_isSemicolon 1 (some .boolean) 0 [.ref 43] w (zI r w) := by
  refine zRun.of (k := 0) rfl rfl rfl ?_
  show zWP RX4 cX4_isSemicolon (zMB 1 (some .boolean) 0 (zI r w)) 0 [some (.ref 43)] [] w
  unfold fX4_isSemicolon at h
  refine zs_aload_n dX4_isSemicolon_0 rfl ?_
  refine gX4_35 dX4_isSemicolon_1 ?_
  refine zs_iconst (3 : Int32) dX4_isSemicolon_4 ziconst_3 ?_
  refine zs_icmp_ne 12 dX4_isSemicolon_5 rfl (fun c1 => ?_) (fun c1 => ?_)
  · replace h := zite_f c1 h
    refine zs_iconst (0 : Int32) dX4_isSemicolon_12 ziconst_0 ?_
    obtain rfl := Option.some.inj h
    exact zs_bret dX4_isSemicolon_13 (Or.inl rfl) ⟨rfl, rfl⟩
  · replace h := zite_t c1 h
    refine zs_iconst (1 : Int32) dX4_isSemicolon_8 ziconst_1 ?_
    refine zs_goto 13 dX4_isSemicolon_9 rfl ?_
    obtain rfl := Option.some.inj h
    exact zs_bret dX4_isSemicolon_13 (Or.inr rfl) ⟨rfl, rfl⟩
def fX4_rewind (w : zW)  : Option zW := Option.bind (some (zsf w 43 3 (0 : Int32))) fun w1 => Option.bind (fX4_advance w1) fun w4 => some w4
set_option maxRecDepth 100000 in
theorem tX4_rewind {w : zW}    {w' : zW} (h : fX4_rewind w  = some w') : zRun yX4_rewind cX4_rewind 1 none 3 [.ref 43] w (zV w') := by
  refine zRun.of (k := 0) rfl rfl rfl ?_
  show zWP RX4 cX4_rewind (zMB 1 none 3 (zV w')) 0 [some (.ref 43)] [] w
  unfold fX4_rewind at h
  refine zs_aload_n dX4_rewind_0 rfl ?_
  refine zs_iconst (0 : Int32) dX4_rewind_1 ziconst_0 ?_
  obtain ⟨w1, e2, h⟩ := zbind h
  refine pX4_19 dX4_rewind_2 ?_
  refine zs_nmw (Option.some.inj e2) ?_
  refine zs_aload_n dX4_rewind_5 rfl ?_
  obtain ⟨w4, e3, h⟩ := zbind h
  refine zc_V0v moX4_advance mvX4_advance kX4_22 rfl dX4_rewind_6 za_43 (Nat.le_of_ble_eq_true rfl) (zrm (by decide)) (tX4_advance e3) ?_
  obtain rfl := Option.some.inj h
  exact zs_vret dX4_rewind_9 ⟨rfl, rfl⟩
def lpX1_bring_6 (o1 : Nat) : Nat → zW → Int32 → Option ((Int32 × zW) ⊕ zW)
  | 0, _, _ => none
  | n + 1, w4, x3 => (if (120 : Int32) < x3 then (some (.inr w4)) else (zb2 (fX1_bringItem w4 o1) fun v7 w8 => (if v7 = 0 then (some (.inl (((-1 : Int32) - (w8.1 43 2)), w8))) else (Option.bind (fX4_isEnd w8) fun v10 => (if v10 = 0 then (Option.bind (fX4_isSemicolon w8) fun v12 => (if v12 = 0 then (some (.inl (((-1 : Int32) - (w8.1 43 2)), w8))) else (Option.bind (fX4_advance w8) fun w14 => lpX1_bring_6 o1 n w14 (x3 + 1)))) else (some (.inl (x3, w8))))))))
def fX1_bring (w : zW) (o1 : Nat) : Option (Int32 × zW) := Option.bind (fX4_rewind w) fun w2 => zbs (lpX1_bring_6 o1 zF w2 (1 : Int32)) fun w21 => some (((-1 : Int32) - (w21.1 43 2)), w21)
set_option maxRecDepth 100000 in
theorem tlX1_bring_6 {o1 : Nat} (ho1 : zIsLand o1) {Q : Option Value → zW → Prop} : ∀ (n : Nat) (w4 : zW) (x3 : Int32) (s : ((Int32 × zW) ⊕ zW)), lpX1_bring_6 o1 n w4 x3 = some s → (∀ a, s = .inl a → Q (some (.int a.1)) a.2) → (∀ (w5 : zW), s = .inr w5 → zWP RX1 cX1_bring (zMB 3 (some .int) 8 Q) 60 [some (.ref 43), none, none] [] w5) → zWP RX1 cX1_bring (zMB 3 (some .int) 8 Q) 6 [some (.ref 43), some (.ref o1), some (.int x3)] [] w4 := by
  intro n
  induction n with
  | zero => intro w4 x3 s h K1 K; simp [lpX1_bring_6] at h
  | succ n ih =>
    intro w4 x3 s h K1 K
    rw [lpX1_bring_6] at h
    refine zs_iload_n dX1_bring_6 rfl ?_
    refine zs_bipush (120 : Int32) dX1_bring_7 zbipush_120 ?_
    refine zs_icmp_gt 60 dX1_bring_9 rfl (fun c18 => ?_) (fun c18 => ?_)
    · replace h := zite_t c18 h
      refine zs_fo [true, false, false] rfl ?_
      obtain rfl := Option.some.inj h
      exact K w4 rfl
    · replace h := zite_f c18 h
      refine zs_aload_n dX1_bring_12 rfl ?_
      refine zs_aload_n dX1_bring_13 rfl ?_
      obtain ⟨v7, w8, e6, h⟩ := zb2_inv h
      refine zc_S2i moX1_bringItem mvX1_bringItem kX1_14 dX1_bring_14 (Nat.le_of_ble_eq_true rfl) (zrm (by decide)) (tX1_bringItem ho1 e6) ?_
      refine zs_if_ne 27 dX1_bring_17 rfl (fun c17 => ?_) (fun c17 => ?_)
      · replace h := zite_f c17 h
        refine zs_aload_n dX1_bring_27 rfl ?_
        obtain ⟨v10, e9, h⟩ := zbind h
        refine zc_V0i moX4_isEnd mvX4_isEnd kX1_24 rfl dX1_bring_28 za_43 (Nat.le_of_ble_eq_true rfl) (zrm (by decide)) (tX4_isEnd e9) ?_
        refine zs_if_eq 36 dX1_bring_31 rfl (fun c16 => ?_) (fun c16 => ?_)
        · replace h := zite_t c16 h
          refine zs_aload_n dX1_bring_36 rfl ?_
          obtain ⟨v12, e11, h⟩ := zbind h
          refine zc_V0i moX4_isSemicolon mvX4_isSemicolon kX1_28 rfl dX1_bring_37 za_43 (Nat.le_of_ble_eq_true rfl) (zrm (by decide)) (tX4_isSemicolon e11) ?_
          refine zs_if_ne 50 dX1_bring_40 rfl (fun c15 => ?_) (fun c15 => ?_)
          · replace h := zite_f c15 h
            refine zs_aload_n dX1_bring_50 rfl ?_
            obtain ⟨w14, e13, h⟩ := zbind h
            refine zc_V0v moX4_advance mvX4_advance kX1_31 rfl dX1_bring_51 za_43 (Nat.le_of_ble_eq_true rfl) (zrm (by decide)) (tX4_advance e13) ?_
            refine zs_iinc (x3 + 1) [some (.ref 43), some (.ref o1), some (.int (x3 + 1))] dX1_bring_54 rfl rfl (Nat.le_of_ble_eq_true rfl) rfl rfl ?_
            refine zs_goto 6 dX1_bring_57 rfl ?_
            exact ih _ _ _ h K1 K
          · replace h := zite_t c15 h
            refine zs_iconst (-1 : Int32) dX1_bring_43 ziconst_m1 ?_
            refine zs_aload_n dX1_bring_44 rfl ?_
            refine gX1_20 dX1_bring_45 ?_
            refine zs_isub dX1_bring_48 ?_
            obtain rfl := Option.some.inj h
            exact zs_iret dX1_bring_49 (K1 (((-1 : Int32) - (w8.1 43 2)), w8) rfl)
        · replace h := zite_f c16 h
          refine zs_iload_n dX1_bring_34 rfl ?_
          obtain rfl := Option.some.inj h
          exact zs_iret dX1_bring_35 (K1 (x3, w8) rfl)
      · replace h := zite_t c17 h
        refine zs_iconst (-1 : Int32) dX1_bring_20 ziconst_m1 ?_
        refine zs_aload_n dX1_bring_21 rfl ?_
        refine gX1_20 dX1_bring_22 ?_
        refine zs_isub dX1_bring_25 ?_
        obtain rfl := Option.some.inj h
        exact zs_iret dX1_bring_26 (K1 (((-1 : Int32) - (w8.1 43 2)), w8) rfl)
set_option maxRecDepth 100000 in
theorem tX1_bring {w : zW} {o1 : Nat} (ho1 : zIsLand o1) {r : Int32} {w' : zW} (h : fX1_bring w o1 = some (r, w')) : zRun yX1_bring cX1_bring 3 (some .int) 8 [.ref 43, .ref o1] w (zI r w') := by
  refine zRun.of (k := 1) rfl rfl rfl ?_
  show zWP RX1 cX1_bring (zMB 3 (some .int) 8 (zI r w')) 0 [some (.ref 43), some (.ref o1), none] [] w
  unfold fX1_bring at h
  refine zs_aload_n dX1_bring_0 rfl ?_
  obtain ⟨w2, e1, h⟩ := zbind h
  refine zc_V0v moX4_rewind mvX4_rewind kX1_9 rfl dX1_bring_1 za_43 (Nat.le_of_ble_eq_true rfl) (zrm (by decide)) (tX4_rewind e1) ?_
  refine zs_iconst (1 : Int32) dX1_bring_4 ziconst_1 ?_
  refine zs_istore_n [some (.ref 43), some (.ref o1), some (.int (1 : Int32))] dX1_bring_5 (Nat.le_of_ble_eq_true rfl) rfl rfl ?_
  rcases zbs_inv h with e19 | ⟨w21, e19, h⟩
  · skip
    exact tlX1_bring_6 ho1 zF _ _ _ e19 (fun _ q => by cases q; exact ⟨rfl, rfl⟩) (fun _ q => by cases q)
  · have K20 : zWP RX1 cX1_bring (zMB 3 (some .int) 8 (zI r w')) 60 [some (.ref 43), none, none] [] w21 := by
      refine zs_iconst (-1 : Int32) dX1_bring_60 ziconst_m1 ?_
      refine zs_aload_n dX1_bring_61 rfl ?_
      refine gX1_20 dX1_bring_62 ?_
      refine zs_isub dX1_bring_65 ?_
      obtain ⟨rfl, rfl⟩ := zpi2 h
      exact zs_iret dX1_bring_66 ⟨rfl, rfl⟩
    exact tlX1_bring_6 ho1 zF _ _ _ e19 (fun _ q => by cases q) (fun _ q => by cases q; exact K20)
def fX3_has (w : zW) (o0 : Nat) (p1 : Int32) : Option Int32 := (if p1 < 0 then (some (0 : Int32)) else ((if (w.1 o0 1) ≤ p1 then (some (0 : Int32)) else (some (1 : Int32)))))
set_option maxRecDepth 100000 in
theorem tX3_has {w : zW} {o0 : Nat} {p1 : Int32} (ho0 : zIsSheet o0) {r : Int32} (h : fX3_has w o0 p1 = some r) : zRun yX3_has cX3_has 2 (some .boolean) 0 [.ref o0, .int p1] w (zI r w) := by
  refine zRun.of (k := 0) rfl rfl rfl ?_
  show zWP RX3 cX3_has (zMB 2 (some .boolean) 0 (zI r w)) 0 [some (.ref o0), some (.int p1)] [] w
  unfold fX3_has at h
  refine zs_iload_n dX3_has_0 rfl ?_
  refine zs_if_lt 16 dX3_has_1 rfl (fun c2 => ?_) (fun c2 => ?_)
  · replace h := zite_t c2 h
    refine zs_iconst (0 : Int32) dX3_has_16 ziconst_0 ?_
    obtain rfl := Option.some.inj h
    exact zs_bret dX3_has_17 (Or.inl rfl) ⟨rfl, rfl⟩
  · replace h := zite_f c2 h
    refine zs_iload_n dX3_has_4 rfl ?_
    refine zs_aload_n dX3_has_5 rfl ?_
    refine gX3_28 ho0 dX3_has_6 ?_
    refine zs_icmp_ge 16 dX3_has_9 rfl (fun c1 => ?_) (fun c1 => ?_)
    · replace h := zite_t c1 h
      refine zs_iconst (0 : Int32) dX3_has_16 ziconst_0 ?_
      obtain rfl := Option.some.inj h
      exact zs_bret dX3_has_17 (Or.inl rfl) ⟨rfl, rfl⟩
    · replace h := zite_f c1 h
      refine zs_iconst (1 : Int32) dX3_has_12 ziconst_1 ?_
      refine zs_goto 17 dX3_has_13 rfl ?_
      obtain rfl := Option.some.inj h
      exact zs_bret dX3_has_17 (Or.inr rfl) ⟨rfl, rfl⟩
def fX3_hasRun (w : zW) (o0 : Nat) (p1 : Int32) (p2 : Int32) : Option Int32 := (if p1 < 0 then (some (0 : Int32)) else ((if p2 < 0 then (some (0 : Int32)) else ((if (w.1 o0 1) < p2 then (some (0 : Int32)) else ((if ((w.1 o0 1) - p2) < p1 then (some (0 : Int32)) else (some (1 : Int32)))))))))
set_option maxRecDepth 100000 in
theorem tX3_hasRun {w : zW} {o0 : Nat} {p1 : Int32} {p2 : Int32} (ho0 : zIsSheet o0) {r : Int32} (h : fX3_hasRun w o0 p1 p2 = some r) : zRun yX3_hasRun cX3_hasRun 3 (some .boolean) 0 [.ref o0, .int p1, .int p2] w (zI r w) := by
  refine zRun.of (k := 0) rfl rfl rfl ?_
  show zWP RX3 cX3_hasRun (zMB 3 (some .boolean) 0 (zI r w)) 0 [some (.ref o0), some (.int p1), some (.int p2)] [] w
  unfold fX3_hasRun at h
  refine zs_iload_n dX3_hasRun_0 rfl ?_
  refine zs_if_lt 30 dX3_hasRun_1 rfl (fun c4 => ?_) (fun c4 => ?_)
  · replace h := zite_t c4 h
    refine zs_iconst (0 : Int32) dX3_hasRun_30 ziconst_0 ?_
    obtain rfl := Option.some.inj h
    exact zs_bret dX3_hasRun_31 (Or.inl rfl) ⟨rfl, rfl⟩
  · replace h := zite_f c4 h
    refine zs_iload_n dX3_hasRun_4 rfl ?_
    refine zs_if_lt 30 dX3_hasRun_5 rfl (fun c3 => ?_) (fun c3 => ?_)
    · replace h := zite_t c3 h
      refine zs_iconst (0 : Int32) dX3_hasRun_30 ziconst_0 ?_
      obtain rfl := Option.some.inj h
      exact zs_bret dX3_hasRun_31 (Or.inl rfl) ⟨rfl, rfl⟩
    · replace h := zite_f c3 h
      refine zs_iload_n dX3_hasRun_8 rfl ?_
      refine zs_aload_n dX3_hasRun_9 rfl ?_
      refine gX3_28 ho0 dX3_hasRun_10 ?_
      refine zs_icmp_gt 30 dX3_hasRun_13 rfl (fun c2 => ?_) (fun c2 => ?_)
      · replace h := zite_t c2 h
        refine zs_iconst (0 : Int32) dX3_hasRun_30 ziconst_0 ?_
        obtain rfl := Option.some.inj h
        exact zs_bret dX3_hasRun_31 (Or.inl rfl) ⟨rfl, rfl⟩
      · replace h := zite_f c2 h
        refine zs_iload_n dX3_hasRun_16 rfl ?_
        refine zs_aload_n dX3_hasRun_17 rfl ?_
        refine gX3_28 ho0 dX3_hasRun_18 ?_
        refine zs_iload_n dX3_hasRun_21 rfl ?_
        refine zs_isub dX3_hasRun_22 ?_
        refine zs_icmp_gt 30 dX3_hasRun_23 rfl (fun c1 => ?_) (fun c1 => ?_)
        · replace h := zite_t c1 h
          refine zs_iconst (0 : Int32) dX3_hasRun_30 ziconst_0 ?_
          obtain rfl := Option.some.inj h
          exact zs_bret dX3_hasRun_31 (Or.inl rfl) ⟨rfl, rfl⟩
        · replace h := zite_f c1 h
          refine zs_iconst (1 : Int32) dX3_hasRun_26 ziconst_1 ?_
          refine zs_goto 31 dX3_hasRun_27 rfl ?_
          obtain rfl := Option.some.inj h
          exact zs_bret dX3_hasRun_31 (Or.inr rfl) ⟨rfl, rfl⟩
def fX3_isMissing (w : zW) (o0 : Nat) : Option Int32 := (if (w.1 o0 0) = 0 then (some (1 : Int32)) else (some (0 : Int32)))
set_option maxRecDepth 100000 in
theorem tX3_isMissing {w : zW} {o0 : Nat} (ho0 : zIsSheet o0) {r : Int32} (h : fX3_isMissing w o0 = some r) : zRun yX3_isMissing cX3_isMissing 1 (some .boolean) 0 [.ref o0] w (zI r w) := by
  refine zRun.of (k := 0) rfl rfl rfl ?_
  show zWP RX3 cX3_isMissing (zMB 1 (some .boolean) 0 (zI r w)) 0 [some (.ref o0)] [] w
  unfold fX3_isMissing at h
  refine zs_aload_n dX3_isMissing_0 rfl ?_
  refine gX3_15 ho0 dX3_isMissing_1 ?_
  refine zs_if_ne 11 dX3_isMissing_4 rfl (fun c1 => ?_) (fun c1 => ?_)
  · replace h := zite_f c1 h
    refine zs_iconst (0 : Int32) dX3_isMissing_11 ziconst_0 ?_
    obtain rfl := Option.some.inj h
    exact zs_bret dX3_isMissing_12 (Or.inl rfl) ⟨rfl, rfl⟩
  · replace h := zite_t c1 h
    refine zs_iconst (1 : Int32) dX3_isMissing_7 ziconst_1 ?_
    refine zs_goto 12 dX3_isMissing_8 rfl ?_
    obtain rfl := Option.some.inj h
    exact zs_bret dX3_isMissing_12 (Or.inr rfl) ⟨rfl, rfl⟩
def fX3_isWidth (w : zW) (p0 : Int32) : Option Int32 := (if p0 = 0 then (some (1 : Int32)) else ((if p0 = (8 : Int32) then (some (1 : Int32)) else ((if p0 = (16 : Int32) then (some (1 : Int32)) else ((if p0 = (64 : Int32) then (some (1 : Int32)) else (some (0 : Int32)))))))))
set_option maxRecDepth 100000 in
theorem tX3_isWidth {w : zW} {p0 : Int32}  {r : Int32} (h : fX3_isWidth w p0 = some r) : zRun yX3_isWidth cX3_isWidth 1 (some .boolean) 0 [.int p0] w (zI r w) := by
  refine zRun.of (k := 0) rfl rfl rfl ?_
  show zWP RX3 cX3_isWidth (zMB 1 (some .boolean) 0 (zI r w)) 0 [some (.int p0)] [] w
  unfold fX3_isWidth at h
  refine zs_iload_n dX3_isWidth_0 rfl ?_
  refine zs_if_eq 22 dX3_isWidth_1 rfl (fun c4 => ?_) (fun c4 => ?_)
  · replace h := zite_t c4 h
    refine zs_iconst (1 : Int32) dX3_isWidth_22 ziconst_1 ?_
    refine zs_goto 27 dX3_isWidth_23 rfl ?_
    obtain rfl := Option.some.inj h
    exact zs_bret dX3_isWidth_27 (Or.inr rfl) ⟨rfl, rfl⟩
  · replace h := zite_f c4 h
    refine zs_iload_n dX3_isWidth_4 rfl ?_
    refine zs_bipush (8 : Int32) dX3_isWidth_5 zbipush_8 ?_
    refine zs_icmp_eq 22 dX3_isWidth_7 rfl (fun c3 => ?_) (fun c3 => ?_)
    · replace h := zite_t c3 h
      refine zs_iconst (1 : Int32) dX3_isWidth_22 ziconst_1 ?_
      refine zs_goto 27 dX3_isWidth_23 rfl ?_
      obtain rfl := Option.some.inj h
      exact zs_bret dX3_isWidth_27 (Or.inr rfl) ⟨rfl, rfl⟩
    · replace h := zite_f c3 h
      refine zs_iload_n dX3_isWidth_10 rfl ?_
      refine zs_bipush (16 : Int32) dX3_isWidth_11 zbipush_16 ?_
      refine zs_icmp_eq 22 dX3_isWidth_13 rfl (fun c2 => ?_) (fun c2 => ?_)
      · replace h := zite_t c2 h
        refine zs_iconst (1 : Int32) dX3_isWidth_22 ziconst_1 ?_
        refine zs_goto 27 dX3_isWidth_23 rfl ?_
        obtain rfl := Option.some.inj h
        exact zs_bret dX3_isWidth_27 (Or.inr rfl) ⟨rfl, rfl⟩
      · replace h := zite_f c2 h
        refine zs_iload_n dX3_isWidth_16 rfl ?_
        refine zs_bipush (64 : Int32) dX3_isWidth_17 zbipush_64 ?_
        refine zs_icmp_ne 26 dX3_isWidth_19 rfl (fun c1 => ?_) (fun c1 => ?_)
        · replace h := zite_f c1 h
          refine zs_iconst (0 : Int32) dX3_isWidth_26 ziconst_0 ?_
          obtain rfl := Option.some.inj h
          exact zs_bret dX3_isWidth_27 (Or.inl rfl) ⟨rfl, rfl⟩
        · replace h := zite_t c1 h
          refine zs_iconst (1 : Int32) dX3_isWidth_22 ziconst_1 ?_
          refine zs_goto 27 dX3_isWidth_23 rfl ?_
          obtain rfl := Option.some.inj h
          exact zs_bret dX3_isWidth_27 (Or.inr rfl) ⟨rfl, rfl⟩
def fX3_narrowed (w : zW) (o0 : Nat) (p1 : Int64) : Option Int64 := (if (w.1 o0 0) = 8 then (some ((((((p1).toInt32)).toInt8.toInt32)).toInt64)) else (if (w.1 o0 0) = 16 then (some ((((((p1).toInt32)).toInt16.toInt32)).toInt64)) else (some p1)))
set_option maxRecDepth 100000 in
theorem tX3_narrowed {w : zW} {o0 : Nat} {p1 : Int64} (ho0 : zIsSheet o0) {r : Int64} (h : fX3_narrowed w o0 p1 = some r) : zRun yX3_narrowed cX3_narrowed 3 (some .long) 0 [.ref o0, .long p1] w (zJ r w) := by
  refine zRun.of (k := 0) rfl rfl rfl ?_
  show zWP RX3 cX3_narrowed (zMB 3 (some .long) 0 (zJ r w)) 0 [some (.ref o0), some (.long p1), none] [] w
  unfold fX3_narrowed at h
  refine zs_aload_n dX3_narrowed_0 rfl ?_
  refine gX3_15 ho0 dX3_narrowed_1 ?_
  by_cases c1 : (w.1 o0 0) = 8
  · replace h := zite_t c1 h
    refine zs_lsw 32 dX3_narrowed_4 rfl (by rw [c1]) rfl ?_
    refine zs_lload_n dX3_narrowed_32 rfl ?_
    refine zs_l2i dX3_narrowed_33 ?_
    refine zs_i2b dX3_narrowed_34 ?_
    refine zs_i2l dX3_narrowed_35 ?_
    obtain rfl := Option.some.inj h
    exact zs_lret dX3_narrowed_36 ⟨rfl, rfl⟩
  · replace h := zite_f c1 h
    by_cases c2 : (w.1 o0 0) = 16
    · replace h := zite_t c2 h
      refine zs_lsw 37 dX3_narrowed_4 rfl (by rw [c2]) rfl ?_
      refine zs_lload_n dX3_narrowed_37 rfl ?_
      refine zs_l2i dX3_narrowed_38 ?_
      refine zs_i2s dX3_narrowed_39 ?_
      refine zs_i2l dX3_narrowed_40 ?_
      obtain rfl := Option.some.inj h
      exact zs_lret dX3_narrowed_41 ⟨rfl, rfl⟩
    · replace h := zite_f c2 h
      refine zs_lsw 42 dX3_narrowed_4 rfl (zlsw c1 c2) rfl ?_
      refine zs_lload_n dX3_narrowed_42 rfl ?_
      obtain rfl := Option.some.inj h
      exact zs_lret dX3_narrowed_43 ⟨rfl, rfl⟩
def fX3_number (w : zW) (o0 : Nat) (p1 : Int32) : Option Int64 := Option.bind (fX3_has w o0 p1) fun v2 => (if v2 = 0 then (some (0 : Int64)) else (Option.bind (zrl w (o0 + 1) 40 p1) fun v3 => some v3))
set_option maxRecDepth 100000 in
theorem tX3_number {w : zW} {o0 : Nat} {p1 : Int32} (ho0 : zIsSheet o0) {r : Int64} (h : fX3_number w o0 p1 = some r) : zRun yX3_number cX3_number 2 (some .long) 1 [.ref o0, .int p1] w (zJ r w) := by
  refine zRun.of (k := 0) rfl rfl rfl ?_
  show zWP RX3 cX3_number (zMB 2 (some .long) 1 (zJ r w)) 0 [some (.ref o0), some (.int p1)] [] w
  unfold fX3_number at h
  refine zs_aload_n dX3_number_0 rfl ?_
  refine zs_iload_n dX3_number_1 rfl ?_
  obtain ⟨v2, e1, h⟩ := zbind h
  refine zc_V1i moX3_has mvX3_has kX3_31 rfl dX3_number_2 (za_S ho0) (Nat.le_of_ble_eq_true rfl) (zrm (by decide)) (tX3_has ho0 e1) ?_
  refine zs_if_eq 17 dX3_number_5 rfl (fun c5 => ?_) (fun c5 => ?_)
  · replace h := zite_t c5 h
    refine zs_lconst (0 : Int64) dX3_number_17 rfl ?_
    obtain rfl := Option.some.inj h
    exact zs_lret dX3_number_18 ⟨rfl, rfl⟩
  · replace h := zite_f c5 h
    refine zs_aload_n dX3_number_8 rfl ?_
    refine gX3_9 ho0 dX3_number_9 ?_
    refine zs_iload_n dX3_number_12 rfl ?_
    obtain ⟨v3, e4, h⟩ := zbind h
    refine zs_lald dX3_number_13 (za_S1 ho0) e4 ?_
    refine zs_goto 18 dX3_number_14 rfl ?_
    obtain rfl := Option.some.inj h
    exact zs_lret dX3_number_18 ⟨rfl, rfl⟩
def fX3_put (w : zW) (o0 : Nat) (p1 : Int32) (p2 : Int64) : Option zW := Option.bind (fX3_has w o0 p1) fun v2 => (if v2 = 0 then (some w) else (Option.bind (fX3_narrowed w o0 p2) fun v4 => Option.bind (zwl w (o0 + 1) 40 p1 v4) fun w5 => some w5))
set_option maxRecDepth 100000 in
theorem tX3_put {w : zW} {o0 : Nat} {p1 : Int32} {p2 : Int64} (ho0 : zIsSheet o0)  {w' : zW} (h : fX3_put w o0 p1 p2 = some w') : zRun yX3_put cX3_put 4 none 1 [.ref o0, .int p1, .long p2] w (zV w') := by
  refine zRun.of (k := 0) rfl rfl rfl ?_
  show zWP RX3 cX3_put (zMB 4 none 1 (zV w')) 0 [some (.ref o0), some (.int p1), some (.long p2), none] [] w
  unfold fX3_put at h
  refine zs_aload_n dX3_put_0 rfl ?_
  refine zs_iload_n dX3_put_1 rfl ?_
  obtain ⟨v2, e1, h⟩ := zbind h
  refine zc_V1i moX3_has mvX3_has kX3_31 rfl dX3_put_2 (za_S ho0) (Nat.le_of_ble_eq_true rfl) (zrm (by decide)) (tX3_has ho0 e1) ?_
  refine zs_if_eq 19 dX3_put_5 rfl (fun c7 => ?_) (fun c7 => ?_)
  · replace h := zite_t c7 h
    obtain rfl := Option.some.inj h
    exact zs_vret dX3_put_19 ⟨rfl, rfl⟩
  · replace h := zite_f c7 h
    refine zs_aload_n dX3_put_8 rfl ?_
    refine gX3_9 ho0 dX3_put_9 ?_
    refine zs_iload_n dX3_put_12 rfl ?_
    refine zs_aload_n dX3_put_13 rfl ?_
    refine zs_lload_n dX3_put_14 rfl ?_
    obtain ⟨v4, e3, h⟩ := zbind h
    refine zc_V1j moX3_narrowed mvX3_narrowed kX3_35 rfl dX3_put_15 (za_S ho0) (Nat.le_of_ble_eq_true rfl) (zrm (by decide)) (tX3_narrowed ho0 e3) ?_
    obtain ⟨w5, e6, h⟩ := zbind h
    refine zs_last dX3_put_18 (za_S1 ho0) e6 ?_
    obtain rfl := Option.some.inj h
    exact zs_vret dX3_put_19 ⟨rfl, rfl⟩
def lpX3_renew_29 (o0 : Nat) : Nat → zW → Int32 → Option zW
  | 0, _, _ => none
  | n + 1, w9, x8 => (if (40 : Int32) ≤ x8 then (some w9) else (Option.bind (zwl w9 (o0 + 1) 40 x8 (0 : Int64)) fun w11 => lpX3_renew_29 o0 n w11 (x8 + 1)))
def fX3_renew (w : zW) (o0 : Nat) (p1 : Int32) (p2 : Int32) : Option zW := Option.bind (some (zsf w o0 0 p1)) fun w1 => Option.bind (if p1 = 0 then (some (0 : Int32)) else (some (zmax (0 : Int32) (zmin p2 (40 : Int32))))) fun x3 => Option.bind (some (zsf w1 o0 1 x3)) fun w6 => Option.bind (lpX3_renew_29 o0 zF w6 (0 : Int32)) fun w16 => some w16
set_option maxRecDepth 100000 in
theorem tlX3_renew_29 {o0 : Nat} (ho0 : zIsSheet o0) {Q : Option Value → zW → Prop} : ∀ (n : Nat) (w9 : zW) (x8 : Int32) (w10 : zW), lpX3_renew_29 o0 n w9 x8 = some w10 → zWP RX3 cX3_renew (zMB 4 none 1 Q) 48 [none, none, none, none] [] w10 → zWP RX3 cX3_renew (zMB 4 none 1 Q) 29 [some (.ref o0), none, none, some (.int x8)] [] w9 := by
  intro n
  induction n with
  | zero => intro w9 x8 w10 h K; simp [lpX3_renew_29] at h
  | succ n ih =>
    intro w9 x8 w10 h K
    rw [lpX3_renew_29] at h
    refine zs_iload_n dX3_renew_29 rfl ?_
    refine zs_bipush (40 : Int32) dX3_renew_30 zbipush_40 ?_
    refine zs_icmp_ge 48 dX3_renew_32 rfl (fun c13 => ?_) (fun c13 => ?_)
    · replace h := zite_t c13 h
      refine zs_fo [false, false, false, false] rfl ?_
      obtain rfl := Option.some.inj h
      exact K
    · replace h := zite_f c13 h
      refine zs_aload_n dX3_renew_35 rfl ?_
      refine gX3_9 ho0 dX3_renew_36 ?_
      refine zs_iload_n dX3_renew_39 rfl ?_
      refine zs_lconst (0 : Int64) dX3_renew_40 rfl ?_
      obtain ⟨w11, e12, h⟩ := zbind h
      refine zs_last dX3_renew_41 (za_S1 ho0) e12 ?_
      refine zs_iinc (x8 + 1) [some (.ref o0), none, none, some (.int (x8 + 1))] dX3_renew_42 rfl rfl (Nat.le_of_ble_eq_true rfl) rfl rfl ?_
      refine zs_goto 29 dX3_renew_45 rfl ?_
      exact ih _ _ _ h K
set_option maxRecDepth 100000 in
theorem tX3_renew {w : zW} {o0 : Nat} {p1 : Int32} {p2 : Int32} (ho0 : zIsSheet o0)  {w' : zW} (h : fX3_renew w o0 p1 p2 = some w') : zRun yX3_renew cX3_renew 4 none 1 [.ref o0, .int p1, .int p2] w (zV w') := by
  refine zRun.of (k := 1) rfl rfl rfl ?_
  show zWP RX3 cX3_renew (zMB 4 none 1 (zV w')) 0 [some (.ref o0), some (.int p1), some (.int p2), none] [] w
  unfold fX3_renew at h
  refine zs_aload_n dX3_renew_0 rfl ?_
  refine zs_iload_n dX3_renew_1 rfl ?_
  obtain ⟨w1, e2, h⟩ := zbind h
  refine pX3_15 ho0 dX3_renew_2 ?_
  refine zs_nmw (Option.some.inj e2) ?_
  refine zs_aload_n dX3_renew_5 rfl ?_
  refine zs_iload_n dX3_renew_6 rfl ?_
  obtain ⟨x3, m5, h⟩ := zbind h
  have K4 : zWP RX3 cX3_renew (zMB 4 none 1 (zV w')) 24 [some (.ref o0), none, none, none] [.int x3, .ref o0] w1 := by
    obtain ⟨w6, e7, h⟩ := zbind h
    refine pX3_28 ho0 dX3_renew_24 ?_
    refine zs_nmw (Option.some.inj e7) ?_
    refine zs_iconst (0 : Int32) dX3_renew_27 ziconst_0 ?_
    refine zs_istore_n [some (.ref o0), none, none, some (.int (0 : Int32))] dX3_renew_28 (Nat.le_of_ble_eq_true rfl) rfl rfl ?_
    obtain ⟨w16, e14, h⟩ := zbind h
    have K15 : zWP RX3 cX3_renew (zMB 4 none 1 (zV w')) 48 [none, none, none, none] [] w16 := by
      obtain rfl := Option.some.inj h
      exact zs_vret dX3_renew_48 ⟨rfl, rfl⟩
    exact tlX3_renew_29 ho0 zF _ _ _ e14 K15
  refine zs_if_ne 14 dX3_renew_7 rfl (fun c17 => ?_) (fun c17 => ?_)
  · replace m5 := zite_f c17 m5
    refine zs_iconst (0 : Int32) dX3_renew_14 ziconst_0 ?_
    refine zs_iload_n dX3_renew_15 rfl ?_
    refine zs_bipush (40 : Int32) dX3_renew_16 zbipush_40 ?_
    refine zs_min kX3_19 zst_min zin_math zco_min (zrm1 (by decide)) (Nat.le_of_ble_eq_true rfl) dX3_renew_18 ?_
    refine zs_max kX3_25 zst_max zin_math zco_max (zrm1 (by decide)) (Nat.le_of_ble_eq_true rfl) dX3_renew_21 ?_
    refine zs_fo [true, false, false, false] rfl ?_
    obtain rfl := Option.some.inj m5
    exact K4
  · replace m5 := zite_t c17 m5
    refine zs_iconst (0 : Int32) dX3_renew_10 ziconst_0 ?_
    refine zs_goto 24 dX3_renew_11 rfl ?_
    refine zs_fo [true, false, false, false] rfl ?_
    obtain rfl := Option.some.inj m5
    exact K4
def fX4_append (w : zW) (p1 : Int32) : Option zW := (if (w.1 43 1) < 0 then (some w) else ((if (120 : Int32) ≤ (w.1 43 1) then (some w) else (Option.bind (some (zsf w 43 1 ((w.1 43 1) + (1 : Int32)))) fun w1 => Option.bind (zwr w1 44 120 (w.1 43 1) p1) fun w3 => some w3))))
set_option maxRecDepth 100000 in
theorem tX4_append {w : zW} {p1 : Int32}   {w' : zW} (h : fX4_append w p1 = some w') : zRun yX4_append cX4_append 2 none 0 [.ref 43, .int p1] w (zV w') := by
  refine zRun.of (k := 0) rfl rfl rfl ?_
  show zWP RX4 cX4_append (zMB 2 none 0 (zV w')) 0 [some (.ref 43), some (.int p1)] [] w
  unfold fX4_append at h
  refine zs_aload_n dX4_append_0 rfl ?_
  refine gX4_15 dX4_append_1 ?_
  refine zs_if_lt 33 dX4_append_4 rfl (fun c6 => ?_) (fun c6 => ?_)
  · replace h := zite_t c6 h
    obtain rfl := Option.some.inj h
    exact zs_vret dX4_append_33 ⟨rfl, rfl⟩
  · replace h := zite_f c6 h
    refine zs_aload_n dX4_append_7 rfl ?_
    refine gX4_15 dX4_append_8 ?_
    refine zs_bipush (120 : Int32) dX4_append_11 zbipush_120 ?_
    refine zs_icmp_ge 33 dX4_append_13 rfl (fun c5 => ?_) (fun c5 => ?_)
    · replace h := zite_t c5 h
      obtain rfl := Option.some.inj h
      exact zs_vret dX4_append_33 ⟨rfl, rfl⟩
    · replace h := zite_f c5 h
      refine zs_aload_n dX4_append_16 rfl ?_
      refine gX4_9 dX4_append_17 ?_
      refine zs_aload_n dX4_append_20 rfl ?_
      refine zs_dup dX4_append_21 rfl ?_
      refine gX4_15 dX4_append_22 ?_
      refine zs_dup_x1 dX4_append_25 rfl rfl ?_
      refine zs_iconst (1 : Int32) dX4_append_26 ziconst_1 ?_
      refine zs_iadd dX4_append_27 ?_
      obtain ⟨w1, e2, h⟩ := zbind h
      refine pX4_15 dX4_append_28 ?_
      refine zs_nmw (Option.some.inj e2) ?_
      refine zs_iload_n dX4_append_31 rfl ?_
      obtain ⟨w3, e4, h⟩ := zbind h
      refine zs_iast dX4_append_32 za_44 e4 ?_
      obtain rfl := Option.some.inj h
      exact zs_vret dX4_append_33 ⟨rfl, rfl⟩
