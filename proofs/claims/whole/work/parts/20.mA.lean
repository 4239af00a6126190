def fJ6_bitCount_0f7a4 (w : zW) (p0 : Int32) : Option Int32 := Option.bind (some ((p0 - (((p0.toUInt32 >>> ((1 : Int32).toUInt32 &&& Int32.toUInt32 31)).toInt32) &&& (1431655765 : Int32))))) fun x1 => Option.bind (some (((x1 &&& (858993459 : Int32)) + (((x1.toUInt32 >>> ((2 : Int32).toUInt32 &&& Int32.toUInt32 31)).toInt32) &&& (858993459 : Int32))))) fun x3 => Option.bind (some (((x3 + ((x3.toUInt32 >>> ((4 : Int32).toUInt32 &&& Int32.toUInt32 31)).toInt32)) &&& (252645135 : Int32)))) fun x5 => Option.bind (some ((x5 + ((x5.toUInt32 >>> ((8 : Int32).toUInt32 &&& Int32.toUInt32 31)).toInt32)))) fun x7 => Option.bind (some ((x7 + ((x7.toUInt32 >>> ((16 : Int32).toUInt32 &&& Int32.toUInt32 31)).toInt32)))) fun x9 => some (x9 &&& (63 : Int32))
set_option maxRecDepth 100000 in
theorem tJ6_bitCount_0f7a4 {w : zW} {p0 : Int32}  {r : Int32} (h : fJ6_bitCount_0f7a4 w p0 = some r) : zRun yJ6_bitCount_0f7a4 cJ6_bitCount_0f7a4 1 (some .int) 0 [.int p0] w (zI r w) := by
  refine zRun.of (k := 0) rfl rfl rfl ?_
  show zWP RJ6 cJ6_bitCount_0f7a4 (zMB 1 (some .int) 0 (zI r w)) 0 [some (.int p0)] [] w
  unfold fJ6_bitCount_0f7a4 at h
  refine zs_iload_n dJ6_bitCount_0f7a4_0 rfl ?_
  refine zs_iload_n dJ6_bitCount_0f7a4_1 rfl ?_
  refine zs_iconst (1 : Int32) dJ6_bitCount_0f7a4_2 ziconst_1 ?_
  refine zs_iushr dJ6_bitCount_0f7a4_3 ?_
  refine zs_ldc_w kJ6_265 dJ6_bitCount_0f7a4_4 ?_
  refine zs_iand dJ6_bitCount_0f7a4_7 ?_
  refine zs_isub dJ6_bitCount_0f7a4_8 ?_
  obtain ⟨x1, e2, h⟩ := zbind h
  refine zs_nmi (Option.some.inj e2) ?_
  refine zs_istore_n [some (.int x1)] dJ6_bitCount_0f7a4_9 (Nat.le_of_ble_eq_true rfl) rfl rfl ?_
  refine zs_iload_n dJ6_bitCount_0f7a4_10 rfl ?_
  refine zs_ldc_w kJ6_266 dJ6_bitCount_0f7a4_11 ?_
  refine zs_iand dJ6_bitCount_0f7a4_14 ?_
  refine zs_iload_n dJ6_bitCount_0f7a4_15 rfl ?_
  refine zs_iconst (2 : Int32) dJ6_bitCount_0f7a4_16 ziconst_2 ?_
  refine zs_iushr dJ6_bitCount_0f7a4_17 ?_
  refine zs_ldc_w kJ6_266 dJ6_bitCount_0f7a4_18 ?_
  refine zs_iand dJ6_bitCount_0f7a4_21 ?_
  refine zs_iadd dJ6_bitCount_0f7a4_22 ?_
  obtain ⟨x3, e4, h⟩ := zbind h
  refine zs_nmi (Option.some.inj e4) ?_
  refine zs_istore_n [some (.int x3)] dJ6_bitCount_0f7a4_23 (Nat.le_of_ble_eq_true rfl) rfl rfl ?_
  refine zs_iload_n dJ6_bitCount_0f7a4_24 rfl ?_
  refine zs_iload_n dJ6_bitCount_0f7a4_25 rfl ?_
  refine zs_iconst (4 : Int32) dJ6_bitCount_0f7a4_26 ziconst_4 ?_
  refine zs_iushr dJ6_bitCount_0f7a4_27 ?_
  refine zs_iadd dJ6_bitCount_0f7a4_28 ?_
  refine zs_ldc_w kJ6_267 dJ6_bitCount_0f7a4_29 ?_
  refine zs_iand dJ6_bitCount_0f7a4_32 ?_
  obtain ⟨x5, e6, h⟩ := zbind h
  refine zs_nmi (Option.some.inj e6) ?_
  refine zs_istore_n [some (.int x5)] dJ6_bitCount_0f7a4_33 (Nat.le_of_ble_eq_true rfl) rfl rfl ?_
  refine zs_iload_n dJ6_bitCount_0f7a4_34 rfl ?_
  refine zs_iload_n dJ6_bitCount_0f7a4_35 rfl ?_
  refine zs_bipush (8 : Int32) dJ6_bitCount_0f7a4_36 zbipush_8 ?_
  refine zs_iushr dJ6_bitCount_0f7a4_38 ?_
  refine zs_iadd dJ6_bitCount_0f7a4_39 ?_
  obtain ⟨x7, e8, h⟩ := zbind h
  refine zs_nmi (Option.some.inj e8) ?_
  refine zs_istore_n [some (.int x7)] dJ6_bitCount_0f7a4_40 (Nat.le_of_ble_eq_true rfl) rfl rfl ?_
  refine zs_iload_n dJ6_bitCount_0f7a4_41 rfl ?_
  refine zs_iload_n dJ6_bitCount_0f7a4_42 rfl ?_
  refine zs_bipush (16 : Int32) dJ6_bitCount_0f7a4_43 zbipush_16 ?_
  refine zs_iushr dJ6_bitCount_0f7a4_45 ?_
  refine zs_iadd dJ6_bitCount_0f7a4_46 ?_
  obtain ⟨x9, e10, h⟩ := zbind h
  refine zs_nmi (Option.some.inj e10) ?_
  refine zs_istore_n [some (.int x9)] dJ6_bitCount_0f7a4_47 (Nat.le_of_ble_eq_true rfl) rfl rfl ?_
  refine zs_iload_n dJ6_bitCount_0f7a4_48 rfl ?_
  refine zs_bipush (63 : Int32) dJ6_bitCount_0f7a4_49 zbipush_63 ?_
  refine zs_iand dJ6_bitCount_0f7a4_51 ?_
  obtain rfl := Option.some.inj h
  exact zs_iret dJ6_bitCount_0f7a4_52 ⟨rfl, rfl⟩
def fX0_lettersFull (w : zW) (o0 : Nat) : Option Int32 := (if (w.1 o0 9) < (10 : Int32) then (some (0 : Int32)) else (some (1 : Int32)))
set_option maxRecDepth 100000 in
theorem tX0_lettersFull {w : zW} {o0 : Nat} (ho0 : zIsLand o0) {r : Int32} (h : fX0_lettersFull w o0 = some r) : zRun yX0_lettersFull cX0_lettersFull 1 (some .boolean) 0 [.ref o0] w (zI r w) := by
  refine zRun.of (k := 0) rfl rfl rfl ?_
  show zWP RX0 cX0_lettersFull (zMB 1 (some .boolean) 0 (zI r w)) 0 [some (.ref o0)] [] w
  unfold fX0_lettersFull at h
  refine zs_aload_n dX0_lettersFull_0 rfl ?_
  refine gX0_61 ho0 dX0_lettersFull_1 ?_
  refine zs_bipush (10 : Int32) dX0_lettersFull_4 zbipush_10 ?_
  refine zs_icmp_lt 13 dX0_lettersFull_6 rfl (fun c1 => ?_) (fun c1 => ?_)
  · replace h := zite_t c1 h
    refine zs_iconst (0 : Int32) dX0_lettersFull_13 ziconst_0 ?_
    obtain rfl := Option.some.inj h
    exact zs_bret dX0_lettersFull_14 (Or.inl rfl) ⟨rfl, rfl⟩
  · replace h := zite_f c1 h
    refine zs_iconst (1 : Int32) dX0_lettersFull_9 ziconst_1 ?_
    refine zs_goto 14 dX0_lettersFull_10 rfl ?_
    obtain rfl := Option.some.inj h
    exact zs_bret dX0_lettersFull_14 (Or.inr rfl) ⟨rfl, rfl⟩
def fX0_addLetter (w : zW) (o0 : Nat) (p1 : Int32) (p2 : Int32) (p3 : Int32) : Option (Int32 × zW) := Option.bind (fX0_lettersFull w o0) fun v2 => (if v2 = 0 then (Option.bind (zwr w (o0 + 5) 10 (w.1 o0 9) p1) fun w3 => Option.bind (zwr w3 (o0 + 6) 10 (w3.1 o0 9) p2) fun w5 => Option.bind (zwr w5 (o0 + 7) 10 (w5.1 o0 9) p3) fun w7 => Option.bind (zwr w7 (o0 + 8) 10 (w7.1 o0 9) (w7.1 o0 8)) fun w9 => Option.bind (zwr w9 (o0 + 9) 10 (w9.1 o0 9) (0 : Int32)) fun w11 => Option.bind (some (zsf w11 o0 9 ((w11.1 o0 9) + (1 : Int32)))) fun w13 => some ((w11.1 o0 9), w13)) else (some ((-1 : Int32), w)))
set_option maxRecDepth 100000 in
theorem tX0_addLetter {w : zW} {o0 : Nat} {p1 : Int32} {p2 : Int32} {p3 : Int32} (ho0 : zIsLand o0) {r : Int32} {w' : zW} (h : fX0_addLetter w o0 p1 p2 p3 = some (r, w')) : zRun yX0_addLetter cX0_addLetter 4 (some .int) 1 [.ref o0, .int p1, .int p2, .int p3] w (zI r w') := by
  refine zRun.of (k := 0) rfl rfl rfl ?_
  show zWP RX0 cX0_addLetter (zMB 4 (some .int) 1 (zI r w')) 0 [some (.ref o0), some (.int p1), some (.int p2), some (.int p3)] [] w
  unfold fX0_addLetter at h
  refine zs_aload_n dX0_addLetter_0 rfl ?_
  obtain ⟨v2, e1, h⟩ := zbind h
  refine zc_V0i moX0_lettersFull mvX0_lettersFull kX0_75 rfl dX0_addLetter_1 (za_L ho0) (Nat.le_of_ble_eq_true rfl) (zrm (by decide)) (tX0_lettersFull ho0 e1) ?_
  refine zs_if_eq 9 dX0_addLetter_4 rfl (fun c15 => ?_) (fun c15 => ?_)
  · replace h := zite_t c15 h
    refine zs_aload_n dX0_addLetter_9 rfl ?_
    refine gX0_28 ho0 dX0_addLetter_10 ?_
    refine zs_aload_n dX0_addLetter_13 rfl ?_
    refine gX0_61 ho0 dX0_addLetter_14 ?_
    refine zs_iload_n dX0_addLetter_17 rfl ?_
    obtain ⟨w3, e4, h⟩ := zbind h
    refine zs_iast dX0_addLetter_18 (za_L5 ho0) e4 ?_
    refine zs_aload_n dX0_addLetter_19 rfl ?_
    refine gX0_31 ho0 dX0_addLetter_20 ?_
    refine zs_aload_n dX0_addLetter_23 rfl ?_
    refine gX0_61 ho0 dX0_addLetter_24 ?_
    refine zs_iload_n dX0_addLetter_27 rfl ?_
    obtain ⟨w5, e6, h⟩ := zbind h
    refine zs_iast dX0_addLetter_28 (za_L6 ho0) e6 ?_
    refine zs_aload_n dX0_addLetter_29 rfl ?_
    refine gX0_34 ho0 dX0_addLetter_30 ?_
    refine zs_aload_n dX0_addLetter_33 rfl ?_
    refine gX0_61 ho0 dX0_addLetter_34 ?_
    refine zs_iload_n dX0_addLetter_37 rfl ?_
    obtain ⟨w7, e8, h⟩ := zbind h
    refine zs_iast dX0_addLetter_38 (za_L7 ho0) e8 ?_
    refine zs_aload_n dX0_addLetter_39 rfl ?_
    refine gX0_37 ho0 dX0_addLetter_40 ?_
    refine zs_aload_n dX0_addLetter_43 rfl ?_
    refine gX0_61 ho0 dX0_addLetter_44 ?_
    refine zs_aload_n dX0_addLetter_47 rfl ?_
    refine gX0_58 ho0 dX0_addLetter_48 ?_
    obtain ⟨w9, e10, h⟩ := zbind h
    refine zs_iast dX0_addLetter_51 (za_L8 ho0) e10 ?_
    refine zs_aload_n dX0_addLetter_52 rfl ?_
    refine gX0_40 ho0 dX0_addLetter_53 ?_
    refine zs_aload_n dX0_addLetter_56 rfl ?_
    refine gX0_61 ho0 dX0_addLetter_57 ?_
    refine zs_iconst (0 : Int32) dX0_addLetter_60 ziconst_0 ?_
    obtain ⟨w11, e12, h⟩ := zbind h
    refine zs_iast dX0_addLetter_61 (za_L9 ho0) e12 ?_
    refine zs_aload_n dX0_addLetter_62 rfl ?_
    refine zs_dup dX0_addLetter_63 rfl ?_
    refine gX0_61 ho0 dX0_addLetter_64 ?_
    refine zs_dup_x1 dX0_addLetter_67 rfl rfl ?_
    refine zs_iconst (1 : Int32) dX0_addLetter_68 ziconst_1 ?_
    refine zs_iadd dX0_addLetter_69 ?_
    obtain ⟨w13, e14, h⟩ := zbind h
    refine pX0_61 ho0 dX0_addLetter_70 ?_
    refine zs_nmw (Option.some.inj e14) ?_
    obtain ⟨rfl, rfl⟩ := zpi2 h
    exact zs_iret dX0_addLetter_73 ⟨rfl, rfl⟩
  · replace h := zite_f c15 h
    refine zs_iconst (-1 : Int32) dX0_addLetter_7 ziconst_m1 ?_
    obtain ⟨rfl, rfl⟩ := zpi2 h
    exact zs_iret dX0_addLetter_8 ⟨rfl, rfl⟩
def fX0_roadsFull (w : zW) (o0 : Nat) : Option Int32 := (if (w.1 o0 3) < (24 : Int32) then (some (0 : Int32)) else (some (1 : Int32)))
set_option maxRecDepth 100000 in
theorem tX0_roadsFull {w : zW} {o0 : Nat} (ho0 : zIsLand o0) {r : Int32} (h : fX0_roadsFull w o0 = some r) : zRun yX0_roadsFull cX0_roadsFull 1 (some .boolean) 0 [.ref o0] w (zI r w) := by
  refine zRun.of (k := 0) rfl rfl rfl ?_
  show zWP RX0 cX0_roadsFull (zMB 1 (some .boolean) 0 (zI r w)) 0 [some (.ref o0)] [] w
  unfold fX0_roadsFull at h
  refine zs_aload_n dX0_roadsFull_0 rfl ?_
  refine gX0_55 ho0 dX0_roadsFull_1 ?_
  refine zs_bipush (24 : Int32) dX0_roadsFull_4 zbipush_24 ?_
  refine zs_icmp_lt 13 dX0_roadsFull_6 rfl (fun c1 => ?_) (fun c1 => ?_)
  · replace h := zite_t c1 h
    refine zs_iconst (0 : Int32) dX0_roadsFull_13 ziconst_0 ?_
    obtain rfl := Option.some.inj h
    exact zs_bret dX0_roadsFull_14 (Or.inl rfl) ⟨rfl, rfl⟩
  · replace h := zite_f c1 h
    refine zs_iconst (1 : Int32) dX0_roadsFull_9 ziconst_1 ?_
    refine zs_goto 14 dX0_roadsFull_10 rfl ?_
    obtain rfl := Option.some.inj h
    exact zs_bret dX0_roadsFull_14 (Or.inr rfl) ⟨rfl, rfl⟩
def fX0_addRoad (w : zW) (o0 : Nat) (p1 : Int32) (p2 : Int32) (p3 : Int32) : Option (Int32 × zW) := Option.bind (fX0_roadsFull w o0) fun v2 => (if v2 = 0 then (Option.bind (zwr w (o0 + 2) 24 (w.1 o0 3) p1) fun w3 => Option.bind (zwr w3 (o0 + 3) 24 (w3.1 o0 3) p2) fun w5 => Option.bind (zwr w5 (o0 + 4) 24 (w5.1 o0 3) p3) fun w7 => Option.bind (some (zsf w7 o0 3 ((w7.1 o0 3) + (1 : Int32)))) fun w9 => some ((w7.1 o0 3), w9)) else (some ((-1 : Int32), w)))
set_option maxRecDepth 100000 in
theorem tX0_addRoad {w : zW} {o0 : Nat} {p1 : Int32} {p2 : Int32} {p3 : Int32} (ho0 : zIsLand o0) {r : Int32} {w' : zW} (h : fX0_addRoad w o0 p1 p2 p3 = some (r, w')) : zRun yX0_addRoad cX0_addRoad 4 (some .int) 1 [.ref o0, .int p1, .int p2, .int p3] w (zI r w') := by
  refine zRun.of (k := 0) rfl rfl rfl ?_
  show zWP RX0 cX0_addRoad (zMB 4 (some .int) 1 (zI r w')) 0 [some (.ref o0), some (.int p1), some (.int p2), some (.int p3)] [] w
  unfold fX0_addRoad at h
  refine zs_aload_n dX0_addRoad_0 rfl ?_
  obtain ⟨v2, e1, h⟩ := zbind h
  refine zc_V0i moX0_roadsFull mvX0_roadsFull kX0_72 rfl dX0_addRoad_1 (za_L ho0) (Nat.le_of_ble_eq_true rfl) (zrm (by decide)) (tX0_roadsFull ho0 e1) ?_
  refine zs_if_eq 9 dX0_addRoad_4 rfl (fun c11 => ?_) (fun c11 => ?_)
  · replace h := zite_t c11 h
    refine zs_aload_n dX0_addRoad_9 rfl ?_
    refine gX0_15 ho0 dX0_addRoad_10 ?_
    refine zs_aload_n dX0_addRoad_13 rfl ?_
    refine gX0_55 ho0 dX0_addRoad_14 ?_
    refine zs_iload_n dX0_addRoad_17 rfl ?_
    obtain ⟨w3, e4, h⟩ := zbind h
    refine zs_iast dX0_addRoad_18 (za_L2 ho0) e4 ?_
    refine zs_aload_n dX0_addRoad_19 rfl ?_
    refine gX0_18 ho0 dX0_addRoad_20 ?_
    refine zs_aload_n dX0_addRoad_23 rfl ?_
    refine gX0_55 ho0 dX0_addRoad_24 ?_
    refine zs_iload_n dX0_addRoad_27 rfl ?_
    obtain ⟨w5, e6, h⟩ := zbind h
    refine zs_iast dX0_addRoad_28 (za_L3 ho0) e6 ?_
    refine zs_aload_n dX0_addRoad_29 rfl ?_
    refine gX0_21 ho0 dX0_addRoad_30 ?_
    refine zs_aload_n dX0_addRoad_33 rfl ?_
    refine gX0_55 ho0 dX0_addRoad_34 ?_
    refine zs_iload_n dX0_addRoad_37 rfl ?_
    obtain ⟨w7, e8, h⟩ := zbind h
    refine zs_iast dX0_addRoad_38 (za_L4 ho0) e8 ?_
    refine zs_aload_n dX0_addRoad_39 rfl ?_
    refine zs_dup dX0_addRoad_40 rfl ?_
    refine gX0_55 ho0 dX0_addRoad_41 ?_
    refine zs_dup_x1 dX0_addRoad_44 rfl rfl ?_
    refine zs_iconst (1 : Int32) dX0_addRoad_45 ziconst_1 ?_
    refine zs_iadd dX0_addRoad_46 ?_
    obtain ⟨w9, e10, h⟩ := zbind h
    refine pX0_55 ho0 dX0_addRoad_47 ?_
    refine zs_nmw (Option.some.inj e10) ?_
    obtain ⟨rfl, rfl⟩ := zpi2 h
    exact zs_iret dX0_addRoad_50 ⟨rfl, rfl⟩
  · replace h := zite_f c11 h
    refine zs_iconst (-1 : Int32) dX0_addRoad_7 ziconst_m1 ?_
    obtain ⟨rfl, rfl⟩ := zpi2 h
    exact zs_iret dX0_addRoad_8 ⟨rfl, rfl⟩
def fX0_hasVillage (w : zW) (o0 : Nat) (p1 : Int32) : Option Int32 := (if p1 < 0 then (some (0 : Int32)) else ((if (w.1 o0 0) ≤ p1 then (some (0 : Int32)) else (some (1 : Int32)))))
set_option maxRecDepth 100000 in
theorem tX0_hasVillage {w : zW} {o0 : Nat} {p1 : Int32} (ho0 : zIsLand o0) {r : Int32} (h : fX0_hasVillage w o0 p1 = some r) : zRun yX0_hasVillage cX0_hasVillage 2 (some .boolean) 0 [.ref o0, .int p1] w (zI r w) := by
  refine zRun.of (k := 0) rfl rfl rfl ?_
  show zWP RX0 cX0_hasVillage (zMB 2 (some .boolean) 0 (zI r w)) 0 [some (.ref o0), some (.int p1)] [] w
  unfold fX0_hasVillage at h
  refine zs_iload_n dX0_hasVillage_0 rfl ?_
  refine zs_if_lt 16 dX0_hasVillage_1 rfl (fun c2 => ?_) (fun c2 => ?_)
  · replace h := zite_t c2 h
    refine zs_iconst (0 : Int32) dX0_hasVillage_16 ziconst_0 ?_
    obtain rfl := Option.some.inj h
    exact zs_bret dX0_hasVillage_17 (Or.inl rfl) ⟨rfl, rfl⟩
  · replace h := zite_f c2 h
    refine zs_iload_n dX0_hasVillage_4 rfl ?_
    refine zs_aload_n dX0_hasVillage_5 rfl ?_
    refine gX0_43 ho0 dX0_hasVillage_6 ?_
    refine zs_icmp_ge 16 dX0_hasVillage_9 rfl (fun c1 => ?_) (fun c1 => ?_)
    · replace h := zite_t c1 h
      refine zs_iconst (0 : Int32) dX0_hasVillage_16 ziconst_0 ?_
      obtain rfl := Option.some.inj h
      exact zs_bret dX0_hasVillage_17 (Or.inl rfl) ⟨rfl, rfl⟩
    · replace h := zite_f c1 h
      refine zs_iconst (1 : Int32) dX0_hasVillage_12 ziconst_1 ?_
      refine zs_goto 17 dX0_hasVillage_13 rfl ?_
      obtain rfl := Option.some.inj h
      exact zs_bret dX0_hasVillage_17 (Or.inr rfl) ⟨rfl, rfl⟩
def fX0_setHermits (w : zW) (o0 : Nat) (p1 : Int32) (p2 : Int32) : Option zW := Option.bind (fX0_hasVillage w o0 p1) fun v2 => (if v2 = 0 then (some w) else (Option.bind (if p2 = 0 then (some ((w.1 o0 2) &&& (((1 : Int32) <<< (p1 &&& 31)) ^^^ (-1 : Int32)))) else (some ((w.1 o0 2) ||| ((1 : Int32) <<< (p1 &&& 31))))) fun x3 => Option.bind (some (zsf w o0 2 x3)) fun w6 => some w6))
set_option maxRecDepth 100000 in
theorem tX0_setHermits {w : zW} {o0 : Nat} {p1 : Int32} {p2 : Int32} (ho0 : zIsLand o0)  {w' : zW} (h : fX0_setHermits w o0 p1 p2 = some w') : zRun yX0_setHermits cX0_setHermits 3 none 1 [.ref o0, .int p1, .int p2] w (zV w') := by
  refine zRun.of (k := 0) rfl rfl rfl ?_
  show zWP RX0 cX0_setHermits (zMB 3 none 1 (zV w')) 0 [some (.ref o0), some (.int p1), some (.int p2)] [] w
  unfold fX0_setHermits at h
  refine zs_aload_n dX0_setHermits_0 rfl ?_
  refine zs_iload_n dX0_setHermits_1 rfl ?_
  obtain ⟨v2, e1, h⟩ := zbind h
  refine zc_V1i moX0_hasVillage mvX0_hasVillage kX0_78 rfl dX0_setHermits_2 (za_L ho0) (Nat.le_of_ble_eq_true rfl) (zrm (by decide)) (tX0_hasVillage ho0 e1) ?_
  refine zs_if_eq 37 dX0_setHermits_5 rfl (fun c9 => ?_) (fun c9 => ?_)
  · replace h := zite_t c9 h
    obtain rfl := Option.some.inj h
    exact zs_vret dX0_setHermits_37 ⟨rfl, rfl⟩
  · replace h := zite_f c9 h
    refine zs_aload_n dX0_setHermits_8 rfl ?_
    refine zs_iload_n dX0_setHermits_9 rfl ?_
    obtain ⟨x3, m5, h⟩ := zbind h
    have K4 : zWP RX0 cX0_setHermits (zMB 3 none 1 (zV w')) 34 [none, none, none] [.int x3, .ref o0] w := by
      obtain ⟨w6, e7, h⟩ := zbind h
      refine pX0_52 ho0 dX0_setHermits_34 ?_
      refine zs_nmw (Option.some.inj e7) ?_
      obtain rfl := Option.some.inj h
      exact zs_vret dX0_setHermits_37 ⟨rfl, rfl⟩
    refine zs_if_eq 24 dX0_setHermits_10 rfl (fun c8 => ?_) (fun c8 => ?_)
    · replace m5 := zite_t c8 m5
      refine zs_aload_n dX0_setHermits_24 rfl ?_
      refine gX0_52 ho0 dX0_setHermits_25 ?_
      refine zs_iconst (1 : Int32) dX0_setHermits_28 ziconst_1 ?_
      refine zs_iload_n dX0_setHermits_29 rfl ?_
      refine zs_ishl dX0_setHermits_30 ?_
      refine zs_iconst (-1 : Int32) dX0_setHermits_31 ziconst_m1 ?_
      refine zs_ixor dX0_setHermits_32 ?_
      refine zs_iand dX0_setHermits_33 ?_
      refine zs_fo [false, false, false] rfl ?_
      obtain rfl := Option.some.inj m5
      exact K4
    · replace m5 := zite_f c8 m5
      refine zs_aload_n dX0_setHermits_13 rfl ?_
      refine gX0_52 ho0 dX0_setHermits_14 ?_
      refine zs_iconst (1 : Int32) dX0_setHermits_17 ziconst_1 ?_
      refine zs_iload_n dX0_setHermits_18 rfl ?_
      refine zs_ishl dX0_setHermits_19 ?_
      refine zs_ior dX0_setHermits_20 ?_
      refine zs_goto 34 dX0_setHermits_21 rfl ?_
      refine zs_fo [false, false, false] rfl ?_
      obtain rfl := Option.some.inj m5
      exact K4
def fX0_villagesFull (w : zW) (o0 : Nat) : Option Int32 := (if (w.1 o0 0) < (12 : Int32) then (some (0 : Int32)) else (some (1 : Int32)))
set_option maxRecDepth 100000 in
theorem tX0_villagesFull {w : zW} {o0 : Nat} (ho0 : zIsLand o0) {r : Int32} (h : fX0_villagesFull w o0 = some r) : zRun yX0_villagesFull cX0_villagesFull 1 (some .boolean) 0 [.ref o0] w (zI r w) := by
  refine zRun.of (k := 0) rfl rfl rfl ?_
  show zWP RX0 cX0_villagesFull (zMB 1 (some .boolean) 0 (zI r w)) 0 [some (.ref o0)] [] w
  unfold fX0_villagesFull at h
  refine zs_aload_n dX0_villagesFull_0 rfl ?_
  refine gX0_43 ho0 dX0_villagesFull_1 ?_
  refine zs_bipush (12 : Int32) dX0_villagesFull_4 zbipush_12 ?_
  refine zs_icmp_lt 13 dX0_villagesFull_6 rfl (fun c1 => ?_) (fun c1 => ?_)
  · replace h := zite_t c1 h
    refine zs_iconst (0 : Int32) dX0_villagesFull_13 ziconst_0 ?_
    obtain rfl := Option.some.inj h
    exact zs_bret dX0_villagesFull_14 (Or.inl rfl) ⟨rfl, rfl⟩
  · replace h := zite_f c1 h
    refine zs_iconst (1 : Int32) dX0_villagesFull_9 ziconst_1 ?_
    refine zs_goto 14 dX0_villagesFull_10 rfl ?_
    obtain rfl := Option.some.inj h
    exact zs_bret dX0_villagesFull_14 (Or.inr rfl) ⟨rfl, rfl⟩
def fX0_addVillage (w : zW) (o0 : Nat) (p1 : Int32) (p2 : Int32) : Option (Int32 × zW) := Option.bind (fX0_villagesFull w o0) fun v2 => (if v2 = 0 then (Option.bind (some (zsf w o0 0 ((w.1 o0 0) + (1 : Int32)))) fun w3 => Option.bind (some ((w.1 o0 0))) fun x5 => Option.bind (zwr w3 (o0 + 1) 12 x5 p1) fun w7 => Option.bind (fX0_setHermits w7 o0 x5 p2) fun w10 => some (x5, w10)) else (some ((-1 : Int32), w)))
set_option maxRecDepth 100000 in
theorem tX0_addVillage {w : zW} {o0 : Nat} {p1 : Int32} {p2 : Int32} (ho0 : zIsLand o0) {r : Int32} {w' : zW} (h : fX0_addVillage w o0 p1 p2 = some (r, w')) : zRun yX0_addVillage cX0_addVillage 4 (some .int) 2 [.ref o0, .int p1, .int p2] w (zI r w') := by
  refine zRun.of (k := 1) rfl rfl rfl ?_
  show zWP RX0 cX0_addVillage (zMB 4 (some .int) 2 (zI r w')) 0 [some (.ref o0), some (.int p1), some (.int p2), none] [] w
  unfold fX0_addVillage at h
  refine zs_aload_n dX0_addVillage_0 rfl ?_
  obtain ⟨v2, e1, h⟩ := zbind h
  refine zc_V0i moX0_villagesFull mvX0_villagesFull kX0_64 rfl dX0_addVillage_1 (za_L ho0) (Nat.le_of_ble_eq_true rfl) (zrm (by decide)) (tX0_villagesFull ho0 e1) ?_
  refine zs_if_eq 9 dX0_addVillage_4 rfl (fun c11 => ?_) (fun c11 => ?_)
  · replace h := zite_t c11 h
    refine zs_aload_n dX0_addVillage_9 rfl ?_
    refine zs_dup dX0_addVillage_10 rfl ?_
    refine gX0_43 ho0 dX0_addVillage_11 ?_
    refine zs_dup_x1 dX0_addVillage_14 rfl rfl ?_
    refine zs_iconst (1 : Int32) dX0_addVillage_15 ziconst_1 ?_
    refine zs_iadd dX0_addVillage_16 ?_
    obtain ⟨w3, e4, h⟩ := zbind h
    refine pX0_43 ho0 dX0_addVillage_17 ?_
    refine zs_nmw (Option.some.inj e4) ?_
    obtain ⟨x5, e6, h⟩ := zbind h
    refine zs_nmi (Option.some.inj e6) ?_
    refine zs_istore_n [some (.ref o0), some (.int p1), some (.int p2), some (.int x5)] dX0_addVillage_20 (Nat.le_of_ble_eq_true rfl) rfl rfl ?_
    refine zs_aload_n dX0_addVillage_21 rfl ?_
    refine gX0_9 ho0 dX0_addVillage_22 ?_
    refine zs_iload_n dX0_addVillage_25 rfl ?_
    refine zs_iload_n dX0_addVillage_26 rfl ?_
    obtain ⟨w7, e8, h⟩ := zbind h
    refine zs_iast dX0_addVillage_27 (za_L1 ho0) e8 ?_
    refine zs_aload_n dX0_addVillage_28 rfl ?_
    refine zs_iload_n dX0_addVillage_29 rfl ?_
    refine zs_iload_n dX0_addVillage_30 rfl ?_
    obtain ⟨w10, e9, h⟩ := zbind h
    refine zc_V2v moX0_setHermits mvX0_setHermits kX0_68 rfl dX0_addVillage_31 (za_L ho0) (Nat.le_of_ble_eq_true rfl) (zrm (by decide)) (tX0_setHermits ho0 e9) ?_
    refine zs_iload_n dX0_addVillage_34 rfl ?_
    obtain ⟨rfl, rfl⟩ := zpi2 h
    exact zs_iret dX0_addVillage_35 ⟨rfl, rfl⟩
  · replace h := zite_f c11 h
    refine zs_iconst (-1 : Int32) dX0_addVillage_7 ziconst_m1 ?_
    obtain ⟨rfl, rfl⟩ := zpi2 h
    exact zs_iret dX0_addVillage_8 ⟨rfl, rfl⟩
def fX0_allVillages (w : zW) (o0 : Nat) : Option Int32 := some (((1 : Int32) <<< ((w.1 o0 0) &&& 31)) - (1 : Int32))
set_option maxRecDepth 100000 in
theorem tX0_allVillages {w : zW} {o0 : Nat} (ho0 : zIsLand o0) {r : Int32} (h : fX0_allVillages w o0 = some r) : zRun yX0_allVillages cX0_allVillages 1 (some .int) 0 [.ref o0] w (zI r w) := by
  refine zRun.of (k := 0) rfl rfl rfl ?_
  show zWP RX0 cX0_allVillages (zMB 1 (some .int) 0 (zI r w)) 0 [some (.ref o0)] [] w
  unfold fX0_allVillages at h
  refine zs_iconst (1 : Int32) dX0_allVillages_0 ziconst_1 ?_
  refine zs_aload_n dX0_allVillages_1 rfl ?_
  refine gX0_43 ho0 dX0_allVillages_2 ?_
  refine zs_ishl dX0_allVillages_5 ?_
  refine zs_iconst (1 : Int32) dX0_allVillages_6 ziconst_1 ?_
  refine zs_isub dX0_allVillages_7 ?_
  obtain rfl := Option.some.inj h
  exact zs_iret dX0_allVillages_8 ⟨rfl, rfl⟩
def lpX0_areJoined_2 (w : zW) (o0 : Nat) (p1 : Int32) (p2 : Int32) : Nat → Int32 → Option (Int32 ⊕ Unit)
  | 0, _ => none
  | n + 1, x1 => (if (w.1 o0 3) ≤ x1 then (some (.inr ())) else (Option.bind (zrd w (o0 + 2) 24 x1) fun v2 => (if v2 = p1 then (Option.bind (zrd w (o0 + 3) 24 x1) fun v10 => (if v10 = p2 then (some (.inl (1 : Int32))) else (Option.bind (zrd w (o0 + 2) 24 x1) fun v12 => (if v12 = p2 then (Option.bind (zrd w (o0 + 3) 24 x1) fun v14 => (if v14 = p1 then (some (.inl (1 : Int32))) else (lpX0_areJoined_2 w o0 p1 p2 n (x1 + 1)))) else (lpX0_areJoined_2 w o0 p1 p2 n (x1 + 1)))))) else (Option.bind (zrd w (o0 + 2) 24 x1) fun v4 => (if v4 = p2 then (Option.bind (zrd w (o0 + 3) 24 x1) fun v6 => (if v6 = p1 then (some (.inl (1 : Int32))) else (lpX0_areJoined_2 w o0 p1 p2 n (x1 + 1)))) else (lpX0_areJoined_2 w o0 p1 p2 n (x1 + 1)))))))
def fX0_areJoined (w : zW) (o0 : Nat) (p1 : Int32) (p2 : Int32) : Option Int32 := zbs (lpX0_areJoined_2 w o0 p1 p2 zF (0 : Int32)) fun _ => some (0 : Int32)
set_option maxRecDepth 100000 in
theorem tlX0_areJoined_2 {w : zW} {o0 : Nat} {p1 : Int32} {p2 : Int32} (ho0 : zIsLand o0) {Q : Option Value → zW → Prop} : ∀ (n : Nat) (x1 : Int32) (s : (Int32 ⊕ Unit)), lpX0_areJoined_2 w o0 p1 p2 n x1 = some s → (∀ a, s = .inl a → Q (some (.int a)) w) → (∀ (a : Unit), s = .inr a → zWP RX0 cX0_areJoined (zMB 4 (some .boolean) 0 Q) 58 [none, none, none, none] [] w) → zWP RX0 cX0_areJoined (zMB 4 (some .boolean) 0 Q) 2 [some (.ref o0), some (.int p1), some (.int p2), some (.int x1)] [] w := by
  intro n
  induction n with
  | zero => intro x1 s h K1 K; simp [lpX0_areJoined_2] at h
  | succ n ih =>
    intro x1 s h K1 K
    rw [lpX0_areJoined_2] at h
    refine zs_iload_n dX0_areJoined_2 rfl ?_
    refine zs_aload_n dX0_areJoined_3 rfl ?_
    refine gX0_55 ho0 dX0_areJoined_4 ?_
    refine zs_icmp_ge 58 dX0_areJoined_7 rfl (fun c20 => ?_) (fun c20 => ?_)
    · replace h := zite_t c20 h
      refine zs_fo [false, false, false, false] rfl ?_
      obtain rfl := Option.some.inj h
      exact K () rfl
    · replace h := zite_f c20 h
      refine zs_aload_n dX0_areJoined_10 rfl ?_
      refine gX0_15 ho0 dX0_areJoined_11 ?_
      refine zs_iload_n dX0_areJoined_14 rfl ?_
      obtain ⟨v2, e3, h⟩ := zbind h
      refine zs_iald dX0_areJoined_15 (za_L2 ho0) e3 ?_
      refine zs_iload_n dX0_areJoined_16 rfl ?_
      refine zs_icmp_ne 30 dX0_areJoined_17 rfl (fun c19 => ?_) (fun c19 => ?_)
      · replace h := zite_f c19 h
        refine zs_aload_n dX0_areJoined_30 rfl ?_
        refine gX0_15 ho0 dX0_areJoined_31 ?_
        refine zs_iload_n dX0_areJoined_34 rfl ?_
        obtain ⟨v4, e5, h⟩ := zbind h
        refine zs_iald dX0_areJoined_35 (za_L2 ho0) e5 ?_
        refine zs_iload_n dX0_areJoined_36 rfl ?_
        refine zs_icmp_ne 52 dX0_areJoined_37 rfl (fun c9 => ?_) (fun c9 => ?_)
        · replace h := zite_f c9 h
          refine zs_iinc (x1 + 1) [some (.ref o0), some (.int p1), some (.int p2), some (.int (x1 + 1))] dX0_areJoined_52 rfl rfl (Nat.le_of_ble_eq_true rfl) rfl rfl ?_
          refine zs_goto 2 dX0_areJoined_55 rfl ?_
          exact ih _ _ h K1 K
        · replace h := zite_t c9 h
          refine zs_aload_n dX0_areJoined_40 rfl ?_
          refine gX0_18 ho0 dX0_areJoined_41 ?_
          refine zs_iload_n dX0_areJoined_44 rfl ?_
          obtain ⟨v6, e7, h⟩ := zbind h
          refine zs_iald dX0_areJoined_45 (za_L3 ho0) e7 ?_
          refine zs_iload_n dX0_areJoined_46 rfl ?_
          refine zs_icmp_ne 52 dX0_areJoined_47 rfl (fun c8 => ?_) (fun c8 => ?_)
          · replace h := zite_f c8 h
            refine zs_iinc (x1 + 1) [some (.ref o0), some (.int p1), some (.int p2), some (.int (x1 + 1))] dX0_areJoined_52 rfl rfl (Nat.le_of_ble_eq_true rfl) rfl rfl ?_
            refine zs_goto 2 dX0_areJoined_55 rfl ?_
            exact ih _ _ h K1 K
          · replace h := zite_t c8 h
            refine zs_iconst (1 : Int32) dX0_areJoined_50 ziconst_1 ?_
            obtain rfl := Option.some.inj h
            exact zs_bret dX0_areJoined_51 (Or.inr rfl) (K1 (1 : Int32) rfl)
      · replace h := zite_t c19 h
        refine zs_aload_n dX0_areJoined_20 rfl ?_
        refine gX0_18 ho0 dX0_areJoined_21 ?_
        refine zs_iload_n dX0_areJoined_24 rfl ?_
        obtain ⟨v10, e11, h⟩ := zbind h
        refine zs_iald dX0_areJoined_25 (za_L3 ho0) e11 ?_
        refine zs_iload_n dX0_areJoined_26 rfl ?_
        refine zs_icmp_eq 50 dX0_areJoined_27 rfl (fun c18 => ?_) (fun c18 => ?_)
        · replace h := zite_t c18 h
          refine zs_iconst (1 : Int32) dX0_areJoined_50 ziconst_1 ?_
          obtain rfl := Option.some.inj h
          exact zs_bret dX0_areJoined_51 (Or.inr rfl) (K1 (1 : Int32) rfl)
        · replace h := zite_f c18 h
          refine zs_aload_n dX0_areJoined_30 rfl ?_
          refine gX0_15 ho0 dX0_areJoined_31 ?_
          refine zs_iload_n dX0_areJoined_34 rfl ?_
          obtain ⟨v12, e13, h⟩ := zbind h
          refine zs_iald dX0_areJoined_35 (za_L2 ho0) e13 ?_
          refine zs_iload_n dX0_areJoined_36 rfl ?_
          refine zs_icmp_ne 52 dX0_areJoined_37 rfl (fun c17 => ?_) (fun c17 => ?_)
          · replace h := zite_f c17 h
            refine zs_iinc (x1 + 1) [some (.ref o0), some (.int p1), some (.int p2), some (.int (x1 + 1))] dX0_areJoined_52 rfl rfl (Nat.le_of_ble_eq_true rfl) rfl rfl ?_
            refine zs_goto 2 dX0_areJoined_55 rfl ?_
            exact ih _ _ h K1 K
          · replace h := zite_t c17 h
            refine zs_aload_n dX0_areJoined_40 rfl ?_
            refine gX0_18 ho0 dX0_areJoined_41 ?_
            refine zs_iload_n dX0_areJoined_44 rfl ?_
            obtain ⟨v14, e15, h⟩ := zbind h
            refine zs_iald dX0_areJoined_45 (za_L3 ho0) e15 ?_
            refine zs_iload_n dX0_areJoined_46 rfl ?_
            refine zs_icmp_ne 52 dX0_areJoined_47 rfl (fun c16 => ?_) (fun c16 => ?_)
            · replace h := zite_f c16 h
              refine zs_iinc (x1 + 1) [some (.ref o0), some (.int p1), some (.int p2), some (.int (x1 + 1))] dX0_areJoined_52 rfl rfl (Nat.le_of_ble_eq_true rfl) rfl rfl ?_
              refine zs_goto 2 dX0_areJoined_55 rfl ?_
              exact ih _ _ h K1 K
            · replace h := zite_t c16 h
              refine zs_iconst (1 : Int32) dX0_areJoined_50 ziconst_1 ?_
              obtain rfl := Option.some.inj h
              exact zs_bret dX0_areJoined_51 (Or.inr rfl) (K1 (1 : Int32) rfl)
set_option maxRecDepth 100000 in
theorem tX0_areJoined {w : zW} {o0 : Nat} {p1 : Int32} {p2 : Int32} (ho0 : zIsLand o0) {r : Int32} (h : fX0_areJoined w o0 p1 p2 = some r) : zRun yX0_areJoined cX0_areJoined 4 (some .boolean) 0 [.ref o0, .int p1, .int p2] w (zI r w) := by
  refine zRun.of (k := 1) rfl rfl rfl ?_
  show zWP RX0 cX0_areJoined (zMB 4 (some .boolean) 0 (zI r w)) 0 [some (.ref o0), some (.int p1), some (.int p2), none] [] w
  unfold fX0_areJoined at h
  refine zs_iconst (0 : Int32) dX0_areJoined_0 ziconst_0 ?_
  refine zs_istore_n [some (.ref o0), some (.int p1), some (.int p2), some (.int (0 : Int32))] dX0_areJoined_1 (Nat.le_of_ble_eq_true rfl) rfl rfl ?_
  rcases zbs_inv h with e21 | ⟨_, e21, h⟩
  · skip
    exact tlX0_areJoined_2 ho0 zF _ _ e21 (fun _ q => by cases q; exact ⟨rfl, rfl⟩) (fun _ q => by cases q)
  · have K22 : zWP RX0 cX0_areJoined (zMB 4 (some .boolean) 0 (zI r w)) 58 [none, none, none, none] [] w := by
      refine zs_iconst (0 : Int32) dX0_areJoined_58 ziconst_0 ?_
      obtain rfl := Option.some.inj h
      exact zs_bret dX0_areJoined_59 (Or.inl rfl) ⟨rfl, rfl⟩
    exact tlX0_areJoined_2 ho0 zF _ _ e21 (fun _ q => by cases q) (fun _ q => by cases q; exact K22)
def lpX0_highest_4 (w : zW) (o0 : Nat) : Nat → Int32 → Int32 → Option Int32
  | 0, _, _ => none
  | n + 1, x1, x2 => (if (w.1 o0 0) ≤ x2 then (some x1) else (Option.bind (zrd w (o0 + 1) 12 x2) fun v4 => Option.bind (zrd w (o0 + 1) 12 x1) fun v6 => Option.bind (if v4 ≤ v6 then (some x1) else (some x2)) fun x8 => lpX0_highest_4 w o0 n x8 (x2 + 1)))
def fX0_highest (w : zW) (o0 : Nat) : Option Int32 := Option.bind (lpX0_highest_4 w o0 zF (0 : Int32) (1 : Int32)) fun y15 => some y15
set_option maxRecDepth 100000 in
theorem tlX0_highest_4 {w : zW} {o0 : Nat} (ho0 : zIsLand o0) {Q : Option Value → zW → Prop} : ∀ (n : Nat) (x1 : Int32) (x2 : Int32) (y3 : Int32), lpX0_highest_4 w o0 n x1 x2 = some y3 → zWP RX0 cX0_highest (zMB 3 (some .int) 0 Q) 35 [none, some (.int y3), none] [] w → zWP RX0 cX0_highest (zMB 3 (some .int) 0 Q) 4 [some (.ref o0), some (.int x1), some (.int x2)] [] w := by
  intro n
  induction n with
  | zero => intro x1 x2 y3 h K; simp [lpX0_highest_4] at h
  | succ n ih =>
    intro x1 x2 y3 h K
    rw [lpX0_highest_4] at h
    refine zs_iload_n dX0_highest_4 rfl ?_
    refine zs_aload_n dX0_highest_5 rfl ?_
    refine gX0_43 ho0 dX0_highest_6 ?_
    refine zs_icmp_ge 35 dX0_highest_9 rfl (fun c12 => ?_) (fun c12 => ?_)
    · replace h := zite_t c12 h
      refine zs_fo [false, true, false] rfl ?_
      obtain rfl := Option.some.inj h
      exact K
    · replace h := zite_f c12 h
      refine zs_aload_n dX0_highest_12 rfl ?_
      refine gX0_9 ho0 dX0_highest_13 ?_
      refine zs_iload_n dX0_highest_16 rfl ?_
      obtain ⟨v4, e5, h⟩ := zbind h
      refine zs_iald dX0_highest_17 (za_L1 ho0) e5 ?_
      refine zs_aload_n dX0_highest_18 rfl ?_
      refine gX0_9 ho0 dX0_highest_19 ?_
      refine zs_iload_n dX0_highest_22 rfl ?_
      obtain ⟨v6, e7, h⟩ := zbind h
      refine zs_iald dX0_highest_23 (za_L1 ho0) e7 ?_
      obtain ⟨x8, m10, h⟩ := zbind h
      have K9 : zWP RX0 cX0_highest (zMB 3 (some .int) 0 Q) 29 [some (.ref o0), some (.int x8), some (.int x2)] [] w := by
        refine zs_iinc (x2 + 1) [some (.ref o0), some (.int x8), some (.int (x2 + 1))] dX0_highest_29 rfl rfl (Nat.le_of_ble_eq_true rfl) rfl rfl ?_
        refine zs_goto 4 dX0_highest_32 rfl ?_
        exact ih _ _ _ h K
      refine zs_icmp_le 29 dX0_highest_24 rfl (fun c11 => ?_) (fun c11 => ?_)
      · replace m10 := zite_t c11 m10
        obtain rfl := Option.some.inj m10
        exact K9
      · replace m10 := zite_f c11 m10
        refine zs_iload_n dX0_highest_27 rfl ?_
        refine zs_istore_n [some (.ref o0), some (.int x2), some (.int x2)] dX0_highest_28 (Nat.le_of_ble_eq_true rfl) rfl rfl ?_
        obtain rfl := Option.some.inj m10
        exact K9
set_option maxRecDepth 100000 in
theorem tX0_highest {w : zW} {o0 : Nat} (ho0 : zIsLand o0) {r : Int32} (h : fX0_highest w o0 = some r) : zRun yX0_highest cX0_highest 3 (some .int) 0 [.ref o0] w (zI r w) := by
  refine zRun.of (k := 2) rfl rfl rfl ?_
  show zWP RX0 cX0_highest (zMB 3 (some .int) 0 (zI r w)) 0 [some (.ref o0), none, none] [] w
  unfold fX0_highest at h
  refine zs_iconst (0 : Int32) dX0_highest_0 ziconst_0 ?_
  refine zs_istore_n [some (.ref o0), some (.int (0 : Int32)), none] dX0_highest_1 (Nat.le_of_ble_eq_true rfl) rfl rfl ?_
  refine zs_iconst (1 : Int32) dX0_highest_2 ziconst_1 ?_
  refine zs_istore_n [some (.ref o0), some (.int (0 : Int32)), some (.int (1 : Int32))] dX0_highest_3 (Nat.le_of_ble_eq_true rfl) rfl rfl ?_
  obtain ⟨y15, e13, h⟩ := zbind h
  have K14 : zWP RX0 cX0_highest (zMB 3 (some .int) 0 (zI r w)) 35 [none, some (.int y15), none] [] w := by
    refine zs_iload_n dX0_highest_35 rfl ?_
    obtain rfl := Option.some.inj h
    exact zs_iret dX0_highest_36 ⟨rfl, rfl⟩
  exact tlX0_highest_4 ho0 zF _ _ _ e13 K14
def fX0_isHermits (w : zW) (o0 : Nat) (p1 : Int32) : Option Int32 := (if (((w.1 o0 2) >>> (p1 &&& 31)) &&& (1 : Int32)) = (1 : Int32) then (some (1 : Int32)) else (some (0 : Int32)))
set_option maxRecDepth 100000 in
theorem tX0_isHermits {w : zW} {o0 : Nat} {p1 : Int32} (ho0 : zIsLand o0) {r : Int32} (h : fX0_isHermits w o0 p1 = some r) : zRun yX0_isHermits cX0_isHermits 2 (some .boolean) 0 [.ref o0, .int p1] w (zI r w) := by
  refine zRun.of (k := 0) rfl rfl rfl ?_
  show zWP RX0 cX0_isHermits (zMB 2 (some .boolean) 0 (zI r w)) 0 [some (.ref o0), some (.int p1)] [] w
  unfold fX0_isHermits at h
  refine zs_aload_n dX0_isHermits_0 rfl ?_
  refine gX0_52 ho0 dX0_isHermits_1 ?_
  refine zs_iload_n dX0_isHermits_4 rfl ?_
  refine zs_ishr dX0_isHermits_5 ?_
  refine zs_iconst (1 : Int32) dX0_isHermits_6 ziconst_1 ?_
  refine zs_iand dX0_isHermits_7 ?_
  refine zs_iconst (1 : Int32) dX0_isHermits_8 ziconst_1 ?_
  refine zs_icmp_ne 16 dX0_isHermits_9 rfl (fun c1 => ?_) (fun c1 => ?_)
  · replace h := zite_f c1 h
    refine zs_iconst (0 : Int32) dX0_isHermits_16 ziconst_0 ?_
    obtain rfl := Option.some.inj h
    exact zs_bret dX0_isHermits_17 (Or.inl rfl) ⟨rfl, rfl⟩
  · replace h := zite_t c1 h
    refine zs_iconst (1 : Int32) dX0_isHermits_12 ziconst_1 ?_
    refine zs_goto 17 dX0_isHermits_13 rfl ?_
    obtain rfl := Option.some.inj h
    exact zs_bret dX0_isHermits_17 (Or.inr rfl) ⟨rfl, rfl⟩
def fX0_takes (w : zW) (o0 : Nat) (p1 : Int32) (p2 : Int32) : Option Int32 := (if p1 = (4 : Int32) then (Option.bind (fX0_isHermits w o0 p2) fun v2 => (if v2 = 0 then (some (1 : Int32)) else (some (0 : Int32)))) else (some (1 : Int32)))
set_option maxRecDepth 100000 in
theorem tX0_takes {w : zW} {o0 : Nat} {p1 : Int32} {p2 : Int32} (ho0 : zIsLand o0) {r : Int32} (h : fX0_takes w o0 p1 p2 = some r) : zRun yX0_takes cX0_takes 3 (some .boolean) 1 [.ref o0, .int p1, .int p2] w (zI r w) := by
  refine zRun.of (k := 0) rfl rfl rfl ?_
  show zWP RX0 cX0_takes (zMB 3 (some .boolean) 1 (zI r w)) 0 [some (.ref o0), some (.int p1), some (.int p2)] [] w
  unfold fX0_takes at h
  refine zs_iload_n dX0_takes_0 rfl ?_
  refine zs_iconst (4 : Int32) dX0_takes_1 ziconst_4 ?_
  refine zs_icmp_ne 13 dX0_takes_2 rfl (fun c4 => ?_) (fun c4 => ?_)
  · replace h := zite_f c4 h
    refine zs_iconst (1 : Int32) dX0_takes_13 ziconst_1 ?_
    refine zs_goto 18 dX0_takes_14 rfl ?_
    obtain rfl := Option.some.inj h
    exact zs_bret dX0_takes_18 (Or.inr rfl) ⟨rfl, rfl⟩
  · replace h := zite_t c4 h
    refine zs_aload_n dX0_takes_5 rfl ?_
    refine zs_iload_n dX0_takes_6 rfl ?_
    obtain ⟨v2, e1, h⟩ := zbind h
    refine zc_V1i moX0_isHermits mvX0_isHermits kX0_82 rfl dX0_takes_7 (za_L ho0) (Nat.le_of_ble_eq_true rfl) (zrm (by decide)) (tX0_isHermits ho0 e1) ?_
    refine zs_if_ne 17 dX0_takes_10 rfl (fun c3 => ?_) (fun c3 => ?_)
    · replace h := zite_f c3 h
      refine zs_iconst (0 : Int32) dX0_takes_17 ziconst_0 ?_
      obtain rfl := Option.some.inj h
      exact zs_bret dX0_takes_18 (Or.inl rfl) ⟨rfl, rfl⟩
    · replace h := zite_t c3 h
      refine zs_iconst (1 : Int32) dX0_takes_13 ziconst_1 ?_
      refine zs_goto 18 dX0_takes_14 rfl ?_
      obtain rfl := Option.some.inj h
      exact zs_bret dX0_takes_18 (Or.inr rfl) ⟨rfl, rfl⟩
def fX0_balloonTakes (w : zW) (o0 : Nat) (p1 : Int32) : Option Int32 := (if p1 = (5 : Int32) then (some (0 : Int32)) else (Option.bind (fX0_highest w o0) fun v2 => Option.bind (fX0_takes w o0 p1 v2) fun v4 => (if v4 = 0 then (some (0 : Int32)) else (some (1 : Int32)))))
set_option maxRecDepth 100000 in
theorem tX0_balloonTakes {w : zW} {o0 : Nat} {p1 : Int32} (ho0 : zIsLand o0) {r : Int32} (h : fX0_balloonTakes w o0 p1 = some r) : zRun yX0_balloonTakes cX0_balloonTakes 2 (some .boolean) 2 [.ref o0, .int p1] w (zI r w) := by
  refine zRun.of (k := 0) rfl rfl rfl ?_
  show zWP RX0 cX0_balloonTakes (zMB 2 (some .boolean) 2 (zI r w)) 0 [some (.ref o0), some (.int p1)] [] w
  unfold fX0_balloonTakes at h
  refine zs_iload_n dX0_balloonTakes_0 rfl ?_
  refine zs_iconst (5 : Int32) dX0_balloonTakes_1 ziconst_5 ?_
  refine zs_icmp_eq 21 dX0_balloonTakes_2 rfl (fun c6 => ?_) (fun c6 => ?_)
  · replace h := zite_t c6 h
    refine zs_iconst (0 : Int32) dX0_balloonTakes_21 ziconst_0 ?_
    obtain rfl := Option.some.inj h
    exact zs_bret dX0_balloonTakes_22 (Or.inl rfl) ⟨rfl, rfl⟩
  · replace h := zite_f c6 h
    refine zs_aload_n dX0_balloonTakes_5 rfl ?_
    refine zs_iload_n dX0_balloonTakes_6 rfl ?_
    refine zs_aload_n dX0_balloonTakes_7 rfl ?_
    obtain ⟨v2, e1, h⟩ := zbind h
    refine zc_V0i moX0_highest mvX0_highest kX0_105 rfl dX0_balloonTakes_8 (za_L ho0) (Nat.le_of_ble_eq_true rfl) (zrm (by decide)) (tX0_highest ho0 e1) ?_
    obtain ⟨v4, e3, h⟩ := zbind h
    refine zc_V2i moX0_takes mvX0_takes kX0_85 rfl dX0_balloonTakes_11 (za_L ho0) (Nat.le_of_ble_eq_true rfl) (zrm (by decide)) (tX0_takes ho0 e3) ?_
    refine zs_if_eq 21 dX0_balloonTakes_14 rfl (fun c5 => ?_) (fun c5 => ?_)
    · replace h := zite_t c5 h
      refine zs_iconst (0 : Int32) dX0_balloonTakes_21 ziconst_0 ?_
      obtain rfl := Option.some.inj h
      exact zs_bret dX0_balloonTakes_22 (Or.inl rfl) ⟨rfl, rfl⟩
    · replace h := zite_f c5 h
      refine zs_iconst (1 : Int32) dX0_balloonTakes_17 ziconst_1 ?_
      refine zs_goto 22 dX0_balloonTakes_18 rfl ?_
      obtain rfl := Option.some.inj h
      exact zs_bret dX0_balloonTakes_22 (Or.inr rfl) ⟨rfl, rfl⟩
def fX0_become (w : zW) (o0 : Nat) (o1 : Nat) : Option zW := Option.bind (some (zsf w o0 0 (w.1 o1 0))) fun w1 => Option.bind (zcpi w1 (o1 + 1) 12 (0 : Int32) (o0 + 1) 12 (0 : Int32) (12 : Int32)) fun w3 => Option.bind (some (zsf w3 o0 2 (w3.1 o1 2))) fun w5 => Option.bind (some (zsf w5 o0 3 (w5.1 o1 3))) fun w7 => Option.bind (zcpi w7 (o1 + 2) 24 (0 : Int32) (o0 + 2) 24 (0 : Int32) (24 : Int32)) fun w9 => Option.bind (zcpi w9 (o1 + 3) 24 (0 : Int32) (o0 + 3) 24 (0 : Int32) (24 : Int32)) fun w11 => Option.bind (zcpi w11 (o1 + 4) 24 (0 : Int32) (o0 + 4) 24 (0 : Int32) (24 : Int32)) fun w13 => Option.bind (some (zsf w13 o0 7 (w13.1 o1 7))) fun w15 => Option.bind (some (zsf w15 o0 8 (w15.1 o1 8))) fun w17 => Option.bind (some (zsf w17 o0 9 (w17.1 o1 9))) fun w19 => Option.bind (zcpi w19 (o1 + 5) 10 (0 : Int32) (o0 + 5) 10 (0 : Int32) (10 : Int32)) fun w21 => Option.bind (zcpi w21 (o1 + 6) 10 (0 : Int32) (o0 + 6) 10 (0 : Int32) (10 : Int32)) fun w23 => Option.bind (zcpi w23 (o1 + 7) 10 (0 : Int32) (o0 + 7) 10 (0 : Int32) (10 : Int32)) fun w25 => Option.bind (zcpi w25 (o1 + 8) 10 (0 : Int32) (o0 + 8) 10 (0 : Int32) (10 : Int32)) fun w27 => Option.bind (zcpi w27 (o1 + 9) 10 (0 : Int32) (o0 + 9) 10 (0 : Int32) (10 : Int32)) fun w29 => some w29
set_option maxRecDepth 100000 in
theorem tX0_become {w : zW} {o0 : Nat} {o1 : Nat} (ho0 : zIsLand o0) (ho1 : zIsLand o1)  {w' : zW} (h : fX0_become w o0 o1 = some w') : zRun yX0_become cX0_become 2 none 1 [.ref o0, .ref o1] w (zV w') := by
  refine zRun.of (k := 0) rfl rfl rfl ?_
  show zWP RX0 cX0_become (zMB 2 none 1 (zV w')) 0 [some (.ref o0), some (.ref o1)] [] w
  unfold fX0_become at h
  refine zs_aload_n dX0_become_0 rfl ?_
  refine zs_aload_n dX0_become_1 rfl ?_
  refine gX0_43 ho1 dX0_become_2 ?_
  obtain ⟨w1, e2, h⟩ := zbind h
  refine pX0_43 ho0 dX0_become_5 ?_
  refine zs_nmw (Option.some.inj e2) ?_
  refine zs_aload_n dX0_become_8 rfl ?_
  refine gX0_9 ho1 dX0_become_9 ?_
  refine zs_iconst (0 : Int32) dX0_become_12 ziconst_0 ?_
  refine zs_aload_n dX0_become_13 rfl ?_
  refine gX0_9 ho0 dX0_become_14 ?_
  refine zs_iconst (0 : Int32) dX0_become_17 ziconst_0 ?_
  refine zs_bipush (12 : Int32) dX0_become_18 zbipush_12 ?_
  obtain ⟨w3, e4, h⟩ := zbind h
  refine zs_cpi kX0_46 znat_cp zst_cp zin_sys (zrm2 (by decide)) (Nat.le_of_ble_eq_true rfl) dX0_become_20 (za_L1 ho1) (za_L1 ho0) e4 ?_
  refine zs_aload_n dX0_become_23 rfl ?_
  refine zs_aload_n dX0_become_24 rfl ?_
  refine gX0_52 ho1 dX0_become_25 ?_
  obtain ⟨w5, e6, h⟩ := zbind h
  refine pX0_52 ho0 dX0_become_28 ?_
  refine zs_nmw (Option.some.inj e6) ?_
  refine zs_aload_n dX0_become_31 rfl ?_
  refine zs_aload_n dX0_become_32 rfl ?_
  refine gX0_55 ho1 dX0_become_33 ?_
  obtain ⟨w7, e8, h⟩ := zbind h
  refine pX0_55 ho0 dX0_become_36 ?_
  refine zs_nmw (Option.some.inj e8) ?_
  refine zs_aload_n dX0_become_39 rfl ?_
  refine gX0_15 ho1 dX0_become_40 ?_
  refine zs_iconst (0 : Int32) dX0_become_43 ziconst_0 ?_
  refine zs_aload_n dX0_become_44 rfl ?_
  refine gX0_15 ho0 dX0_become_45 ?_
  refine zs_iconst (0 : Int32) dX0_become_48 ziconst_0 ?_
  refine zs_bipush (24 : Int32) dX0_become_49 zbipush_24 ?_
  obtain ⟨w9, e10, h⟩ := zbind h
  refine zs_cpi kX0_46 znat_cp zst_cp zin_sys (zrm2 (by decide)) (Nat.le_of_ble_eq_true rfl) dX0_become_51 (za_L2 ho1) (za_L2 ho0) e10 ?_
  refine zs_aload_n dX0_become_54 rfl ?_
  refine gX0_18 ho1 dX0_become_55 ?_
  refine zs_iconst (0 : Int32) dX0_become_58 ziconst_0 ?_
  refine zs_aload_n dX0_become_59 rfl ?_
  refine gX0_18 ho0 dX0_become_60 ?_
  refine zs_iconst (0 : Int32) dX0_become_63 ziconst_0 ?_
  refine zs_bipush (24 : Int32) dX0_become_64 zbipush_24 ?_
  obtain ⟨w11, e12, h⟩ := zbind h
  refine zs_cpi kX0_46 znat_cp zst_cp zin_sys (zrm2 (by decide)) (Nat.le_of_ble_eq_true rfl) dX0_become_66 (za_L3 ho1) (za_L3 ho0) e12 ?_
  refine zs_aload_n dX0_become_69 rfl ?_
  refine gX0_21 ho1 dX0_become_70 ?_
  refine zs_iconst (0 : Int32) dX0_become_73 ziconst_0 ?_
  refine zs_aload_n dX0_become_74 rfl ?_
  refine gX0_21 ho0 dX0_become_75 ?_
  refine zs_iconst (0 : Int32) dX0_become_78 ziconst_0 ?_
  refine zs_bipush (24 : Int32) dX0_become_79 zbipush_24 ?_
  obtain ⟨w13, e14, h⟩ := zbind h
  refine zs_cpi kX0_46 znat_cp zst_cp zin_sys (zrm2 (by decide)) (Nat.le_of_ble_eq_true rfl) dX0_become_81 (za_L4 ho1) (za_L4 ho0) e14 ?_
  refine zs_aload_n dX0_become_84 rfl ?_
  refine zs_aload_n dX0_become_85 rfl ?_
  refine gX0_24 ho1 dX0_become_86 ?_
  obtain ⟨w15, e16, h⟩ := zbind h
  refine pX0_24 ho0 dX0_become_89 ?_
  refine zs_nmw (Option.some.inj e16) ?_
  refine zs_aload_n dX0_become_92 rfl ?_
  refine zs_aload_n dX0_become_93 rfl ?_
  refine gX0_58 ho1 dX0_become_94 ?_
  obtain ⟨w17, e18, h⟩ := zbind h
  refine pX0_58 ho0 dX0_become_97 ?_
  refine zs_nmw (Option.some.inj e18) ?_
  refine zs_aload_n dX0_become_100 rfl ?_
  refine zs_aload_n dX0_become_101 rfl ?_
  refine gX0_61 ho1 dX0_become_102 ?_
  obtain ⟨w19, e20, h⟩ := zbind h
  refine pX0_61 ho0 dX0_become_105 ?_
  refine zs_nmw (Option.some.inj e20) ?_
  refine zs_aload_n dX0_become_108 rfl ?_
  refine gX0_28 ho1 dX0_become_109 ?_
  refine zs_iconst (0 : Int32) dX0_become_112 ziconst_0 ?_
  refine zs_aload_n dX0_become_113 rfl ?_
  refine gX0_28 ho0 dX0_become_114 ?_
  refine zs_iconst (0 : Int32) dX0_become_117 ziconst_0 ?_
  refine zs_bipush (10 : Int32) dX0_become_118 zbipush_10 ?_
  obtain ⟨w21, e22, h⟩ := zbind h
  refine zs_cpi kX0_46 znat_cp zst_cp zin_sys (zrm2 (by decide)) (Nat.le_of_ble_eq_true rfl) dX0_become_120 (za_L5 ho1) (za_L5 ho0) e22 ?_
  refine zs_aload_n dX0_become_123 rfl ?_
  refine gX0_31 ho1 dX0_become_124 ?_
  refine zs_iconst (0 : Int32) dX0_become_127 ziconst_0 ?_
  refine zs_aload_n dX0_become_128 rfl ?_
  refine gX0_31 ho0 dX0_become_129 ?_
  refine zs_iconst (0 : Int32) dX0_become_132 ziconst_0 ?_
  refine zs_bipush (10 : Int32) dX0_become_133 zbipush_10 ?_
  obtain ⟨w23, e24, h⟩ := zbind h
  refine zs_cpi kX0_46 znat_cp zst_cp zin_sys (zrm2 (by decide)) (Nat.le_of_ble_eq_true rfl) dX0_become_135 (za_L6 ho1) (za_L6 ho0) e24 ?_
  refine zs_aload_n dX0_become_138 rfl ?_
  refine gX0_34 ho1 dX0_become_139 ?_
  refine zs_iconst (0 : Int32) dX0_become_142 ziconst_0 ?_
  refine zs_aload_n dX0_become_143 rfl ?_
  refine gX0_34 ho0 dX0_become_144 ?_
  refine zs_iconst (0 : Int32) dX0_become_147 ziconst_0 ?_
  refine zs_bipush (10 : Int32) dX0_become_148 zbipush_10 ?_
  obtain ⟨w25, e26, h⟩ := zbind h
  refine zs_cpi kX0_46 znat_cp zst_cp zin_sys (zrm2 (by decide)) (Nat.le_of_ble_eq_true rfl) dX0_become_150 (za_L7 ho1) (za_L7 ho0) e26 ?_
  refine zs_aload_n dX0_become_153 rfl ?_
  refine gX0_37 ho1 dX0_become_154 ?_
  refine zs_iconst (0 : Int32) dX0_become_157 ziconst_0 ?_
  refine zs_aload_n dX0_become_158 rfl ?_
  refine gX0_37 ho0 dX0_become_159 ?_
  refine zs_iconst (0 : Int32) dX0_become_162 ziconst_0 ?_
  refine zs_bipush (10 : Int32) dX0_become_163 zbipush_10 ?_
  obtain ⟨w27, e28, h⟩ := zbind h
  refine zs_cpi kX0_46 znat_cp zst_cp zin_sys (zrm2 (by decide)) (Nat.le_of_ble_eq_true rfl) dX0_become_165 (za_L8 ho1) (za_L8 ho0) e28 ?_
  refine zs_aload_n dX0_become_168 rfl ?_
  refine gX0_40 ho1 dX0_become_169 ?_
  refine zs_iconst (0 : Int32) dX0_become_172 ziconst_0 ?_
  refine zs_aload_n dX0_become_173 rfl ?_
  refine gX0_40 ho0 dX0_become_174 ?_
  refine zs_iconst (0 : Int32) dX0_become_177 ziconst_0 ?_
  refine zs_bipush (10 : Int32) dX0_become_178 zbipush_10 ?_
  obtain ⟨w29, e30, h⟩ := zbind h
  refine zs_cpi kX0_46 znat_cp zst_cp zin_sys (zrm2 (by decide)) (Nat.le_of_ble_eq_true rfl) dX0_become_180 (za_L9 ho1) (za_L9 ho0) e30 ?_
  obtain rfl := Option.some.inj h
  exact zs_vret dX0_become_183 ⟨rfl, rfl⟩
def fX0_heightOf (w : zW) (o0 : Nat) (p1 : Int32) : Option Int32 := Option.bind (fX0_hasVillage w o0 p1) fun v2 => (if v2 = 0 then (some (0 : Int32)) else (Option.bind (zrd w (o0 + 1) 12 p1) fun v3 => some v3))
set_option maxRecDepth 100000 in
theorem tX0_heightOf {w : zW} {o0 : Nat} {p1 : Int32} (ho0 : zIsLand o0) {r : Int32} (h : fX0_heightOf w o0 p1 = some r) : zRun yX0_heightOf cX0_heightOf 2 (some .int) 1 [.ref o0, .int p1] w (zI r w) := by
  refine zRun.of (k := 0) rfl rfl rfl ?_
  show zWP RX0 cX0_heightOf (zMB 2 (some .int) 1 (zI r w)) 0 [some (.ref o0), some (.int p1)] [] w
  unfold fX0_heightOf at h
  refine zs_aload_n dX0_heightOf_0 rfl ?_
  refine zs_iload_n dX0_heightOf_1 rfl ?_
  obtain ⟨v2, e1, h⟩ := zbind h
  refine zc_V1i moX0_hasVillage mvX0_hasVillage kX0_78 rfl dX0_heightOf_2 (za_L ho0) (Nat.le_of_ble_eq_true rfl) (zrm (by decide)) (tX0_hasVillage ho0 e1) ?_
  refine zs_if_eq 17 dX0_heightOf_5 rfl (fun c5 => ?_) (fun c5 => ?_)
  · replace h := zite_t c5 h
    refine zs_iconst (0 : Int32) dX0_heightOf_17 ziconst_0 ?_
    obtain rfl := Option.some.inj h
    exact zs_iret dX0_heightOf_18 ⟨rfl, rfl⟩
  · replace h := zite_f c5 h
    refine zs_aload_n dX0_heightOf_8 rfl ?_
    refine gX0_9 ho0 dX0_heightOf_9 ?_
    refine zs_iload_n dX0_heightOf_12 rfl ?_
    obtain ⟨v3, e4, h⟩ := zbind h
    refine zs_iald dX0_heightOf_13 (za_L1 ho0) e4 ?_
    refine zs_goto 18 dX0_heightOf_14 rfl ?_
    obtain rfl := Option.some.inj h
    exact zs_iret dX0_heightOf_18 ⟨rfl, rfl⟩
def lpX2_isUnder_4 (w : zW) (p1 : Int32) : Nat → Int32 → Int32 → Option (Int32 ⊕ Unit)
  | 0, _, _ => none
  | n + 1, x1, x2 => (if (6 : Int32) ≤ x2 then (some (.inr ())) else ((if x1 < 0 then (some (.inr ())) else ((if (6 : Int32) ≤ x1 then (some (.inr ())) else ((if x1 = p1 then (some (.inl (1 : Int32))) else (Option.bind (zrdA x1) fun v3 => lpX2_isUnder_4 w p1 n v3 (x2 + 1)))))))))
def fX2_isUnder (w : zW) (p0 : Int32) (p1 : Int32) : Option Int32 := zbs (lpX2_isUnder_4 w p1 zF p0 (0 : Int32)) fun _ => some (0 : Int32)
set_option maxRecDepth 100000 in
theorem tlX2_isUnder_4 {w : zW} {p1 : Int32}  {Q : Option Value → zW → Prop} : ∀ (n : Nat) (x1 : Int32) (x2 : Int32) (s : (Int32 ⊕ Unit)), lpX2_isUnder_4 w p1 n x1 x2 = some s → (∀ a, s = .inl a → Q (some (.int a)) w) → (∀ (a : Unit), s = .inr a → zWP RX2 cX2_isUnder (zMB 4 (some .boolean) 0 Q) 41 [none, none, none, none] [] w) → zWP RX2 cX2_isUnder (zMB 4 (some .boolean) 0 Q) 4 [none, some (.int p1), some (.int x1), some (.int x2)] [] w := by
  intro n
  induction n with
  | zero => intro x1 x2 s h K1 K; simp [lpX2_isUnder_4] at h
  | succ n ih =>
    intro x1 x2 s h K1 K
    rw [lpX2_isUnder_4] at h
    refine zs_iload_n dX2_isUnder_4 rfl ?_
    refine zs_bipush (6 : Int32) dX2_isUnder_5 zbipush_6 ?_
    refine zs_icmp_ge 41 dX2_isUnder_7 rfl (fun c8 => ?_) (fun c8 => ?_)
    · replace h := zite_t c8 h
      refine zs_fo [false, false, false, false] rfl ?_
      obtain rfl := Option.some.inj h
      exact K () rfl
    · replace h := zite_f c8 h
      refine zs_iload_n dX2_isUnder_10 rfl ?_
      refine zs_if_lt 41 dX2_isUnder_11 rfl (fun c7 => ?_) (fun c7 => ?_)
      · replace h := zite_t c7 h
        refine zs_fo [false, false, false, false] rfl ?_
        obtain rfl := Option.some.inj h
        exact K () rfl
      · replace h := zite_f c7 h
        refine zs_iload_n dX2_isUnder_14 rfl ?_
        refine zs_above kX2_9 dX2_isUnder_15 ?_
        refine zs_aboveLen dX2_isUnder_18 ?_
        refine zs_icmp_ge 41 dX2_isUnder_19 rfl (fun c6 => ?_) (fun c6 => ?_)
        · replace h := zite_t c6 h
          refine zs_fo [false, false, false, false] rfl ?_
          obtain rfl := Option.some.inj h
          exact K () rfl
        · replace h := zite_f c6 h
          refine zs_iload_n dX2_isUnder_22 rfl ?_
          refine zs_iload_n dX2_isUnder_23 rfl ?_
          refine zs_icmp_ne 29 dX2_isUnder_24 rfl (fun c5 => ?_) (fun c5 => ?_)
          · replace h := zite_f c5 h
            refine zs_above kX2_9 dX2_isUnder_29 ?_
            refine zs_iload_n dX2_isUnder_32 rfl ?_
            obtain ⟨v3, e4, h⟩ := zbind h
            refine zs_aboveLd dX2_isUnder_33 e4 ?_
            refine zs_istore_n [none, some (.int p1), some (.int v3), some (.int x2)] dX2_isUnder_34 (Nat.le_of_ble_eq_true rfl) rfl rfl ?_
            refine zs_iinc (x2 + 1) [none, some (.int p1), some (.int v3), some (.int (x2 + 1))] dX2_isUnder_35 rfl rfl (Nat.le_of_ble_eq_true rfl) rfl rfl ?_
            refine zs_goto 4 dX2_isUnder_38 rfl ?_
            exact ih _ _ _ h K1 K
          · replace h := zite_t c5 h
            refine zs_iconst (1 : Int32) dX2_isUnder_27 ziconst_1 ?_
            obtain rfl := Option.some.inj h
            exact zs_bret dX2_isUnder_28 (Or.inr rfl) (K1 (1 : Int32) rfl)
set_option maxRecDepth 100000 in
theorem tX2_isUnder {w : zW} {p0 : Int32} {p1 : Int32}  {r : Int32} (h : fX2_isUnder w p0 p1 = some r) : zRun yX2_isUnder cX2_isUnder 4 (some .boolean) 0 [.int p0, .int p1] w (zI r w) := by
  refine zRun.of (k := 2) rfl rfl rfl ?_
  show zWP RX2 cX2_isUnder (zMB 4 (some .boolean) 0 (zI r w)) 0 [some (.int p0), some (.int p1), none, none] [] w
  unfold fX2_isUnder at h
  refine zs_iload_n dX2_isUnder_0 rfl ?_
  refine zs_istore_n [some (.int p0), some (.int p1), some (.int p0), none] dX2_isUnder_1 (Nat.le_of_ble_eq_true rfl) rfl rfl ?_
  refine zs_iconst (0 : Int32) dX2_isUnder_2 ziconst_0 ?_
  refine zs_istore_n [some (.int p0), some (.int p1), some (.int p0), some (.int (0 : Int32))] dX2_isUnder_3 (Nat.le_of_ble_eq_true rfl) rfl rfl ?_
  rcases zbs_inv h with e9 | ⟨_, e9, h⟩
  · skip
    refine zs_fo [false, true, true, true] rfl ?_
    exact tlX2_isUnder_4  zF _ _ _ e9 (fun _ q => by cases q; exact ⟨rfl, rfl⟩) (fun _ q => by cases q)
  · have K10 : zWP RX2 cX2_isUnder (zMB 4 (some .boolean) 0 (zI r w)) 41 [none, none, none, none] [] w := by
      refine zs_iconst (0 : Int32) dX2_isUnder_41 ziconst_0 ?_
      obtain rfl := Option.some.inj h
      exact zs_bret dX2_isUnder_42 (Or.inl rfl) ⟨rfl, rfl⟩
    refine zs_fo [false, true, true, true] rfl ?_
    exact tlX2_isUnder_4  zF _ _ _ e9 (fun _ q => by cases q) (fun _ q => by cases q; exact K10)
def fX2_leastDrop (w : zW) (p0 : Int32) : Option Int32 := Option.bind (fX2_isUnder w p0 (3 : Int32)) fun v2 => (if v2 = 0 then (some (1 : Int32)) else (some (0 : Int32)))
set_option maxRecDepth 100000 in
theorem tX2_leastDrop {w : zW} {p0 : Int32}  {r : Int32} (h : fX2_leastDrop w p0 = some r) : zRun yX2_leastDrop cX2_leastDrop 1 (some .int) 1 [.int p0] w (zI r w) := by
  refine zRun.of (k := 0) rfl rfl rfl ?_
  show zWP RX2 cX2_leastDrop (zMB 1 (some .int) 1 (zI r w)) 0 [some (.int p0)] [] w
  unfold fX2_leastDrop at h
  refine zs_iload_n dX2_leastDrop_0 rfl ?_
  refine zs_iconst (3 : Int32) dX2_leastDrop_1 ziconst_3 ?_
  obtain ⟨v2, e1, h⟩ := zbind h
  refine zc_S2i moX2_isUnder mvX2_isUnder kX2_15 dX2_leastDrop_2 (Nat.le_of_ble_eq_true rfl) (zrm (by decide)) (tX2_isUnder e1) ?_
  refine zs_if_eq 12 dX2_leastDrop_5 rfl (fun c3 => ?_) (fun c3 => ?_)
  · replace h := zite_t c3 h
    refine zs_iconst (1 : Int32) dX2_leastDrop_12 ziconst_1 ?_
    obtain rfl := Option.some.inj h
    exact zs_iret dX2_leastDrop_13 ⟨rfl, rfl⟩
  · replace h := zite_f c3 h
    refine zs_iconst (0 : Int32) dX2_leastDrop_8 ziconst_0 ?_
    refine zs_goto 13 dX2_leastDrop_9 rfl ?_
    obtain rfl := Option.some.inj h
    exact zs_iret dX2_leastDrop_13 ⟨rfl, rfl⟩
def fX0_carries (w : zW) (o0 : Nat) (p1 : Int32) (p2 : Int32) (p3 : Int32) : Option Int32 := Option.bind (fX0_takes w o0 p1 p3) fun v2 => (if v2 = 0 then (some (0 : Int32)) else (Option.bind (fX0_heightOf w o0 p2) fun v4 => Option.bind (fX0_heightOf w o0 p3) fun v6 => Option.bind (fX2_leastDrop w p1) fun v8 => (if (v4 - v6) < v8 then (some (0 : Int32)) else (some (1 : Int32)))))
set_option maxRecDepth 100000 in
theorem tX0_carries {w : zW} {o0 : Nat} {p1 : Int32} {p2 : Int32} {p3 : Int32} (ho0 : zIsLand o0) {r : Int32} (h : fX0_carries w o0 p1 p2 p3 = some r) : zRun yX0_carries cX0_carries 4 (some .boolean) 2 [.ref o0, .int p1, .int p2, .int p3] w (zI r w) := by
  refine zRun.of (k := 0) rfl rfl rfl ?_
  show zWP RX0 cX0_carries (zMB 4 (some .boolean) 2 (zI r w)) 0 [some (.ref o0), some (.int p1), some (.int p2), some (.int p3)] [] w
  unfold fX0_carries at h
  refine zs_aload_n dX0_carries_0 rfl ?_
  refine zs_iload_n dX0_carries_1 rfl ?_
  refine zs_iload_n dX0_carries_2 rfl ?_
  obtain ⟨v2, e1, h⟩ := zbind h
  refine zc_V2i moX0_takes mvX0_takes kX0_85 rfl dX0_carries_3 (za_L ho0) (Nat.le_of_ble_eq_true rfl) (zrm (by decide)) (tX0_takes ho0 e1) ?_
  refine zs_if_eq 31 dX0_carries_6 rfl (fun c10 => ?_) (fun c10 => ?_)
  · replace h := zite_t c10 h
    refine zs_iconst (0 : Int32) dX0_carries_31 ziconst_0 ?_
    obtain rfl := Option.some.inj h
    exact zs_bret dX0_carries_32 (Or.inl rfl) ⟨rfl, rfl⟩
  · replace h := zite_f c10 h
    refine zs_aload_n dX0_carries_9 rfl ?_
    refine zs_iload_n dX0_carries_10 rfl ?_
    obtain ⟨v4, e3, h⟩ := zbind h
    refine zc_V1i moX0_heightOf mvX0_heightOf kX0_89 rfl dX0_carries_11 (za_L ho0) (Nat.le_of_ble_eq_true rfl) (zrm (by decide)) (tX0_heightOf ho0 e3) ?_
    refine zs_aload_n dX0_carries_14 rfl ?_
    refine zs_iload_n dX0_carries_15 rfl ?_
    obtain ⟨v6, e5, h⟩ := zbind h
    refine zc_V1i moX0_heightOf mvX0_heightOf kX0_89 rfl dX0_carries_16 (za_L ho0) (Nat.le_of_ble_eq_true rfl) (zrm (by decide)) (tX0_heightOf ho0 e5) ?_
    refine zs_isub dX0_carries_19 ?_
    refine zs_iload_n dX0_carries_20 rfl ?_
    obtain ⟨v8, e7, h⟩ := zbind h
    refine zc_S1i moX2_leastDrop mvX2_leastDrop kX0_93 dX0_carries_21 (Nat.le_of_ble_eq_true rfl) (zrm (by decide)) (tX2_leastDrop e7) ?_
    refine zs_icmp_lt 31 dX0_carries_24 rfl (fun c9 => ?_) (fun c9 => ?_)
    · replace h := zite_t c9 h
      refine zs_iconst (0 : Int32) dX0_carries_31 ziconst_0 ?_
      obtain rfl := Option.some.inj h
      exact zs_bret dX0_carries_32 (Or.inl rfl) ⟨rfl, rfl⟩
    · replace h := zite_f c9 h
      refine zs_iconst (1 : Int32) dX0_carries_27 ziconst_1 ?_
      refine zs_goto 32 dX0_carries_28 rfl ?_
      obtain rfl := Option.some.inj h
      exact zs_bret dX0_carries_32 (Or.inr rfl) ⟨rfl, rfl⟩
def fX0_hasLetter (w : zW) (o0 : Nat) (p1 : Int32) : Option Int32 := (if p1 < 0 then (some (0 : Int32)) else ((if (w.1 o0 9) ≤ p1 then (some (0 : Int32)) else (some (1 : Int32)))))
set_option maxRecDepth 100000 in
theorem tX0_hasLetter {w : zW} {o0 : Nat} {p1 : Int32} (ho0 : zIsLand o0) {r : Int32} (h : fX0_hasLetter w o0 p1 = some r) : zRun yX0_hasLetter cX0_hasLetter 2 (some .boolean) 0 [.ref o0, .int p1] w (zI r w) := by
  refine zRun.of (k := 0) rfl rfl rfl ?_
  show zWP RX0 cX0_hasLetter (zMB 2 (some .boolean) 0 (zI r w)) 0 [some (.ref o0), some (.int p1)] [] w
  unfold fX0_hasLetter at h
  refine zs_iload_n dX0_hasLetter_0 rfl ?_
  refine zs_if_lt 16 dX0_hasLetter_1 rfl (fun c2 => ?_) (fun c2 => ?_)
  · replace h := zite_t c2 h
    refine zs_iconst (0 : Int32) dX0_hasLetter_16 ziconst_0 ?_
    obtain rfl := Option.some.inj h
    exact zs_bret dX0_hasLetter_17 (Or.inl rfl) ⟨rfl, rfl⟩
  · replace h := zite_f c2 h
    refine zs_iload_n dX0_hasLetter_4 rfl ?_
    refine zs_aload_n dX0_hasLetter_5 rfl ?_
    refine gX0_61 ho0 dX0_hasLetter_6 ?_
    refine zs_icmp_ge 16 dX0_hasLetter_9 rfl (fun c1 => ?_) (fun c1 => ?_)
    · replace h := zite_t c1 h
      refine zs_iconst (0 : Int32) dX0_hasLetter_16 ziconst_0 ?_
      obtain rfl := Option.some.inj h
      exact zs_bret dX0_hasLetter_17 (Or.inl rfl) ⟨rfl, rfl⟩
    · replace h := zite_f c1 h
      refine zs_iconst (1 : Int32) dX0_hasLetter_12 ziconst_1 ?_
      refine zs_goto 17 dX0_hasLetter_13 rfl ?_
      obtain rfl := Option.some.inj h
      exact zs_bret dX0_hasLetter_17 (Or.inr rfl) ⟨rfl, rfl⟩
def fX0_hasRoad (w : zW) (o0 : Nat) (p1 : Int32) : Option Int32 := (if p1 < 0 then (some (0 : Int32)) else ((if (w.1 o0 3) ≤ p1 then (some (0 : Int32)) else (some (1 : Int32)))))
set_option maxRecDepth 100000 in
theorem tX0_hasRoad {w : zW} {o0 : Nat} {p1 : Int32} (ho0 : zIsLand o0) {r : Int32} (h : fX0_hasRoad w o0 p1 = some r) : zRun yX0_hasRoad cX0_hasRoad 2 (some .boolean) 0 [.ref o0, .int p1] w (zI r w) := by
  refine zRun.of (k := 0) rfl rfl rfl ?_
  show zWP RX0 cX0_hasRoad (zMB 2 (some .boolean) 0 (zI r w)) 0 [some (.ref o0), some (.int p1)] [] w
  unfold fX0_hasRoad at h
  refine zs_iload_n dX0_hasRoad_0 rfl ?_
  refine zs_if_lt 16 dX0_hasRoad_1 rfl (fun c2 => ?_) (fun c2 => ?_)
  · replace h := zite_t c2 h
    refine zs_iconst (0 : Int32) dX0_hasRoad_16 ziconst_0 ?_
    obtain rfl := Option.some.inj h
    exact zs_bret dX0_hasRoad_17 (Or.inl rfl) ⟨rfl, rfl⟩
  · replace h := zite_f c2 h
    refine zs_iload_n dX0_hasRoad_4 rfl ?_
    refine zs_aload_n dX0_hasRoad_5 rfl ?_
    refine gX0_55 ho0 dX0_hasRoad_6 ?_
    refine zs_icmp_ge 16 dX0_hasRoad_9 rfl (fun c1 => ?_) (fun c1 => ?_)
    · replace h := zite_t c1 h
      refine zs_iconst (0 : Int32) dX0_hasRoad_16 ziconst_0 ?_
      obtain rfl := Option.some.inj h
      exact zs_bret dX0_hasRoad_17 (Or.inl rfl) ⟨rfl, rfl⟩
    · replace h := zite_f c1 h
      refine zs_iconst (1 : Int32) dX0_hasRoad_12 ziconst_1 ?_
      refine zs_goto 17 dX0_hasRoad_13 rfl ?_
      obtain rfl := Option.some.inj h
      exact zs_bret dX0_hasRoad_17 (Or.inr rfl) ⟨rfl, rfl⟩
def lpX0_heightsTogether_4 (w : zW) (o0 : Nat) : Nat → Int32 → Int32 → Option Int32
  | 0, _, _ => none
  | n + 1, x1, x2 => (if (w.1 o0 0) ≤ x2 then (some x1) else (Option.bind (zrd w (o0 + 1) 12 x2) fun v4 => Option.bind (some ((x1 + v4))) fun x6 => lpX0_heightsTogether_4 w o0 n x6 (x2 + 1)))
def fX0_heightsTogether (w : zW) (o0 : Nat) : Option Int32 := Option.bind (lpX0_heightsTogether_4 w o0 zF (0 : Int32) (0 : Int32)) fun y11 => some y11
set_option maxRecDepth 100000 in
theorem tlX0_heightsTogether_4 {w : zW} {o0 : Nat} (ho0 : zIsLand o0) {Q : Option Value → zW → Prop} : ∀ (n : Nat) (x1 : Int32) (x2 : Int32) (y3 : Int32), lpX0_heightsTogether_4 w o0 n x1 x2 = some y3 → zWP RX0 cX0_heightsTogether (zMB 3 (some .int) 0 Q) 27 [none, some (.int y3), none] [] w → zWP RX0 cX0_heightsTogether (zMB 3 (some .int) 0 Q) 4 [some (.ref o0), some (.int x1), some (.int x2)] [] w := by
  intro n
  induction n with
  | zero => intro x1 x2 y3 h K; simp [lpX0_heightsTogether_4] at h
  | succ n ih =>
    intro x1 x2 y3 h K
    rw [lpX0_heightsTogether_4] at h
    refine zs_iload_n dX0_heightsTogether_4 rfl ?_
    refine zs_aload_n dX0_heightsTogether_5 rfl ?_
    refine gX0_43 ho0 dX0_heightsTogether_6 ?_
    refine zs_icmp_ge 27 dX0_heightsTogether_9 rfl (fun c8 => ?_) (fun c8 => ?_)
    · replace h := zite_t c8 h
      refine zs_fo [false, true, false] rfl ?_
      obtain rfl := Option.some.inj h
      exact K
    · replace h := zite_f c8 h
      refine zs_iload_n dX0_heightsTogether_12 rfl ?_
      refine zs_aload_n dX0_heightsTogether_13 rfl ?_
      refine gX0_9 ho0 dX0_heightsTogether_14 ?_
      refine zs_iload_n dX0_heightsTogether_17 rfl ?_
      obtain ⟨v4, e5, h⟩ := zbind h
      refine zs_iald dX0_heightsTogether_18 (za_L1 ho0) e5 ?_
      refine zs_iadd dX0_heightsTogether_19 ?_
      obtain ⟨x6, e7, h⟩ := zbind h
      refine zs_nmi (Option.some.inj e7) ?_
      refine zs_istore_n [some (.ref o0), some (.int x6), some (.int x2)] dX0_heightsTogether_20 (Nat.le_of_ble_eq_true rfl) rfl rfl ?_
      refine zs_iinc (x2 + 1) [some (.ref o0), some (.int x6), some (.int (x2 + 1))] dX0_heightsTogether_21 rfl rfl (Nat.le_of_ble_eq_true rfl) rfl rfl ?_
      refine zs_goto 4 dX0_heightsTogether_24 rfl ?_
      exact ih _ _ _ h K
set_option maxRecDepth 100000 in
theorem tX0_heightsTogether {w : zW} {o0 : Nat} (ho0 : zIsLand o0) {r : Int32} (h : fX0_heightsTogether w o0 = some r) : zRun yX0_heightsTogether cX0_heightsTogether 3 (some .int) 0 [.ref o0] w (zI r w) := by
  refine zRun.of (k := 2) rfl rfl rfl ?_
  show zWP RX0 cX0_heightsTogether (zMB 3 (some .int) 0 (zI r w)) 0 [some (.ref o0), none, none] [] w
  unfold fX0_heightsTogether at h
  refine zs_iconst (0 : Int32) dX0_heightsTogether_0 ziconst_0 ?_
  refine zs_istore_n [some (.ref o0), some (.int (0 : Int32)), none] dX0_heightsTogether_1 (Nat.le_of_ble_eq_true rfl) rfl rfl ?_
  refine zs_iconst (0 : Int32) dX0_heightsTogether_2 ziconst_0 ?_
  refine zs_istore_n [some (.ref o0), some (.int (0 : Int32)), some (.int (0 : Int32))] dX0_heightsTogether_3 (Nat.le_of_ble_eq_true rfl) rfl rfl ?_
  obtain ⟨y11, e9, h⟩ := zbind h
  have K10 : zWP RX0 cX0_heightsTogether (zMB 3 (some .int) 0 (zI r w)) 27 [none, some (.int y11), none] [] w := by
    refine zs_iload_n dX0_heightsTogether_27 rfl ?_
    obtain rfl := Option.some.inj h
    exact zs_iret dX0_heightsTogether_28 ⟨rfl, rfl⟩
  exact tlX0_heightsTogether_4 ho0 zF _ _ _ e9 K10
def fX0_liesIn (w : zW) (o0 : Nat) (p1 : Int32) (p2 : Int32) : Option Int32 := Option.bind (fX0_hasLetter w o0 p1) fun v2 => (if v2 = 0 then (some (0 : Int32)) else (Option.bind (zrd w (o0 + 9) 10 p1) fun v3 => (if v3 = 0 then (Option.bind (zrd w (o0 + 6) 10 p1) fun v5 => (if v5 = p2 then (some (1 : Int32)) else (some (0 : Int32)))) else (some (0 : Int32)))))
set_option maxRecDepth 100000 in
theorem tX0_liesIn {w : zW} {o0 : Nat} {p1 : Int32} {p2 : Int32} (ho0 : zIsLand o0) {r : Int32} (h : fX0_liesIn w o0 p1 p2 = some r) : zRun yX0_liesIn cX0_liesIn 3 (some .boolean) 1 [.ref o0, .int p1, .int p2] w (zI r w) := by
  refine zRun.of (k := 0) rfl rfl rfl ?_
  show zWP RX0 cX0_liesIn (zMB 3 (some .boolean) 1 (zI r w)) 0 [some (.ref o0), some (.int p1), some (.int p2)] [] w
  unfold fX0_liesIn at h
  refine zs_aload_n dX0_liesIn_0 rfl ?_
  refine zs_iload_n dX0_liesIn_1 rfl ?_
  obtain ⟨v2, e1, h⟩ := zbind h
  refine zc_V1i moX0_hasLetter mvX0_hasLetter kX0_109 rfl dX0_liesIn_2 (za_L ho0) (Nat.le_of_ble_eq_true rfl) (zrm (by decide)) (tX0_hasLetter ho0 e1) ?_
  refine zs_if_eq 31 dX0_liesIn_5 rfl (fun c9 => ?_) (fun c9 => ?_)
  · replace h := zite_t c9 h
    refine zs_iconst (0 : Int32) dX0_liesIn_31 ziconst_0 ?_
    obtain rfl := Option.some.inj h
    exact zs_bret dX0_liesIn_32 (Or.inl rfl) ⟨rfl, rfl⟩
  · replace h := zite_f c9 h
    refine zs_aload_n dX0_liesIn_8 rfl ?_
    refine gX0_40 ho0 dX0_liesIn_9 ?_
    refine zs_iload_n dX0_liesIn_12 rfl ?_
    obtain ⟨v3, e4, h⟩ := zbind h
    refine zs_iald dX0_liesIn_13 (za_L9 ho0) e4 ?_
    refine zs_if_ne 31 dX0_liesIn_14 rfl (fun c8 => ?_) (fun c8 => ?_)
    · replace h := zite_f c8 h
      refine zs_iconst (0 : Int32) dX0_liesIn_31 ziconst_0 ?_
      obtain rfl := Option.some.inj h
      exact zs_bret dX0_liesIn_32 (Or.inl rfl) ⟨rfl, rfl⟩
    · replace h := zite_t c8 h
      refine zs_aload_n dX0_liesIn_17 rfl ?_
      refine gX0_31 ho0 dX0_liesIn_18 ?_
      refine zs_iload_n dX0_liesIn_21 rfl ?_
      obtain ⟨v5, e6, h⟩ := zbind h
      refine zs_iald dX0_liesIn_22 (za_L6 ho0) e6 ?_
      refine zs_iload_n dX0_liesIn_23 rfl ?_
      refine zs_icmp_ne 31 dX0_liesIn_24 rfl (fun c7 => ?_) (fun c7 => ?_)
      · replace h := zite_f c7 h
        refine zs_iconst (0 : Int32) dX0_liesIn_31 ziconst_0 ?_
        obtain rfl := Option.some.inj h
        exact zs_bret dX0_liesIn_32 (Or.inl rfl) ⟨rfl, rfl⟩
      · replace h := zite_t c7 h
        refine zs_iconst (1 : Int32) dX0_liesIn_27 ziconst_1 ?_
        refine zs_goto 32 dX0_liesIn_28 rfl ?_
        obtain rfl := Option.some.inj h
        exact zs_bret dX0_liesIn_32 (Or.inr rfl) ⟨rfl, rfl⟩
def fX0_isThere (w : zW) (o0 : Nat) (p1 : Int32) : Option Int32 := Option.bind (fX0_hasLetter w o0 p1) fun v2 => (if v2 = 0 then (some (0 : Int32)) else (Option.bind (zrd w (o0 + 7) 10 p1) fun v3 => Option.bind (fX0_liesIn w o0 p1 v3) fun v6 => (if v6 = 0 then (some (0 : Int32)) else (some (1 : Int32)))))
set_option maxRecDepth 100000 in
theorem tX0_isThere {w : zW} {o0 : Nat} {p1 : Int32} (ho0 : zIsLand o0) {r : Int32} (h : fX0_isThere w o0 p1 = some r) : zRun yX0_isThere cX0_isThere 2 (some .boolean) 2 [.ref o0, .int p1] w (zI r w) := by
  refine zRun.of (k := 0) rfl rfl rfl ?_
  show zWP RX0 cX0_isThere (zMB 2 (some .boolean) 2 (zI r w)) 0 [some (.ref o0), some (.int p1)] [] w
  unfold fX0_isThere at h
  refine zs_aload_n dX0_isThere_0 rfl ?_
  refine zs_iload_n dX0_isThere_1 rfl ?_
  obtain ⟨v2, e1, h⟩ := zbind h
  refine zc_V1i moX0_hasLetter mvX0_hasLetter kX0_109 rfl dX0_isThere_2 (za_L ho0) (Nat.le_of_ble_eq_true rfl) (zrm (by decide)) (tX0_hasLetter ho0 e1) ?_
  refine zs_if_eq 26 dX0_isThere_5 rfl (fun c8 => ?_) (fun c8 => ?_)
  · replace h := zite_t c8 h
    refine zs_iconst (0 : Int32) dX0_isThere_26 ziconst_0 ?_
    obtain rfl := Option.some.inj h
    exact zs_bret dX0_isThere_27 (Or.inl rfl) ⟨rfl, rfl⟩
  · replace h := zite_f c8 h
    refine zs_aload_n dX0_isThere_8 rfl ?_
    refine zs_iload_n dX0_isThere_9 rfl ?_
    refine zs_aload_n dX0_isThere_10 rfl ?_
    refine gX0_34 ho0 dX0_isThere_11 ?_
    refine zs_iload_n dX0_isThere_14 rfl ?_
    obtain ⟨v3, e4, h⟩ := zbind h
    refine zs_iald dX0_isThere_15 (za_L7 ho0) e4 ?_
    obtain ⟨v6, e5, h⟩ := zbind h
    refine zc_V2i moX0_liesIn mvX0_liesIn kX0_112 rfl dX0_isThere_16 (za_L ho0) (Nat.le_of_ble_eq_true rfl) (zrm (by decide)) (tX0_liesIn ho0 e5) ?_
    refine zs_if_eq 26 dX0_isThere_19 rfl (fun c7 => ?_) (fun c7 => ?_)
    · replace h := zite_t c7 h
      refine zs_iconst (0 : Int32) dX0_isThere_26 ziconst_0 ?_
      obtain rfl := Option.some.inj h
      exact zs_bret dX0_isThere_27 (Or.inl rfl) ⟨rfl, rfl⟩
    · replace h := zite_f c7 h
      refine zs_iconst (1 : Int32) dX0_isThere_22 ziconst_1 ?_
      refine zs_goto 27 dX0_isThere_23 rfl ?_
      obtain rfl := Option.some.inj h
      exact zs_bret dX0_isThere_27 (Or.inr rfl) ⟨rfl, rfl⟩
def fX0_leadsInto (w : zW) (o0 : Nat) (p1 : Int32) (p2 : Int32) (p3 : Int32) : Option Int32 := Option.bind (fX0_areJoined w o0 p2 p3) fun v2 => (if v2 = 0 then (some (0 : Int32)) else (Option.bind (fX0_carries w o0 p1 p2 p3) fun v4 => (if v4 = 0 then (some (0 : Int32)) else (some (1 : Int32)))))
set_option maxRecDepth 100000 in
theorem tX0_leadsInto {w : zW} {o0 : Nat} {p1 : Int32} {p2 : Int32} {p3 : Int32} (ho0 : zIsLand o0) {r : Int32} (h : fX0_leadsInto w o0 p1 p2 p3 = some r) : zRun yX0_leadsInto cX0_leadsInto 4 (some .boolean) 3 [.ref o0, .int p1, .int p2, .int p3] w (zI r w) := by
  refine zRun.of (k := 0) rfl rfl rfl ?_
  show zWP RX0 cX0_leadsInto (zMB 4 (some .boolean) 3 (zI r w)) 0 [some (.ref o0), some (.int p1), some (.int p2), some (.int p3)] [] w
  unfold fX0_leadsInto at h
  refine zs_aload_n dX0_leadsInto_0 rfl ?_
  refine zs_iload_n dX0_leadsInto_1 rfl ?_
  refine zs_iload_n dX0_leadsInto_2 rfl ?_
  obtain ⟨v2, e1, h⟩ := zbind h
  refine zc_V2i moX0_areJoined mvX0_areJoined kX0_98 rfl dX0_leadsInto_3 (za_L ho0) (Nat.le_of_ble_eq_true rfl) (zrm (by decide)) (tX0_areJoined ho0 e1) ?_
  refine zs_if_eq 23 dX0_leadsInto_6 rfl (fun c6 => ?_) (fun c6 => ?_)
  · replace h := zite_t c6 h
    refine zs_iconst (0 : Int32) dX0_leadsInto_23 ziconst_0 ?_
    obtain rfl := Option.some.inj h
    exact zs_bret dX0_leadsInto_24 (Or.inl rfl) ⟨rfl, rfl⟩
  · replace h := zite_f c6 h
    refine zs_aload_n dX0_leadsInto_9 rfl ?_
    refine zs_iload_n dX0_leadsInto_10 rfl ?_
    refine zs_iload_n dX0_leadsInto_11 rfl ?_
    refine zs_iload_n dX0_leadsInto_12 rfl ?_
    obtain ⟨v4, e3, h⟩ := zbind h
    refine zc_V3i moX0_carries mvX0_carries kX0_101 rfl dX0_leadsInto_13 (za_L ho0) (Nat.le_of_ble_eq_true rfl) (zrm (by decide)) (tX0_carries ho0 e3) ?_
    refine zs_if_eq 23 dX0_leadsInto_16 rfl (fun c5 => ?_) (fun c5 => ?_)
    · replace h := zite_t c5 h
      refine zs_iconst (0 : Int32) dX0_leadsInto_23 ziconst_0 ?_
      obtain rfl := Option.some.inj h
      exact zs_bret dX0_leadsInto_24 (Or.inl rfl) ⟨rfl, rfl⟩
    · replace h := zite_f c5 h
      refine zs_iconst (1 : Int32) dX0_leadsInto_19 ziconst_1 ?_
      refine zs_goto 24 dX0_leadsInto_20 rfl ?_
      obtain rfl := Option.some.inj h
      exact zs_bret dX0_leadsInto_24 (Or.inr rfl) ⟨rfl, rfl⟩
def lpX0_lettersIn_4 (w : zW) (o0 : Nat) (p1 : Int32) : Nat → Int32 → Int32 → Option Int32
  | 0, _, _ => none
  | n + 1, x1, x2 => (if (w.1 o0 9) ≤ x2 then (some x1) else (Option.bind (fX0_liesIn w o0 x2 p1) fun v5 => Option.bind (if v5 = 0 then (some x1) else (Option.bind (some ((x1 ||| ((1 : Int32) <<< (x2 &&& 31))))) fun x11 => some x11)) fun x8 => lpX0_lettersIn_4 w o0 p1 n x8 (x2 + 1)))
def fX0_lettersIn (w : zW) (o0 : Nat) (p1 : Int32) : Option Int32 := Option.bind (lpX0_lettersIn_4 w o0 p1 zF (0 : Int32) (0 : Int32)) fun y17 => some y17
set_option maxRecDepth 100000 in
theorem tlX0_lettersIn_4 {w : zW} {o0 : Nat} {p1 : Int32} (ho0 : zIsLand o0) {Q : Option Value → zW → Prop} : ∀ (n : Nat) (x1 : Int32) (x2 : Int32) (y3 : Int32), lpX0_lettersIn_4 w o0 p1 n x1 x2 = some y3 → zWP RX0 cX0_lettersIn (zMB 4 (some .int) 2 Q) 33 [none, none, some (.int y3), none] [] w → zWP RX0 cX0_lettersIn (zMB 4 (some .int) 2 Q) 4 [some (.ref o0), some (.int p1), some (.int x1), some (.int x2)] [] w := by
  intro n
  induction n with
  | zero => intro x1 x2 y3 h K; simp [lpX0_lettersIn_4] at h
  | succ n ih =>
    intro x1 x2 y3 h K
    rw [lpX0_lettersIn_4] at h
    refine zs_iload_n dX0_lettersIn_4 rfl ?_
    refine zs_aload_n dX0_lettersIn_5 rfl ?_
    refine gX0_61 ho0 dX0_lettersIn_6 ?_
    refine zs_icmp_ge 33 dX0_lettersIn_9 rfl (fun c14 => ?_) (fun c14 => ?_)
    · replace h := zite_t c14 h
      refine zs_fo [false, false, true, false] rfl ?_
      obtain rfl := Option.some.inj h
      exact K
    · replace h := zite_f c14 h
      refine zs_aload_n dX0_lettersIn_12 rfl ?_
      refine zs_iload_n dX0_lettersIn_13 rfl ?_
      refine zs_iload_n dX0_lettersIn_14 rfl ?_
      obtain ⟨v5, e4, h⟩ := zbind h
      refine zc_V2i moX0_liesIn mvX0_liesIn kX0_112 rfl dX0_lettersIn_15 (za_L ho0) (Nat.le_of_ble_eq_true rfl) (zrm (by decide)) (tX0_liesIn ho0 e4) ?_
      obtain ⟨x8, m10, h⟩ := zbind h
      have K9 : zWP RX0 cX0_lettersIn (zMB 4 (some .int) 2 Q) 27 [some (.ref o0), some (.int p1), some (.int x8), some (.int x2)] [] w := by
        refine zs_iinc (x2 + 1) [some (.ref o0), some (.int p1), some (.int x8), some (.int (x2 + 1))] dX0_lettersIn_27 rfl rfl (Nat.le_of_ble_eq_true rfl) rfl rfl ?_
        refine zs_goto 4 dX0_lettersIn_30 rfl ?_
        exact ih _ _ _ h K
      refine zs_if_eq 27 dX0_lettersIn_18 rfl (fun c13 => ?_) (fun c13 => ?_)
      · replace m10 := zite_t c13 m10
        obtain rfl := Option.some.inj m10
        exact K9
      · replace m10 := zite_f c13 m10
        refine zs_iload_n dX0_lettersIn_21 rfl ?_
        refine zs_iconst (1 : Int32) dX0_lettersIn_22 ziconst_1 ?_
        refine zs_iload_n dX0_lettersIn_23 rfl ?_
        refine zs_ishl dX0_lettersIn_24 ?_
        refine zs_ior dX0_lettersIn_25 ?_
        obtain ⟨x11, e12, m10⟩ := zbind m10
        refine zs_nmi (Option.some.inj e12) ?_
        refine zs_istore_n [some (.ref o0), some (.int p1), some (.int x11), some (.int x2)] dX0_lettersIn_26 (Nat.le_of_ble_eq_true rfl) rfl rfl ?_
        obtain rfl := Option.some.inj m10
        exact K9
set_option maxRecDepth 100000 in
theorem tX0_lettersIn {w : zW} {o0 : Nat} {p1 : Int32} (ho0 : zIsLand o0) {r : Int32} (h : fX0_lettersIn w o0 p1 = some r) : zRun yX0_lettersIn cX0_lettersIn 4 (some .int) 2 [.ref o0, .int p1] w (zI r w) := by
  refine zRun.of (k := 2) rfl rfl rfl ?_
  show zWP RX0 cX0_lettersIn (zMB 4 (some .int) 2 (zI r w)) 0 [some (.ref o0), some (.int p1), none, none] [] w
  unfold fX0_lettersIn at h
  refine zs_iconst (0 : Int32) dX0_lettersIn_0 ziconst_0 ?_
  refine zs_istore_n [some (.ref o0), some (.int p1), some (.int (0 : Int32)), none] dX0_lettersIn_1 (Nat.le_of_ble_eq_true rfl) rfl rfl ?_
  refine zs_iconst (0 : Int32) dX0_lettersIn_2 ziconst_0 ?_
  refine zs_istore_n [some (.ref o0), some (.int p1), some (.int (0 : Int32)), some (.int (0 : Int32))] dX0_lettersIn_3 (Nat.le_of_ble_eq_true rfl) rfl rfl ?_
  obtain ⟨y17, e15, h⟩ := zbind h
  have K16 : zWP RX0 cX0_lettersIn (zMB 4 (some .int) 2 (zI r w)) 33 [none, none, some (.int y17), none] [] w := by
    refine zs_iload_n dX0_lettersIn_33 rfl ?_
    obtain rfl := Option.some.inj h
    exact zs_iret dX0_lettersIn_34 ⟨rfl, rfl⟩
  exact tlX0_lettersIn_4 ho0 zF _ _ _ e15 K16
def lpX0_lettersOnTheirWay_4 (w : zW) (o0 : Nat) : Nat → Int32 → Int32 → Option Int32
  | 0, _, _ => none
  | n + 1, x1, x2 => (if (w.1 o0 9) ≤ x2 then (some x1) else (Option.bind (zrd w (o0 + 9) 10 x2) fun v4 => Option.bind (if v4 ≤ 0 then (some x1) else (some (x1 + 1))) fun x6 => lpX0_lettersOnTheirWay_4 w o0 n x6 (x2 + 1)))
def fX0_lettersOnTheirWay (w : zW) (o0 : Nat) : Option Int32 := Option.bind (lpX0_lettersOnTheirWay_4 w o0 zF (0 : Int32) (0 : Int32)) fun y13 => some y13
set_option maxRecDepth 100000 in
theorem tlX0_lettersOnTheirWay_4 {w : zW} {o0 : Nat} (ho0 : zIsLand o0) {Q : Option Value → zW → Prop} : ∀ (n : Nat) (x1 : Int32) (x2 : Int32) (y3 : Int32), lpX0_lettersOnTheirWay_4 w o0 n x1 x2 = some y3 → zWP RX0 cX0_lettersOnTheirWay (zMB 3 (some .int) 0 Q) 30 [none, some (.int y3), none] [] w → zWP RX0 cX0_lettersOnTheirWay (zMB 3 (some .int) 0 Q) 4 [some (.ref o0), some (.int x1), some (.int x2)] [] w := by
  intro n
  induction n with
  | zero => intro x1 x2 y3 h K; simp [lpX0_lettersOnTheirWay_4] at h
  | succ n ih =>
    intro x1 x2 y3 h K
    rw [lpX0_lettersOnTheirWay_4] at h
    refine zs_iload_n dX0_lettersOnTheirWay_4 rfl ?_
    refine zs_aload_n dX0_lettersOnTheirWay_5 rfl ?_
    refine gX0_61 ho0 dX0_lettersOnTheirWay_6 ?_
    refine zs_icmp_ge 30 dX0_lettersOnTheirWay_9 rfl (fun c10 => ?_) (fun c10 => ?_)
    · replace h := zite_t c10 h
      refine zs_fo [false, true, false] rfl ?_
      obtain rfl := Option.some.inj h
      exact K
    · replace h := zite_f c10 h
      refine zs_aload_n dX0_lettersOnTheirWay_12 rfl ?_
      refine gX0_40 ho0 dX0_lettersOnTheirWay_13 ?_
      refine zs_iload_n dX0_lettersOnTheirWay_16 rfl ?_
      obtain ⟨v4, e5, h⟩ := zbind h
      refine zs_iald dX0_lettersOnTheirWay_17 (za_L9 ho0) e5 ?_
      obtain ⟨x6, m8, h⟩ := zbind h
      have K7 : zWP RX0 cX0_lettersOnTheirWay (zMB 3 (some .int) 0 Q) 24 [some (.ref o0), some (.int x6), some (.int x2)] [] w := by
        refine zs_iinc (x2 + 1) [some (.ref o0), some (.int x6), some (.int (x2 + 1))] dX0_lettersOnTheirWay_24 rfl rfl (Nat.le_of_ble_eq_true rfl) rfl rfl ?_
        refine zs_goto 4 dX0_lettersOnTheirWay_27 rfl ?_
        exact ih _ _ _ h K
      refine zs_if_le 24 dX0_lettersOnTheirWay_18 rfl (fun c9 => ?_) (fun c9 => ?_)
      · replace m8 := zite_t c9 m8
        obtain rfl := Option.some.inj m8
        exact K7
      · replace m8 := zite_f c9 m8
        refine zs_iinc (x1 + 1) [some (.ref o0), some (.int (x1 + 1)), some (.int x2)] dX0_lettersOnTheirWay_21 rfl rfl (Nat.le_of_ble_eq_true rfl) rfl rfl ?_
        obtain rfl := Option.some.inj m8
        exact K7
set_option maxRecDepth 100000 in
theorem tX0_lettersOnTheirWay {w : zW} {o0 : Nat} (ho0 : zIsLand o0) {r : Int32} (h : fX0_lettersOnTheirWay w o0 = some r) : zRun yX0_lettersOnTheirWay cX0_lettersOnTheirWay 3 (some .int) 0 [.ref o0] w (zI r w) := by
  refine zRun.of (k := 2) rfl rfl rfl ?_
  show zWP RX0 cX0_lettersOnTheirWay (zMB 3 (some .int) 0 (zI r w)) 0 [some (.ref o0), none, none] [] w
  unfold fX0_lettersOnTheirWay at h
  refine zs_iconst (0 : Int32) dX0_lettersOnTheirWay_0 ziconst_0 ?_
  refine zs_istore_n [some (.ref o0), some (.int (0 : Int32)), none] dX0_lettersOnTheirWay_1 (Nat.le_of_ble_eq_true rfl) rfl rfl ?_
  refine zs_iconst (0 : Int32) dX0_lettersOnTheirWay_2 ziconst_0 ?_
  refine zs_istore_n [some (.ref o0), some (.int (0 : Int32)), some (.int (0 : Int32))] dX0_lettersOnTheirWay_3 (Nat.le_of_ble_eq_true rfl) rfl rfl ?_
  obtain ⟨y13, e11, h⟩ := zbind h
  have K12 : zWP RX0 cX0_lettersOnTheirWay (zMB 3 (some .int) 0 (zI r w)) 30 [none, some (.int y13), none] [] w := by
    refine zs_iload_n dX0_lettersOnTheirWay_30 rfl ?_
    obtain rfl := Option.some.inj h
    exact zs_iret dX0_lettersOnTheirWay_31 ⟨rfl, rfl⟩
  exact tlX0_lettersOnTheirWay_4 ho0 zF _ _ _ e11 K12
def lpX0_lettersThere_4 (w : zW) (o0 : Nat) : Nat → Int32 → Int32 → Option Int32
  | 0, _, _ => none
  | n + 1, x1, x2 => (if (w.1 o0 9) ≤ x2 then (some x1) else (Option.bind (fX0_isThere w o0 x2) fun v5 => Option.bind (if v5 = 0 then (some x1) else (some (x1 + 1))) fun x6 => lpX0_lettersThere_4 w o0 n x6 (x2 + 1)))
def fX0_lettersThere (w : zW) (o0 : Nat) : Option Int32 := Option.bind (lpX0_lettersThere_4 w o0 zF (0 : Int32) (0 : Int32)) fun y13 => some y13
set_option maxRecDepth 100000 in
theorem tlX0_lettersThere_4 {w : zW} {o0 : Nat} (ho0 : zIsLand o0) {Q : Option Value → zW → Prop} : ∀ (n : Nat) (x1 : Int32) (x2 : Int32) (y3 : Int32), lpX0_lettersThere_4 w o0 n x1 x2 = some y3 → zWP RX0 cX0_lettersThere (zMB 3 (some .int) 3 Q) 29 [none, some (.int y3), none] [] w → zWP RX0 cX0_lettersThere (zMB 3 (some .int) 3 Q) 4 [some (.ref o0), some (.int x1), some (.int x2)] [] w := by
  intro n
  induction n with
  | zero => intro x1 x2 y3 h K; simp [lpX0_lettersThere_4] at h
  | succ n ih =>
    intro x1 x2 y3 h K
    rw [lpX0_lettersThere_4] at h
    refine zs_iload_n dX0_lettersThere_4 rfl ?_
    refine zs_aload_n dX0_lettersThere_5 rfl ?_
    refine gX0_61 ho0 dX0_lettersThere_6 ?_
    refine zs_icmp_ge 29 dX0_lettersThere_9 rfl (fun c10 => ?_) (fun c10 => ?_)
    · replace h := zite_t c10 h
      refine zs_fo [false, true, false] rfl ?_
      obtain rfl := Option.some.inj h
      exact K
    · replace h := zite_f c10 h
      refine zs_aload_n dX0_lettersThere_12 rfl ?_
      refine zs_iload_n dX0_lettersThere_13 rfl ?_
      obtain ⟨v5, e4, h⟩ := zbind h
      refine zc_V1i moX0_isThere mvX0_isThere kX0_115 rfl dX0_lettersThere_14 (za_L ho0) (Nat.le_of_ble_eq_true rfl) (zrm (by decide)) (tX0_isThere ho0 e4) ?_
      obtain ⟨x6, m8, h⟩ := zbind h
      have K7 : zWP RX0 cX0_lettersThere (zMB 3 (some .int) 3 Q) 23 [some (.ref o0), some (.int x6), some (.int x2)] [] w := by
        refine zs_iinc (x2 + 1) [some (.ref o0), some (.int x6), some (.int (x2 + 1))] dX0_lettersThere_23 rfl rfl (Nat.le_of_ble_eq_true rfl) rfl rfl ?_
        refine zs_goto 4 dX0_lettersThere_26 rfl ?_
        exact ih _ _ _ h K
      refine zs_if_eq 23 dX0_lettersThere_17 rfl (fun c9 => ?_) (fun c9 => ?_)
      · replace m8 := zite_t c9 m8
        obtain rfl := Option.some.inj m8
        exact K7
      · replace m8 := zite_f c9 m8
        refine zs_iinc (x1 + 1) [some (.ref o0), some (.int (x1 + 1)), some (.int x2)] dX0_lettersThere_20 rfl rfl (Nat.le_of_ble_eq_true rfl) rfl rfl ?_
        obtain rfl := Option.some.inj m8
        exact K7
set_option maxRecDepth 100000 in
theorem tX0_lettersThere {w : zW} {o0 : Nat} (ho0 : zIsLand o0) {r : Int32} (h : fX0_lettersThere w o0 = some r) : zRun yX0_lettersThere cX0_lettersThere 3 (some .int) 3 [.ref o0] w (zI r w) := by
  refine zRun.of (k := 2) rfl rfl rfl ?_
  show zWP RX0 cX0_lettersThere (zMB 3 (some .int) 3 (zI r w)) 0 [some (.ref o0), none, none] [] w
  unfold fX0_lettersThere at h
  refine zs_iconst (0 : Int32) dX0_lettersThere_0 ziconst_0 ?_
  refine zs_istore_n [some (.ref o0), some (.int (0 : Int32)), none] dX0_lettersThere_1 (Nat.le_of_ble_eq_true rfl) rfl rfl ?_
  refine zs_iconst (0 : Int32) dX0_lettersThere_2 ziconst_0 ?_
  refine zs_istore_n [some (.ref o0), some (.int (0 : Int32)), some (.int (0 : Int32))] dX0_lettersThere_3 (Nat.le_of_ble_eq_true rfl) rfl rfl ?_
  obtain ⟨y13, e11, h⟩ := zbind h
  have K12 : zWP RX0 cX0_lettersThere (zMB 3 (some .int) 3 (zI r w)) 29 [none, some (.int y13), none] [] w := by
    refine zs_iload_n dX0_lettersThere_29 rfl ?_
    obtain rfl := Option.some.inj h
    exact zs_iret dX0_lettersThere_30 ⟨rfl, rfl⟩
  exact tlX0_lettersThere_4 ho0 zF _ _ _ e11 K12
def lpX0_lowest_4 (w : zW) (o0 : Nat) : Nat → Int32 → Int32 → Option Int32
  | 0, _, _ => none
  | n + 1, x1, x2 => (if (w.1 o0 0) ≤ x2 then (some x1) else (Option.bind (zrd w (o0 + 1) 12 x2) fun v4 => Option.bind (zrd w (o0 + 1) 12 x1) fun v6 => Option.bind (if v6 ≤ v4 then (some x1) else (some x2)) fun x8 => lpX0_lowest_4 w o0 n x8 (x2 + 1)))
def fX0_lowest (w : zW) (o0 : Nat) : Option Int32 := Option.bind (lpX0_lowest_4 w o0 zF (0 : Int32) (1 : Int32)) fun y15 => some y15
set_option maxRecDepth 100000 in
theorem tlX0_lowest_4 {w : zW} {o0 : Nat} (ho0 : zIsLand o0) {Q : Option Value → zW → Prop} : ∀ (n : Nat) (x1 : Int32) (x2 : Int32) (y3 : Int32), lpX0_lowest_4 w o0 n x1 x2 = some y3 → zWP RX0 cX0_lowest (zMB 3 (some .int) 0 Q) 35 [none, some (.int y3), none] [] w → zWP RX0 cX0_lowest (zMB 3 (some .int) 0 Q) 4 [some (.ref o0), some (.int x1), some (.int x2)] [] w := by
  intro n
  induction n with
  | zero => intro x1 x2 y3 h K; simp [lpX0_lowest_4] at h
  | succ n ih =>
    intro x1 x2 y3 h K
    rw [lpX0_lowest_4] at h
    refine zs_iload_n dX0_lowest_4 rfl ?_
    refine zs_aload_n dX0_lowest_5 rfl ?_
    refine gX0_43 ho0 dX0_lowest_6 ?_
    refine zs_icmp_ge 35 dX0_lowest_9 rfl (fun c12 => ?_) (fun c12 => ?_)
    · replace h := zite_t c12 h
      refine zs_fo [false, true, false] rfl ?_
      obtain rfl := Option.some.inj h
      exact K
    · replace h := zite_f c12 h
      refine zs_aload_n dX0_lowest_12 rfl ?_
      refine gX0_9 ho0 dX0_lowest_13 ?_
      refine zs_iload_n dX0_lowest_16 rfl ?_
      obtain ⟨v4, e5, h⟩ := zbind h
      refine zs_iald dX0_lowest_17 (za_L1 ho0) e5 ?_
      refine zs_aload_n dX0_lowest_18 rfl ?_
      refine gX0_9 ho0 dX0_lowest_19 ?_
      refine zs_iload_n dX0_lowest_22 rfl ?_
      obtain ⟨v6, e7, h⟩ := zbind h
      refine zs_iald dX0_lowest_23 (za_L1 ho0) e7 ?_
      obtain ⟨x8, m10, h⟩ := zbind h
      have K9 : zWP RX0 cX0_lowest (zMB 3 (some .int) 0 Q) 29 [some (.ref o0), some (.int x8), some (.int x2)] [] w := by
        refine zs_iinc (x2 + 1) [some (.ref o0), some (.int x8), some (.int (x2 + 1))] dX0_lowest_29 rfl rfl (Nat.le_of_ble_eq_true rfl) rfl rfl ?_
        refine zs_goto 4 dX0_lowest_32 rfl ?_
        exact ih _ _ _ h K
      refine zs_icmp_ge 29 dX0_lowest_24 rfl (fun c11 => ?_) (fun c11 => ?_)
      · replace m10 := zite_t c11 m10
        obtain rfl := Option.some.inj m10
        exact K9
      · replace m10 := zite_f c11 m10
        refine zs_iload_n dX0_lowest_27 rfl ?_
        refine zs_istore_n [some (.ref o0), some (.int x2), some (.int x2)] dX0_lowest_28 (Nat.le_of_ble_eq_true rfl) rfl rfl ?_
        obtain rfl := Option.some.inj m10
        exact K9
set_option maxRecDepth 100000 in
theorem tX0_lowest {w : zW} {o0 : Nat} (ho0 : zIsLand o0) {r : Int32} (h : fX0_lowest w o0 = some r) : zRun yX0_lowest cX0_lowest 3 (some .int) 0 [.ref o0] w (zI r w) := by
  refine zRun.of (k := 2) rfl rfl rfl ?_
  show zWP RX0 cX0_lowest (zMB 3 (some .int) 0 (zI r w)) 0 [some (.ref o0), none, none] [] w
  unfold fX0_lowest at h
  refine zs_iconst (0 : Int32) dX0_lowest_0 ziconst_0 ?_
  refine zs_istore_n [some (.ref o0), some (.int (0 : Int32)), none] dX0_lowest_1 (Nat.le_of_ble_eq_true rfl) rfl rfl ?_
  refine zs_iconst (1 : Int32) dX0_lowest_2 ziconst_1 ?_
  refine zs_istore_n [some (.ref o0), some (.int (0 : Int32)), some (.int (1 : Int32))] dX0_lowest_3 (Nat.le_of_ble_eq_true rfl) rfl rfl ?_
  obtain ⟨y15, e13, h⟩ := zbind h
  have K14 : zWP RX0 cX0_lowest (zMB 3 (some .int) 0 (zI r w)) 35 [none, some (.int y15), none] [] w := by
    refine zs_iload_n dX0_lowest_35 rfl ?_
    obtain rfl := Option.some.inj h
    exact zs_iret dX0_lowest_36 ⟨rfl, rfl⟩
  exact tlX0_lowest_4 ho0 zF _ _ _ e13 K14
def lpX0_roadsOf_4 (w : zW) (o0 : Nat) (p1 : Int32) : Nat → Int32 → Int32 → Option Int32
  | 0, _, _ => none
  | n + 1, x1, x2 => (if (w.1 o0 3) ≤ x2 then (some x1) else (Option.bind (zrd w (o0 + 2) 24 x2) fun v4 => Option.bind (if v4 = p1 then (some (x1 + 1)) else (Option.bind (zrd w (o0 + 3) 24 x2) fun v12 => (if v12 = p1 then (some (x1 + 1)) else (some x1)))) fun x9 => lpX0_roadsOf_4 w o0 p1 n x9 (x2 + 1)))
def fX0_roadsOf (w : zW) (o0 : Nat) (p1 : Int32) : Option Int32 := Option.bind (lpX0_roadsOf_4 w o0 p1 zF (0 : Int32) (0 : Int32)) fun y19 => some y19
set_option maxRecDepth 100000 in
theorem tlX0_roadsOf_4 {w : zW} {o0 : Nat} {p1 : Int32} (ho0 : zIsLand o0) {Q : Option Value → zW → Prop} : ∀ (n : Nat) (x1 : Int32) (x2 : Int32) (y3 : Int32), lpX0_roadsOf_4 w o0 p1 n x1 x2 = some y3 → zWP RX0 cX0_roadsOf (zMB 4 (some .int) 0 Q) 41 [none, none, some (.int y3), none] [] w → zWP RX0 cX0_roadsOf (zMB 4 (some .int) 0 Q) 4 [some (.ref o0), some (.int p1), some (.int x1), some (.int x2)] [] w := by
  intro n
  induction n with
  | zero => intro x1 x2 y3 h K; simp [lpX0_roadsOf_4] at h
  | succ n ih =>
    intro x1 x2 y3 h K
    rw [lpX0_roadsOf_4] at h
    refine zs_iload_n dX0_roadsOf_4 rfl ?_
    refine zs_aload_n dX0_roadsOf_5 rfl ?_
    refine gX0_55 ho0 dX0_roadsOf_6 ?_
    refine zs_icmp_ge 41 dX0_roadsOf_9 rfl (fun c16 => ?_) (fun c16 => ?_)
    · replace h := zite_t c16 h
      refine zs_fo [false, false, true, false] rfl ?_
      obtain rfl := Option.some.inj h
      exact K
    · replace h := zite_f c16 h
      refine zs_aload_n dX0_roadsOf_12 rfl ?_
      refine gX0_15 ho0 dX0_roadsOf_13 ?_
      refine zs_iload_n dX0_roadsOf_16 rfl ?_
      obtain ⟨v4, e5, h⟩ := zbind h
      refine zs_iald dX0_roadsOf_17 (za_L2 ho0) e5 ?_
      refine zs_iload_n dX0_roadsOf_18 rfl ?_
      obtain ⟨x9, m11, h⟩ := zbind h
      have K10 : zWP RX0 cX0_roadsOf (zMB 4 (some .int) 0 Q) 35 [some (.ref o0), some (.int p1), some (.int x9), some (.int x2)] [] w := by
        refine zs_iinc (x2 + 1) [some (.ref o0), some (.int p1), some (.int x9), some (.int (x2 + 1))] dX0_roadsOf_35 rfl rfl (Nat.le_of_ble_eq_true rfl) rfl rfl ?_
        refine zs_goto 4 dX0_roadsOf_38 rfl ?_
        exact ih _ _ _ h K
      refine zs_icmp_eq 32 dX0_roadsOf_19 rfl (fun c15 => ?_) (fun c15 => ?_)
      · replace m11 := zite_t c15 m11
        refine zs_iinc (x1 + 1) [some (.ref o0), some (.int p1), some (.int (x1 + 1)), some (.int x2)] dX0_roadsOf_32 rfl rfl (Nat.le_of_ble_eq_true rfl) rfl rfl ?_
        obtain rfl := Option.some.inj m11
        exact K10
      · replace m11 := zite_f c15 m11
        refine zs_aload_n dX0_roadsOf_22 rfl ?_
        refine gX0_18 ho0 dX0_roadsOf_23 ?_
        refine zs_iload_n dX0_roadsOf_26 rfl ?_
        obtain ⟨v12, e13, m11⟩ := zbind m11
        refine zs_iald dX0_roadsOf_27 (za_L3 ho0) e13 ?_
        refine zs_iload_n dX0_roadsOf_28 rfl ?_
        refine zs_icmp_ne 35 dX0_roadsOf_29 rfl (fun c14 => ?_) (fun c14 => ?_)
        · replace m11 := zite_f c14 m11
          obtain rfl := Option.some.inj m11
          exact K10
        · replace m11 := zite_t c14 m11
          refine zs_iinc (x1 + 1) [some (.ref o0), some (.int p1), some (.int (x1 + 1)), some (.int x2)] dX0_roadsOf_32 rfl rfl (Nat.le_of_ble_eq_true rfl) rfl rfl ?_
          obtain rfl := Option.some.inj m11
          exact K10
set_option maxRecDepth 100000 in
theorem tX0_roadsOf {w : zW} {o0 : Nat} {p1 : Int32} (ho0 : zIsLand o0) {r : Int32} (h : fX0_roadsOf w o0 p1 = some r) : zRun yX0_roadsOf cX0_roadsOf 4 (some .int) 0 [.ref o0, .int p1] w (zI r w) := by
  refine zRun.of (k := 2) rfl rfl rfl ?_
  show zWP RX0 cX0_roadsOf (zMB 4 (some .int) 0 (zI r w)) 0 [some (.ref o0), some (.int p1), none, none] [] w
  unfold fX0_roadsOf at h
  refine zs_iconst (0 : Int32) dX0_roadsOf_0 ziconst_0 ?_
  refine zs_istore_n [some (.ref o0), some (.int p1), some (.int (0 : Int32)), none] dX0_roadsOf_1 (Nat.le_of_ble_eq_true rfl) rfl rfl ?_
  refine zs_iconst (0 : Int32) dX0_roadsOf_2 ziconst_0 ?_
  refine zs_istore_n [some (.ref o0), some (.int p1), some (.int (0 : Int32)), some (.int (0 : Int32))] dX0_roadsOf_3 (Nat.le_of_ble_eq_true rfl) rfl rfl ?_
  obtain ⟨y19, e17, h⟩ := zbind h
  have K18 : zWP RX0 cX0_roadsOf (zMB 4 (some .int) 0 (zI r w)) 41 [none, none, some (.int y19), none] [] w := by
    refine zs_iload_n dX0_roadsOf_41 rfl ?_
    obtain rfl := Option.some.inj h
    exact zs_iret dX0_roadsOf_42 ⟨rfl, rfl⟩
  exact tlX0_roadsOf_4 ho0 zF _ _ _ e17 K18
def fX0_setHeight (w : zW) (o0 : Nat) (p1 : Int32) (p2 : Int32) : Option zW := Option.bind (fX0_hasVillage w o0 p1) fun v2 => (if v2 = 0 then (some w) else (Option.bind (zwr w (o0 + 1) 12 p1 p2) fun w3 => some w3))
set_option maxRecDepth 100000 in
theorem tX0_setHeight {w : zW} {o0 : Nat} {p1 : Int32} {p2 : Int32} (ho0 : zIsLand o0)  {w' : zW} (h : fX0_setHeight w o0 p1 p2 = some w') : zRun yX0_setHeight cX0_setHeight 3 none 1 [.ref o0, .int p1, .int p2] w (zV w') := by
  refine zRun.of (k := 0) rfl rfl rfl ?_
  show zWP RX0 cX0_setHeight (zMB 3 none 1 (zV w')) 0 [some (.ref o0), some (.int p1), some (.int p2)] [] w
  unfold fX0_setHeight at h
  refine zs_aload_n dX0_setHeight_0 rfl ?_
  refine zs_iload_n dX0_setHeight_1 rfl ?_
  obtain ⟨v2, e1, h⟩ := zbind h
  refine zc_V1i moX0_hasVillage mvX0_hasVillage kX0_78 rfl dX0_setHeight_2 (za_L ho0) (Nat.le_of_ble_eq_true rfl) (zrm (by decide)) (tX0_hasVillage ho0 e1) ?_
  refine zs_if_eq 15 dX0_setHeight_5 rfl (fun c5 => ?_) (fun c5 => ?_)
  · replace h := zite_t c5 h
    obtain rfl := Option.some.inj h
    exact zs_vret dX0_setHeight_15 ⟨rfl, rfl⟩
  · replace h := zite_f c5 h
    refine zs_aload_n dX0_setHeight_8 rfl ?_
    refine gX0_9 ho0 dX0_setHeight_9 ?_
    refine zs_iload_n dX0_setHeight_12 rfl ?_
    refine zs_iload_n dX0_setHeight_13 rfl ?_
    obtain ⟨w3, e4, h⟩ := zbind h
    refine zs_iast dX0_setHeight_14 (za_L1 ho0) e4 ?_
    obtain rfl := Option.some.inj h
    exact zs_vret dX0_setHeight_15 ⟨rfl, rfl⟩
def fX2_daysFor (w : zW) (p0 : Int32) (p1 : Int32) : Option Int32 := (if p0 = 1 then (Option.bind (zdiv (p1 + (1 : Int32)) (2 : Int32)) fun v6 => some v6) else (if p0 = 2 then (some ((2 : Int32) * p1)) else (if p0 = 3 then (some (p1 + (1 : Int32))) else (if p0 = 4 then (some ((2 : Int32) * p1)) else (if p0 = 5 then (some (p1 + (1 : Int32))) else (some p1))))))
set_option maxRecDepth 100000 in
theorem tX2_daysFor {w : zW} {p0 : Int32} {p1 : Int32}  {r : Int32} (h : fX2_daysFor w p0 p1 = some r) : zRun yX2_daysFor cX2_daysFor 2 (some .int) 0 [.int p0, .int p1] w (zI r w) := by
  refine zRun.of (k := 0) rfl rfl rfl ?_
  show zWP RX2 cX2_daysFor (zMB 2 (some .int) 0 (zI r w)) 0 [some (.int p0), some (.int p1)] [] w
  unfold fX2_daysFor at h
  refine zs_iload_n dX2_daysFor_0 rfl ?_
  by_cases c1 : p0 = 1
  · replace h := zite_t c1 h
    refine zs_tswIn (1 : Int32) 36 dX2_daysFor_1 c1 (by decide) (by decide) rfl rfl ?_
    refine zs_iload_n dX2_daysFor_36 rfl ?_
    refine zs_iconst (1 : Int32) dX2_daysFor_37 ziconst_1 ?_
    refine zs_iadd dX2_daysFor_38 ?_
    refine zs_iconst (2 : Int32) dX2_daysFor_39 ziconst_2 ?_
    obtain ⟨v6, e7, h⟩ := zbind h
    refine zs_idiv dX2_daysFor_40 (zdiv_inv e7).1 ?_
    refine zs_nmi (zdiv_inv e7).2 ?_
    obtain rfl := Option.some.inj h
    exact zs_iret dX2_daysFor_41 ⟨rfl, rfl⟩
  · replace h := zite_f c1 h
    by_cases c2 : p0 = 2
    · replace h := zite_t c2 h
      refine zs_tswIn (2 : Int32) 42 dX2_daysFor_1 c2 (by decide) (by decide) rfl rfl ?_
      refine zs_iconst (2 : Int32) dX2_daysFor_42 ziconst_2 ?_
      refine zs_iload_n dX2_daysFor_43 rfl ?_
      refine zs_imul dX2_daysFor_44 ?_
      obtain rfl := Option.some.inj h
      exact zs_iret dX2_daysFor_45 ⟨rfl, rfl⟩
    · replace h := zite_f c2 h
      by_cases c3 : p0 = 3
      · replace h := zite_t c3 h
        refine zs_tswIn (3 : Int32) 46 dX2_daysFor_1 c3 (by decide) (by decide) rfl rfl ?_
        refine zs_iload_n dX2_daysFor_46 rfl ?_
        refine zs_iconst (1 : Int32) dX2_daysFor_47 ziconst_1 ?_
        refine zs_iadd dX2_daysFor_48 ?_
        obtain rfl := Option.some.inj h
        exact zs_iret dX2_daysFor_49 ⟨rfl, rfl⟩
      · replace h := zite_f c3 h
        by_cases c4 : p0 = 4
        · replace h := zite_t c4 h
          refine zs_tswIn (4 : Int32) 42 dX2_daysFor_1 c4 (by decide) (by decide) rfl rfl ?_
          refine zs_iconst (2 : Int32) dX2_daysFor_42 ziconst_2 ?_
          refine zs_iload_n dX2_daysFor_43 rfl ?_
          refine zs_imul dX2_daysFor_44 ?_
          obtain rfl := Option.some.inj h
          exact zs_iret dX2_daysFor_45 ⟨rfl, rfl⟩
        · replace h := zite_f c4 h
          by_cases c5 : p0 = 5
          · replace h := zite_t c5 h
            refine zs_tswIn (5 : Int32) 46 dX2_daysFor_1 c5 (by decide) (by decide) rfl rfl ?_
            refine zs_iload_n dX2_daysFor_46 rfl ?_
            refine zs_iconst (1 : Int32) dX2_daysFor_47 ziconst_1 ?_
            refine zs_iadd dX2_daysFor_48 ?_
            obtain rfl := Option.some.inj h
            exact zs_iret dX2_daysFor_49 ⟨rfl, rfl⟩
          · replace h := zite_f c5 h
            refine zs_tswOut 50 dX2_daysFor_1 (by have q := zout (x := p0) (n := 5) (lo := 1) (fun i hi => by match i, hi with | 0, _ => exact c1 | 1, _ => exact c2 | 2, _ => exact c3 | 3, _ => exact c4 | 4, _ => exact c5); omega) rfl ?_
            refine zs_iload_n dX2_daysFor_50 rfl ?_
            obtain rfl := Option.some.inj h
            exact zs_iret dX2_daysFor_51 ⟨rfl, rfl⟩
