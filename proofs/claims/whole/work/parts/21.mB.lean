def fX5_flightFrom (w : zW) (p1 : Int32) : Option Int32 := Option.bind (if (w.1 40 5) ≤ 0 then (some (0 : Int32)) else (Option.bind (zrem p1 (w.1 40 5)) fun v6 => some v6)) fun x3 => (if x3 = 0 then (some p1) else (some ((p1 + (w.1 40 5)) - x3)))
set_option maxRecDepth 100000 in
theorem tX5_flightFrom {w : zW} {p1 : Int32}  {r : Int32} (h : fX5_flightFrom w p1 = some r) : zRun yX5_flightFrom cX5_flightFrom 3 (some .int) 0 [.ref 40, .int p1] w (zI r w) := by
  refine zRun.of (k := 1) rfl rfl rfl ?_
  show zWP RX5 cX5_flightFrom (zMB 3 (some .int) 0 (zI r w)) 0 [some (.ref 40), some (.int p1), none] [] w
  unfold fX5_flightFrom at h
  refine zs_aload_n dX5_flightFrom_0 rfl ?_
  refine gX5_50 dX5_flightFrom_1 ?_
  obtain ⟨x3, m5, h⟩ := zbind h
  have K4 : zWP RX5 cX5_flightFrom (zMB 3 (some .int) 0 (zI r w)) 17 [some (.ref 40), some (.int p1), none] [.int x3] w := by
    refine zs_istore_n [some (.ref 40), some (.int p1), some (.int x3)] dX5_flightFrom_17 (Nat.le_of_ble_eq_true rfl) rfl rfl ?_
    refine zs_iload_n dX5_flightFrom_18 rfl ?_
    refine zs_if_ne 26 dX5_flightFrom_19 rfl (fun c8 => ?_) (fun c8 => ?_)
    · replace h := zite_f c8 h
      refine zs_iload_n dX5_flightFrom_26 rfl ?_
      refine zs_aload_n dX5_flightFrom_27 rfl ?_
      refine gX5_50 dX5_flightFrom_28 ?_
      refine zs_iadd dX5_flightFrom_31 ?_
      refine zs_iload_n dX5_flightFrom_32 rfl ?_
      refine zs_isub dX5_flightFrom_33 ?_
      obtain rfl := Option.some.inj h
      exact zs_iret dX5_flightFrom_34 ⟨rfl, rfl⟩
    · replace h := zite_t c8 h
      refine zs_iload_n dX5_flightFrom_22 rfl ?_
      refine zs_goto 34 dX5_flightFrom_23 rfl ?_
      obtain rfl := Option.some.inj h
      exact zs_iret dX5_flightFrom_34 ⟨rfl, rfl⟩
  refine zs_if_le 16 dX5_flightFrom_4 rfl (fun c9 => ?_) (fun c9 => ?_)
  · replace m5 := zite_t c9 m5
    refine zs_iconst (0 : Int32) dX5_flightFrom_16 ziconst_0 ?_
    obtain rfl := Option.some.inj m5
    exact K4
  · replace m5 := zite_f c9 m5
    refine zs_iload_n dX5_flightFrom_7 rfl ?_
    refine zs_aload_n dX5_flightFrom_8 rfl ?_
    refine gX5_50 dX5_flightFrom_9 ?_
    obtain ⟨v6, e7, m5⟩ := zbind m5
    refine zs_irem dX5_flightFrom_12 (zrem_inv e7).1 ?_
    refine zs_nmi (zrem_inv e7).2 ?_
    refine zs_goto 17 dX5_flightFrom_13 rfl ?_
    obtain rfl := Option.some.inj m5
    exact K4
def fX5_areHere (w : zW) (p1 : Int32) (p2 : Int32) : Option Int32 := (if p1 < 0 then (some (0 : Int32)) else ((if (w.1 40 2) ≤ p1 then (some (0 : Int32)) else ((if p2 < 0 then (some (0 : Int32)) else ((if (w.1 40 2) ≤ p2 then (some (0 : Int32)) else (some (1 : Int32)))))))))
set_option maxRecDepth 100000 in
theorem tX5_areHere {w : zW} {p1 : Int32} {p2 : Int32}  {r : Int32} (h : fX5_areHere w p1 p2 = some r) : zRun yX5_areHere cX5_areHere 3 (some .boolean) 0 [.ref 40, .int p1, .int p2] w (zI r w) := by
  refine zRun.of (k := 0) rfl rfl rfl ?_
  show zWP RX5 cX5_areHere (zMB 3 (some .boolean) 0 (zI r w)) 0 [some (.ref 40), some (.int p1), some (.int p2)] [] w
  unfold fX5_areHere at h
  refine zs_iload_n dX5_areHere_0 rfl ?_
  refine zs_if_lt 28 dX5_areHere_1 rfl (fun c4 => ?_) (fun c4 => ?_)
  · replace h := zite_t c4 h
    refine zs_iconst (0 : Int32) dX5_areHere_28 ziconst_0 ?_
    obtain rfl := Option.some.inj h
    exact zs_bret dX5_areHere_29 (Or.inl rfl) ⟨rfl, rfl⟩
  · replace h := zite_f c4 h
    refine zs_iload_n dX5_areHere_4 rfl ?_
    refine zs_aload_n dX5_areHere_5 rfl ?_
    refine gX5_30 dX5_areHere_6 ?_
    refine zs_icmp_ge 28 dX5_areHere_9 rfl (fun c3 => ?_) (fun c3 => ?_)
    · replace h := zite_t c3 h
      refine zs_iconst (0 : Int32) dX5_areHere_28 ziconst_0 ?_
      obtain rfl := Option.some.inj h
      exact zs_bret dX5_areHere_29 (Or.inl rfl) ⟨rfl, rfl⟩
    · replace h := zite_f c3 h
      refine zs_iload_n dX5_areHere_12 rfl ?_
      refine zs_if_lt 28 dX5_areHere_13 rfl (fun c2 => ?_) (fun c2 => ?_)
      · replace h := zite_t c2 h
        refine zs_iconst (0 : Int32) dX5_areHere_28 ziconst_0 ?_
        obtain rfl := Option.some.inj h
        exact zs_bret dX5_areHere_29 (Or.inl rfl) ⟨rfl, rfl⟩
      · replace h := zite_f c2 h
        refine zs_iload_n dX5_areHere_16 rfl ?_
        refine zs_aload_n dX5_areHere_17 rfl ?_
        refine gX5_30 dX5_areHere_18 ?_
        refine zs_icmp_ge 28 dX5_areHere_21 rfl (fun c1 => ?_) (fun c1 => ?_)
        · replace h := zite_t c1 h
          refine zs_iconst (0 : Int32) dX5_areHere_28 ziconst_0 ?_
          obtain rfl := Option.some.inj h
          exact zs_bret dX5_areHere_29 (Or.inl rfl) ⟨rfl, rfl⟩
        · replace h := zite_f c1 h
          refine zs_iconst (1 : Int32) dX5_areHere_24 ziconst_1 ?_
          refine zs_goto 29 dX5_areHere_25 rfl ?_
          obtain rfl := Option.some.inj h
          exact zs_bret dX5_areHere_29 (Or.inr rfl) ⟨rfl, rfl⟩
def fX5_stepDays (w : zW) (p1 : Int32) (p2 : Int32) : Option Int32 := Option.bind (fX5_areHere w p1 p2) fun v2 => (if v2 = 0 then (some (1000000 : Int32)) else (Option.bind (zrd w 41 144 ((p1 * (12 : Int32)) + p2)) fun v3 => some v3))
set_option maxRecDepth 100000 in
theorem tX5_stepDays {w : zW} {p1 : Int32} {p2 : Int32}  {r : Int32} (h : fX5_stepDays w p1 p2 = some r) : zRun yX5_stepDays cX5_stepDays 3 (some .int) 1 [.ref 40, .int p1, .int p2] w (zI r w) := by
  refine zRun.of (k := 0) rfl rfl rfl ?_
  show zWP RX5 cX5_stepDays (zMB 3 (some .int) 1 (zI r w)) 0 [some (.ref 40), some (.int p1), some (.int p2)] [] w
  unfold fX5_stepDays at h
  refine zs_aload_n dX5_stepDays_0 rfl ?_
  refine zs_iload_n dX5_stepDays_1 rfl ?_
  refine zs_iload_n dX5_stepDays_2 rfl ?_
  obtain ⟨v2, e1, h⟩ := zbind h
  refine zc_V2i moX5_areHere mvX5_areHere kX5_84 rfl dX5_stepDays_3 za_40 (Nat.le_of_ble_eq_true rfl) (zrm (by decide)) (tX5_areHere e1) ?_
  refine zs_if_eq 23 dX5_stepDays_6 rfl (fun c5 => ?_) (fun c5 => ?_)
  · replace h := zite_t c5 h
    refine zs_ldc kX5_59 dX5_stepDays_23 ?_
    obtain rfl := Option.some.inj h
    exact zs_iret dX5_stepDays_25 ⟨rfl, rfl⟩
  · replace h := zite_f c5 h
    refine zs_aload_n dX5_stepDays_9 rfl ?_
    refine gX5_9 dX5_stepDays_10 ?_
    refine zs_iload_n dX5_stepDays_13 rfl ?_
    refine zs_bipush (12 : Int32) dX5_stepDays_14 zbipush_12 ?_
    refine zs_imul dX5_stepDays_16 ?_
    refine zs_iload_n dX5_stepDays_17 rfl ?_
    refine zs_iadd dX5_stepDays_18 ?_
    obtain ⟨v3, e4, h⟩ := zbind h
    refine zs_iald dX5_stepDays_19 za_41 e4 ?_
    refine zs_goto 25 dX5_stepDays_20 rfl ?_
    obtain rfl := Option.some.inj h
    exact zs_iret dX5_stepDays_25 ⟨rfl, rfl⟩
def fX5_daysInto (w : zW) (p1 : Int32) (p2 : Int32) (p3 : Int32) : Option Int32 := Option.bind (if (w.1 40 6) = 0 then (some (0 : Int32)) else ((if p2 = (w.1 40 3) then ((if p1 = (w.1 40 4) then ((if (w.1 40 3) = (w.1 40 4) then (some (0 : Int32)) else (Option.bind (fX5_flightFrom w p3) fun v11 => (if v11 = p3 then (some (1 : Int32)) else (some (0 : Int32)))))) else (some (0 : Int32)))) else (some (0 : Int32))))) fun x7 => (if x7 = 0 then (Option.bind (fX5_stepDays w p2 p1) fun v17 => some v17) else (some (1 : Int32)))
set_option maxRecDepth 100000 in
theorem tX5_daysInto {w : zW} {p1 : Int32} {p2 : Int32} {p3 : Int32}  {r : Int32} (h : fX5_daysInto w p1 p2 p3 = some r) : zRun yX5_daysInto cX5_daysInto 5 (some .int) 2 [.ref 40, .int p1, .int p2, .int p3] w (zI r w) := by
  refine zRun.of (k := 1) rfl rfl rfl ?_
  show zWP RX5 cX5_daysInto (zMB 5 (some .int) 2 (zI r w)) 0 [some (.ref 40), some (.int p1), some (.int p2), some (.int p3), none] [] w
  unfold fX5_daysInto at h
  refine zs_aload_n dX5_daysInto_0 rfl ?_
  refine gX5_55 dX5_daysInto_1 ?_
  obtain ⟨x7, m9, h⟩ := zbind h
  have K8 : zWP RX5 cX5_daysInto (zMB 5 (some .int) 2 (zI r w)) 48 [some (.ref 40), some (.int p1), some (.int p2), none, none] [.int x7] w := by
    refine zs_istore [some (.ref 40), some (.int p1), some (.int p2), none, some (.int x7)] dX5_daysInto_48 (Nat.le_of_ble_eq_true rfl) rfl rfl ?_
    refine zs_iload dX5_daysInto_50 rfl ?_
    refine zs_if_eq 59 dX5_daysInto_52 rfl (fun c18 => ?_) (fun c18 => ?_)
    · replace h := zite_t c18 h
      refine zs_aload_n dX5_daysInto_59 rfl ?_
      refine zs_iload_n dX5_daysInto_60 rfl ?_
      refine zs_iload_n dX5_daysInto_61 rfl ?_
      obtain ⟨v17, e16, h⟩ := zbind h
      refine zc_V2i moX5_stepDays mvX5_stepDays kX5_134 rfl dX5_daysInto_62 za_40 (Nat.le_of_ble_eq_true rfl) (zrm (by decide)) (tX5_stepDays e16) ?_
      obtain rfl := Option.some.inj h
      exact zs_iret dX5_daysInto_65 ⟨rfl, rfl⟩
    · replace h := zite_f c18 h
      refine zs_iconst (1 : Int32) dX5_daysInto_55 ziconst_1 ?_
      refine zs_goto 65 dX5_daysInto_56 rfl ?_
      obtain rfl := Option.some.inj h
      exact zs_iret dX5_daysInto_65 ⟨rfl, rfl⟩
  refine zs_if_eq 47 dX5_daysInto_4 rfl (fun c19 => ?_) (fun c19 => ?_)
  · replace m9 := zite_t c19 m9
    refine zs_iconst (0 : Int32) dX5_daysInto_47 ziconst_0 ?_
    refine zs_fo [true, true, true, false, false] rfl ?_
    obtain rfl := Option.some.inj m9
    exact K8
  · replace m9 := zite_f c19 m9
    refine zs_iload_n dX5_daysInto_7 rfl ?_
    refine zs_aload_n dX5_daysInto_8 rfl ?_
    refine gX5_35 dX5_daysInto_9 ?_
    refine zs_icmp_ne 47 dX5_daysInto_12 rfl (fun c15 => ?_) (fun c15 => ?_)
    · replace m9 := zite_f c15 m9
      refine zs_iconst (0 : Int32) dX5_daysInto_47 ziconst_0 ?_
      refine zs_fo [true, true, true, false, false] rfl ?_
      obtain rfl := Option.some.inj m9
      exact K8
    · replace m9 := zite_t c15 m9
      refine zs_iload_n dX5_daysInto_15 rfl ?_
      refine zs_aload_n dX5_daysInto_16 rfl ?_
      refine gX5_41 dX5_daysInto_17 ?_
      refine zs_icmp_ne 47 dX5_daysInto_20 rfl (fun c14 => ?_) (fun c14 => ?_)
      · replace m9 := zite_f c14 m9
        refine zs_iconst (0 : Int32) dX5_daysInto_47 ziconst_0 ?_
        refine zs_fo [true, true, true, false, false] rfl ?_
        obtain rfl := Option.some.inj m9
        exact K8
      · replace m9 := zite_t c14 m9
        refine zs_aload_n dX5_daysInto_23 rfl ?_
        refine gX5_35 dX5_daysInto_24 ?_
        refine zs_aload_n dX5_daysInto_27 rfl ?_
        refine gX5_41 dX5_daysInto_28 ?_
        refine zs_icmp_eq 47 dX5_daysInto_31 rfl (fun c13 => ?_) (fun c13 => ?_)
        · replace m9 := zite_t c13 m9
          refine zs_iconst (0 : Int32) dX5_daysInto_47 ziconst_0 ?_
          refine zs_fo [true, true, true, false, false] rfl ?_
          obtain rfl := Option.some.inj m9
          exact K8
        · replace m9 := zite_f c13 m9
          refine zs_aload_n dX5_daysInto_34 rfl ?_
          refine zs_iload_n dX5_daysInto_35 rfl ?_
          obtain ⟨v11, e10, m9⟩ := zbind m9
          refine zc_V1i moX5_flightFrom mvX5_flightFrom kX5_108 rfl dX5_daysInto_36 za_40 (Nat.le_of_ble_eq_true rfl) (zrm (by decide)) (tX5_flightFrom e10) ?_
          refine zs_iload_n dX5_daysInto_39 rfl ?_
          refine zs_icmp_ne 47 dX5_daysInto_40 rfl (fun c12 => ?_) (fun c12 => ?_)
          · replace m9 := zite_f c12 m9
            refine zs_iconst (0 : Int32) dX5_daysInto_47 ziconst_0 ?_
            refine zs_fo [true, true, true, false, false] rfl ?_
            obtain rfl := Option.some.inj m9
            exact K8
          · replace m9 := zite_t c12 m9
            refine zs_iconst (1 : Int32) dX5_daysInto_43 ziconst_1 ?_
            refine zs_goto 48 dX5_daysInto_44 rfl ?_
            refine zs_fo [true, true, true, false, false] rfl ?_
            obtain rfl := Option.some.inj m9
            exact K8
def fX5_downDays (w : zW) (p1 : Int32) (p2 : Int32) : Option Int32 := Option.bind (fX5_areHere w p1 p2) fun v2 => (if v2 = 0 then (some (1000000 : Int32)) else (Option.bind (zrd w 42 144 ((p1 * (12 : Int32)) + p2)) fun v3 => some v3))
set_option maxRecDepth 100000 in
theorem tX5_downDays {w : zW} {p1 : Int32} {p2 : Int32}  {r : Int32} (h : fX5_downDays w p1 p2 = some r) : zRun yX5_downDays cX5_downDays 3 (some .int) 1 [.ref 40, .int p1, .int p2] w (zI r w) := by
  refine zRun.of (k := 0) rfl rfl rfl ?_
  show zWP RX5 cX5_downDays (zMB 3 (some .int) 1 (zI r w)) 0 [some (.ref 40), some (.int p1), some (.int p2)] [] w
  unfold fX5_downDays at h
  refine zs_aload_n dX5_downDays_0 rfl ?_
  refine zs_iload_n dX5_downDays_1 rfl ?_
  refine zs_iload_n dX5_downDays_2 rfl ?_
  obtain ⟨v2, e1, h⟩ := zbind h
  refine zc_V2i moX5_areHere mvX5_areHere kX5_84 rfl dX5_downDays_3 za_40 (Nat.le_of_ble_eq_true rfl) (zrm (by decide)) (tX5_areHere e1) ?_
  refine zs_if_eq 23 dX5_downDays_6 rfl (fun c5 => ?_) (fun c5 => ?_)
  · replace h := zite_t c5 h
    refine zs_ldc kX5_59 dX5_downDays_23 ?_
    obtain rfl := Option.some.inj h
    exact zs_iret dX5_downDays_25 ⟨rfl, rfl⟩
  · replace h := zite_f c5 h
    refine zs_aload_n dX5_downDays_9 rfl ?_
    refine gX5_15 dX5_downDays_10 ?_
    refine zs_iload_n dX5_downDays_13 rfl ?_
    refine zs_bipush (12 : Int32) dX5_downDays_14 zbipush_12 ?_
    refine zs_imul dX5_downDays_16 ?_
    refine zs_iload_n dX5_downDays_17 rfl ?_
    refine zs_iadd dX5_downDays_18 ?_
    obtain ⟨v3, e4, h⟩ := zbind h
    refine zs_iald dX5_downDays_19 za_42 e4 ?_
    refine zs_goto 25 dX5_downDays_20 rfl ?_
    obtain rfl := Option.some.inj h
    exact zs_iret dX5_downDays_25 ⟨rfl, rfl⟩
def fX5_earliest (w : zW) (p1 : Int32) (p2 : Int32) (p3 : Int32) : Option Int32 := Option.bind (fX5_downDays w p1 p2) fun v2 => Option.bind (if (1000000 : Int32) ≤ v2 then (some (1000000 : Int32)) else (some (p3 + v2))) fun x3 => Option.bind (fX5_downDays w p1 (w.1 40 3)) fun v7 => Option.bind (fX5_downDays w (w.1 40 4) p2) fun v9 => Option.bind (if (w.1 40 6) = 0 then (some x3) else ((if (1000000 : Int32) ≤ v7 then (some x3) else ((if (1000000 : Int32) ≤ v9 then (some x3) else (Option.bind (fX5_flightFrom w (p3 + v7)) fun v20 => Option.bind (some ((zmin x3 ((v20 + (1 : Int32)) + v9)))) fun x21 => some x21)))))) fun x16 => some x16
set_option maxRecDepth 100000 in
theorem tX5_earliest {w : zW} {p1 : Int32} {p2 : Int32} {p3 : Int32}  {r : Int32} (h : fX5_earliest w p1 p2 p3 = some r) : zRun yX5_earliest cX5_earliest 8 (some .int) 2 [.ref 40, .int p1, .int p2, .int p3] w (zI r w) := by
  refine zRun.of (k := 4) rfl rfl rfl ?_
  show zWP RX5 cX5_earliest (zMB 8 (some .int) 2 (zI r w)) 0 [some (.ref 40), some (.int p1), some (.int p2), some (.int p3), none, none, none, none] [] w
  unfold fX5_earliest at h
  refine zs_aload_n dX5_earliest_0 rfl ?_
  refine zs_iload_n dX5_earliest_1 rfl ?_
  refine zs_iload_n dX5_earliest_2 rfl ?_
  obtain ⟨v2, e1, h⟩ := zbind h
  refine zc_V2i moX5_downDays mvX5_downDays kX5_102 rfl dX5_earliest_3 za_40 (Nat.le_of_ble_eq_true rfl) (zrm (by decide)) (tX5_downDays e1) ?_
  refine zs_istore [some (.ref 40), some (.int p1), some (.int p2), some (.int p3), some (.int v2), none, none, none] dX5_earliest_6 (Nat.le_of_ble_eq_true rfl) rfl rfl ?_
  refine zs_iload dX5_earliest_8 rfl ?_
  refine zs_ldc kX5_59 dX5_earliest_10 ?_
  obtain ⟨x3, m5, h⟩ := zbind h
  have K4 : zWP RX5 cX5_earliest (zMB 8 (some .int) 2 (zI r w)) 24 [some (.ref 40), some (.int p1), some (.int p2), some (.int p3), none, none, none, none] [.int x3] w := by
    refine zs_istore [some (.ref 40), some (.int p1), some (.int p2), some (.int p3), none, some (.int x3), none, none] dX5_earliest_24 (Nat.le_of_ble_eq_true rfl) rfl rfl ?_
    refine zs_aload_n dX5_earliest_26 rfl ?_
    refine zs_iload_n dX5_earliest_27 rfl ?_
    refine zs_aload_n dX5_earliest_28 rfl ?_
    refine gX5_35 dX5_earliest_29 ?_
    obtain ⟨v7, e6, h⟩ := zbind h
    refine zc_V2i moX5_downDays mvX5_downDays kX5_102 rfl dX5_earliest_32 za_40 (Nat.le_of_ble_eq_true rfl) (zrm (by decide)) (tX5_downDays e6) ?_
    refine zs_istore [some (.ref 40), some (.int p1), some (.int p2), some (.int p3), none, some (.int x3), some (.int v7), none] dX5_earliest_35 (Nat.le_of_ble_eq_true rfl) rfl rfl ?_
    refine zs_aload_n dX5_earliest_37 rfl ?_
    refine zs_aload_n dX5_earliest_38 rfl ?_
    refine gX5_41 dX5_earliest_39 ?_
    refine zs_iload_n dX5_earliest_42 rfl ?_
    obtain ⟨v9, e8, h⟩ := zbind h
    refine zc_V2i moX5_downDays mvX5_downDays kX5_102 rfl dX5_earliest_43 za_40 (Nat.le_of_ble_eq_true rfl) (zrm (by decide)) (tX5_downDays e8) ?_
    refine zs_istore [some (.ref 40), some (.int p1), some (.int p2), some (.int p3), none, some (.int x3), some (.int v7), some (.int v9)] dX5_earliest_46 (Nat.le_of_ble_eq_true rfl) rfl rfl ?_
    refine zs_aload_n dX5_earliest_48 rfl ?_
    refine gX5_55 dX5_earliest_49 ?_
    obtain ⟨x16, m18, h⟩ := zbind h
    have K17 : zWP RX5 cX5_earliest (zMB 8 (some .int) 2 (zI r w)) 89 [none, none, none, none, none, some (.int x16), none, none] [] w := by
      refine zs_iload dX5_earliest_89 rfl ?_
      obtain rfl := Option.some.inj h
      exact zs_iret dX5_earliest_91 ⟨rfl, rfl⟩
    refine zs_if_eq 89 dX5_earliest_52 rfl (fun c25 => ?_) (fun c25 => ?_)
    · replace m18 := zite_t c25 m18
      refine zs_fo [false, false, false, false, false, true, false, false] rfl ?_
      obtain rfl := Option.some.inj m18
      exact K17
    · replace m18 := zite_f c25 m18
      refine zs_iload dX5_earliest_55 rfl ?_
      refine zs_ldc kX5_59 dX5_earliest_57 ?_
      refine zs_icmp_ge 89 dX5_earliest_59 rfl (fun c24 => ?_) (fun c24 => ?_)
      · replace m18 := zite_t c24 m18
        refine zs_fo [false, false, false, false, false, true, false, false] rfl ?_
        obtain rfl := Option.some.inj m18
        exact K17
      · replace m18 := zite_f c24 m18
        refine zs_iload dX5_earliest_62 rfl ?_
        refine zs_ldc kX5_59 dX5_earliest_64 ?_
        refine zs_icmp_ge 89 dX5_earliest_66 rfl (fun c23 => ?_) (fun c23 => ?_)
        · replace m18 := zite_t c23 m18
          refine zs_fo [false, false, false, false, false, true, false, false] rfl ?_
          obtain rfl := Option.some.inj m18
          exact K17
        · replace m18 := zite_f c23 m18
          refine zs_iload dX5_earliest_69 rfl ?_
          refine zs_aload_n dX5_earliest_71 rfl ?_
          refine zs_iload_n dX5_earliest_72 rfl ?_
          refine zs_iload dX5_earliest_73 rfl ?_
          refine zs_iadd dX5_earliest_75 ?_
          obtain ⟨v20, e19, m18⟩ := zbind m18
          refine zc_V1i moX5_flightFrom mvX5_flightFrom kX5_108 rfl dX5_earliest_76 za_40 (Nat.le_of_ble_eq_true rfl) (zrm (by decide)) (tX5_flightFrom e19) ?_
          refine zs_iconst (1 : Int32) dX5_earliest_79 ziconst_1 ?_
          refine zs_iadd dX5_earliest_80 ?_
          refine zs_iload dX5_earliest_81 rfl ?_
          refine zs_iadd dX5_earliest_83 ?_
          refine zs_min kX5_24 zst_min zin_math zco_min (zrm1 (by decide)) (Nat.le_of_ble_eq_true rfl) dX5_earliest_84 ?_
          obtain ⟨x21, e22, m18⟩ := zbind m18
          refine zs_nmi (Option.some.inj e22) ?_
          refine zs_istore [some (.ref 40), some (.int p1), some (.int p2), some (.int p3), none, some (.int x21), some (.int v7), some (.int v9)] dX5_earliest_87 (Nat.le_of_ble_eq_true rfl) rfl rfl ?_
          refine zs_fo [false, false, false, false, false, true, false, false] rfl ?_
          obtain rfl := Option.some.inj m18
          exact K17
  refine zs_icmp_ge 22 dX5_earliest_12 rfl (fun c26 => ?_) (fun c26 => ?_)
  · replace m5 := zite_t c26 m5
    refine zs_ldc kX5_59 dX5_earliest_22 ?_
    refine zs_fo [true, true, true, true, false, false, false, false] rfl ?_
    obtain rfl := Option.some.inj m5
    exact K4
  · replace m5 := zite_f c26 m5
    refine zs_iload_n dX5_earliest_15 rfl ?_
    refine zs_iload dX5_earliest_16 rfl ?_
    refine zs_iadd dX5_earliest_18 ?_
    refine zs_goto 24 dX5_earliest_19 rfl ?_
    refine zs_fo [true, true, true, true, false, false, false, false] rfl ?_
    obtain rfl := Option.some.inj m5
    exact K4
def lpX5_lookAhead_40 (p1 : Int32) (p2 : Int32) (p3 : Int32) (x7 : Int32) : Nat → zW → Int32 → Option zW
  | 0, _, _ => none
  | n + 1, w13, x12 => (if (w13.1 40 2) ≤ x12 then (some w13) else ((if 0 ≤ (w13.1 40 7) then (some w13) else (Option.bind (fX5_daysInto w13 x12 p1 p3) fun v16 => Option.bind (if (1000000 : Int32) ≤ v16 then (some w13) else (Option.bind (fX5_earliest w13 x12 p2 (p3 + v16)) fun v28 => (if v28 = x7 then (Option.bind (some (zsf w13 40 7 x12)) fun w29 => Option.bind (some (zsf w29 40 8 v16)) fun w31 => some w31) else (some w13)))) fun w24 => lpX5_lookAhead_40 p1 p2 p3 x7 n w24 (x12 + 1)))))
def fX5_lookAhead (w : zW) (p1 : Int32) (p2 : Int32) (p3 : Int32) : Option zW := Option.bind (some (zsf w 40 7 (-1 : Int32))) fun w1 => Option.bind (some (zsf w1 40 8 (0 : Int32))) fun w3 => Option.bind (if p1 = p2 then (some (1000000 : Int32)) else (Option.bind (fX5_earliest w3 p1 p2 p3) fun v11 => some v11)) fun x7 => (if x7 < (1000000 : Int32) then (Option.bind (lpX5_lookAhead_40 p1 p2 p3 x7 zF w3 (0 : Int32)) fun w39 => some w39) else (some w3))
set_option maxRecDepth 100000 in
theorem tlX5_lookAhead_40 {p1 : Int32} {p2 : Int32} {p3 : Int32} {x7 : Int32}  {Q : Option Value → zW → Prop} : ∀ (n : Nat) (w13 : zW) (x12 : Int32) (w14 : zW), lpX5_lookAhead_40 p1 p2 p3 x7 n w13 x12 = some w14 → zWP RX5 cX5_lookAhead (zMB 7 none 3 Q) 107 [none, none, none, none, none, none, none] [] w14 → zWP RX5 cX5_lookAhead (zMB 7 none 3 Q) 40 [some (.ref 40), some (.int p1), some (.int p2), some (.int p3), some (.int x7), some (.int x12), none] [] w13 := by
  intro n
  induction n with
  | zero => intro w13 x12 w14 h K; simp [lpX5_lookAhead_40] at h
  | succ n ih =>
    intro w13 x12 w14 h K
    rw [lpX5_lookAhead_40] at h
    refine zs_iload dX5_lookAhead_40 rfl ?_
    refine zs_aload_n dX5_lookAhead_42 rfl ?_
    refine gX5_30 dX5_lookAhead_43 ?_
    refine zs_icmp_ge 107 dX5_lookAhead_46 rfl (fun c36 => ?_) (fun c36 => ?_)
    · replace h := zite_t c36 h
      refine zs_fo [false, false, false, false, false, false, false] rfl ?_
      obtain rfl := Option.some.inj h
      exact K
    · replace h := zite_f c36 h
      refine zs_aload_n dX5_lookAhead_49 rfl ?_
      refine gX5_125 dX5_lookAhead_50 ?_
      refine zs_if_ge 107 dX5_lookAhead_53 rfl (fun c35 => ?_) (fun c35 => ?_)
      · replace h := zite_t c35 h
        refine zs_fo [false, false, false, false, false, false, false] rfl ?_
        obtain rfl := Option.some.inj h
        exact K
      · replace h := zite_f c35 h
        refine zs_aload_n dX5_lookAhead_56 rfl ?_
        refine zs_iload dX5_lookAhead_57 rfl ?_
        refine zs_iload_n dX5_lookAhead_59 rfl ?_
        refine zs_iload_n dX5_lookAhead_60 rfl ?_
        obtain ⟨v16, e15, h⟩ := zbind h
        refine zc_V3i moX5_daysInto mvX5_daysInto kX5_131 rfl dX5_lookAhead_61 za_40 (Nat.le_of_ble_eq_true rfl) (zrm (by decide)) (tX5_daysInto e15) ?_
        refine zs_istore [some (.ref 40), some (.int p1), some (.int p2), some (.int p3), some (.int x7), some (.int x12), some (.int v16)] dX5_lookAhead_64 (Nat.le_of_ble_eq_true rfl) rfl rfl ?_
        refine zs_iload dX5_lookAhead_66 rfl ?_
        refine zs_ldc kX5_59 dX5_lookAhead_68 ?_
        obtain ⟨w24, m26, h⟩ := zbind h
        have K25 : zWP RX5 cX5_lookAhead (zMB 7 none 3 Q) 101 [some (.ref 40), some (.int p1), some (.int p2), some (.int p3), some (.int x7), some (.int x12), none] [] w24 := by
          refine zs_iinc (x12 + 1) [some (.ref 40), some (.int p1), some (.int p2), some (.int p3), some (.int x7), some (.int (x12 + 1)), none] dX5_lookAhead_101 rfl rfl (Nat.le_of_ble_eq_true rfl) rfl rfl ?_
          refine zs_goto 40 dX5_lookAhead_104 rfl ?_
          exact ih _ _ _ h K
        refine zs_icmp_ge 101 dX5_lookAhead_70 rfl (fun c34 => ?_) (fun c34 => ?_)
        · replace m26 := zite_t c34 m26
          refine zs_fo [true, true, true, true, true, true, false] rfl ?_
          obtain rfl := Option.some.inj m26
          exact K25
        · replace m26 := zite_f c34 m26
          refine zs_aload_n dX5_lookAhead_73 rfl ?_
          refine zs_iload dX5_lookAhead_74 rfl ?_
          refine zs_iload_n dX5_lookAhead_76 rfl ?_
          refine zs_iload_n dX5_lookAhead_77 rfl ?_
          refine zs_iload dX5_lookAhead_78 rfl ?_
          refine zs_iadd dX5_lookAhead_80 ?_
          obtain ⟨v28, e27, m26⟩ := zbind m26
          refine zc_V3i moX5_earliest mvX5_earliest kX5_112 rfl dX5_lookAhead_81 za_40 (Nat.le_of_ble_eq_true rfl) (zrm (by decide)) (tX5_earliest e27) ?_
          refine zs_iload dX5_lookAhead_84 rfl ?_
          refine zs_icmp_ne 101 dX5_lookAhead_86 rfl (fun c33 => ?_) (fun c33 => ?_)
          · replace m26 := zite_f c33 m26
            refine zs_fo [true, true, true, true, true, true, false] rfl ?_
            obtain rfl := Option.some.inj m26
            exact K25
          · replace m26 := zite_t c33 m26
            refine zs_aload_n dX5_lookAhead_89 rfl ?_
            refine zs_iload dX5_lookAhead_90 rfl ?_
            obtain ⟨w29, e30, m26⟩ := zbind m26
            refine pX5_125 dX5_lookAhead_92 ?_
            refine zs_nmw (Option.some.inj e30) ?_
            refine zs_aload_n dX5_lookAhead_95 rfl ?_
            refine zs_iload dX5_lookAhead_96 rfl ?_
            obtain ⟨w31, e32, m26⟩ := zbind m26
            refine pX5_128 dX5_lookAhead_98 ?_
            refine zs_nmw (Option.some.inj e32) ?_
            refine zs_fo [true, true, true, true, true, true, false] rfl ?_
            obtain rfl := Option.some.inj m26
            exact K25
set_option maxRecDepth 100000 in
theorem tX5_lookAhead {w : zW} {p1 : Int32} {p2 : Int32} {p3 : Int32}   {w' : zW} (h : fX5_lookAhead w p1 p2 p3 = some w') : zRun yX5_lookAhead cX5_lookAhead 7 none 3 [.ref 40, .int p1, .int p2, .int p3] w (zV w') := by
  refine zRun.of (k := 3) rfl rfl rfl ?_
  show zWP RX5 cX5_lookAhead (zMB 7 none 3 (zV w')) 0 [some (.ref 40), some (.int p1), some (.int p2), some (.int p3), none, none, none] [] w
  unfold fX5_lookAhead at h
  refine zs_aload_n dX5_lookAhead_0 rfl ?_
  refine zs_iconst (-1 : Int32) dX5_lookAhead_1 ziconst_m1 ?_
  obtain ⟨w1, e2, h⟩ := zbind h
  refine pX5_125 dX5_lookAhead_2 ?_
  refine zs_nmw (Option.some.inj e2) ?_
  refine zs_aload_n dX5_lookAhead_5 rfl ?_
  refine zs_iconst (0 : Int32) dX5_lookAhead_6 ziconst_0 ?_
  obtain ⟨w3, e4, h⟩ := zbind h
  refine pX5_128 dX5_lookAhead_7 ?_
  refine zs_nmw (Option.some.inj e4) ?_
  refine zs_iload_n dX5_lookAhead_10 rfl ?_
  refine zs_iload_n dX5_lookAhead_11 rfl ?_
  obtain ⟨x7, m9, h⟩ := zbind h
  have K8 : zWP RX5 cX5_lookAhead (zMB 7 none 3 (zV w')) 27 [some (.ref 40), some (.int p1), some (.int p2), some (.int p3), none, none, none] [.int x7] w3 := by
    refine zs_istore [some (.ref 40), some (.int p1), some (.int p2), some (.int p3), some (.int x7), none, none] dX5_lookAhead_27 (Nat.le_of_ble_eq_true rfl) rfl rfl ?_
    refine zs_iload dX5_lookAhead_29 rfl ?_
    refine zs_ldc kX5_59 dX5_lookAhead_31 ?_
    refine zs_icmp_lt 37 dX5_lookAhead_33 rfl (fun c40 => ?_) (fun c40 => ?_)
    · replace h := zite_t c40 h
      refine zs_iconst (0 : Int32) dX5_lookAhead_37 ziconst_0 ?_
      refine zs_istore [some (.ref 40), some (.int p1), some (.int p2), some (.int p3), some (.int x7), some (.int (0 : Int32)), none] dX5_lookAhead_38 (Nat.le_of_ble_eq_true rfl) rfl rfl ?_
      obtain ⟨w39, e37, h⟩ := zbind h
      have K38 : zWP RX5 cX5_lookAhead (zMB 7 none 3 (zV w')) 107 [none, none, none, none, none, none, none] [] w39 := by
        obtain rfl := Option.some.inj h
        exact zs_vret dX5_lookAhead_107 ⟨rfl, rfl⟩
      exact tlX5_lookAhead_40  zF _ _ _ e37 K38
    · replace h := zite_f c40 h
      obtain rfl := Option.some.inj h
      exact zs_vret dX5_lookAhead_36 ⟨rfl, rfl⟩
  refine zs_icmp_ne 20 dX5_lookAhead_12 rfl (fun c41 => ?_) (fun c41 => ?_)
  · replace m9 := zite_f c41 m9
    refine zs_aload_n dX5_lookAhead_20 rfl ?_
    refine zs_iload_n dX5_lookAhead_21 rfl ?_
    refine zs_iload_n dX5_lookAhead_22 rfl ?_
    refine zs_iload_n dX5_lookAhead_23 rfl ?_
    obtain ⟨v11, e10, m9⟩ := zbind m9
    refine zc_V3i moX5_earliest mvX5_earliest kX5_112 rfl dX5_lookAhead_24 za_40 (Nat.le_of_ble_eq_true rfl) (zrm (by decide)) (tX5_earliest e10) ?_
    obtain rfl := Option.some.inj m9
    exact K8
  · replace m9 := zite_t c41 m9
    refine zs_ldc kX5_59 dX5_lookAhead_15 ?_
    refine zs_goto 27 dX5_lookAhead_17 rfl ?_
    obtain rfl := Option.some.inj m9
    exact K8
def fX0_passDay (w : zW) (o0 : Nat) (p1 : Int32) (p3 : Int32) : Option zW := Option.bind (fX0_hasLetter w o0 p1) fun v2 => (if v2 = 0 then (some w) else (Option.bind (zrd w (o0 + 9) 10 p1) fun v3 => Option.bind (if v3 = 0 then (Option.bind (zrd w (o0 + 6) 10 p1) fun v19 => Option.bind (zrd w (o0 + 7) 10 p1) fun v21 => Option.bind (fX5_lookAhead w v19 v21 p3) fun w24 => (if (w24.1 40 7) < 0 then (some w24) else (Option.bind (zwr w24 (o0 + 6) 10 p1 (w24.1 40 7)) fun w25 => Option.bind (zwr w25 (o0 + 9) 10 p1 (w25.1 40 8)) fun w27 => some w27))) else (some w)) fun w16 => Option.bind (zrd w16 (o0 + 9) 10 p1) fun v30 => (if v30 ≤ 0 then (some w16) else (Option.bind (zrd w16 (o0 + 9) 10 p1) fun v32 => Option.bind (zwr w16 (o0 + 9) 10 p1 (v32 - (1 : Int32))) fun w34 => some w34))))
set_option maxRecDepth 100000 in
theorem tX0_passDay {w : zW} {o0 : Nat} {p1 : Int32} {p3 : Int32} (ho0 : zIsLand o0)  {w' : zW} (h : fX0_passDay w o0 p1 p3 = some w') : zRun yX0_passDay cX0_passDay 4 none 4 [.ref o0, .int p1, .ref 40, .int p3] w (zV w') := by
  refine zRun.of (k := 0) rfl rfl rfl ?_
  show zWP RX0 cX0_passDay (zMB 4 none 4 (zV w')) 0 [some (.ref o0), some (.int p1), some (.ref 40), some (.int p3)] [] w
  unfold fX0_passDay at h
  refine zs_aload_n dX0_passDay_0 rfl ?_
  refine zs_iload_n dX0_passDay_1 rfl ?_
  obtain ⟨v2, e1, h⟩ := zbind h
  refine zc_V1i moX0_hasLetter mvX0_hasLetter kX0_109 rfl dX0_passDay_2 (za_L ho0) (Nat.le_of_ble_eq_true rfl) (zrm (by decide)) (tX0_hasLetter ho0 e1) ?_
  refine zs_if_ne 9 dX0_passDay_5 rfl (fun c38 => ?_) (fun c38 => ?_)
  · replace h := zite_f c38 h
    refine zs_aload_n dX0_passDay_9 rfl ?_
    refine gX0_40 ho0 dX0_passDay_10 ?_
    refine zs_iload_n dX0_passDay_13 rfl ?_
    obtain ⟨v3, e4, h⟩ := zbind h
    refine zs_iald dX0_passDay_14 (za_L9 ho0) e4 ?_
    obtain ⟨w16, m18, h⟩ := zbind h
    have K17 : zWP RX0 cX0_passDay (zMB 4 none 4 (zV w')) 62 [some (.ref o0), some (.int p1), none, none] [] w16 := by
      refine zs_aload_n dX0_passDay_62 rfl ?_
      refine gX0_40 ho0 dX0_passDay_63 ?_
      refine zs_iload_n dX0_passDay_66 rfl ?_
      obtain ⟨v30, e31, h⟩ := zbind h
      refine zs_iald dX0_passDay_67 (za_L9 ho0) e31 ?_
      refine zs_if_le 81 dX0_passDay_68 rfl (fun c36 => ?_) (fun c36 => ?_)
      · replace h := zite_t c36 h
        obtain rfl := Option.some.inj h
        exact zs_vret dX0_passDay_81 ⟨rfl, rfl⟩
      · replace h := zite_f c36 h
        refine zs_aload_n dX0_passDay_71 rfl ?_
        refine gX0_40 ho0 dX0_passDay_72 ?_
        refine zs_iload_n dX0_passDay_75 rfl ?_
        refine zs_dup2 dX0_passDay_76 rfl rfl ?_
        obtain ⟨v32, e33, h⟩ := zbind h
        refine zs_iald dX0_passDay_77 (za_L9 ho0) e33 ?_
        refine zs_iconst (1 : Int32) dX0_passDay_78 ziconst_1 ?_
        refine zs_isub dX0_passDay_79 ?_
        obtain ⟨w34, e35, h⟩ := zbind h
        refine zs_iast dX0_passDay_80 (za_L9 ho0) e35 ?_
        obtain rfl := Option.some.inj h
        exact zs_vret dX0_passDay_81 ⟨rfl, rfl⟩
    refine zs_if_ne 62 dX0_passDay_15 rfl (fun c37 => ?_) (fun c37 => ?_)
    · replace m18 := zite_f c37 m18
      refine zs_fo [true, true, false, false] rfl ?_
      obtain rfl := Option.some.inj m18
      exact K17
    · replace m18 := zite_t c37 m18
      refine zs_aload_n dX0_passDay_18 rfl ?_
      refine zs_aload_n dX0_passDay_19 rfl ?_
      refine gX0_31 ho0 dX0_passDay_20 ?_
      refine zs_iload_n dX0_passDay_23 rfl ?_
      obtain ⟨v19, e20, m18⟩ := zbind m18
      refine zs_iald dX0_passDay_24 (za_L6 ho0) e20 ?_
      refine zs_aload_n dX0_passDay_25 rfl ?_
      refine gX0_34 ho0 dX0_passDay_26 ?_
      refine zs_iload_n dX0_passDay_29 rfl ?_
      obtain ⟨v21, e22, m18⟩ := zbind m18
      refine zs_iald dX0_passDay_30 (za_L7 ho0) e22 ?_
      refine zs_iload_n dX0_passDay_31 rfl ?_
      obtain ⟨w24, e23, m18⟩ := zbind m18
      refine zc_V3v moX5_lookAhead mvX5_lookAhead kX0_118 rfl dX0_passDay_32 za_40 (Nat.le_of_ble_eq_true rfl) (zrm (by decide)) (tX5_lookAhead e23) ?_
      refine zs_aload_n dX0_passDay_35 rfl ?_
      refine gX0_124 dX0_passDay_36 ?_
      refine zs_if_lt 62 dX0_passDay_39 rfl (fun c29 => ?_) (fun c29 => ?_)
      · replace m18 := zite_t c29 m18
        refine zs_fo [true, true, false, false] rfl ?_
        obtain rfl := Option.some.inj m18
        exact K17
      · replace m18 := zite_f c29 m18
        refine zs_aload_n dX0_passDay_42 rfl ?_
        refine gX0_31 ho0 dX0_passDay_43 ?_
        refine zs_iload_n dX0_passDay_46 rfl ?_
        refine zs_aload_n dX0_passDay_47 rfl ?_
        refine gX0_124 dX0_passDay_48 ?_
        obtain ⟨w25, e26, m18⟩ := zbind m18
        refine zs_iast dX0_passDay_51 (za_L6 ho0) e26 ?_
        refine zs_aload_n dX0_passDay_52 rfl ?_
        refine gX0_40 ho0 dX0_passDay_53 ?_
        refine zs_iload_n dX0_passDay_56 rfl ?_
        refine zs_aload_n dX0_passDay_57 rfl ?_
        refine gX0_127 dX0_passDay_58 ?_
        obtain ⟨w27, e28, m18⟩ := zbind m18
        refine zs_iast dX0_passDay_61 (za_L9 ho0) e28 ?_
        refine zs_fo [true, true, false, false] rfl ?_
        obtain rfl := Option.some.inj m18
        exact K17
  · replace h := zite_t c38 h
    obtain rfl := Option.some.inj h
    exact zs_vret dX0_passDay_8 ⟨rfl, rfl⟩
def fX5_comesDown (w : zW) (p1 : Int32) (p2 : Int32) : Option Int32 := Option.bind (fX5_downDays w p1 p2) fun v2 => (if (1000000 : Int32) ≤ v2 then (some (0 : Int32)) else (some (1 : Int32)))
set_option maxRecDepth 100000 in
theorem tX5_comesDown {w : zW} {p1 : Int32} {p2 : Int32}  {r : Int32} (h : fX5_comesDown w p1 p2 = some r) : zRun yX5_comesDown cX5_comesDown 3 (some .boolean) 2 [.ref 40, .int p1, .int p2] w (zI r w) := by
  refine zRun.of (k := 0) rfl rfl rfl ?_
  show zWP RX5 cX5_comesDown (zMB 3 (some .boolean) 2 (zI r w)) 0 [some (.ref 40), some (.int p1), some (.int p2)] [] w
  unfold fX5_comesDown at h
  refine zs_aload_n dX5_comesDown_0 rfl ?_
  refine zs_iload_n dX5_comesDown_1 rfl ?_
  refine zs_iload_n dX5_comesDown_2 rfl ?_
  obtain ⟨v2, e1, h⟩ := zbind h
  refine zc_V2i moX5_downDays mvX5_downDays kX5_102 rfl dX5_comesDown_3 za_40 (Nat.le_of_ble_eq_true rfl) (zrm (by decide)) (tX5_downDays e1) ?_
  refine zs_ldc kX5_59 dX5_comesDown_6 ?_
  refine zs_icmp_ge 15 dX5_comesDown_8 rfl (fun c3 => ?_) (fun c3 => ?_)
  · replace h := zite_t c3 h
    refine zs_iconst (0 : Int32) dX5_comesDown_15 ziconst_0 ?_
    obtain rfl := Option.some.inj h
    exact zs_bret dX5_comesDown_16 (Or.inl rfl) ⟨rfl, rfl⟩
  · replace h := zite_f c3 h
    refine zs_iconst (1 : Int32) dX5_comesDown_11 ziconst_1 ?_
    refine zs_goto 16 dX5_comesDown_12 rfl ?_
    obtain rfl := Option.some.inj h
    exact zs_bret dX5_comesDown_16 (Or.inr rfl) ⟨rfl, rfl⟩
def lpX5_allDownFrom_4 (w : zW) (p1 : Int32) : Nat → Int32 → Int32 → Option Int32
  | 0, _, _ => none
  | n + 1, x1, x2 => (if (w.1 40 2) ≤ x2 then (some x1) else (Option.bind (fX5_comesDown w p1 x2) fun v5 => Option.bind (if v5 = 0 then (some x1) else (Option.bind (some ((x1 ||| ((1 : Int32) <<< (x2 &&& 31))))) fun x11 => some x11)) fun x8 => lpX5_allDownFrom_4 w p1 n x8 (x2 + 1)))
def fX5_allDownFrom (w : zW) (p1 : Int32) : Option Int32 := Option.bind (lpX5_allDownFrom_4 w p1 zF (0 : Int32) (0 : Int32)) fun y17 => some y17
set_option maxRecDepth 100000 in
theorem tlX5_allDownFrom_4 {w : zW} {p1 : Int32}  {Q : Option Value → zW → Prop} : ∀ (n : Nat) (x1 : Int32) (x2 : Int32) (y3 : Int32), lpX5_allDownFrom_4 w p1 n x1 x2 = some y3 → zWP RX5 cX5_allDownFrom (zMB 4 (some .int) 3 Q) 33 [none, none, some (.int y3), none] [] w → zWP RX5 cX5_allDownFrom (zMB 4 (some .int) 3 Q) 4 [some (.ref 40), some (.int p1), some (.int x1), some (.int x2)] [] w := by
  intro n
  induction n with
  | zero => intro x1 x2 y3 h K; simp [lpX5_allDownFrom_4] at h
  | succ n ih =>
    intro x1 x2 y3 h K
    rw [lpX5_allDownFrom_4] at h
    refine zs_iload_n dX5_allDownFrom_4 rfl ?_
    refine zs_aload_n dX5_allDownFrom_5 rfl ?_
    refine gX5_30 dX5_allDownFrom_6 ?_
    refine zs_icmp_ge 33 dX5_allDownFrom_9 rfl (fun c14 => ?_) (fun c14 => ?_)
    · replace h := zite_t c14 h
      refine zs_fo [false, false, true, false] rfl ?_
      obtain rfl := Option.some.inj h
      exact K
    · replace h := zite_f c14 h
      refine zs_aload_n dX5_allDownFrom_12 rfl ?_
      refine zs_iload_n dX5_allDownFrom_13 rfl ?_
      refine zs_iload_n dX5_allDownFrom_14 rfl ?_
      obtain ⟨v5, e4, h⟩ := zbind h
      refine zc_V2i moX5_comesDown mvX5_comesDown kX5_105 rfl dX5_allDownFrom_15 za_40 (Nat.le_of_ble_eq_true rfl) (zrm (by decide)) (tX5_comesDown e4) ?_
      obtain ⟨x8, m10, h⟩ := zbind h
      have K9 : zWP RX5 cX5_allDownFrom (zMB 4 (some .int) 3 Q) 27 [some (.ref 40), some (.int p1), some (.int x8), some (.int x2)] [] w := by
        refine zs_iinc (x2 + 1) [some (.ref 40), some (.int p1), some (.int x8), some (.int (x2 + 1))] dX5_allDownFrom_27 rfl rfl (Nat.le_of_ble_eq_true rfl) rfl rfl ?_
        refine zs_goto 4 dX5_allDownFrom_30 rfl ?_
        exact ih _ _ _ h K
      refine zs_if_eq 27 dX5_allDownFrom_18 rfl (fun c13 => ?_) (fun c13 => ?_)
      · replace m10 := zite_t c13 m10
        obtain rfl := Option.some.inj m10
        exact K9
      · replace m10 := zite_f c13 m10
        refine zs_iload_n dX5_allDownFrom_21 rfl ?_
        refine zs_iconst (1 : Int32) dX5_allDownFrom_22 ziconst_1 ?_
        refine zs_iload_n dX5_allDownFrom_23 rfl ?_
        refine zs_ishl dX5_allDownFrom_24 ?_
        refine zs_ior dX5_allDownFrom_25 ?_
        obtain ⟨x11, e12, m10⟩ := zbind m10
        refine zs_nmi (Option.some.inj e12) ?_
        refine zs_istore_n [some (.ref 40), some (.int p1), some (.int x11), some (.int x2)] dX5_allDownFrom_26 (Nat.le_of_ble_eq_true rfl) rfl rfl ?_
        obtain rfl := Option.some.inj m10
        exact K9
set_option maxRecDepth 100000 in
theorem tX5_allDownFrom {w : zW} {p1 : Int32}  {r : Int32} (h : fX5_allDownFrom w p1 = some r) : zRun yX5_allDownFrom cX5_allDownFrom 4 (some .int) 3 [.ref 40, .int p1] w (zI r w) := by
  refine zRun.of (k := 2) rfl rfl rfl ?_
  show zWP RX5 cX5_allDownFrom (zMB 4 (some .int) 3 (zI r w)) 0 [some (.ref 40), some (.int p1), none, none] [] w
  unfold fX5_allDownFrom at h
  refine zs_iconst (0 : Int32) dX5_allDownFrom_0 ziconst_0 ?_
  refine zs_istore_n [some (.ref 40), some (.int p1), some (.int (0 : Int32)), none] dX5_allDownFrom_1 (Nat.le_of_ble_eq_true rfl) rfl rfl ?_
  refine zs_iconst (0 : Int32) dX5_allDownFrom_2 ziconst_0 ?_
  refine zs_istore_n [some (.ref 40), some (.int p1), some (.int (0 : Int32)), some (.int (0 : Int32))] dX5_allDownFrom_3 (Nat.le_of_ble_eq_true rfl) rfl rfl ?_
  obtain ⟨y17, e15, h⟩ := zbind h
  have K16 : zWP RX5 cX5_allDownFrom (zMB 4 (some .int) 3 (zI r w)) 33 [none, none, some (.int y17), none] [] w := by
    refine zs_iload_n dX5_allDownFrom_33 rfl ?_
    obtain rfl := Option.some.inj h
    exact zs_iret dX5_allDownFrom_34 ⟨rfl, rfl⟩
  exact tlX5_allDownFrom_4  zF _ _ _ e15 K16
def fX5_comes (w : zW) (p1 : Int32) (p2 : Int32) : Option Int32 := Option.bind (fX5_comesDown w p1 p2) fun v2 => (if v2 = 0 then ((if (w.1 40 6) = 0 then (some (0 : Int32)) else (Option.bind (fX5_comesDown w p1 (w.1 40 3)) fun v4 => (if v4 = 0 then (some (0 : Int32)) else (Option.bind (fX5_comesDown w (w.1 40 4) p2) fun v6 => (if v6 = 0 then (some (0 : Int32)) else (some (1 : Int32)))))))) else (some (1 : Int32)))
set_option maxRecDepth 100000 in
theorem tX5_comes {w : zW} {p1 : Int32} {p2 : Int32}  {r : Int32} (h : fX5_comes w p1 p2 = some r) : zRun yX5_comes cX5_comes 3 (some .boolean) 3 [.ref 40, .int p1, .int p2] w (zI r w) := by
  refine zRun.of (k := 0) rfl rfl rfl ?_
  show zWP RX5 cX5_comes (zMB 3 (some .boolean) 3 (zI r w)) 0 [some (.ref 40), some (.int p1), some (.int p2)] [] w
  unfold fX5_comes at h
  refine zs_aload_n dX5_comes_0 rfl ?_
  refine zs_iload_n dX5_comes_1 rfl ?_
  refine zs_iload_n dX5_comes_2 rfl ?_
  obtain ⟨v2, e1, h⟩ := zbind h
  refine zc_V2i moX5_comesDown mvX5_comesDown kX5_105 rfl dX5_comes_3 za_40 (Nat.le_of_ble_eq_true rfl) (zrm (by decide)) (tX5_comesDown e1) ?_
  refine zs_if_ne 40 dX5_comes_6 rfl (fun c10 => ?_) (fun c10 => ?_)
  · replace h := zite_f c10 h
    refine zs_iconst (1 : Int32) dX5_comes_40 ziconst_1 ?_
    refine zs_goto 45 dX5_comes_41 rfl ?_
    obtain rfl := Option.some.inj h
    exact zs_bret dX5_comes_45 (Or.inr rfl) ⟨rfl, rfl⟩
  · replace h := zite_t c10 h
    refine zs_aload_n dX5_comes_9 rfl ?_
    refine gX5_55 dX5_comes_10 ?_
    refine zs_if_eq 44 dX5_comes_13 rfl (fun c9 => ?_) (fun c9 => ?_)
    · replace h := zite_t c9 h
      refine zs_iconst (0 : Int32) dX5_comes_44 ziconst_0 ?_
      obtain rfl := Option.some.inj h
      exact zs_bret dX5_comes_45 (Or.inl rfl) ⟨rfl, rfl⟩
    · replace h := zite_f c9 h
      refine zs_aload_n dX5_comes_16 rfl ?_
      refine zs_iload_n dX5_comes_17 rfl ?_
      refine zs_aload_n dX5_comes_18 rfl ?_
      refine gX5_35 dX5_comes_19 ?_
      obtain ⟨v4, e3, h⟩ := zbind h
      refine zc_V2i moX5_comesDown mvX5_comesDown kX5_105 rfl dX5_comes_22 za_40 (Nat.le_of_ble_eq_true rfl) (zrm (by decide)) (tX5_comesDown e3) ?_
      refine zs_if_eq 44 dX5_comes_25 rfl (fun c8 => ?_) (fun c8 => ?_)
      · replace h := zite_t c8 h
        refine zs_iconst (0 : Int32) dX5_comes_44 ziconst_0 ?_
        obtain rfl := Option.some.inj h
        exact zs_bret dX5_comes_45 (Or.inl rfl) ⟨rfl, rfl⟩
      · replace h := zite_f c8 h
        refine zs_aload_n dX5_comes_28 rfl ?_
        refine zs_aload_n dX5_comes_29 rfl ?_
        refine gX5_41 dX5_comes_30 ?_
        refine zs_iload_n dX5_comes_33 rfl ?_
        obtain ⟨v6, e5, h⟩ := zbind h
        refine zc_V2i moX5_comesDown mvX5_comesDown kX5_105 rfl dX5_comes_34 za_40 (Nat.le_of_ble_eq_true rfl) (zrm (by decide)) (tX5_comesDown e5) ?_
        refine zs_if_eq 44 dX5_comes_37 rfl (fun c7 => ?_) (fun c7 => ?_)
        · replace h := zite_t c7 h
          refine zs_iconst (0 : Int32) dX5_comes_44 ziconst_0 ?_
          obtain rfl := Option.some.inj h
          exact zs_bret dX5_comes_45 (Or.inl rfl) ⟨rfl, rfl⟩
        · replace h := zite_f c7 h
          refine zs_iconst (1 : Int32) dX5_comes_40 ziconst_1 ?_
          refine zs_goto 45 dX5_comes_41 rfl ?_
          obtain rfl := Option.some.inj h
          exact zs_bret dX5_comes_45 (Or.inr rfl) ⟨rfl, rfl⟩
def lpX5_allFrom_4 (w : zW) (p1 : Int32) : Nat → Int32 → Int32 → Option Int32
  | 0, _, _ => none
  | n + 1, x1, x2 => (if (w.1 40 2) ≤ x2 then (some x1) else (Option.bind (fX5_comes w p1 x2) fun v5 => Option.bind (if v5 = 0 then (some x1) else (Option.bind (some ((x1 ||| ((1 : Int32) <<< (x2 &&& 31))))) fun x11 => some x11)) fun x8 => lpX5_allFrom_4 w p1 n x8 (x2 + 1)))
def fX5_allFrom (w : zW) (p1 : Int32) : Option Int32 := Option.bind (lpX5_allFrom_4 w p1 zF (0 : Int32) (0 : Int32)) fun y17 => some y17
set_option maxRecDepth 100000 in
theorem tlX5_allFrom_4 {w : zW} {p1 : Int32}  {Q : Option Value → zW → Prop} : ∀ (n : Nat) (x1 : Int32) (x2 : Int32) (y3 : Int32), lpX5_allFrom_4 w p1 n x1 x2 = some y3 → zWP RX5 cX5_allFrom (zMB 4 (some .int) 4 Q) 33 [none, none, some (.int y3), none] [] w → zWP RX5 cX5_allFrom (zMB 4 (some .int) 4 Q) 4 [some (.ref 40), some (.int p1), some (.int x1), some (.int x2)] [] w := by
  intro n
  induction n with
  | zero => intro x1 x2 y3 h K; simp [lpX5_allFrom_4] at h
  | succ n ih =>
    intro x1 x2 y3 h K
    rw [lpX5_allFrom_4] at h
    refine zs_iload_n dX5_allFrom_4 rfl ?_
    refine zs_aload_n dX5_allFrom_5 rfl ?_
    refine gX5_30 dX5_allFrom_6 ?_
    refine zs_icmp_ge 33 dX5_allFrom_9 rfl (fun c14 => ?_) (fun c14 => ?_)
    · replace h := zite_t c14 h
      refine zs_fo [false, false, true, false] rfl ?_
      obtain rfl := Option.some.inj h
      exact K
    · replace h := zite_f c14 h
      refine zs_aload_n dX5_allFrom_12 rfl ?_
      refine zs_iload_n dX5_allFrom_13 rfl ?_
      refine zs_iload_n dX5_allFrom_14 rfl ?_
      obtain ⟨v5, e4, h⟩ := zbind h
      refine zc_V2i moX5_comes mvX5_comes kX5_116 rfl dX5_allFrom_15 za_40 (Nat.le_of_ble_eq_true rfl) (zrm (by decide)) (tX5_comes e4) ?_
      obtain ⟨x8, m10, h⟩ := zbind h
      have K9 : zWP RX5 cX5_allFrom (zMB 4 (some .int) 4 Q) 27 [some (.ref 40), some (.int p1), some (.int x8), some (.int x2)] [] w := by
        refine zs_iinc (x2 + 1) [some (.ref 40), some (.int p1), some (.int x8), some (.int (x2 + 1))] dX5_allFrom_27 rfl rfl (Nat.le_of_ble_eq_true rfl) rfl rfl ?_
        refine zs_goto 4 dX5_allFrom_30 rfl ?_
        exact ih _ _ _ h K
      refine zs_if_eq 27 dX5_allFrom_18 rfl (fun c13 => ?_) (fun c13 => ?_)
      · replace m10 := zite_t c13 m10
        obtain rfl := Option.some.inj m10
        exact K9
      · replace m10 := zite_f c13 m10
        refine zs_iload_n dX5_allFrom_21 rfl ?_
        refine zs_iconst (1 : Int32) dX5_allFrom_22 ziconst_1 ?_
        refine zs_iload_n dX5_allFrom_23 rfl ?_
        refine zs_ishl dX5_allFrom_24 ?_
        refine zs_ior dX5_allFrom_25 ?_
        obtain ⟨x11, e12, m10⟩ := zbind m10
        refine zs_nmi (Option.some.inj e12) ?_
        refine zs_istore_n [some (.ref 40), some (.int p1), some (.int x11), some (.int x2)] dX5_allFrom_26 (Nat.le_of_ble_eq_true rfl) rfl rfl ?_
        obtain rfl := Option.some.inj m10
        exact K9
set_option maxRecDepth 100000 in
theorem tX5_allFrom {w : zW} {p1 : Int32}  {r : Int32} (h : fX5_allFrom w p1 = some r) : zRun yX5_allFrom cX5_allFrom 4 (some .int) 4 [.ref 40, .int p1] w (zI r w) := by
  refine zRun.of (k := 2) rfl rfl rfl ?_
  show zWP RX5 cX5_allFrom (zMB 4 (some .int) 4 (zI r w)) 0 [some (.ref 40), some (.int p1), none, none] [] w
  unfold fX5_allFrom at h
  refine zs_iconst (0 : Int32) dX5_allFrom_0 ziconst_0 ?_
  refine zs_istore_n [some (.ref 40), some (.int p1), some (.int (0 : Int32)), none] dX5_allFrom_1 (Nat.le_of_ble_eq_true rfl) rfl rfl ?_
  refine zs_iconst (0 : Int32) dX5_allFrom_2 ziconst_0 ?_
  refine zs_istore_n [some (.ref 40), some (.int p1), some (.int (0 : Int32)), some (.int (0 : Int32))] dX5_allFrom_3 (Nat.le_of_ble_eq_true rfl) rfl rfl ?_
  obtain ⟨y17, e15, h⟩ := zbind h
  have K16 : zWP RX5 cX5_allFrom (zMB 4 (some .int) 4 (zI r w)) 33 [none, none, some (.int y17), none] [] w := by
    refine zs_iload_n dX5_allFrom_33 rfl ?_
    obtain rfl := Option.some.inj h
    exact zs_iret dX5_allFrom_34 ⟨rfl, rfl⟩
  exact tlX5_allFrom_4  zF _ _ _ e15 K16
def lpX5_allInto_4 (w : zW) (p1 : Int32) : Nat → Int32 → Int32 → Option Int32
  | 0, _, _ => none
  | n + 1, x1, x2 => (if (w.1 40 2) ≤ x2 then (some x1) else (Option.bind (fX5_comes w x2 p1) fun v5 => Option.bind (if v5 = 0 then (some x1) else (Option.bind (some ((x1 ||| ((1 : Int32) <<< (x2 &&& 31))))) fun x11 => some x11)) fun x8 => lpX5_allInto_4 w p1 n x8 (x2 + 1)))
def fX5_allInto (w : zW) (p1 : Int32) : Option Int32 := Option.bind (lpX5_allInto_4 w p1 zF (0 : Int32) (0 : Int32)) fun y17 => some y17
set_option maxRecDepth 100000 in
theorem tlX5_allInto_4 {w : zW} {p1 : Int32}  {Q : Option Value → zW → Prop} : ∀ (n : Nat) (x1 : Int32) (x2 : Int32) (y3 : Int32), lpX5_allInto_4 w p1 n x1 x2 = some y3 → zWP RX5 cX5_allInto (zMB 4 (some .int) 4 Q) 33 [none, none, some (.int y3), none] [] w → zWP RX5 cX5_allInto (zMB 4 (some .int) 4 Q) 4 [some (.ref 40), some (.int p1), some (.int x1), some (.int x2)] [] w := by
  intro n
  induction n with
  | zero => intro x1 x2 y3 h K; simp [lpX5_allInto_4] at h
  | succ n ih =>
    intro x1 x2 y3 h K
    rw [lpX5_allInto_4] at h
    refine zs_iload_n dX5_allInto_4 rfl ?_
    refine zs_aload_n dX5_allInto_5 rfl ?_
    refine gX5_30 dX5_allInto_6 ?_
    refine zs_icmp_ge 33 dX5_allInto_9 rfl (fun c14 => ?_) (fun c14 => ?_)
    · replace h := zite_t c14 h
      refine zs_fo [false, false, true, false] rfl ?_
      obtain rfl := Option.some.inj h
      exact K
    · replace h := zite_f c14 h
      refine zs_aload_n dX5_allInto_12 rfl ?_
      refine zs_iload_n dX5_allInto_13 rfl ?_
      refine zs_iload_n dX5_allInto_14 rfl ?_
      obtain ⟨v5, e4, h⟩ := zbind h
      refine zc_V2i moX5_comes mvX5_comes kX5_116 rfl dX5_allInto_15 za_40 (Nat.le_of_ble_eq_true rfl) (zrm (by decide)) (tX5_comes e4) ?_
      obtain ⟨x8, m10, h⟩ := zbind h
      have K9 : zWP RX5 cX5_allInto (zMB 4 (some .int) 4 Q) 27 [some (.ref 40), some (.int p1), some (.int x8), some (.int x2)] [] w := by
        refine zs_iinc (x2 + 1) [some (.ref 40), some (.int p1), some (.int x8), some (.int (x2 + 1))] dX5_allInto_27 rfl rfl (Nat.le_of_ble_eq_true rfl) rfl rfl ?_
        refine zs_goto 4 dX5_allInto_30 rfl ?_
        exact ih _ _ _ h K
      refine zs_if_eq 27 dX5_allInto_18 rfl (fun c13 => ?_) (fun c13 => ?_)
      · replace m10 := zite_t c13 m10
        obtain rfl := Option.some.inj m10
        exact K9
      · replace m10 := zite_f c13 m10
        refine zs_iload_n dX5_allInto_21 rfl ?_
        refine zs_iconst (1 : Int32) dX5_allInto_22 ziconst_1 ?_
        refine zs_iload_n dX5_allInto_23 rfl ?_
        refine zs_ishl dX5_allInto_24 ?_
        refine zs_ior dX5_allInto_25 ?_
        obtain ⟨x11, e12, m10⟩ := zbind m10
        refine zs_nmi (Option.some.inj e12) ?_
        refine zs_istore_n [some (.ref 40), some (.int p1), some (.int x11), some (.int x2)] dX5_allInto_26 (Nat.le_of_ble_eq_true rfl) rfl rfl ?_
        obtain rfl := Option.some.inj m10
        exact K9
set_option maxRecDepth 100000 in
theorem tX5_allInto {w : zW} {p1 : Int32}  {r : Int32} (h : fX5_allInto w p1 = some r) : zRun yX5_allInto cX5_allInto 4 (some .int) 4 [.ref 40, .int p1] w (zI r w) := by
  refine zRun.of (k := 2) rfl rfl rfl ?_
  show zWP RX5 cX5_allInto (zMB 4 (some .int) 4 (zI r w)) 0 [some (.ref 40), some (.int p1), none, none] [] w
  unfold fX5_allInto at h
  refine zs_iconst (0 : Int32) dX5_allInto_0 ziconst_0 ?_
  refine zs_istore_n [some (.ref 40), some (.int p1), some (.int (0 : Int32)), none] dX5_allInto_1 (Nat.le_of_ble_eq_true rfl) rfl rfl ?_
  refine zs_iconst (0 : Int32) dX5_allInto_2 ziconst_0 ?_
  refine zs_istore_n [some (.ref 40), some (.int p1), some (.int (0 : Int32)), some (.int (0 : Int32))] dX5_allInto_3 (Nat.le_of_ble_eq_true rfl) rfl rfl ?_
  obtain ⟨y17, e15, h⟩ := zbind h
  have K16 : zWP RX5 cX5_allInto (zMB 4 (some .int) 4 (zI r w)) 33 [none, none, some (.int y17), none] [] w := by
    refine zs_iload_n dX5_allInto_33 rfl ?_
    obtain rfl := Option.some.inj h
    exact zs_iret dX5_allInto_34 ⟨rfl, rfl⟩
  exact tlX5_allInto_4  zF _ _ _ e15 K16
def fX5_answered (w : zW) (p1 : Int32) (p2 : Int32) (p3 : Int32) : Option Int32 := Option.bind (fX5_earliest w p1 p2 p3) fun v2 => (if v2 < (1000000 : Int32) then (Option.bind (fX5_earliest w p2 p1 v2) fun v4 => some v4) else (some (1000000 : Int32)))
set_option maxRecDepth 100000 in
theorem tX5_answered {w : zW} {p1 : Int32} {p2 : Int32} {p3 : Int32}  {r : Int32} (h : fX5_answered w p1 p2 p3 = some r) : zRun yX5_answered cX5_answered 5 (some .int) 3 [.ref 40, .int p1, .int p2, .int p3] w (zI r w) := by
  refine zRun.of (k := 1) rfl rfl rfl ?_
  show zWP RX5 cX5_answered (zMB 5 (some .int) 3 (zI r w)) 0 [some (.ref 40), some (.int p1), some (.int p2), some (.int p3), none] [] w
  unfold fX5_answered at h
  refine zs_aload_n dX5_answered_0 rfl ?_
  refine zs_iload_n dX5_answered_1 rfl ?_
  refine zs_iload_n dX5_answered_2 rfl ?_
  refine zs_iload_n dX5_answered_3 rfl ?_
  obtain ⟨v2, e1, h⟩ := zbind h
  refine zc_V3i moX5_earliest mvX5_earliest kX5_112 rfl dX5_answered_4 za_40 (Nat.le_of_ble_eq_true rfl) (zrm (by decide)) (tX5_earliest e1) ?_
  refine zs_istore [some (.ref 40), some (.int p1), some (.int p2), some (.int p3), some (.int v2)] dX5_answered_7 (Nat.le_of_ble_eq_true rfl) rfl rfl ?_
  refine zs_iload dX5_answered_9 rfl ?_
  refine zs_ldc kX5_59 dX5_answered_11 ?_
  refine zs_icmp_lt 21 dX5_answered_13 rfl (fun c5 => ?_) (fun c5 => ?_)
  · replace h := zite_t c5 h
    refine zs_aload_n dX5_answered_21 rfl ?_
    refine zs_iload_n dX5_answered_22 rfl ?_
    refine zs_iload_n dX5_answered_23 rfl ?_
    refine zs_iload dX5_answered_24 rfl ?_
    obtain ⟨v4, e3, h⟩ := zbind h
    refine zc_V3i moX5_earliest mvX5_earliest kX5_112 rfl dX5_answered_26 za_40 (Nat.le_of_ble_eq_true rfl) (zrm (by decide)) (tX5_earliest e3) ?_
    obtain rfl := Option.some.inj h
    exact zs_iret dX5_answered_29 ⟨rfl, rfl⟩
  · replace h := zite_f c5 h
    refine zs_ldc kX5_59 dX5_answered_16 ?_
    refine zs_goto 29 dX5_answered_18 rfl ?_
    obtain rfl := Option.some.inj h
    exact zs_iret dX5_answered_29 ⟨rfl, rfl⟩
def lpX5_lastAnswer_6 (w : zW) (p1 : Int32) (p2 : Int32) (p3 : Int32) : Nat → Int32 → Int32 → Option Int32
  | 0, _, _ => none
  | n + 1, x1, x2 => (if (w.1 40 2) ≤ x2 then (some x1) else (Option.bind (if ((p2 >>> (x2 &&& 31)) &&& (1 : Int32)) = (1 : Int32) then (Option.bind (fX5_answered w p1 x2 p3) fun v12 => Option.bind (some ((zmax x1 v12))) fun x13 => some x13) else (some x1)) fun x8 => lpX5_lastAnswer_6 w p1 p2 p3 n x8 (x2 + 1)))
def fX5_lastAnswer (w : zW) (p1 : Int32) (p2 : Int32) (p3 : Int32) : Option Int32 := Option.bind (lpX5_lastAnswer_6 w p1 p2 p3 zF p3 (0 : Int32)) fun y19 => some y19
set_option maxRecDepth 100000 in
theorem tlX5_lastAnswer_6 {w : zW} {p1 : Int32} {p2 : Int32} {p3 : Int32}  {Q : Option Value → zW → Prop} : ∀ (n : Nat) (x1 : Int32) (x2 : Int32) (y3 : Int32), lpX5_lastAnswer_6 w p1 p2 p3 n x1 x2 = some y3 → zWP RX5 cX5_lastAnswer (zMB 6 (some .int) 4 Q) 46 [none, none, none, none, some (.int y3), none] [] w → zWP RX5 cX5_lastAnswer (zMB 6 (some .int) 4 Q) 6 [some (.ref 40), some (.int p1), some (.int p2), some (.int p3), some (.int x1), some (.int x2)] [] w := by
  intro n
  induction n with
  | zero => intro x1 x2 y3 h K; simp [lpX5_lastAnswer_6] at h
  | succ n ih =>
    intro x1 x2 y3 h K
    rw [lpX5_lastAnswer_6] at h
    refine zs_iload dX5_lastAnswer_6 rfl ?_
    refine zs_aload_n dX5_lastAnswer_8 rfl ?_
    refine gX5_30 dX5_lastAnswer_9 ?_
    refine zs_icmp_ge 46 dX5_lastAnswer_12 rfl (fun c16 => ?_) (fun c16 => ?_)
    · replace h := zite_t c16 h
      refine zs_fo [false, false, false, false, true, false] rfl ?_
      obtain rfl := Option.some.inj h
      exact K
    · replace h := zite_f c16 h
      refine zs_iload_n dX5_lastAnswer_15 rfl ?_
      refine zs_iload dX5_lastAnswer_16 rfl ?_
      refine zs_ishr dX5_lastAnswer_18 ?_
      refine zs_iconst (1 : Int32) dX5_lastAnswer_19 ziconst_1 ?_
      refine zs_iand dX5_lastAnswer_20 ?_
      refine zs_iconst (1 : Int32) dX5_lastAnswer_21 ziconst_1 ?_
      obtain ⟨x8, m10, h⟩ := zbind h
      have K9 : zWP RX5 cX5_lastAnswer (zMB 6 (some .int) 4 Q) 40 [some (.ref 40), some (.int p1), some (.int p2), some (.int p3), some (.int x8), some (.int x2)] [] w := by
        refine zs_iinc (x2 + 1) [some (.ref 40), some (.int p1), some (.int p2), some (.int p3), some (.int x8), some (.int (x2 + 1))] dX5_lastAnswer_40 rfl rfl (Nat.le_of_ble_eq_true rfl) rfl rfl ?_
        refine zs_goto 6 dX5_lastAnswer_43 rfl ?_
        exact ih _ _ _ h K
      refine zs_icmp_ne 40 dX5_lastAnswer_22 rfl (fun c15 => ?_) (fun c15 => ?_)
      · replace m10 := zite_f c15 m10
        obtain rfl := Option.some.inj m10
        exact K9
      · replace m10 := zite_t c15 m10
        refine zs_iload dX5_lastAnswer_25 rfl ?_
        refine zs_aload_n dX5_lastAnswer_27 rfl ?_
        refine zs_iload_n dX5_lastAnswer_28 rfl ?_
        refine zs_iload dX5_lastAnswer_29 rfl ?_
        refine zs_iload_n dX5_lastAnswer_31 rfl ?_
        obtain ⟨v12, e11, m10⟩ := zbind m10
        refine zc_V3i moX5_answered mvX5_answered kX5_122 rfl dX5_lastAnswer_32 za_40 (Nat.le_of_ble_eq_true rfl) (zrm (by decide)) (tX5_answered e11) ?_
        refine zs_max kX5_47 zst_max zin_math zco_max (zrm1 (by decide)) (Nat.le_of_ble_eq_true rfl) dX5_lastAnswer_35 ?_
        obtain ⟨x13, e14, m10⟩ := zbind m10
        refine zs_nmi (Option.some.inj e14) ?_
        refine zs_istore [some (.ref 40), some (.int p1), some (.int p2), some (.int p3), some (.int x13), some (.int x2)] dX5_lastAnswer_38 (Nat.le_of_ble_eq_true rfl) rfl rfl ?_
        obtain rfl := Option.some.inj m10
        exact K9
set_option maxRecDepth 100000 in
theorem tX5_lastAnswer {w : zW} {p1 : Int32} {p2 : Int32} {p3 : Int32}  {r : Int32} (h : fX5_lastAnswer w p1 p2 p3 = some r) : zRun yX5_lastAnswer cX5_lastAnswer 6 (some .int) 4 [.ref 40, .int p1, .int p2, .int p3] w (zI r w) := by
  refine zRun.of (k := 2) rfl rfl rfl ?_
  show zWP RX5 cX5_lastAnswer (zMB 6 (some .int) 4 (zI r w)) 0 [some (.ref 40), some (.int p1), some (.int p2), some (.int p3), none, none] [] w
  unfold fX5_lastAnswer at h
  refine zs_iload_n dX5_lastAnswer_0 rfl ?_
  refine zs_istore [some (.ref 40), some (.int p1), some (.int p2), some (.int p3), some (.int p3), none] dX5_lastAnswer_1 (Nat.le_of_ble_eq_true rfl) rfl rfl ?_
  refine zs_iconst (0 : Int32) dX5_lastAnswer_3 ziconst_0 ?_
  refine zs_istore [some (.ref 40), some (.int p1), some (.int p2), some (.int p3), some (.int p3), some (.int (0 : Int32))] dX5_lastAnswer_4 (Nat.le_of_ble_eq_true rfl) rfl rfl ?_
  obtain ⟨y19, e17, h⟩ := zbind h
  have K18 : zWP RX5 cX5_lastAnswer (zMB 6 (some .int) 4 (zI r w)) 46 [none, none, none, none, some (.int y19), none] [] w := by
    refine zs_iload dX5_lastAnswer_46 rfl ?_
    obtain rfl := Option.some.inj h
    exact zs_iret dX5_lastAnswer_48 ⟨rfl, rfl⟩
  exact tlX5_lastAnswer_6  zF _ _ _ e17 K18
def lpX5_bestHome_9 (w : zW) (p1 : Int32) (p2 : Int32) : Nat → Int32 → Int32 → Int32 → Option Int32
  | 0, _, _, _ => none
  | n + 1, x1, x2, x3 => (if (w.1 40 2) ≤ x3 then (some x1) else (Option.bind (fX5_lastAnswer w x3 p1 p2) fun v6 => zb2 (if x2 ≤ v6 then (some (x1, x2)) else (some (x3, v6))) fun x7 x8 => lpX5_bestHome_9 w p1 p2 n x7 x8 (x3 + 1)))
def fX5_bestHome (w : zW) (p1 : Int32) (p2 : Int32) : Option Int32 := Option.bind (lpX5_bestHome_9 w p1 p2 zF (-1 : Int32) (1000000 : Int32) (0 : Int32)) fun y15 => some y15
set_option maxRecDepth 100000 in
theorem tlX5_bestHome_9 {w : zW} {p1 : Int32} {p2 : Int32}  {Q : Option Value → zW → Prop} : ∀ (n : Nat) (x1 : Int32) (x2 : Int32) (x3 : Int32) (y4 : Int32), lpX5_bestHome_9 w p1 p2 n x1 x2 x3 = some y4 → zWP RX5 cX5_bestHome (zMB 7 (some .int) 5 Q) 48 [none, none, none, some (.int y4), none, none, none] [] w → zWP RX5 cX5_bestHome (zMB 7 (some .int) 5 Q) 9 [some (.ref 40), some (.int p1), some (.int p2), some (.int x1), some (.int x2), some (.int x3), none] [] w := by
  intro n
  induction n with
  | zero => intro x1 x2 x3 y4 h K; simp [lpX5_bestHome_9] at h
  | succ n ih =>
    intro x1 x2 x3 y4 h K
    rw [lpX5_bestHome_9] at h
    refine zs_iload dX5_bestHome_9 rfl ?_
    refine zs_aload_n dX5_bestHome_11 rfl ?_
    refine gX5_30 dX5_bestHome_12 ?_
    refine zs_icmp_ge 48 dX5_bestHome_15 rfl (fun c12 => ?_) (fun c12 => ?_)
    · replace h := zite_t c12 h
      refine zs_fo [false, false, false, true, false, false, false] rfl ?_
      obtain rfl := Option.some.inj h
      exact K
    · replace h := zite_f c12 h
      refine zs_aload_n dX5_bestHome_18 rfl ?_
      refine zs_iload dX5_bestHome_19 rfl ?_
      refine zs_iload_n dX5_bestHome_21 rfl ?_
      refine zs_iload_n dX5_bestHome_22 rfl ?_
      obtain ⟨v6, e5, h⟩ := zbind h
      refine zc_V3i moX5_lastAnswer mvX5_lastAnswer kX5_119 rfl dX5_bestHome_23 za_40 (Nat.le_of_ble_eq_true rfl) (zrm (by decide)) (tX5_lastAnswer e5) ?_
      refine zs_istore [some (.ref 40), some (.int p1), some (.int p2), some (.int x1), some (.int x2), some (.int x3), some (.int v6)] dX5_bestHome_26 (Nat.le_of_ble_eq_true rfl) rfl rfl ?_
      refine zs_iload dX5_bestHome_28 rfl ?_
      refine zs_iload dX5_bestHome_30 rfl ?_
      obtain ⟨x7, x8, m10, h⟩ := zb2_inv h
      have K9 : zWP RX5 cX5_bestHome (zMB 7 (some .int) 5 Q) 42 [some (.ref 40), some (.int p1), some (.int p2), some (.int x7), some (.int x8), some (.int x3), none] [] w := by
        refine zs_iinc (x3 + 1) [some (.ref 40), some (.int p1), some (.int p2), some (.int x7), some (.int x8), some (.int (x3 + 1)), none] dX5_bestHome_42 rfl rfl (Nat.le_of_ble_eq_true rfl) rfl rfl ?_
        refine zs_goto 9 dX5_bestHome_45 rfl ?_
        exact ih _ _ _ _ h K
      refine zs_icmp_ge 42 dX5_bestHome_32 rfl (fun c11 => ?_) (fun c11 => ?_)
      · replace m10 := zite_t c11 m10
        refine zs_fo [true, true, true, true, true, true, false] rfl ?_
        obtain ⟨rfl, rfl⟩ := zpi2 m10
        exact K9
      · replace m10 := zite_f c11 m10
        refine zs_iload dX5_bestHome_35 rfl ?_
        refine zs_istore_n [some (.ref 40), some (.int p1), some (.int p2), some (.int x3), some (.int x2), some (.int x3), some (.int v6)] dX5_bestHome_37 (Nat.le_of_ble_eq_true rfl) rfl rfl ?_
        refine zs_iload dX5_bestHome_38 rfl ?_
        refine zs_istore [some (.ref 40), some (.int p1), some (.int p2), some (.int x3), some (.int v6), some (.int x3), some (.int v6)] dX5_bestHome_40 (Nat.le_of_ble_eq_true rfl) rfl rfl ?_
        refine zs_fo [true, true, true, true, true, true, false] rfl ?_
        obtain ⟨rfl, rfl⟩ := zpi2 m10
        exact K9
set_option maxRecDepth 100000 in
theorem tX5_bestHome {w : zW} {p1 : Int32} {p2 : Int32}  {r : Int32} (h : fX5_bestHome w p1 p2 = some r) : zRun yX5_bestHome cX5_bestHome 7 (some .int) 5 [.ref 40, .int p1, .int p2] w (zI r w) := by
  refine zRun.of (k := 4) rfl rfl rfl ?_
  show zWP RX5 cX5_bestHome (zMB 7 (some .int) 5 (zI r w)) 0 [some (.ref 40), some (.int p1), some (.int p2), none, none, none, none] [] w
  unfold fX5_bestHome at h
  refine zs_iconst (-1 : Int32) dX5_bestHome_0 ziconst_m1 ?_
  refine zs_istore_n [some (.ref 40), some (.int p1), some (.int p2), some (.int (-1 : Int32)), none, none, none] dX5_bestHome_1 (Nat.le_of_ble_eq_true rfl) rfl rfl ?_
  refine zs_ldc kX5_59 dX5_bestHome_2 ?_
  refine zs_istore [some (.ref 40), some (.int p1), some (.int p2), some (.int (-1 : Int32)), some (.int (1000000 : Int32)), none, none] dX5_bestHome_4 (Nat.le_of_ble_eq_true rfl) rfl rfl ?_
  refine zs_iconst (0 : Int32) dX5_bestHome_6 ziconst_0 ?_
  refine zs_istore [some (.ref 40), some (.int p1), some (.int p2), some (.int (-1 : Int32)), some (.int (1000000 : Int32)), some (.int (0 : Int32)), none] dX5_bestHome_7 (Nat.le_of_ble_eq_true rfl) rfl rfl ?_
  obtain ⟨y15, e13, h⟩ := zbind h
  have K14 : zWP RX5 cX5_bestHome (zMB 7 (some .int) 5 (zI r w)) 48 [none, none, none, some (.int y15), none, none, none] [] w := by
    refine zs_iload_n dX5_bestHome_48 rfl ?_
    obtain rfl := Option.some.inj h
    exact zs_iret dX5_bestHome_49 ⟨rfl, rfl⟩
  exact tlX5_bestHome_9  zF _ _ _ _ e13 K14
def lpX5_shortenBy_34 (x3 : Int32) (x5 : Int32) (v7 : Int32) : Nat → zW → Int32 → Option zW
  | 0, _, _ => none
  | n + 1, w10, x9 => (if (w10.1 40 2) ≤ x9 then (some w10) else (Option.bind (zrd w10 42 144 (x3 + x9)) fun v12 => Option.bind (zrd w10 42 144 (x5 + x9)) fun v14 => Option.bind (zwr w10 42 144 (x3 + x9) (zmin v12 (v7 + v14))) fun w16 => lpX5_shortenBy_34 x3 x5 v7 n w16 (x9 + 1)))
def fX5_shortenBy (w : zW) (p1 : Int32) (p2 : Int32) : Option zW := Option.bind (fX5_areHere w p2 p1) fun v2 => (if v2 = 0 then (some w) else (Option.bind (some ((p2 * (12 : Int32)))) fun x3 => Option.bind (some ((p1 * (12 : Int32)))) fun x5 => Option.bind (zrd w 42 144 (x3 + p1)) fun v7 => Option.bind (lpX5_shortenBy_34 x3 x5 v7 zF w (0 : Int32)) fun w21 => some w21))
set_option maxRecDepth 100000 in
theorem tlX5_shortenBy_34 {x3 : Int32} {x5 : Int32} {v7 : Int32}  {Q : Option Value → zW → Prop} : ∀ (n : Nat) (w10 : zW) (x9 : Int32) (w11 : zW), lpX5_shortenBy_34 x3 x5 v7 n w10 x9 = some w11 → zWP RX5 cX5_shortenBy (zMB 7 none 1 Q) 83 [none, none, none, none, none, none, none] [] w11 → zWP RX5 cX5_shortenBy (zMB 7 none 1 Q) 34 [some (.ref 40), none, none, some (.int x3), some (.int x5), some (.int v7), some (.int x9)] [] w10 := by
  intro n
  induction n with
  | zero => intro w10 x9 w11 h K; simp [lpX5_shortenBy_34] at h
  | succ n ih =>
    intro w10 x9 w11 h K
    rw [lpX5_shortenBy_34] at h
    refine zs_iload dX5_shortenBy_34 rfl ?_
    refine zs_aload_n dX5_shortenBy_36 rfl ?_
    refine gX5_30 dX5_shortenBy_37 ?_
    refine zs_icmp_ge 83 dX5_shortenBy_40 rfl (fun c18 => ?_) (fun c18 => ?_)
    · replace h := zite_t c18 h
      refine zs_fo [false, false, false, false, false, false, false] rfl ?_
      obtain rfl := Option.some.inj h
      exact K
    · replace h := zite_f c18 h
      refine zs_aload_n dX5_shortenBy_43 rfl ?_
      refine gX5_15 dX5_shortenBy_44 ?_
      refine zs_iload_n dX5_shortenBy_47 rfl ?_
      refine zs_iload dX5_shortenBy_48 rfl ?_
      refine zs_iadd dX5_shortenBy_50 ?_
      refine zs_aload_n dX5_shortenBy_51 rfl ?_
      refine gX5_15 dX5_shortenBy_52 ?_
      refine zs_iload_n dX5_shortenBy_55 rfl ?_
      refine zs_iload dX5_shortenBy_56 rfl ?_
      refine zs_iadd dX5_shortenBy_58 ?_
      obtain ⟨v12, e13, h⟩ := zbind h
      refine zs_iald dX5_shortenBy_59 za_42 e13 ?_
      refine zs_iload dX5_shortenBy_60 rfl ?_
      refine zs_aload_n dX5_shortenBy_62 rfl ?_
      refine gX5_15 dX5_shortenBy_63 ?_
      refine zs_iload dX5_shortenBy_66 rfl ?_
      refine zs_iload dX5_shortenBy_68 rfl ?_
      refine zs_iadd dX5_shortenBy_70 ?_
      obtain ⟨v14, e15, h⟩ := zbind h
      refine zs_iald dX5_shortenBy_71 za_42 e15 ?_
      refine zs_iadd dX5_shortenBy_72 ?_
      refine zs_min kX5_24 zst_min zin_math zco_min (zrm1 (by decide)) (Nat.le_of_ble_eq_true rfl) dX5_shortenBy_73 ?_
      obtain ⟨w16, e17, h⟩ := zbind h
      refine zs_iast dX5_shortenBy_76 za_42 e17 ?_
      refine zs_iinc (x9 + 1) [some (.ref 40), none, none, some (.int x3), some (.int x5), some (.int v7), some (.int (x9 + 1))] dX5_shortenBy_77 rfl rfl (Nat.le_of_ble_eq_true rfl) rfl rfl ?_
      refine zs_goto 34 dX5_shortenBy_80 rfl ?_
      exact ih _ _ _ h K
set_option maxRecDepth 100000 in
theorem tX5_shortenBy {w : zW} {p1 : Int32} {p2 : Int32}   {w' : zW} (h : fX5_shortenBy w p1 p2 = some w') : zRun yX5_shortenBy cX5_shortenBy 7 none 1 [.ref 40, .int p1, .int p2] w (zV w') := by
  refine zRun.of (k := 4) rfl rfl rfl ?_
  show zWP RX5 cX5_shortenBy (zMB 7 none 1 (zV w')) 0 [some (.ref 40), some (.int p1), some (.int p2), none, none, none, none] [] w
  unfold fX5_shortenBy at h
  refine zs_aload_n dX5_shortenBy_0 rfl ?_
  refine zs_iload_n dX5_shortenBy_1 rfl ?_
  refine zs_iload_n dX5_shortenBy_2 rfl ?_
  obtain ⟨v2, e1, h⟩ := zbind h
  refine zc_V2i moX5_areHere mvX5_areHere kX5_84 rfl dX5_shortenBy_3 za_40 (Nat.le_of_ble_eq_true rfl) (zrm (by decide)) (tX5_areHere e1) ?_
  refine zs_if_ne 10 dX5_shortenBy_6 rfl (fun c22 => ?_) (fun c22 => ?_)
  · replace h := zite_f c22 h
    refine zs_iload_n dX5_shortenBy_10 rfl ?_
    refine zs_bipush (12 : Int32) dX5_shortenBy_11 zbipush_12 ?_
    refine zs_imul dX5_shortenBy_13 ?_
    obtain ⟨x3, e4, h⟩ := zbind h
    refine zs_nmi (Option.some.inj e4) ?_
    refine zs_istore_n [some (.ref 40), some (.int p1), some (.int p2), some (.int x3), none, none, none] dX5_shortenBy_14 (Nat.le_of_ble_eq_true rfl) rfl rfl ?_
    refine zs_iload_n dX5_shortenBy_15 rfl ?_
    refine zs_bipush (12 : Int32) dX5_shortenBy_16 zbipush_12 ?_
    refine zs_imul dX5_shortenBy_18 ?_
    obtain ⟨x5, e6, h⟩ := zbind h
    refine zs_nmi (Option.some.inj e6) ?_
    refine zs_istore [some (.ref 40), some (.int p1), some (.int p2), some (.int x3), some (.int x5), none, none] dX5_shortenBy_19 (Nat.le_of_ble_eq_true rfl) rfl rfl ?_
    refine zs_aload_n dX5_shortenBy_21 rfl ?_
    refine gX5_15 dX5_shortenBy_22 ?_
    refine zs_iload_n dX5_shortenBy_25 rfl ?_
    refine zs_iload_n dX5_shortenBy_26 rfl ?_
    refine zs_iadd dX5_shortenBy_27 ?_
    obtain ⟨v7, e8, h⟩ := zbind h
    refine zs_iald dX5_shortenBy_28 za_42 e8 ?_
    refine zs_istore [some (.ref 40), some (.int p1), some (.int p2), some (.int x3), some (.int x5), some (.int v7), none] dX5_shortenBy_29 (Nat.le_of_ble_eq_true rfl) rfl rfl ?_
    refine zs_iconst (0 : Int32) dX5_shortenBy_31 ziconst_0 ?_
    refine zs_istore [some (.ref 40), some (.int p1), some (.int p2), some (.int x3), some (.int x5), some (.int v7), some (.int (0 : Int32))] dX5_shortenBy_32 (Nat.le_of_ble_eq_true rfl) rfl rfl ?_
    obtain ⟨w21, e19, h⟩ := zbind h
    have K20 : zWP RX5 cX5_shortenBy (zMB 7 none 1 (zV w')) 83 [none, none, none, none, none, none, none] [] w21 := by
      obtain rfl := Option.some.inj h
      exact zs_vret dX5_shortenBy_83 ⟨rfl, rfl⟩
    refine zs_fo [true, false, false, true, true, true, true] rfl ?_
    exact tlX5_shortenBy_34  zF _ _ _ e19 K20
  · replace h := zite_t c22 h
    obtain rfl := Option.some.inj h
    exact zs_vret dX5_shortenBy_9 ⟨rfl, rfl⟩
def lpX5_joinSteps_18  : Nat → zW → Int32 → Option zW
  | 0, _, _ => none
  | n + 1, w4, x3 => (if (w4.1 40 2) ≤ x3 then (some w4) else (Option.bind (zwr w4 42 144 ((x3 * (12 : Int32)) + x3) (0 : Int32)) fun w6 => lpX5_joinSteps_18 n w6 (x3 + 1)))
def lpX5_joinSteps_56 (x12 : Int32) : Nat → zW → Int32 → Option zW
  | 0, _, _ => none
  | n + 1, w16, x15 => (if (w16.1 40 2) ≤ x15 then (some w16) else (Option.bind (zrd w16 42 144 ((x15 * (12 : Int32)) + x12)) fun v18 => Option.bind (if (1000000 : Int32) ≤ v18 then (some w16) else (Option.bind (fX5_shortenBy w16 x12 x15) fun w26 => some w26)) fun w22 => lpX5_joinSteps_56 x12 n w22 (x15 + 1)))
def lpX5_joinSteps_46  : Nat → zW → Int32 → Option zW
  | 0, _, _ => none
  | n + 1, w13, x12 => (if (w13.1 40 2) ≤ x12 then (some w13) else (Option.bind (lpX5_joinSteps_56 x12 zF w13 (0 : Int32)) fun w31 => lpX5_joinSteps_46 n w31 (x12 + 1)))
def fX5_joinSteps (w : zW)  : Option zW := Option.bind (zcpi w 41 144 (0 : Int32) 42 144 (0 : Int32) (144 : Int32)) fun w1 => Option.bind (lpX5_joinSteps_18  zF w1 (0 : Int32)) fun w11 => Option.bind (lpX5_joinSteps_46  zF w11 (0 : Int32)) fun w35 => some w35
set_option maxRecDepth 100000 in
theorem tlX5_joinSteps_18   {Q : Option Value → zW → Prop} : ∀ (n : Nat) (w4 : zW) (x3 : Int32) (w5 : zW), lpX5_joinSteps_18  n w4 x3 = some w5 → zWP RX5 cX5_joinSteps (zMB 3 none 2 Q) 44 [some (.ref 40), none, none] [] w5 → zWP RX5 cX5_joinSteps (zMB 3 none 2 Q) 18 [some (.ref 40), some (.int x3), none] [] w4 := by
  intro n
  induction n with
  | zero => intro w4 x3 w5 h K; simp [lpX5_joinSteps_18] at h
  | succ n ih =>
    intro w4 x3 w5 h K
    rw [lpX5_joinSteps_18] at h
    refine zs_iload_n dX5_joinSteps_18 rfl ?_
    refine zs_aload_n dX5_joinSteps_19 rfl ?_
    refine gX5_30 dX5_joinSteps_20 ?_
    refine zs_icmp_ge 44 dX5_joinSteps_23 rfl (fun c8 => ?_) (fun c8 => ?_)
    · replace h := zite_t c8 h
      refine zs_fo [true, false, false] rfl ?_
      obtain rfl := Option.some.inj h
      exact K
    · replace h := zite_f c8 h
      refine zs_aload_n dX5_joinSteps_26 rfl ?_
      refine gX5_15 dX5_joinSteps_27 ?_
      refine zs_iload_n dX5_joinSteps_30 rfl ?_
      refine zs_bipush (12 : Int32) dX5_joinSteps_31 zbipush_12 ?_
      refine zs_imul dX5_joinSteps_33 ?_
      refine zs_iload_n dX5_joinSteps_34 rfl ?_
      refine zs_iadd dX5_joinSteps_35 ?_
      refine zs_iconst (0 : Int32) dX5_joinSteps_36 ziconst_0 ?_
      obtain ⟨w6, e7, h⟩ := zbind h
      refine zs_iast dX5_joinSteps_37 za_42 e7 ?_
      refine zs_iinc (x3 + 1) [some (.ref 40), some (.int (x3 + 1)), none] dX5_joinSteps_38 rfl rfl (Nat.le_of_ble_eq_true rfl) rfl rfl ?_
      refine zs_goto 18 dX5_joinSteps_41 rfl ?_
      exact ih _ _ _ h K
set_option maxRecDepth 100000 in
theorem tlX5_joinSteps_56 {x12 : Int32}  {Q : Option Value → zW → Prop} : ∀ (n : Nat) (w16 : zW) (x15 : Int32) (w17 : zW), lpX5_joinSteps_56 x12 n w16 x15 = some w17 → zWP RX5 cX5_joinSteps (zMB 3 none 2 Q) 92 [some (.ref 40), some (.int x12), none] [] w17 → zWP RX5 cX5_joinSteps (zMB 3 none 2 Q) 56 [some (.ref 40), some (.int x12), some (.int x15)] [] w16 := by
  intro n
  induction n with
  | zero => intro w16 x15 w17 h K; simp [lpX5_joinSteps_56] at h
  | succ n ih =>
    intro w16 x15 w17 h K
    rw [lpX5_joinSteps_56] at h
    refine zs_iload_n dX5_joinSteps_56 rfl ?_
    refine zs_aload_n dX5_joinSteps_57 rfl ?_
    refine gX5_30 dX5_joinSteps_58 ?_
    refine zs_icmp_ge 92 dX5_joinSteps_61 rfl (fun c28 => ?_) (fun c28 => ?_)
    · replace h := zite_t c28 h
      refine zs_fo [true, true, false] rfl ?_
      obtain rfl := Option.some.inj h
      exact K
    · replace h := zite_f c28 h
      refine zs_aload_n dX5_joinSteps_64 rfl ?_
      refine gX5_15 dX5_joinSteps_65 ?_
      refine zs_iload_n dX5_joinSteps_68 rfl ?_
      refine zs_bipush (12 : Int32) dX5_joinSteps_69 zbipush_12 ?_
      refine zs_imul dX5_joinSteps_71 ?_
      refine zs_iload_n dX5_joinSteps_72 rfl ?_
      refine zs_iadd dX5_joinSteps_73 ?_
      obtain ⟨v18, e19, h⟩ := zbind h
      refine zs_iald dX5_joinSteps_74 za_42 e19 ?_
      refine zs_ldc kX5_59 dX5_joinSteps_75 ?_
      obtain ⟨w22, m24, h⟩ := zbind h
      have K23 : zWP RX5 cX5_joinSteps (zMB 3 none 2 Q) 86 [some (.ref 40), some (.int x12), some (.int x15)] [] w22 := by
        refine zs_iinc (x15 + 1) [some (.ref 40), some (.int x12), some (.int (x15 + 1))] dX5_joinSteps_86 rfl rfl (Nat.le_of_ble_eq_true rfl) rfl rfl ?_
        refine zs_goto 56 dX5_joinSteps_89 rfl ?_
        exact ih _ _ _ h K
      refine zs_icmp_ge 86 dX5_joinSteps_77 rfl (fun c27 => ?_) (fun c27 => ?_)
      · replace m24 := zite_t c27 m24
        obtain rfl := Option.some.inj m24
        exact K23
      · replace m24 := zite_f c27 m24
        refine zs_aload_n dX5_joinSteps_80 rfl ?_
        refine zs_iload_n dX5_joinSteps_81 rfl ?_
        refine zs_iload_n dX5_joinSteps_82 rfl ?_
        obtain ⟨w26, e25, m24⟩ := zbind m24
        refine zc_V2v moX5_shortenBy mvX5_shortenBy kX5_98 rfl dX5_joinSteps_83 za_40 (Nat.le_of_ble_eq_true rfl) (zrm (by decide)) (tX5_shortenBy e25) ?_
        obtain rfl := Option.some.inj m24
        exact K23
set_option maxRecDepth 100000 in
theorem tlX5_joinSteps_46   {Q : Option Value → zW → Prop} : ∀ (n : Nat) (w13 : zW) (x12 : Int32) (w14 : zW), lpX5_joinSteps_46  n w13 x12 = some w14 → zWP RX5 cX5_joinSteps (zMB 3 none 2 Q) 98 [none, none, none] [] w14 → zWP RX5 cX5_joinSteps (zMB 3 none 2 Q) 46 [some (.ref 40), some (.int x12), none] [] w13 := by
  intro n
  induction n with
  | zero => intro w13 x12 w14 h K; simp [lpX5_joinSteps_46] at h
  | succ n ih =>
    intro w13 x12 w14 h K
    rw [lpX5_joinSteps_46] at h
    refine zs_iload_n dX5_joinSteps_46 rfl ?_
    refine zs_aload_n dX5_joinSteps_47 rfl ?_
    refine gX5_30 dX5_joinSteps_48 ?_
    refine zs_icmp_ge 98 dX5_joinSteps_51 rfl (fun c32 => ?_) (fun c32 => ?_)
    · replace h := zite_t c32 h
      refine zs_fo [false, false, false] rfl ?_
      obtain rfl := Option.some.inj h
      exact K
    · replace h := zite_f c32 h
      refine zs_iconst (0 : Int32) dX5_joinSteps_54 ziconst_0 ?_
      refine zs_istore_n [some (.ref 40), some (.int x12), some (.int (0 : Int32))] dX5_joinSteps_55 (Nat.le_of_ble_eq_true rfl) rfl rfl ?_
      obtain ⟨w31, e29, h⟩ := zbind h
      have K30 : zWP RX5 cX5_joinSteps (zMB 3 none 2 Q) 92 [some (.ref 40), some (.int x12), none] [] w31 := by
        refine zs_iinc (x12 + 1) [some (.ref 40), some (.int (x12 + 1)), none] dX5_joinSteps_92 rfl rfl (Nat.le_of_ble_eq_true rfl) rfl rfl ?_
        refine zs_goto 46 dX5_joinSteps_95 rfl ?_
        exact ih _ _ _ h K
      exact tlX5_joinSteps_56  zF _ _ _ e29 K30
set_option maxRecDepth 100000 in
theorem tX5_joinSteps {w : zW}    {w' : zW} (h : fX5_joinSteps w  = some w') : zRun yX5_joinSteps cX5_joinSteps 3 none 2 [.ref 40] w (zV w') := by
  refine zRun.of (k := 2) rfl rfl rfl ?_
  show zWP RX5 cX5_joinSteps (zMB 3 none 2 (zV w')) 0 [some (.ref 40), none, none] [] w
  unfold fX5_joinSteps at h
  refine zs_aload_n dX5_joinSteps_0 rfl ?_
  refine gX5_9 dX5_joinSteps_1 ?_
  refine zs_iconst (0 : Int32) dX5_joinSteps_4 ziconst_0 ?_
  refine zs_aload_n dX5_joinSteps_5 rfl ?_
  refine gX5_15 dX5_joinSteps_6 ?_
  refine zs_iconst (0 : Int32) dX5_joinSteps_9 ziconst_0 ?_
  refine zs_sipush (144 : Int32) dX5_joinSteps_10 zsipush_144 ?_
  obtain ⟨w1, e2, h⟩ := zbind h
  refine zs_cpi kX5_92 znat_cp zst_cp zin_sys (zrm2 (by decide)) (Nat.le_of_ble_eq_true rfl) dX5_joinSteps_13 za_41 za_42 e2 ?_
  refine zs_iconst (0 : Int32) dX5_joinSteps_16 ziconst_0 ?_
  refine zs_istore_n [some (.ref 40), some (.int (0 : Int32)), none] dX5_joinSteps_17 (Nat.le_of_ble_eq_true rfl) rfl rfl ?_
  obtain ⟨w11, e9, h⟩ := zbind h
  have K10 : zWP RX5 cX5_joinSteps (zMB 3 none 2 (zV w')) 44 [some (.ref 40), none, none] [] w11 := by
    refine zs_iconst (0 : Int32) dX5_joinSteps_44 ziconst_0 ?_
    refine zs_istore_n [some (.ref 40), some (.int (0 : Int32)), none] dX5_joinSteps_45 (Nat.le_of_ble_eq_true rfl) rfl rfl ?_
    obtain ⟨w35, e33, h⟩ := zbind h
    have K34 : zWP RX5 cX5_joinSteps (zMB 3 none 2 (zV w')) 98 [none, none, none] [] w35 := by
      obtain rfl := Option.some.inj h
      exact zs_vret dX5_joinSteps_98 ⟨rfl, rfl⟩
    exact tlX5_joinSteps_46  zF _ _ _ e33 K34
  exact tlX5_joinSteps_18  zF _ _ _ e9 K10
def fX5_layStep (w : zW) (o1 : Nat) (p2 : Int32) (p3 : Int32) (p4 : Int32) (p5 : Int32) : Option zW := Option.bind (fX5_areHere w p3 p4) fun v2 => (if v2 = 0 then (some w) else (Option.bind (fX0_carries w o1 p2 p3 p4) fun v4 => (if v4 = 0 then (some w) else (Option.bind (zwr w 41 144 ((p3 * (12 : Int32)) + p4) p5) fun w5 => some w5))))
set_option maxRecDepth 100000 in
theorem tX5_layStep {w : zW} {o1 : Nat} {p2 : Int32} {p3 : Int32} {p4 : Int32} {p5 : Int32} (ho1 : zIsLand o1)  {w' : zW} (h : fX5_layStep w o1 p2 p3 p4 p5 = some w') : zRun yX5_layStep cX5_layStep 6 none 3 [.ref 40, .ref o1, .int p2, .int p3, .int p4, .int p5] w (zV w') := by
  refine zRun.of (k := 0) rfl rfl rfl ?_
  show zWP RX5 cX5_layStep (zMB 6 none 3 (zV w')) 0 [some (.ref 40), some (.ref o1), some (.int p2), some (.int p3), some (.int p4), some (.int p5)] [] w
  unfold fX5_layStep at h
  refine zs_aload_n dX5_layStep_0 rfl ?_
  refine zs_iload_n dX5_layStep_1 rfl ?_
  refine zs_iload dX5_layStep_2 rfl ?_
  obtain ⟨v2, e1, h⟩ := zbind h
  refine zc_V2i moX5_areHere mvX5_areHere kX5_84 rfl dX5_layStep_4 za_40 (Nat.le_of_ble_eq_true rfl) (zrm (by decide)) (tX5_areHere e1) ?_
  refine zs_if_eq 35 dX5_layStep_7 rfl (fun c8 => ?_) (fun c8 => ?_)
  · replace h := zite_t c8 h
    obtain rfl := Option.some.inj h
    exact zs_vret dX5_layStep_35 ⟨rfl, rfl⟩
  · replace h := zite_f c8 h
    refine zs_aload_n dX5_layStep_10 rfl ?_
    refine zs_iload_n dX5_layStep_11 rfl ?_
    refine zs_iload_n dX5_layStep_12 rfl ?_
    refine zs_iload dX5_layStep_13 rfl ?_
    obtain ⟨v4, e3, h⟩ := zbind h
    refine zc_V3i moX0_carries mvX0_carries kX5_88 rfl dX5_layStep_15 (za_L ho1) (Nat.le_of_ble_eq_true rfl) (zrm (by decide)) (tX0_carries ho1 e3) ?_
    refine zs_if_eq 35 dX5_layStep_18 rfl (fun c7 => ?_) (fun c7 => ?_)
    · replace h := zite_t c7 h
      obtain rfl := Option.some.inj h
      exact zs_vret dX5_layStep_35 ⟨rfl, rfl⟩
    · replace h := zite_f c7 h
      refine zs_aload_n dX5_layStep_21 rfl ?_
      refine gX5_9 dX5_layStep_22 ?_
      refine zs_iload_n dX5_layStep_25 rfl ?_
      refine zs_bipush (12 : Int32) dX5_layStep_26 zbipush_12 ?_
      refine zs_imul dX5_layStep_28 ?_
      refine zs_iload dX5_layStep_29 rfl ?_
      refine zs_iadd dX5_layStep_31 ?_
      refine zs_iload dX5_layStep_32 rfl ?_
      obtain ⟨w5, e6, h⟩ := zbind h
      refine zs_iast dX5_layStep_34 za_41 e6 ?_
      obtain rfl := Option.some.inj h
      exact zs_vret dX5_layStep_35 ⟨rfl, rfl⟩
def lpX5_layOut_52 (o1 : Nat) (p2 : Int32) : Nat → zW → Int32 → Option zW
  | 0, _, _ => none
  | n + 1, w20, x19 => (if (144 : Int32) ≤ x19 then (some w20) else (Option.bind (zwr w20 41 144 x19 (1000000 : Int32)) fun w22 => lpX5_layOut_52 o1 p2 n w22 (x19 + 1)))
def lpX5_layOut_75 (o1 : Nat) (p2 : Int32) : Nat → zW → Int32 → Option zW
  | 0, _, _ => none
  | n + 1, w29, x28 => (if (w29.1 o1 3) ≤ x28 then (some w29) else (Option.bind (zrd w29 (o1 + 4) 24 x28) fun v31 => Option.bind (fX2_daysFor w29 p2 v31) fun v34 => Option.bind (zrd w29 (o1 + 2) 24 x28) fun v35 => Option.bind (zrd w29 (o1 + 3) 24 x28) fun v37 => Option.bind (fX5_layStep w29 o1 p2 v35 v37 v34) fun w40 => Option.bind (zrd w40 (o1 + 3) 24 x28) fun v41 => Option.bind (zrd w40 (o1 + 2) 24 x28) fun v43 => Option.bind (fX5_layStep w40 o1 p2 v41 v43 v34) fun w46 => lpX5_layOut_75 o1 p2 n w46 (x28 + 1)))
def fX5_layOut (w : zW) (o1 : Nat) (p2 : Int32) : Option zW := Option.bind (some (zsf w 40 2 (zmin (w.1 o1 0) (12 : Int32)))) fun w1 => Option.bind (fX0_lowest w1 o1) fun v4 => Option.bind (some (zsf w1 40 3 v4)) fun w5 => Option.bind (fX0_highest w5 o1) fun v8 => Option.bind (some (zsf w5 40 4 v8)) fun w9 => Option.bind (some (zsf w9 40 5 (zmax (w9.1 o1 7) (1 : Int32)))) fun w11 => Option.bind (fX0_balloonTakes w11 o1 p2) fun v14 => Option.bind (zgb v14) fun b15 => Option.bind (some (zsf w11 40 6 b15)) fun w17 => Option.bind (lpX5_layOut_52 o1 p2 zF w17 (0 : Int32)) fun w27 => Option.bind (lpX5_layOut_75 o1 p2 zF w27 (0 : Int32)) fun w50 => Option.bind (fX5_joinSteps w50) fun w52 => some w52
set_option maxRecDepth 100000 in
theorem tlX5_layOut_52 {o1 : Nat} {p2 : Int32} (ho1 : zIsLand o1) {Q : Option Value → zW → Prop} : ∀ (n : Nat) (w20 : zW) (x19 : Int32) (w21 : zW), lpX5_layOut_52 o1 p2 n w20 x19 = some w21 → zWP RX5 cX5_layOut (zMB 5 none 4 Q) 73 [some (.ref 40), some (.ref o1), some (.int p2), none, none] [] w21 → zWP RX5 cX5_layOut (zMB 5 none 4 Q) 52 [some (.ref 40), some (.ref o1), some (.int p2), some (.int x19), none] [] w20 := by
  intro n
  induction n with
  | zero => intro w20 x19 w21 h K; simp [lpX5_layOut_52] at h
  | succ n ih =>
    intro w20 x19 w21 h K
    rw [lpX5_layOut_52] at h
    refine zs_iload_n dX5_layOut_52 rfl ?_
    refine zs_sipush (144 : Int32) dX5_layOut_53 zsipush_144 ?_
    refine zs_icmp_ge 73 dX5_layOut_56 rfl (fun c24 => ?_) (fun c24 => ?_)
    · replace h := zite_t c24 h
      refine zs_fo [true, true, true, false, false] rfl ?_
      obtain rfl := Option.some.inj h
      exact K
    · replace h := zite_f c24 h
      refine zs_aload_n dX5_layOut_59 rfl ?_
      refine gX5_9 dX5_layOut_60 ?_
      refine zs_iload_n dX5_layOut_63 rfl ?_
      refine zs_ldc kX5_59 dX5_layOut_64 ?_
      obtain ⟨w22, e23, h⟩ := zbind h
      refine zs_iast dX5_layOut_66 za_41 e23 ?_
      refine zs_iinc (x19 + 1) [some (.ref 40), some (.ref o1), some (.int p2), some (.int (x19 + 1)), none] dX5_layOut_67 rfl rfl (Nat.le_of_ble_eq_true rfl) rfl rfl ?_
      refine zs_goto 52 dX5_layOut_70 rfl ?_
      exact ih _ _ _ h K
set_option maxRecDepth 100000 in
theorem tlX5_layOut_75 {o1 : Nat} {p2 : Int32} (ho1 : zIsLand o1) {Q : Option Value → zW → Prop} : ∀ (n : Nat) (w29 : zW) (x28 : Int32) (w30 : zW), lpX5_layOut_75 o1 p2 n w29 x28 = some w30 → zWP RX5 cX5_layOut (zMB 5 none 4 Q) 141 [some (.ref 40), none, none, none, none] [] w30 → zWP RX5 cX5_layOut (zMB 5 none 4 Q) 75 [some (.ref 40), some (.ref o1), some (.int p2), some (.int x28), none] [] w29 := by
  intro n
  induction n with
  | zero => intro w29 x28 w30 h K; simp [lpX5_layOut_75] at h
  | succ n ih =>
    intro w29 x28 w30 h K
    rw [lpX5_layOut_75] at h
    refine zs_iload_n dX5_layOut_75 rfl ?_
    refine zs_aload_n dX5_layOut_76 rfl ?_
    refine gX5_60 ho1 dX5_layOut_77 ?_
    refine zs_icmp_ge 141 dX5_layOut_80 rfl (fun c47 => ?_) (fun c47 => ?_)
    · replace h := zite_t c47 h
      refine zs_fo [true, false, false, false, false] rfl ?_
      obtain rfl := Option.some.inj h
      exact K
    · replace h := zite_f c47 h
      refine zs_iload_n dX5_layOut_83 rfl ?_
      refine zs_aload_n dX5_layOut_84 rfl ?_
      refine gX5_63 ho1 dX5_layOut_85 ?_
      refine zs_iload_n dX5_layOut_88 rfl ?_
      obtain ⟨v31, e32, h⟩ := zbind h
      refine zs_iald dX5_layOut_89 (za_L4 ho1) e32 ?_
      obtain ⟨v34, e33, h⟩ := zbind h
      refine zc_S2i moX2_daysFor mvX2_daysFor kX5_66 dX5_layOut_90 (Nat.le_of_ble_eq_true rfl) (zrm (by decide)) (tX2_daysFor e33) ?_
      refine zs_istore [some (.ref 40), some (.ref o1), some (.int p2), some (.int x28), some (.int v34)] dX5_layOut_93 (Nat.le_of_ble_eq_true rfl) rfl rfl ?_
      refine zs_aload_n dX5_layOut_95 rfl ?_
      refine zs_aload_n dX5_layOut_96 rfl ?_
      refine zs_iload_n dX5_layOut_97 rfl ?_
      refine zs_aload_n dX5_layOut_98 rfl ?_
      refine gX5_71 ho1 dX5_layOut_99 ?_
      refine zs_iload_n dX5_layOut_102 rfl ?_
      obtain ⟨v35, e36, h⟩ := zbind h
      refine zs_iald dX5_layOut_103 (za_L2 ho1) e36 ?_
      refine zs_aload_n dX5_layOut_104 rfl ?_
      refine gX5_74 ho1 dX5_layOut_105 ?_
      refine zs_iload_n dX5_layOut_108 rfl ?_
      obtain ⟨v37, e38, h⟩ := zbind h
      refine zs_iald dX5_layOut_109 (za_L3 ho1) e38 ?_
      refine zs_iload dX5_layOut_110 rfl ?_
      obtain ⟨w40, e39, h⟩ := zbind h
      refine zc_V5v moX5_layStep mvX5_layStep kX5_77 rfl dX5_layOut_112 za_40 (Nat.le_of_ble_eq_true rfl) (zrm (by decide)) (tX5_layStep ho1 e39) ?_
      refine zs_aload_n dX5_layOut_115 rfl ?_
      refine zs_aload_n dX5_layOut_116 rfl ?_
      refine zs_iload_n dX5_layOut_117 rfl ?_
      refine zs_aload_n dX5_layOut_118 rfl ?_
      refine gX5_74 ho1 dX5_layOut_119 ?_
      refine zs_iload_n dX5_layOut_122 rfl ?_
      obtain ⟨v41, e42, h⟩ := zbind h
      refine zs_iald dX5_layOut_123 (za_L3 ho1) e42 ?_
      refine zs_aload_n dX5_layOut_124 rfl ?_
      refine gX5_71 ho1 dX5_layOut_125 ?_
      refine zs_iload_n dX5_layOut_128 rfl ?_
      obtain ⟨v43, e44, h⟩ := zbind h
      refine zs_iald dX5_layOut_129 (za_L2 ho1) e44 ?_
      refine zs_iload dX5_layOut_130 rfl ?_
      obtain ⟨w46, e45, h⟩ := zbind h
      refine zc_V5v moX5_layStep mvX5_layStep kX5_77 rfl dX5_layOut_132 za_40 (Nat.le_of_ble_eq_true rfl) (zrm (by decide)) (tX5_layStep ho1 e45) ?_
      refine zs_iinc (x28 + 1) [some (.ref 40), some (.ref o1), some (.int p2), some (.int (x28 + 1)), some (.int v34)] dX5_layOut_135 rfl rfl (Nat.le_of_ble_eq_true rfl) rfl rfl ?_
      refine zs_goto 75 dX5_layOut_138 rfl ?_
      refine zs_fo [true, true, true, true, false] rfl ?_
      exact ih _ _ _ h K
set_option maxRecDepth 100000 in
theorem tX5_layOut {w : zW} {o1 : Nat} {p2 : Int32} (ho1 : zIsLand o1)  {w' : zW} (h : fX5_layOut w o1 p2 = some w') : zRun yX5_layOut cX5_layOut 5 none 4 [.ref 40, .ref o1, .int p2] w (zV w') := by
  refine zRun.of (k := 2) rfl rfl rfl ?_
  show zWP RX5 cX5_layOut (zMB 5 none 4 (zV w')) 0 [some (.ref 40), some (.ref o1), some (.int p2), none, none] [] w
  unfold fX5_layOut at h
  refine zs_aload_n dX5_layOut_0 rfl ?_
  refine zs_aload_n dX5_layOut_1 rfl ?_
  refine gX5_18 ho1 dX5_layOut_2 ?_
  refine zs_bipush (12 : Int32) dX5_layOut_5 zbipush_12 ?_
  refine zs_min kX5_24 zst_min zin_math zco_min (zrm1 (by decide)) (Nat.le_of_ble_eq_true rfl) dX5_layOut_7 ?_
  obtain ⟨w1, e2, h⟩ := zbind h
  refine pX5_30 dX5_layOut_10 ?_
  refine zs_nmw (Option.some.inj e2) ?_
  refine zs_aload_n dX5_layOut_13 rfl ?_
  refine zs_aload_n dX5_layOut_14 rfl ?_
  obtain ⟨v4, e3, h⟩ := zbind h
  refine zc_V0i moX0_lowest mvX0_lowest kX5_31 rfl dX5_layOut_15 (za_L ho1) (Nat.le_of_ble_eq_true rfl) (zrm (by decide)) (tX0_lowest ho1 e3) ?_
  obtain ⟨w5, e6, h⟩ := zbind h
  refine pX5_35 dX5_layOut_18 ?_
  refine zs_nmw (Option.some.inj e6) ?_
  refine zs_aload_n dX5_layOut_21 rfl ?_
  refine zs_aload_n dX5_layOut_22 rfl ?_
  obtain ⟨v8, e7, h⟩ := zbind h
  refine zc_V0i moX0_highest mvX0_highest kX5_38 rfl dX5_layOut_23 (za_L ho1) (Nat.le_of_ble_eq_true rfl) (zrm (by decide)) (tX0_highest ho1 e7) ?_
  obtain ⟨w9, e10, h⟩ := zbind h
  refine pX5_41 dX5_layOut_26 ?_
  refine zs_nmw (Option.some.inj e10) ?_
  refine zs_aload_n dX5_layOut_29 rfl ?_
  refine zs_aload_n dX5_layOut_30 rfl ?_
  refine gX5_44 ho1 dX5_layOut_31 ?_
  refine zs_iconst (1 : Int32) dX5_layOut_34 ziconst_1 ?_
  refine zs_max kX5_47 zst_max zin_math zco_max (zrm1 (by decide)) (Nat.le_of_ble_eq_true rfl) dX5_layOut_35 ?_
  obtain ⟨w11, e12, h⟩ := zbind h
  refine pX5_50 dX5_layOut_38 ?_
  refine zs_nmw (Option.some.inj e12) ?_
  refine zs_aload_n dX5_layOut_41 rfl ?_
  refine zs_aload_n dX5_layOut_42 rfl ?_
  refine zs_iload_n dX5_layOut_43 rfl ?_
  obtain ⟨v14, e13, h⟩ := zbind h
  refine zc_V1i moX0_balloonTakes mvX0_balloonTakes kX5_51 rfl dX5_layOut_44 (za_L ho1) (Nat.le_of_ble_eq_true rfl) (zrm (by decide)) (tX0_balloonTakes ho1 e13) ?_
  obtain ⟨b15, e16, h⟩ := zbind h
  refine zs_nmi (zgb_inv e16).2 ?_
  obtain ⟨w17, e18, h⟩ := zbind h
  refine pX5_55 (by have q := zgb_inv e16; exact q.2 ▸ q.1) dX5_layOut_47 ?_
  refine zs_nmw (Option.some.inj e18) ?_
  refine zs_iconst (0 : Int32) dX5_layOut_50 ziconst_0 ?_
  refine zs_istore_n [some (.ref 40), some (.ref o1), some (.int p2), some (.int (0 : Int32)), none] dX5_layOut_51 (Nat.le_of_ble_eq_true rfl) rfl rfl ?_
  obtain ⟨w27, e25, h⟩ := zbind h
  have K26 : zWP RX5 cX5_layOut (zMB 5 none 4 (zV w')) 73 [some (.ref 40), some (.ref o1), some (.int p2), none, none] [] w27 := by
    refine zs_iconst (0 : Int32) dX5_layOut_73 ziconst_0 ?_
    refine zs_istore_n [some (.ref 40), some (.ref o1), some (.int p2), some (.int (0 : Int32)), none] dX5_layOut_74 (Nat.le_of_ble_eq_true rfl) rfl rfl ?_
    obtain ⟨w50, e48, h⟩ := zbind h
    have K49 : zWP RX5 cX5_layOut (zMB 5 none 4 (zV w')) 141 [some (.ref 40), none, none, none, none] [] w50 := by
      refine zs_aload_n dX5_layOut_141 rfl ?_
      obtain ⟨w52, e51, h⟩ := zbind h
      refine zc_V0v moX5_joinSteps mvX5_joinSteps kX5_81 rfl dX5_layOut_142 za_40 (Nat.le_of_ble_eq_true rfl) (zrm (by decide)) (tX5_joinSteps e51) ?_
      obtain rfl := Option.some.inj h
      exact zs_vret dX5_layOut_145 ⟨rfl, rfl⟩
    exact tlX5_layOut_75 ho1 zF _ _ _ e48 K49
  exact tlX5_layOut_52 ho1 zF _ _ _ e25 K26
def lpX5_silentPairs_16 (w : zW) (x2 : Int32) : Nat → Int32 → Int32 → Option Int32
  | 0, _, _ => none
  | n + 1, x6, x7 => (if (w.1 40 2) ≤ x7 then (some x6) else (Option.bind (fX5_comes w x2 x7) fun v10 => Option.bind (if v10 = 0 then (Option.bind (fX5_comes w x7 x2) fun v18 => (if v18 = 0 then (some (x6 + 1)) else (some x6))) else (some x6)) fun x14 => lpX5_silentPairs_16 w x2 n x14 (x7 + 1)))
def lpX5_silentPairs_4 (w : zW) : Nat → Int32 → Int32 → Option Int32
  | 0, _, _ => none
  | n + 1, x1, x2 => (if (w.1 40 2) ≤ x2 then (some x1) else (Option.bind (some ((x2 + (1 : Int32)))) fun x4 => Option.bind (lpX5_silentPairs_16 w x2 zF x1 x4) fun y24 => lpX5_silentPairs_4 w n y24 (x2 + 1)))
def fX5_silentPairs (w : zW)  : Option Int32 := Option.bind (lpX5_silentPairs_4 w zF (0 : Int32) (0 : Int32)) fun y28 => some y28
set_option maxRecDepth 100000 in
theorem tlX5_silentPairs_16 {w : zW} {x2 : Int32}  {Q : Option Value → zW → Prop} : ∀ (n : Nat) (x6 : Int32) (x7 : Int32) (y8 : Int32), lpX5_silentPairs_16 w x2 n x6 x7 = some y8 → zWP RX5 cX5_silentPairs (zMB 4 (some .int) 4 Q) 51 [some (.ref 40), some (.int y8), some (.int x2), none] [] w → zWP RX5 cX5_silentPairs (zMB 4 (some .int) 4 Q) 16 [some (.ref 40), some (.int x6), some (.int x2), some (.int x7)] [] w := by
  intro n
  induction n with
  | zero => intro x6 x7 y8 h K; simp [lpX5_silentPairs_16] at h
  | succ n ih =>
    intro x6 x7 y8 h K
    rw [lpX5_silentPairs_16] at h
    refine zs_iload_n dX5_silentPairs_16 rfl ?_
    refine zs_aload_n dX5_silentPairs_17 rfl ?_
    refine gX5_30 dX5_silentPairs_18 ?_
    refine zs_icmp_ge 51 dX5_silentPairs_21 rfl (fun c21 => ?_) (fun c21 => ?_)
    · replace h := zite_t c21 h
      refine zs_fo [true, true, true, false] rfl ?_
      obtain rfl := Option.some.inj h
      exact K
    · replace h := zite_f c21 h
      refine zs_aload_n dX5_silentPairs_24 rfl ?_
      refine zs_iload_n dX5_silentPairs_25 rfl ?_
      refine zs_iload_n dX5_silentPairs_26 rfl ?_
      obtain ⟨v10, e9, h⟩ := zbind h
      refine zc_V2i moX5_comes mvX5_comes kX5_116 rfl dX5_silentPairs_27 za_40 (Nat.le_of_ble_eq_true rfl) (zrm (by decide)) (tX5_comes e9) ?_
      obtain ⟨x14, m16, h⟩ := zbind h
      have K15 : zWP RX5 cX5_silentPairs (zMB 4 (some .int) 4 Q) 45 [some (.ref 40), some (.int x14), some (.int x2), some (.int x7)] [] w := by
        refine zs_iinc (x7 + 1) [some (.ref 40), some (.int x14), some (.int x2), some (.int (x7 + 1))] dX5_silentPairs_45 rfl rfl (Nat.le_of_ble_eq_true rfl) rfl rfl ?_
        refine zs_goto 16 dX5_silentPairs_48 rfl ?_
        exact ih _ _ _ h K
      refine zs_if_ne 45 dX5_silentPairs_30 rfl (fun c20 => ?_) (fun c20 => ?_)
      · replace m16 := zite_f c20 m16
        obtain rfl := Option.some.inj m16
        exact K15
      · replace m16 := zite_t c20 m16
        refine zs_aload_n dX5_silentPairs_33 rfl ?_
        refine zs_iload_n dX5_silentPairs_34 rfl ?_
        refine zs_iload_n dX5_silentPairs_35 rfl ?_
        obtain ⟨v18, e17, m16⟩ := zbind m16
        refine zc_V2i moX5_comes mvX5_comes kX5_116 rfl dX5_silentPairs_36 za_40 (Nat.le_of_ble_eq_true rfl) (zrm (by decide)) (tX5_comes e17) ?_
        refine zs_if_ne 45 dX5_silentPairs_39 rfl (fun c19 => ?_) (fun c19 => ?_)
        · replace m16 := zite_f c19 m16
          obtain rfl := Option.some.inj m16
          exact K15
        · replace m16 := zite_t c19 m16
          refine zs_iinc (x6 + 1) [some (.ref 40), some (.int (x6 + 1)), some (.int x2), some (.int x7)] dX5_silentPairs_42 rfl rfl (Nat.le_of_ble_eq_true rfl) rfl rfl ?_
          obtain rfl := Option.some.inj m16
          exact K15
set_option maxRecDepth 100000 in
theorem tlX5_silentPairs_4 {w : zW}  {Q : Option Value → zW → Prop} : ∀ (n : Nat) (x1 : Int32) (x2 : Int32) (y3 : Int32), lpX5_silentPairs_4 w n x1 x2 = some y3 → zWP RX5 cX5_silentPairs (zMB 4 (some .int) 4 Q) 57 [none, some (.int y3), none, none] [] w → zWP RX5 cX5_silentPairs (zMB 4 (some .int) 4 Q) 4 [some (.ref 40), some (.int x1), some (.int x2), none] [] w := by
  intro n
  induction n with
  | zero => intro x1 x2 y3 h K; simp [lpX5_silentPairs_4] at h
  | succ n ih =>
    intro x1 x2 y3 h K
    rw [lpX5_silentPairs_4] at h
    refine zs_iload_n dX5_silentPairs_4 rfl ?_
    refine zs_aload_n dX5_silentPairs_5 rfl ?_
    refine gX5_30 dX5_silentPairs_6 ?_
    refine zs_icmp_ge 57 dX5_silentPairs_9 rfl (fun c25 => ?_) (fun c25 => ?_)
    · replace h := zite_t c25 h
      refine zs_fo [false, true, false, false] rfl ?_
      obtain rfl := Option.some.inj h
      exact K
    · replace h := zite_f c25 h
      refine zs_iload_n dX5_silentPairs_12 rfl ?_
      refine zs_iconst (1 : Int32) dX5_silentPairs_13 ziconst_1 ?_
      refine zs_iadd dX5_silentPairs_14 ?_
      obtain ⟨x4, e5, h⟩ := zbind h
      refine zs_nmi (Option.some.inj e5) ?_
      refine zs_istore_n [some (.ref 40), some (.int x1), some (.int x2), some (.int x4)] dX5_silentPairs_15 (Nat.le_of_ble_eq_true rfl) rfl rfl ?_
      obtain ⟨y24, e22, h⟩ := zbind h
      have K23 : zWP RX5 cX5_silentPairs (zMB 4 (some .int) 4 Q) 51 [some (.ref 40), some (.int y24), some (.int x2), none] [] w := by
        refine zs_iinc (x2 + 1) [some (.ref 40), some (.int y24), some (.int (x2 + 1)), none] dX5_silentPairs_51 rfl rfl (Nat.le_of_ble_eq_true rfl) rfl rfl ?_
        refine zs_goto 4 dX5_silentPairs_54 rfl ?_
        exact ih _ _ _ h K
      exact tlX5_silentPairs_16  zF _ _ _ e22 K23
set_option maxRecDepth 100000 in
theorem tX5_silentPairs {w : zW}   {r : Int32} (h : fX5_silentPairs w  = some r) : zRun yX5_silentPairs cX5_silentPairs 4 (some .int) 4 [.ref 40] w (zI r w) := by
  refine zRun.of (k := 3) rfl rfl rfl ?_
  show zWP RX5 cX5_silentPairs (zMB 4 (some .int) 4 (zI r w)) 0 [some (.ref 40), none, none, none] [] w
  unfold fX5_silentPairs at h
  refine zs_iconst (0 : Int32) dX5_silentPairs_0 ziconst_0 ?_
  refine zs_istore_n [some (.ref 40), some (.int (0 : Int32)), none, none] dX5_silentPairs_1 (Nat.le_of_ble_eq_true rfl) rfl rfl ?_
  refine zs_iconst (0 : Int32) dX5_silentPairs_2 ziconst_0 ?_
  refine zs_istore_n [some (.ref 40), some (.int (0 : Int32)), some (.int (0 : Int32)), none] dX5_silentPairs_3 (Nat.le_of_ble_eq_true rfl) rfl rfl ?_
  obtain ⟨y28, e26, h⟩ := zbind h
  have K27 : zWP RX5 cX5_silentPairs (zMB 4 (some .int) 4 (zI r w)) 57 [none, some (.int y28), none, none] [] w := by
    refine zs_iload_n dX5_silentPairs_57 rfl ?_
    obtain rfl := Option.some.inj h
    exact zs_iret dX5_silentPairs_58 ⟨rfl, rfl⟩
  exact tlX5_silentPairs_4  zF _ _ _ e26 K27
