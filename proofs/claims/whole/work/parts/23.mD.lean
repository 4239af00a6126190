def fX6_areVillages (w : zW) (p1 : Int32) (p2 : Int32) : Option Int32 := Option.bind (fX0_hasVillage w 10 p1) fun v2 => (if v2 = 0 then (some (0 : Int32)) else (Option.bind (fX0_hasVillage w 10 p2) fun v4 => (if v4 = 0 then (some (0 : Int32)) else (some (1 : Int32)))))
set_option maxRecDepth 100000 in
theorem tX6_areVillages {w : zW} {p1 : Int32} {p2 : Int32}  {r : Int32} (h : fX6_areVillages w p1 p2 = some r) : zRun yX6_areVillages cX6_areVillages 3 (some .boolean) 1 [.ref 0, .int p1, .int p2] w (zI r w) := by
  refine zRun.of (k := 0) rfl rfl rfl ?_
  show zWP RX6 cX6_areVillages (zMB 3 (some .boolean) 1 (zI r w)) 0 [some (.ref 0), some (.int p1), some (.int p2)] [] w
  unfold fX6_areVillages at h
  refine zs_aload_n dX6_areVillages_0 rfl ?_
  refine gX6_10 dX6_areVillages_1 ?_
  refine zs_iload_n dX6_areVillages_4 rfl ?_
  obtain ⟨v2, e1, h⟩ := zbind h
  refine zc_V1i moX0_hasVillage mvX0_hasVillage kX6_65 rfl dX6_areVillages_5 (za_L zl_10) (Nat.le_of_ble_eq_true rfl) (zrm (by decide)) (tX0_hasVillage zl_10 e1) ?_
  refine zs_if_eq 26 dX6_areVillages_8 rfl (fun c6 => ?_) (fun c6 => ?_)
  · replace h := zite_t c6 h
    refine zs_iconst (0 : Int32) dX6_areVillages_26 ziconst_0 ?_
    obtain rfl := Option.some.inj h
    exact zs_bret dX6_areVillages_27 (Or.inl rfl) ⟨rfl, rfl⟩
  · replace h := zite_f c6 h
    refine zs_aload_n dX6_areVillages_11 rfl ?_
    refine gX6_10 dX6_areVillages_12 ?_
    refine zs_iload_n dX6_areVillages_15 rfl ?_
    obtain ⟨v4, e3, h⟩ := zbind h
    refine zc_V1i moX0_hasVillage mvX0_hasVillage kX6_65 rfl dX6_areVillages_16 (za_L zl_10) (Nat.le_of_ble_eq_true rfl) (zrm (by decide)) (tX0_hasVillage zl_10 e3) ?_
    refine zs_if_eq 26 dX6_areVillages_19 rfl (fun c5 => ?_) (fun c5 => ?_)
    · replace h := zite_t c5 h
      refine zs_iconst (0 : Int32) dX6_areVillages_26 ziconst_0 ?_
      obtain rfl := Option.some.inj h
      exact zs_bret dX6_areVillages_27 (Or.inl rfl) ⟨rfl, rfl⟩
    · replace h := zite_f c5 h
      refine zs_iconst (1 : Int32) dX6_areVillages_22 ziconst_1 ?_
      refine zs_goto 27 dX6_areVillages_23 rfl ?_
      obtain rfl := Option.some.inj h
      exact zs_bret dX6_areVillages_27 (Or.inr rfl) ⟨rfl, rfl⟩
def fX6_areUnlikeVillages (w : zW) (p1 : Int32) (p2 : Int32) : Option Int32 := Option.bind (fX6_areVillages w p1 p2) fun v2 => (if v2 = 0 then (some (0 : Int32)) else ((if p1 = p2 then (some (0 : Int32)) else (some (1 : Int32)))))
set_option maxRecDepth 100000 in
theorem tX6_areUnlikeVillages {w : zW} {p1 : Int32} {p2 : Int32}  {r : Int32} (h : fX6_areUnlikeVillages w p1 p2 = some r) : zRun yX6_areUnlikeVillages cX6_areUnlikeVillages 3 (some .boolean) 2 [.ref 0, .int p1, .int p2] w (zI r w) := by
  refine zRun.of (k := 0) rfl rfl rfl ?_
  show zWP RX6 cX6_areUnlikeVillages (zMB 3 (some .boolean) 2 (zI r w)) 0 [some (.ref 0), some (.int p1), some (.int p2)] [] w
  unfold fX6_areUnlikeVillages at h
  refine zs_aload_n dX6_areUnlikeVillages_0 rfl ?_
  refine zs_iload_n dX6_areUnlikeVillages_1 rfl ?_
  refine zs_iload_n dX6_areUnlikeVillages_2 rfl ?_
  obtain ⟨v2, e1, h⟩ := zbind h
  refine zc_V2i moX6_areVillages mvX6_areVillages kX6_143 rfl dX6_areUnlikeVillages_3 za_0 (Nat.le_of_ble_eq_true rfl) (zrm (by decide)) (tX6_areVillages e1) ?_
  refine zs_if_eq 18 dX6_areUnlikeVillages_6 rfl (fun c4 => ?_) (fun c4 => ?_)
  · replace h := zite_t c4 h
    refine zs_iconst (0 : Int32) dX6_areUnlikeVillages_18 ziconst_0 ?_
    obtain rfl := Option.some.inj h
    exact zs_bret dX6_areUnlikeVillages_19 (Or.inl rfl) ⟨rfl, rfl⟩
  · replace h := zite_f c4 h
    refine zs_iload_n dX6_areUnlikeVillages_9 rfl ?_
    refine zs_iload_n dX6_areUnlikeVillages_10 rfl ?_
    refine zs_icmp_eq 18 dX6_areUnlikeVillages_11 rfl (fun c3 => ?_) (fun c3 => ?_)
    · replace h := zite_t c3 h
      refine zs_iconst (0 : Int32) dX6_areUnlikeVillages_18 ziconst_0 ?_
      obtain rfl := Option.some.inj h
      exact zs_bret dX6_areUnlikeVillages_19 (Or.inl rfl) ⟨rfl, rfl⟩
    · replace h := zite_f c3 h
      refine zs_iconst (1 : Int32) dX6_areUnlikeVillages_14 ziconst_1 ?_
      refine zs_goto 19 dX6_areUnlikeVillages_15 rfl ?_
      obtain rfl := Option.some.inj h
      exact zs_bret dX6_areUnlikeVillages_19 (Or.inr rfl) ⟨rfl, rfl⟩
def fX6_finding (w : zW) (p1 : Int32) : Option (Int32 × zW) := Option.bind (some (((-1000000001 : Int32) - p1))) fun x1 => Option.bind (if x1 < 0 then (some w) else ((if (7 : Int32) ≤ x1 then (some w) else (Option.bind (zrd w 46 7 x1) fun v11 => Option.bind (zwr w 46 7 x1 (v11 + (1 : Int32))) fun w13 => some w13)))) fun w8 => some (p1, w8)
set_option maxRecDepth 100000 in
theorem tX6_finding {w : zW} {p1 : Int32}  {r : Int32} {w' : zW} (h : fX6_finding w p1 = some (r, w')) : zRun yX6_finding cX6_finding 3 (some .int) 0 [.ref 0, .int p1] w (zI r w') := by
  refine zRun.of (k := 1) rfl rfl rfl ?_
  show zWP RX6 cX6_finding (zMB 3 (some .int) 0 (zI r w')) 0 [some (.ref 0), some (.int p1), none] [] w
  unfold fX6_finding at h
  refine zs_ldc kX6_51 dX6_finding_0 ?_
  refine zs_iload_n dX6_finding_2 rfl ?_
  refine zs_isub dX6_finding_3 ?_
  obtain ⟨x1, e2, h⟩ := zbind h
  refine zs_nmi (Option.some.inj e2) ?_
  refine zs_istore_n [some (.ref 0), some (.int p1), some (.int x1)] dX6_finding_4 (Nat.le_of_ble_eq_true rfl) rfl rfl ?_
  refine zs_iload_n dX6_finding_5 rfl ?_
  obtain ⟨w8, m10, h⟩ := zbind h
  have K9 : zWP RX6 cX6_finding (zMB 3 (some .int) 0 (zI r w')) 25 [none, some (.int p1), none] [] w8 := by
    refine zs_iload_n dX6_finding_25 rfl ?_
    obtain ⟨rfl, rfl⟩ := zpi2 h
    exact zs_iret dX6_finding_26 ⟨rfl, rfl⟩
  refine zs_if_lt 25 dX6_finding_6 rfl (fun c16 => ?_) (fun c16 => ?_)
  · replace m10 := zite_t c16 m10
    refine zs_fo [false, true, false] rfl ?_
    obtain rfl := Option.some.inj m10
    exact K9
  · replace m10 := zite_f c16 m10
    refine zs_iload_n dX6_finding_9 rfl ?_
    refine zs_bipush (7 : Int32) dX6_finding_10 zbipush_7 ?_
    refine zs_icmp_ge 25 dX6_finding_12 rfl (fun c15 => ?_) (fun c15 => ?_)
    · replace m10 := zite_t c15 m10
      refine zs_fo [false, true, false] rfl ?_
      obtain rfl := Option.some.inj m10
      exact K9
    · replace m10 := zite_f c15 m10
      refine zs_aload_n dX6_finding_15 rfl ?_
      refine gX6_42 dX6_finding_16 ?_
      refine zs_iload_n dX6_finding_19 rfl ?_
      refine zs_dup2 dX6_finding_20 rfl rfl ?_
      obtain ⟨v11, e12, m10⟩ := zbind m10
      refine zs_iald dX6_finding_21 za_46 e12 ?_
      refine zs_iconst (1 : Int32) dX6_finding_22 ziconst_1 ?_
      refine zs_iadd dX6_finding_23 ?_
      obtain ⟨w13, e14, m10⟩ := zbind m10
      refine zs_iast dX6_finding_24 za_46 e14 ?_
      refine zs_fo [false, true, false] rfl ?_
      obtain rfl := Option.some.inj m10
      exact K9
def fX6_isKind (w : zW) (p0 : Int32) : Option Int32 := (if p0 < 0 then (some (0 : Int32)) else ((if (6 : Int32) ≤ p0 then (some (0 : Int32)) else (some (1 : Int32)))))
set_option maxRecDepth 100000 in
theorem tX6_isKind {w : zW} {p0 : Int32}  {r : Int32} (h : fX6_isKind w p0 = some r) : zRun yX6_isKind cX6_isKind 1 (some .boolean) 0 [.int p0] w (zI r w) := by
  refine zRun.of (k := 0) rfl rfl rfl ?_
  show zWP RX6 cX6_isKind (zMB 1 (some .boolean) 0 (zI r w)) 0 [some (.int p0)] [] w
  unfold fX6_isKind at h
  refine zs_iload_n dX6_isKind_0 rfl ?_
  refine zs_if_lt 14 dX6_isKind_1 rfl (fun c2 => ?_) (fun c2 => ?_)
  · replace h := zite_t c2 h
    refine zs_iconst (0 : Int32) dX6_isKind_14 ziconst_0 ?_
    obtain rfl := Option.some.inj h
    exact zs_bret dX6_isKind_15 (Or.inl rfl) ⟨rfl, rfl⟩
  · replace h := zite_f c2 h
    refine zs_iload_n dX6_isKind_4 rfl ?_
    refine zs_bipush (6 : Int32) dX6_isKind_5 zbipush_6 ?_
    refine zs_icmp_ge 14 dX6_isKind_7 rfl (fun c1 => ?_) (fun c1 => ?_)
    · replace h := zite_t c1 h
      refine zs_iconst (0 : Int32) dX6_isKind_14 ziconst_0 ?_
      obtain rfl := Option.some.inj h
      exact zs_bret dX6_isKind_15 (Or.inl rfl) ⟨rfl, rfl⟩
    · replace h := zite_f c1 h
      refine zs_iconst (1 : Int32) dX6_isKind_10 ziconst_1 ?_
      refine zs_goto 15 dX6_isKind_11 rfl ?_
      obtain rfl := Option.some.inj h
      exact zs_bret dX6_isKind_15 (Or.inr rfl) ⟨rfl, rfl⟩
def fX6_as (w : zW) (p1 : Int32) (p2 : Int32) : Option (Int32 × zW) := Option.bind (fX0_hasLetter w 10 p1) fun v2 => (if v2 = 0 then (zb2 (fX6_finding w (-1000000001 : Int32)) fun v4 w5 => some (v4, w5)) else (Option.bind (fX6_isKind w p2) fun v7 => (if v7 = 0 then (zb2 (fX6_finding w (-1000000001 : Int32)) fun v19 w20 => some (v19, w20)) else (Option.bind (zrd w (10 + 5) 10 p1) fun v8 => Option.bind (fX2_isUnder w v8 p2) fun v11 => (if v11 = 0 then (zb2 (fX6_finding w (-1000000003 : Int32)) fun v15 w16 => some (v15, w16)) else (Option.bind (zrd w (10 + 7) 10 p1) fun v12 => some (v12, w)))))))
set_option maxRecDepth 100000 in
theorem tX6_as {w : zW} {p1 : Int32} {p2 : Int32}  {r : Int32} {w' : zW} (h : fX6_as w p1 p2 = some (r, w')) : zRun yX6_as cX6_as 3 (some .int) 1 [.ref 0, .int p1, .int p2] w (zI r w') := by
  refine zRun.of (k := 0) rfl rfl rfl ?_
  show zWP RX6 cX6_as (zMB 3 (some .int) 1 (zI r w')) 0 [some (.ref 0), some (.int p1), some (.int p2)] [] w
  unfold fX6_as at h
  refine zs_aload_n dX6_as_0 rfl ?_
  refine gX6_10 dX6_as_1 ?_
  refine zs_iload_n dX6_as_4 rfl ?_
  obtain ⟨v2, e1, h⟩ := zbind h
  refine zc_V1i moX0_hasLetter mvX0_hasLetter kX6_196 rfl dX6_as_5 (za_L zl_10) (Nat.le_of_ble_eq_true rfl) (zrm (by decide)) (tX0_hasLetter zl_10 e1) ?_
  refine zs_if_eq 18 dX6_as_8 rfl (fun c22 => ?_) (fun c22 => ?_)
  · replace h := zite_t c22 h
    refine zs_aload_n dX6_as_18 rfl ?_
    refine zs_ldc kX6_51 dX6_as_19 ?_
    obtain ⟨v4, w5, e3, h⟩ := zb2_inv h
    refine zc_V1i moX6_finding mvX6_finding kX6_52 rfl dX6_as_21 za_0 (Nat.le_of_ble_eq_true rfl) (zrm (by decide)) (tX6_finding e3) ?_
    obtain ⟨rfl, rfl⟩ := zpi2 h
    exact zs_iret dX6_as_24 ⟨rfl, rfl⟩
  · replace h := zite_f c22 h
    refine zs_iload_n dX6_as_11 rfl ?_
    obtain ⟨v7, e6, h⟩ := zbind h
    refine zc_S1i moX6_isKind mvX6_isKind kX6_130 dX6_as_12 (Nat.le_of_ble_eq_true rfl) (zrm (by decide)) (tX6_isKind e6) ?_
    refine zs_if_ne 25 dX6_as_15 rfl (fun c21 => ?_) (fun c21 => ?_)
    · replace h := zite_f c21 h
      refine zs_aload_n dX6_as_25 rfl ?_
      refine gX6_10 dX6_as_26 ?_
      refine gX6_199 zl_10 dX6_as_29 ?_
      refine zs_iload_n dX6_as_32 rfl ?_
      obtain ⟨v8, e9, h⟩ := zbind h
      refine zs_iald dX6_as_33 (za_L5 zl_10) e9 ?_
      refine zs_iload_n dX6_as_34 rfl ?_
      obtain ⟨v11, e10, h⟩ := zbind h
      refine zc_S2i moX2_isUnder mvX2_isUnder kX6_217 dX6_as_35 (Nat.le_of_ble_eq_true rfl) (zrm (by decide)) (tX2_isUnder e10) ?_
      refine zs_if_ne 48 dX6_as_38 rfl (fun c17 => ?_) (fun c17 => ?_)
      · replace h := zite_f c17 h
        refine zs_aload_n dX6_as_48 rfl ?_
        refine gX6_10 dX6_as_49 ?_
        refine gX6_205 zl_10 dX6_as_52 ?_
        refine zs_iload_n dX6_as_55 rfl ?_
        obtain ⟨v12, e13, h⟩ := zbind h
        refine zs_iald dX6_as_56 (za_L7 zl_10) e13 ?_
        obtain ⟨rfl, rfl⟩ := zpi2 h
        exact zs_iret dX6_as_57 ⟨rfl, rfl⟩
      · replace h := zite_t c17 h
        refine zs_aload_n dX6_as_41 rfl ?_
        refine zs_ldc kX6_220 dX6_as_42 ?_
        obtain ⟨v15, w16, e14, h⟩ := zb2_inv h
        refine zc_V1i moX6_finding mvX6_finding kX6_52 rfl dX6_as_44 za_0 (Nat.le_of_ble_eq_true rfl) (zrm (by decide)) (tX6_finding e14) ?_
        obtain ⟨rfl, rfl⟩ := zpi2 h
        exact zs_iret dX6_as_47 ⟨rfl, rfl⟩
    · replace h := zite_t c21 h
      refine zs_aload_n dX6_as_18 rfl ?_
      refine zs_ldc kX6_51 dX6_as_19 ?_
      obtain ⟨v19, w20, e18, h⟩ := zb2_inv h
      refine zc_V1i moX6_finding mvX6_finding kX6_52 rfl dX6_as_21 za_0 (Nat.le_of_ble_eq_true rfl) (zrm (by decide)) (tX6_finding e18) ?_
      obtain ⟨rfl, rfl⟩ := zpi2 h
      exact zs_iret dX6_as_24 ⟨rfl, rfl⟩
def fX6_below (w : zW) (p1 : Int32) (p2 : Int32) : Option (Int32 × zW) := Option.bind (fX6_isKind w p1) fun v2 => (if v2 = 0 then (zb2 (fX6_finding w (-1000000001 : Int32)) fun v4 w5 => some (v4, w5)) else (Option.bind (fX0_hasVillage w 10 p2) fun v7 => (if v7 = 0 then (zb2 (fX6_finding w (-1000000001 : Int32)) fun v13 w14 => some (v13, w14)) else (Option.bind (fX5_layOut w 10 p1) fun w9 => Option.bind (fX5_allDownFrom w9 p2) fun v11 => some (v11, w9)))))
set_option maxRecDepth 100000 in
theorem tX6_below {w : zW} {p1 : Int32} {p2 : Int32}  {r : Int32} {w' : zW} (h : fX6_below w p1 p2 = some (r, w')) : zRun yX6_below cX6_below 3 (some .int) 5 [.ref 0, .int p1, .int p2] w (zI r w') := by
  refine zRun.of (k := 0) rfl rfl rfl ?_
  show zWP RX6 cX6_below (zMB 3 (some .int) 5 (zI r w')) 0 [some (.ref 0), some (.int p1), some (.int p2)] [] w
  unfold fX6_below at h
  refine zs_iload_n dX6_below_0 rfl ?_
  obtain ⟨v2, e1, h⟩ := zbind h
  refine zc_S1i moX6_isKind mvX6_isKind kX6_130 dX6_below_1 (Nat.le_of_ble_eq_true rfl) (zrm (by decide)) (tX6_isKind e1) ?_
  refine zs_if_eq 18 dX6_below_4 rfl (fun c16 => ?_) (fun c16 => ?_)
  · replace h := zite_t c16 h
    refine zs_aload_n dX6_below_18 rfl ?_
    refine zs_ldc kX6_51 dX6_below_19 ?_
    obtain ⟨v4, w5, e3, h⟩ := zb2_inv h
    refine zc_V1i moX6_finding mvX6_finding kX6_52 rfl dX6_below_21 za_0 (Nat.le_of_ble_eq_true rfl) (zrm (by decide)) (tX6_finding e3) ?_
    obtain ⟨rfl, rfl⟩ := zpi2 h
    exact zs_iret dX6_below_24 ⟨rfl, rfl⟩
  · replace h := zite_f c16 h
    refine zs_aload_n dX6_below_7 rfl ?_
    refine gX6_10 dX6_below_8 ?_
    refine zs_iload_n dX6_below_11 rfl ?_
    obtain ⟨v7, e6, h⟩ := zbind h
    refine zc_V1i moX0_hasVillage mvX0_hasVillage kX6_65 rfl dX6_below_12 (za_L zl_10) (Nat.le_of_ble_eq_true rfl) (zrm (by decide)) (tX0_hasVillage zl_10 e6) ?_
    refine zs_if_ne 25 dX6_below_15 rfl (fun c15 => ?_) (fun c15 => ?_)
    · replace h := zite_f c15 h
      refine zs_aload_n dX6_below_25 rfl ?_
      refine gX6_25 dX6_below_26 ?_
      refine zs_aload_n dX6_below_29 rfl ?_
      refine gX6_10 dX6_below_30 ?_
      refine zs_iload_n dX6_below_33 rfl ?_
      obtain ⟨w9, e8, h⟩ := zbind h
      refine zc_V2v moX5_layOut mvX5_layOut kX6_146 rfl dX6_below_34 za_40 (Nat.le_of_ble_eq_true rfl) (zrm (by decide)) (tX5_layOut zl_10 e8) ?_
      refine zs_aload_n dX6_below_37 rfl ?_
      refine gX6_25 dX6_below_38 ?_
      refine zs_iload_n dX6_below_41 rfl ?_
      obtain ⟨v11, e10, h⟩ := zbind h
      refine zc_V1i moX5_allDownFrom mvX5_allDownFrom kX6_165 rfl dX6_below_42 za_40 (Nat.le_of_ble_eq_true rfl) (zrm (by decide)) (tX5_allDownFrom e10) ?_
      obtain ⟨rfl, rfl⟩ := zpi2 h
      exact zs_iret dX6_below_45 ⟨rfl, rfl⟩
    · replace h := zite_t c15 h
      refine zs_aload_n dX6_below_18 rfl ?_
      refine zs_ldc kX6_51 dX6_below_19 ?_
      obtain ⟨v13, w14, e12, h⟩ := zb2_inv h
      refine zc_V1i moX6_finding mvX6_finding kX6_52 rfl dX6_below_21 za_0 (Nat.le_of_ble_eq_true rfl) (zrm (by decide)) (tX6_finding e12) ?_
      obtain ⟨rfl, rfl⟩ := zpi2 h
      exact zs_iret dX6_below_24 ⟨rfl, rfl⟩
def lpX6_bestDigging_21 (w : zW) (p1 : Int32) (p2 : Int32) (v2 : Int32) : Nat → Int32 → Int32 → Int32 → Option Int32
  | 0, _, _, _ => none
  | n + 1, x5, x6, x7 => (if (w.1 10 0) ≤ x7 then (some x5) else (zb2 (if x7 = p2 then (some (x5, x6)) else (Option.bind (fX0_carries w 10 p1 p2 x7) fun v22 => (if v22 = 0 then (some (x5, x6)) else (Option.bind (fX5_allFrom w x7) fun v24 => Option.bind (fJ6_bitCount_0f7a4 w (v2 ||| v24)) fun v26 => (if v26 ≤ x6 then (some (x5, x6)) else (some (x7, v26))))))) fun x17 x18 => lpX6_bestDigging_21 w p1 p2 v2 n x17 x18 (x7 + 1)))
def fX6_bestDigging (w : zW) (p1 : Int32) (p2 : Int32) : Option Int32 := Option.bind (fX5_allFrom w p2) fun v2 => Option.bind (fJ6_bitCount_0f7a4 w v2) fun v4 => Option.bind (lpX6_bestDigging_21 w p1 p2 v2 zF (-1 : Int32) v4 (0 : Int32)) fun y33 => some y33
set_option maxRecDepth 100000 in
theorem tlX6_bestDigging_21 {w : zW} {p1 : Int32} {p2 : Int32} {v2 : Int32}  {Q : Option Value → zW → Prop} : ∀ (n : Nat) (x5 : Int32) (x6 : Int32) (x7 : Int32) (y8 : Int32), lpX6_bestDigging_21 w p1 p2 v2 n x5 x6 x7 = some y8 → zWP RX6 cX6_bestDigging (zMB 8 (some .int) 5 Q) 90 [none, none, none, none, some (.int y8), none, none, none] [] w → zWP RX6 cX6_bestDigging (zMB 8 (some .int) 5 Q) 21 [some (.ref 0), some (.int p1), some (.int p2), some (.int v2), some (.int x5), some (.int x6), some (.int x7), none] [] w := by
  intro n
  induction n with
  | zero => intro x5 x6 x7 y8 h K; simp [lpX6_bestDigging_21] at h
  | succ n ih =>
    intro x5 x6 x7 y8 h K
    rw [lpX6_bestDigging_21] at h
    refine zs_iload dX6_bestDigging_21 rfl ?_
    refine zs_aload_n dX6_bestDigging_23 rfl ?_
    refine gX6_10 dX6_bestDigging_24 ?_
    refine gX6_119 zl_10 dX6_bestDigging_27 ?_
    refine zs_icmp_ge 90 dX6_bestDigging_30 rfl (fun c30 => ?_) (fun c30 => ?_)
    · replace h := zite_t c30 h
      refine zs_fo [false, false, false, false, true, false, false, false] rfl ?_
      obtain rfl := Option.some.inj h
      exact K
    · replace h := zite_f c30 h
      refine zs_iload dX6_bestDigging_33 rfl ?_
      refine zs_iload_n dX6_bestDigging_35 rfl ?_
      obtain ⟨x17, x18, m20, h⟩ := zb2_inv h
      have K19 : zWP RX6 cX6_bestDigging (zMB 8 (some .int) 5 Q) 84 [some (.ref 0), some (.int p1), some (.int p2), some (.int v2), some (.int x17), some (.int x18), some (.int x7), none] [] w := by
        refine zs_iinc (x7 + 1) [some (.ref 0), some (.int p1), some (.int p2), some (.int v2), some (.int x17), some (.int x18), some (.int (x7 + 1)), none] dX6_bestDigging_84 rfl rfl (Nat.le_of_ble_eq_true rfl) rfl rfl ?_
        refine zs_goto 21 dX6_bestDigging_87 rfl ?_
        exact ih _ _ _ _ h K
      refine zs_icmp_eq 84 dX6_bestDigging_36 rfl (fun c29 => ?_) (fun c29 => ?_)
      · replace m20 := zite_t c29 m20
        obtain ⟨rfl, rfl⟩ := zpi2 m20
        exact K19
      · replace m20 := zite_f c29 m20
        refine zs_aload_n dX6_bestDigging_39 rfl ?_
        refine gX6_10 dX6_bestDigging_40 ?_
        refine zs_iload_n dX6_bestDigging_43 rfl ?_
        refine zs_iload_n dX6_bestDigging_44 rfl ?_
        refine zs_iload dX6_bestDigging_45 rfl ?_
        obtain ⟨v22, e21, m20⟩ := zbind m20
        refine zc_V3i moX0_carries mvX0_carries kX6_139 rfl dX6_bestDigging_47 (za_L zl_10) (Nat.le_of_ble_eq_true rfl) (zrm (by decide)) (tX0_carries zl_10 e21) ?_
        refine zs_if_eq 84 dX6_bestDigging_50 rfl (fun c28 => ?_) (fun c28 => ?_)
        · replace m20 := zite_t c28 m20
          obtain ⟨rfl, rfl⟩ := zpi2 m20
          exact K19
        · replace m20 := zite_f c28 m20
          refine zs_iload_n dX6_bestDigging_53 rfl ?_
          refine zs_aload_n dX6_bestDigging_54 rfl ?_
          refine gX6_25 dX6_bestDigging_55 ?_
          refine zs_iload dX6_bestDigging_58 rfl ?_
          obtain ⟨v24, e23, m20⟩ := zbind m20
          refine zc_V1i moX5_allFrom mvX5_allFrom kX6_159 rfl dX6_bestDigging_60 za_40 (Nat.le_of_ble_eq_true rfl) (zrm (by decide)) (tX5_allFrom e23) ?_
          refine zs_ior dX6_bestDigging_63 ?_
          obtain ⟨v26, e25, m20⟩ := zbind m20
          refine zc_S1i moJ6_bitCount_0f7a4 mvJ6_bitCount_0f7a4 kX6_334 dX6_bestDigging_64 (Nat.le_of_ble_eq_true rfl) (zrm (by decide)) (tJ6_bitCount_0f7a4 e25) ?_
          refine zs_istore [some (.ref 0), some (.int p1), some (.int p2), some (.int v2), some (.int x5), some (.int x6), some (.int x7), some (.int v26)] dX6_bestDigging_67 (Nat.le_of_ble_eq_true rfl) rfl rfl ?_
          refine zs_iload dX6_bestDigging_69 rfl ?_
          refine zs_iload dX6_bestDigging_71 rfl ?_
          refine zs_icmp_le 84 dX6_bestDigging_73 rfl (fun c27 => ?_) (fun c27 => ?_)
          · replace m20 := zite_t c27 m20
            refine zs_fo [true, true, true, true, true, true, true, false] rfl ?_
            obtain ⟨rfl, rfl⟩ := zpi2 m20
            exact K19
          · replace m20 := zite_f c27 m20
            refine zs_iload dX6_bestDigging_76 rfl ?_
            refine zs_istore [some (.ref 0), some (.int p1), some (.int p2), some (.int v2), some (.int x7), some (.int x6), some (.int x7), some (.int v26)] dX6_bestDigging_78 (Nat.le_of_ble_eq_true rfl) rfl rfl ?_
            refine zs_iload dX6_bestDigging_80 rfl ?_
            refine zs_istore [some (.ref 0), some (.int p1), some (.int p2), some (.int v2), some (.int x7), some (.int v26), some (.int x7), some (.int v26)] dX6_bestDigging_82 (Nat.le_of_ble_eq_true rfl) rfl rfl ?_
            refine zs_fo [true, true, true, true, true, true, true, false] rfl ?_
            obtain ⟨rfl, rfl⟩ := zpi2 m20
            exact K19
set_option maxRecDepth 100000 in
theorem tX6_bestDigging {w : zW} {p1 : Int32} {p2 : Int32}  {r : Int32} (h : fX6_bestDigging w p1 p2 = some r) : zRun yX6_bestDigging cX6_bestDigging 8 (some .int) 5 [.ref 0, .int p1, .int p2] w (zI r w) := by
  refine zRun.of (k := 5) rfl rfl rfl ?_
  show zWP RX6 cX6_bestDigging (zMB 8 (some .int) 5 (zI r w)) 0 [some (.ref 0), some (.int p1), some (.int p2), none, none, none, none, none] [] w
  unfold fX6_bestDigging at h
  refine zs_aload_n dX6_bestDigging_0 rfl ?_
  refine gX6_25 dX6_bestDigging_1 ?_
  refine zs_iload_n dX6_bestDigging_4 rfl ?_
  obtain ⟨v2, e1, h⟩ := zbind h
  refine zc_V1i moX5_allFrom mvX5_allFrom kX6_159 rfl dX6_bestDigging_5 za_40 (Nat.le_of_ble_eq_true rfl) (zrm (by decide)) (tX5_allFrom e1) ?_
  refine zs_istore_n [some (.ref 0), some (.int p1), some (.int p2), some (.int v2), none, none, none, none] dX6_bestDigging_8 (Nat.le_of_ble_eq_true rfl) rfl rfl ?_
  refine zs_iconst (-1 : Int32) dX6_bestDigging_9 ziconst_m1 ?_
  refine zs_istore [some (.ref 0), some (.int p1), some (.int p2), some (.int v2), some (.int (-1 : Int32)), none, none, none] dX6_bestDigging_10 (Nat.le_of_ble_eq_true rfl) rfl rfl ?_
  refine zs_iload_n dX6_bestDigging_12 rfl ?_
  obtain ⟨v4, e3, h⟩ := zbind h
  refine zc_S1i moJ6_bitCount_0f7a4 mvJ6_bitCount_0f7a4 kX6_334 dX6_bestDigging_13 (Nat.le_of_ble_eq_true rfl) (zrm (by decide)) (tJ6_bitCount_0f7a4 e3) ?_
  refine zs_istore [some (.ref 0), some (.int p1), some (.int p2), some (.int v2), some (.int (-1 : Int32)), some (.int v4), none, none] dX6_bestDigging_16 (Nat.le_of_ble_eq_true rfl) rfl rfl ?_
  refine zs_iconst (0 : Int32) dX6_bestDigging_18 ziconst_0 ?_
  refine zs_istore [some (.ref 0), some (.int p1), some (.int p2), some (.int v2), some (.int (-1 : Int32)), some (.int v4), some (.int (0 : Int32)), none] dX6_bestDigging_19 (Nat.le_of_ble_eq_true rfl) rfl rfl ?_
  obtain ⟨y33, e31, h⟩ := zbind h
  have K32 : zWP RX6 cX6_bestDigging (zMB 8 (some .int) 5 (zI r w)) 90 [none, none, none, none, some (.int y33), none, none, none] [] w := by
    refine zs_iload dX6_bestDigging_90 rfl ?_
    obtain rfl := Option.some.inj h
    exact zs_iret dX6_bestDigging_92 ⟨rfl, rfl⟩
  exact tlX6_bestDigging_21  zF _ _ _ _ e31 K32
def lpX6_carryOn_34 (o1 : Nat) (p2 : Int32) (p3 : Int32) : Nat → zW → Int32 → Option zW
  | 0, _, _ => none
  | n + 1, w10, x9 => (if p3 ≤ x9 then (some w10) else (Option.bind (fX0_passDay w10 o1 p2 ((w10.1 o1 8) + x9)) fun w13 => lpX6_carryOn_34 o1 p2 p3 n w13 (x9 + 1)))
def fX6_carryOn (w : zW) (o1 : Nat) (p2 : Int32) (p3 : Int32) : Option zW := Option.bind (fX0_hasLetter w o1 p2) fun v2 => (if v2 = 0 then (some w) else (Option.bind (fX0_isThere w o1 p2) fun v4 => (if v4 = 0 then (Option.bind (zrd w (o1 + 5) 10 p2) fun v5 => Option.bind (fX5_layOut w o1 v5) fun w8 => Option.bind (lpX6_carryOn_34 o1 p2 p3 zF w8 (0 : Int32)) fun w17 => some w17) else (some w))))
set_option maxRecDepth 100000 in
theorem tlX6_carryOn_34 {o1 : Nat} {p2 : Int32} {p3 : Int32} (ho1 : zIsLand o1) {Q : Option Value → zW → Prop} : ∀ (n : Nat) (w10 : zW) (x9 : Int32) (w11 : zW), lpX6_carryOn_34 o1 p2 p3 n w10 x9 = some w11 → zWP RX6 cX6_carryOn (zMB 5 none 5 Q) 62 [none, none, none, none, none] [] w11 → zWP RX6 cX6_carryOn (zMB 5 none 5 Q) 34 [some (.ref 0), some (.ref o1), some (.int p2), some (.int p3), some (.int x9)] [] w10 := by
  intro n
  induction n with
  | zero => intro w10 x9 w11 h K; simp [lpX6_carryOn_34] at h
  | succ n ih =>
    intro w10 x9 w11 h K
    rw [lpX6_carryOn_34] at h
    refine zs_iload dX6_carryOn_34 rfl ?_
    refine zs_iload_n dX6_carryOn_36 rfl ?_
    refine zs_icmp_ge 62 dX6_carryOn_37 rfl (fun c14 => ?_) (fun c14 => ?_)
    · replace h := zite_t c14 h
      refine zs_fo [false, false, false, false, false] rfl ?_
      obtain rfl := Option.some.inj h
      exact K
    · replace h := zite_f c14 h
      refine zs_aload_n dX6_carryOn_40 rfl ?_
      refine zs_iload_n dX6_carryOn_41 rfl ?_
      refine zs_aload_n dX6_carryOn_42 rfl ?_
      refine gX6_25 dX6_carryOn_43 ?_
      refine zs_aload_n dX6_carryOn_46 rfl ?_
      refine gX6_150 ho1 dX6_carryOn_47 ?_
      refine zs_iload dX6_carryOn_50 rfl ?_
      refine zs_iadd dX6_carryOn_52 ?_
      obtain ⟨w13, e12, h⟩ := zbind h
      refine zc_V3v moX0_passDay mvX0_passDay kX6_339 rfl dX6_carryOn_53 (za_L ho1) (Nat.le_of_ble_eq_true rfl) (zrm (by decide)) (tX0_passDay ho1 e12) ?_
      refine zs_iinc (x9 + 1) [some (.ref 0), some (.ref o1), some (.int p2), some (.int p3), some (.int (x9 + 1))] dX6_carryOn_56 rfl rfl (Nat.le_of_ble_eq_true rfl) rfl rfl ?_
      refine zs_goto 34 dX6_carryOn_59 rfl ?_
      exact ih _ _ _ h K
set_option maxRecDepth 100000 in
theorem tX6_carryOn {w : zW} {o1 : Nat} {p2 : Int32} {p3 : Int32} (ho1 : zIsLand o1)  {w' : zW} (h : fX6_carryOn w o1 p2 p3 = some w') : zRun yX6_carryOn cX6_carryOn 5 none 5 [.ref 0, .ref o1, .int p2, .int p3] w (zV w') := by
  refine zRun.of (k := 1) rfl rfl rfl ?_
  show zWP RX6 cX6_carryOn (zMB 5 none 5 (zV w')) 0 [some (.ref 0), some (.ref o1), some (.int p2), some (.int p3), none] [] w
  unfold fX6_carryOn at h
  refine zs_aload_n dX6_carryOn_0 rfl ?_
  refine zs_iload_n dX6_carryOn_1 rfl ?_
  obtain ⟨v2, e1, h⟩ := zbind h
  refine zc_V1i moX0_hasLetter mvX0_hasLetter kX6_196 rfl dX6_carryOn_2 (za_L ho1) (Nat.le_of_ble_eq_true rfl) (zrm (by decide)) (tX0_hasLetter ho1 e1) ?_
  refine zs_if_eq 16 dX6_carryOn_5 rfl (fun c19 => ?_) (fun c19 => ?_)
  · replace h := zite_t c19 h
    obtain rfl := Option.some.inj h
    exact zs_vret dX6_carryOn_16 ⟨rfl, rfl⟩
  · replace h := zite_f c19 h
    refine zs_aload_n dX6_carryOn_8 rfl ?_
    refine zs_iload_n dX6_carryOn_9 rfl ?_
    obtain ⟨v4, e3, h⟩ := zbind h
    refine zc_V1i moX0_isThere mvX0_isThere kX6_214 rfl dX6_carryOn_10 (za_L ho1) (Nat.le_of_ble_eq_true rfl) (zrm (by decide)) (tX0_isThere ho1 e3) ?_
    refine zs_if_eq 17 dX6_carryOn_13 rfl (fun c18 => ?_) (fun c18 => ?_)
    · replace h := zite_t c18 h
      refine zs_aload_n dX6_carryOn_17 rfl ?_
      refine gX6_25 dX6_carryOn_18 ?_
      refine zs_aload_n dX6_carryOn_21 rfl ?_
      refine zs_aload_n dX6_carryOn_22 rfl ?_
      refine gX6_199 ho1 dX6_carryOn_23 ?_
      refine zs_iload_n dX6_carryOn_26 rfl ?_
      obtain ⟨v5, e6, h⟩ := zbind h
      refine zs_iald dX6_carryOn_27 (za_L5 ho1) e6 ?_
      obtain ⟨w8, e7, h⟩ := zbind h
      refine zc_V2v moX5_layOut mvX5_layOut kX6_146 rfl dX6_carryOn_28 za_40 (Nat.le_of_ble_eq_true rfl) (zrm (by decide)) (tX5_layOut ho1 e7) ?_
      refine zs_iconst (0 : Int32) dX6_carryOn_31 ziconst_0 ?_
      refine zs_istore [some (.ref 0), some (.ref o1), some (.int p2), some (.int p3), some (.int (0 : Int32))] dX6_carryOn_32 (Nat.le_of_ble_eq_true rfl) rfl rfl ?_
      obtain ⟨w17, e15, h⟩ := zbind h
      have K16 : zWP RX6 cX6_carryOn (zMB 5 none 5 (zV w')) 62 [none, none, none, none, none] [] w17 := by
        obtain rfl := Option.some.inj h
        exact zs_vret dX6_carryOn_62 ⟨rfl, rfl⟩
      exact tlX6_carryOn_34 ho1 zF _ _ _ e15 K16
    · replace h := zite_f c18 h
      obtain rfl := Option.some.inj h
      exact zs_vret dX6_carryOn_16 ⟨rfl, rfl⟩
def fX6_sheetAt (w : zW) (p1 : Int32) : Option (Option Nat) := (if p1 < 0 then (some (none : Option Nat)) else ((if (4 : Int32) ≤ p1 then (some (none : Option Nat)) else (Option.bind (zix 4 p1) fun n1 => some (some (50 + 2 * n1))))))
set_option maxRecDepth 100000 in
theorem tX6_sheetAt {w : zW} {p1 : Int32}  {r : Option Nat} (h : fX6_sheetAt w p1 = some r) : zRun yX6_sheetAt cX6_sheetAt 2 (some (.object "DownhillPost$Sheet")) 0 [.ref 0, .int p1] w (zO r w) := by
  refine zRun.of (k := 0) rfl rfl rfl ?_
  show zWP RX6 cX6_sheetAt (zMB 2 (some (.object "DownhillPost$Sheet")) 0 (zO r w)) 0 [some (.ref 0), some (.int p1)] [] w
  unfold fX6_sheetAt at h
  refine zs_iload_n dX6_sheetAt_0 rfl ?_
  refine zs_if_lt 18 dX6_sheetAt_1 rfl (fun c4 => ?_) (fun c4 => ?_)
  · replace h := zite_t c4 h
    refine zs_null dX6_sheetAt_18 ?_
    obtain rfl := Option.some.inj h
    exact zs_aret (v := none) dX6_sheetAt_19 ⟨rfl, rfl⟩
  · replace h := zite_f c4 h
    refine zs_iload_n dX6_sheetAt_4 rfl ?_
    refine zs_iconst (4 : Int32) dX6_sheetAt_5 ziconst_4 ?_
    refine zs_icmp_ge 18 dX6_sheetAt_6 rfl (fun c3 => ?_) (fun c3 => ?_)
    · replace h := zite_t c3 h
      refine zs_null dX6_sheetAt_18 ?_
      obtain rfl := Option.some.inj h
      exact zs_aret (v := none) dX6_sheetAt_19 ⟨rfl, rfl⟩
    · replace h := zite_f c3 h
      refine zs_aload_n dX6_sheetAt_9 rfl ?_
      refine gX6_38 dX6_sheetAt_10 ?_
      refine zs_iload_n dX6_sheetAt_13 rfl ?_
      obtain ⟨n1, e2, h⟩ := zbind h
      refine zs_aald dX6_sheetAt_14 e2 ?_
      refine zs_goto 19 dX6_sheetAt_15 rfl ?_
      obtain rfl := Option.some.inj h
      exact zs_aret (v := some (50 + 2 * n1)) dX6_sheetAt_19 ⟨rfl, rfl⟩
theorem fX6_sheetAt_ok {w : zW} {a : Int32} {o : Nat} (h : fX6_sheetAt w a = some (some o)) : zIsSheet o := by
  unfold fX6_sheetAt at h
  split at h
  · cases h
  · split at h
    · cases h
    · obtain ⟨n, e, h⟩ := zbind h
      cases h
      exact zl_sh (zix_lt e)
def fX6_copy (w : zW) (p1 : Int32) (p2 : Int32) (p3 : Int32) (p4 : Int32) (p5 : Int32) : Option (Int32 × zW) := zbo (fX6_sheetAt w p1) (zbo (fX6_sheetAt w p3) (zb2 (fX6_finding w (-1000000001 : Int32)) fun v8 w9 => some (v8, w9)) fun o5 => (zb2 (fX6_finding w (-1000000001 : Int32)) fun v11 w12 => some (v11, w12))) fun o2 => (zbo (fX6_sheetAt w p3) (zb2 (fX6_finding w (-1000000001 : Int32)) fun v17 w18 => some (v17, w18)) fun o14 => (Option.bind (fX3_isMissing w o2) fun v20 => (if v20 = 0 then (Option.bind (fX3_isMissing w o14) fun v25 => (if v25 = 0 then ((if (w.1 o2 0) = (w.1 o14 0) then (Option.bind (fX3_hasRun w o2 p2 p5) fun v27 => (if v27 = 0 then (zb2 (fX6_finding w (-1000000001 : Int32)) fun v29 w30 => some (v29, w30)) else (Option.bind (fX3_hasRun w o14 p4 p5) fun v32 => (if v32 = 0 then (zb2 (fX6_finding w (-1000000001 : Int32)) fun v36 w37 => some (v36, w37)) else (Option.bind (zcpl w (o2 + 1) 40 p2 (o14 + 1) 40 p4 p5) fun w33 => some (p5, w33)))))) else (zb2 (fX6_finding w (-1000000003 : Int32)) fun v41 w42 => some (v41, w42)))) else (zb2 (fX6_finding w (-1000000006 : Int32)) fun v45 w46 => some (v45, w46)))) else (zb2 (fX6_finding w (-1000000006 : Int32)) fun v22 w23 => some (v22, w23)))))
set_option maxRecDepth 100000 in
theorem tX6_copy {w : zW} {p1 : Int32} {p2 : Int32} {p3 : Int32} {p4 : Int32} {p5 : Int32}  {r : Int32} {w' : zW} (h : fX6_copy w p1 p2 p3 p4 p5 = some (r, w')) : zRun yX6_copy cX6_copy 8 (some .int) 1 [.ref 0, .int p1, .int p2, .int p3, .int p4, .int p5] w (zI r w') := by
  refine zRun.of (k := 2) rfl rfl rfl ?_
  show zWP RX6 cX6_copy (zMB 8 (some .int) 1 (zI r w')) 0 [some (.ref 0), some (.int p1), some (.int p2), some (.int p3), some (.int p4), some (.int p5), none, none] [] w
  unfold fX6_copy at h
  refine zs_aload_n dX6_copy_0 rfl ?_
  refine zs_iload_n dX6_copy_1 rfl ?_
  rcases zbo_inv h with ⟨e1, h⟩ | ⟨o2, e1, h⟩
  · refine zc_V1n moX6_sheetAt mvX6_sheetAt kX6_261 rfl dX6_copy_2 za_0 (Nat.le_of_ble_eq_true rfl) (zrm (by decide)) (tX6_sheetAt e1) ?_
    refine zs_astoreN [some (.ref 0), some (.int p1), some (.int p2), some (.int p3), some (.int p4), some (.int p5), some (.null), none] dX6_copy_5 (Nat.le_of_ble_eq_true rfl) rfl rfl ?_
    refine zs_aload_n dX6_copy_7 rfl ?_
    refine zs_iload_n dX6_copy_8 rfl ?_
    rcases zbo_inv h with ⟨e4, h⟩ | ⟨o5, e4, h⟩
    · refine zc_V1n moX6_sheetAt mvX6_sheetAt kX6_261 rfl dX6_copy_9 za_0 (Nat.le_of_ble_eq_true rfl) (zrm (by decide)) (tX6_sheetAt e4) ?_
      refine zs_astoreN [some (.ref 0), some (.int p1), some (.int p2), some (.int p3), some (.int p4), some (.int p5), some (.null), some (.null)] dX6_copy_12 (Nat.le_of_ble_eq_true rfl) rfl rfl ?_
      refine zs_aloadN dX6_copy_14 rfl ?_
      refine zs_ifnullN 24 dX6_copy_16 rfl ?_
      refine zs_aload_n dX6_copy_24 rfl ?_
      refine zs_ldc kX6_51 dX6_copy_25 ?_
      obtain ⟨v8, w9, e7, h⟩ := zb2_inv h
      refine zc_V1i moX6_finding mvX6_finding kX6_52 rfl dX6_copy_27 za_0 (Nat.le_of_ble_eq_true rfl) (zrm (by decide)) (tX6_finding e7) ?_
      obtain ⟨rfl, rfl⟩ := zpi2 h
      exact zs_iret dX6_copy_30 ⟨rfl, rfl⟩
    · have h6 : zIsSheet o5 := fX6_sheetAt_ok e4
      refine zc_V1r moX6_sheetAt mvX6_sheetAt kX6_261 rfl dX6_copy_9 za_0 (Nat.le_of_ble_eq_true rfl) (zrm (by decide)) (tX6_sheetAt e4) ?_
      refine zs_astore [some (.ref 0), some (.int p1), some (.int p2), some (.int p3), some (.int p4), some (.int p5), some (.null), some (.ref o5)] dX6_copy_12 (Nat.le_of_ble_eq_true rfl) rfl rfl ?_
      refine zs_aloadN dX6_copy_14 rfl ?_
      refine zs_ifnullN 24 dX6_copy_16 rfl ?_
      refine zs_aload_n dX6_copy_24 rfl ?_
      refine zs_ldc kX6_51 dX6_copy_25 ?_
      obtain ⟨v11, w12, e10, h⟩ := zb2_inv h
      refine zc_V1i moX6_finding mvX6_finding kX6_52 rfl dX6_copy_27 za_0 (Nat.le_of_ble_eq_true rfl) (zrm (by decide)) (tX6_finding e10) ?_
      obtain ⟨rfl, rfl⟩ := zpi2 h
      exact zs_iret dX6_copy_30 ⟨rfl, rfl⟩
  · have h3 : zIsSheet o2 := fX6_sheetAt_ok e1
    refine zc_V1r moX6_sheetAt mvX6_sheetAt kX6_261 rfl dX6_copy_2 za_0 (Nat.le_of_ble_eq_true rfl) (zrm (by decide)) (tX6_sheetAt e1) ?_
    refine zs_astore [some (.ref 0), some (.int p1), some (.int p2), some (.int p3), some (.int p4), some (.int p5), some (.ref o2), none] dX6_copy_5 (Nat.le_of_ble_eq_true rfl) rfl rfl ?_
    refine zs_aload_n dX6_copy_7 rfl ?_
    refine zs_iload_n dX6_copy_8 rfl ?_
    rcases zbo_inv h with ⟨e13, h⟩ | ⟨o14, e13, h⟩
    · refine zc_V1n moX6_sheetAt mvX6_sheetAt kX6_261 rfl dX6_copy_9 za_0 (Nat.le_of_ble_eq_true rfl) (zrm (by decide)) (tX6_sheetAt e13) ?_
      refine zs_astoreN [some (.ref 0), some (.int p1), some (.int p2), some (.int p3), some (.int p4), some (.int p5), some (.ref o2), some (.null)] dX6_copy_12 (Nat.le_of_ble_eq_true rfl) rfl rfl ?_
      refine zs_aload dX6_copy_14 rfl ?_
      refine zs_ifnull dX6_copy_16 ?_
      refine zs_aloadN dX6_copy_19 rfl ?_
      refine zs_ifnonnullN dX6_copy_21 ?_
      refine zs_aload_n dX6_copy_24 rfl ?_
      refine zs_ldc kX6_51 dX6_copy_25 ?_
      obtain ⟨v17, w18, e16, h⟩ := zb2_inv h
      refine zc_V1i moX6_finding mvX6_finding kX6_52 rfl dX6_copy_27 za_0 (Nat.le_of_ble_eq_true rfl) (zrm (by decide)) (tX6_finding e16) ?_
      obtain ⟨rfl, rfl⟩ := zpi2 h
      exact zs_iret dX6_copy_30 ⟨rfl, rfl⟩
    · have h15 : zIsSheet o14 := fX6_sheetAt_ok e13
      refine zc_V1r moX6_sheetAt mvX6_sheetAt kX6_261 rfl dX6_copy_9 za_0 (Nat.le_of_ble_eq_true rfl) (zrm (by decide)) (tX6_sheetAt e13) ?_
      refine zs_astore [some (.ref 0), some (.int p1), some (.int p2), some (.int p3), some (.int p4), some (.int p5), some (.ref o2), some (.ref o14)] dX6_copy_12 (Nat.le_of_ble_eq_true rfl) rfl rfl ?_
      refine zs_aload dX6_copy_14 rfl ?_
      refine zs_ifnull dX6_copy_16 ?_
      refine zs_aload dX6_copy_19 rfl ?_
      refine zs_ifnonnull 31 dX6_copy_21 rfl ?_
      refine zs_aload dX6_copy_31 rfl ?_
      obtain ⟨v20, e19, h⟩ := zbind h
      refine zc_V0i moX3_isMissing mvX3_isMissing kX6_275 rfl dX6_copy_33 (za_S h3) (Nat.le_of_ble_eq_true rfl) (zrm (by decide)) (tX3_isMissing h3 e19) ?_
      refine zs_if_ne 47 dX6_copy_36 rfl (fun c48 => ?_) (fun c48 => ?_)
      · replace h := zite_f c48 h
        refine zs_aload_n dX6_copy_47 rfl ?_
        refine zs_ldc_w kX6_278 dX6_copy_48 ?_
        obtain ⟨v22, w23, e21, h⟩ := zb2_inv h
        refine zc_V1i moX6_finding mvX6_finding kX6_52 rfl dX6_copy_51 za_0 (Nat.le_of_ble_eq_true rfl) (zrm (by decide)) (tX6_finding e21) ?_
        obtain ⟨rfl, rfl⟩ := zpi2 h
        exact zs_iret dX6_copy_54 ⟨rfl, rfl⟩
      · replace h := zite_t c48 h
        refine zs_aload dX6_copy_39 rfl ?_
        obtain ⟨v25, e24, h⟩ := zbind h
        refine zc_V0i moX3_isMissing mvX3_isMissing kX6_275 rfl dX6_copy_41 (za_S h15) (Nat.le_of_ble_eq_true rfl) (zrm (by decide)) (tX3_isMissing h15 e24) ?_
        refine zs_if_eq 55 dX6_copy_44 rfl (fun c47 => ?_) (fun c47 => ?_)
        · replace h := zite_t c47 h
          refine zs_aload dX6_copy_55 rfl ?_
          refine gX6_290 h3 dX6_copy_57 ?_
          refine zs_aload dX6_copy_60 rfl ?_
          refine gX6_290 h15 dX6_copy_62 ?_
          refine zs_icmp_eq 75 dX6_copy_65 rfl (fun c43 => ?_) (fun c43 => ?_)
          · replace h := zite_t c43 h
            refine zs_aload dX6_copy_75 rfl ?_
            refine zs_iload_n dX6_copy_77 rfl ?_
            refine zs_iload dX6_copy_78 rfl ?_
            obtain ⟨v27, e26, h⟩ := zbind h
            refine zc_V2i moX3_hasRun mvX3_hasRun kX6_293 rfl dX6_copy_80 (za_S h3) (Nat.le_of_ble_eq_true rfl) (zrm (by decide)) (tX3_hasRun h3 e26) ?_
            refine zs_if_eq 98 dX6_copy_83 rfl (fun c39 => ?_) (fun c39 => ?_)
            · replace h := zite_t c39 h
              refine zs_aload_n dX6_copy_98 rfl ?_
              refine zs_ldc kX6_51 dX6_copy_99 ?_
              obtain ⟨v29, w30, e28, h⟩ := zb2_inv h
              refine zc_V1i moX6_finding mvX6_finding kX6_52 rfl dX6_copy_101 za_0 (Nat.le_of_ble_eq_true rfl) (zrm (by decide)) (tX6_finding e28) ?_
              obtain ⟨rfl, rfl⟩ := zpi2 h
              exact zs_iret dX6_copy_104 ⟨rfl, rfl⟩
            · replace h := zite_f c39 h
              refine zs_aload dX6_copy_86 rfl ?_
              refine zs_iload dX6_copy_88 rfl ?_
              refine zs_iload dX6_copy_90 rfl ?_
              obtain ⟨v32, e31, h⟩ := zbind h
              refine zc_V2i moX3_hasRun mvX3_hasRun kX6_293 rfl dX6_copy_92 (za_S h15) (Nat.le_of_ble_eq_true rfl) (zrm (by decide)) (tX3_hasRun h15 e31) ?_
              refine zs_if_ne 105 dX6_copy_95 rfl (fun c38 => ?_) (fun c38 => ?_)
              · replace h := zite_f c38 h
                refine zs_aload dX6_copy_105 rfl ?_
                refine gX6_296 h3 dX6_copy_107 ?_
                refine zs_iload_n dX6_copy_110 rfl ?_
                refine zs_aload dX6_copy_111 rfl ?_
                refine gX6_296 h15 dX6_copy_113 ?_
                refine zs_iload dX6_copy_116 rfl ?_
                refine zs_iload dX6_copy_118 rfl ?_
                obtain ⟨w33, e34, h⟩ := zbind h
                refine zs_cpl kX6_300 znat_cp zst_cp zin_sys (zrm2 (by decide)) (Nat.le_of_ble_eq_true rfl) dX6_copy_120 (za_S1 h3) (za_S1 h15) e34 ?_
                refine zs_iload dX6_copy_123 rfl ?_
                obtain ⟨rfl, rfl⟩ := zpi2 h
                exact zs_iret dX6_copy_125 ⟨rfl, rfl⟩
              · replace h := zite_t c38 h
                refine zs_aload_n dX6_copy_98 rfl ?_
                refine zs_ldc kX6_51 dX6_copy_99 ?_
                obtain ⟨v36, w37, e35, h⟩ := zb2_inv h
                refine zc_V1i moX6_finding mvX6_finding kX6_52 rfl dX6_copy_101 za_0 (Nat.le_of_ble_eq_true rfl) (zrm (by decide)) (tX6_finding e35) ?_
                obtain ⟨rfl, rfl⟩ := zpi2 h
                exact zs_iret dX6_copy_104 ⟨rfl, rfl⟩
          · replace h := zite_f c43 h
            refine zs_aload_n dX6_copy_68 rfl ?_
            refine zs_ldc kX6_220 dX6_copy_69 ?_
            obtain ⟨v41, w42, e40, h⟩ := zb2_inv h
            refine zc_V1i moX6_finding mvX6_finding kX6_52 rfl dX6_copy_71 za_0 (Nat.le_of_ble_eq_true rfl) (zrm (by decide)) (tX6_finding e40) ?_
            obtain ⟨rfl, rfl⟩ := zpi2 h
            exact zs_iret dX6_copy_74 ⟨rfl, rfl⟩
        · replace h := zite_f c47 h
          refine zs_aload_n dX6_copy_47 rfl ?_
          refine zs_ldc_w kX6_278 dX6_copy_48 ?_
          obtain ⟨v45, w46, e44, h⟩ := zb2_inv h
          refine zc_V1i moX6_finding mvX6_finding kX6_52 rfl dX6_copy_51 za_0 (Nat.le_of_ble_eq_true rfl) (zrm (by decide)) (tX6_finding e44) ?_
          obtain ⟨rfl, rfl⟩ := zpi2 h
          exact zs_iret dX6_copy_54 ⟨rfl, rfl⟩
def fX6_count (w : zW) (p1 : Int32) : Option (Int32 × zW) := (if p1 = 0 then (some ((w.1 10 0), w)) else (if p1 = 1 then (some ((w.1 10 3), w)) else (if p1 = 2 then (some ((w.1 10 9), w)) else (if p1 = 3 then (some ((w.1 43 1), w)) else (if p1 = 4 then (Option.bind (fX0_heightsTogether w 10) fun v7 => some (v7, w)) else (zb2 (fX6_finding w (-1000000001 : Int32)) fun v9 w10 => some (v9, w10)))))))
set_option maxRecDepth 100000 in
theorem tX6_count {w : zW} {p1 : Int32}  {r : Int32} {w' : zW} (h : fX6_count w p1 = some (r, w')) : zRun yX6_count cX6_count 2 (some .int) 1 [.ref 0, .int p1] w (zI r w') := by
  refine zRun.of (k := 0) rfl rfl rfl ?_
  show zWP RX6 cX6_count (zMB 2 (some .int) 1 (zI r w')) 0 [some (.ref 0), some (.int p1)] [] w
  unfold fX6_count at h
  refine zs_iload_n dX6_count_0 rfl ?_
  by_cases c1 : p1 = 0
  · replace h := zite_t c1 h
    refine zs_tswIn (0 : Int32) 36 dX6_count_1 c1 (by decide) (by decide) rfl rfl ?_
    refine zs_aload_n dX6_count_36 rfl ?_
    refine gX6_10 dX6_count_37 ?_
    refine gX6_119 zl_10 dX6_count_40 ?_
    obtain ⟨rfl, rfl⟩ := zpi2 h
    exact zs_iret dX6_count_43 ⟨rfl, rfl⟩
  · replace h := zite_f c1 h
    by_cases c2 : p1 = 1
    · replace h := zite_t c2 h
      refine zs_tswIn (1 : Int32) 44 dX6_count_1 c2 (by decide) (by decide) rfl rfl ?_
      refine zs_aload_n dX6_count_44 rfl ?_
      refine gX6_10 dX6_count_45 ?_
      refine gX6_322 zl_10 dX6_count_48 ?_
      obtain ⟨rfl, rfl⟩ := zpi2 h
      exact zs_iret dX6_count_51 ⟨rfl, rfl⟩
    · replace h := zite_f c2 h
      by_cases c3 : p1 = 2
      · replace h := zite_t c3 h
        refine zs_tswIn (2 : Int32) 52 dX6_count_1 c3 (by decide) (by decide) rfl rfl ?_
        refine zs_aload_n dX6_count_52 rfl ?_
        refine gX6_10 dX6_count_53 ?_
        refine gX6_231 zl_10 dX6_count_56 ?_
        obtain ⟨rfl, rfl⟩ := zpi2 h
        exact zs_iret dX6_count_59 ⟨rfl, rfl⟩
      · replace h := zite_f c3 h
        by_cases c4 : p1 = 3
        · replace h := zite_t c4 h
          refine zs_tswIn (3 : Int32) 60 dX6_count_1 c4 (by decide) (by decide) rfl rfl ?_
          refine zs_aload_n dX6_count_60 rfl ?_
          refine gX6_32 dX6_count_61 ?_
          refine gX6_248 dX6_count_64 ?_
          obtain ⟨rfl, rfl⟩ := zpi2 h
          exact zs_iret dX6_count_67 ⟨rfl, rfl⟩
        · replace h := zite_f c4 h
          by_cases c5 : p1 = 4
          · replace h := zite_t c5 h
            refine zs_tswIn (4 : Int32) 68 dX6_count_1 c5 (by decide) (by decide) rfl rfl ?_
            refine zs_aload_n dX6_count_68 rfl ?_
            refine gX6_10 dX6_count_69 ?_
            obtain ⟨v7, e6, h⟩ := zbind h
            refine zc_V0i moX0_heightsTogether mvX0_heightsTogether kX6_325 rfl dX6_count_72 (za_L zl_10) (Nat.le_of_ble_eq_true rfl) (zrm (by decide)) (tX0_heightsTogether zl_10 e6) ?_
            obtain ⟨rfl, rfl⟩ := zpi2 h
            exact zs_iret dX6_count_75 ⟨rfl, rfl⟩
          · replace h := zite_f c5 h
            refine zs_tswOut 76 dX6_count_1 (by have q := zout (x := p1) (n := 5) (lo := 0) (fun i hi => by match i, hi with | 0, _ => exact c1 | 1, _ => exact c2 | 2, _ => exact c3 | 3, _ => exact c4 | 4, _ => exact c5); omega) rfl ?_
            refine zs_aload_n dX6_count_76 rfl ?_
            refine zs_ldc kX6_51 dX6_count_77 ?_
            obtain ⟨v9, w10, e8, h⟩ := zb2_inv h
            refine zc_V1i moX6_finding mvX6_finding kX6_52 rfl dX6_count_79 za_0 (Nat.le_of_ble_eq_true rfl) (zrm (by decide)) (tX6_finding e8) ?_
            obtain ⟨rfl, rfl⟩ := zpi2 h
            exact zs_iret dX6_count_82 ⟨rfl, rfl⟩
def fX6_day (w : zW) (p1 : Int32) : Option (Int32 × zW) := (if p1 < 0 then (zb2 (fX6_finding w (-1000000001 : Int32)) fun v2 w3 => some (v2, w3)) else ((if p1 ≤ (9999 : Int32) then (Option.bind (some ((w.1 10 8))) fun x4 => Option.bind (some (zsf w 10 8 p1)) fun w6 => some (x4, w6)) else (zb2 (fX6_finding w (-1000000001 : Int32)) fun v9 w10 => some (v9, w10)))))
set_option maxRecDepth 100000 in
theorem tX6_day {w : zW} {p1 : Int32}  {r : Int32} {w' : zW} (h : fX6_day w p1 = some (r, w')) : zRun yX6_day cX6_day 3 (some .int) 1 [.ref 0, .int p1] w (zI r w') := by
  refine zRun.of (k := 1) rfl rfl rfl ?_
  show zWP RX6 cX6_day (zMB 3 (some .int) 1 (zI r w')) 0 [some (.ref 0), some (.int p1), none] [] w
  unfold fX6_day at h
  refine zs_iload_n dX6_day_0 rfl ?_
  refine zs_if_lt 11 dX6_day_1 rfl (fun c12 => ?_) (fun c12 => ?_)
  · replace h := zite_t c12 h
    refine zs_aload_n dX6_day_11 rfl ?_
    refine zs_ldc kX6_51 dX6_day_12 ?_
    obtain ⟨v2, w3, e1, h⟩ := zb2_inv h
    refine zc_V1i moX6_finding mvX6_finding kX6_52 rfl dX6_day_14 za_0 (Nat.le_of_ble_eq_true rfl) (zrm (by decide)) (tX6_finding e1) ?_
    obtain ⟨rfl, rfl⟩ := zpi2 h
    exact zs_iret dX6_day_17 ⟨rfl, rfl⟩
  · replace h := zite_f c12 h
    refine zs_iload_n dX6_day_4 rfl ?_
    refine zs_sipush (9999 : Int32) dX6_day_5 zsipush_9999 ?_
    refine zs_icmp_le 18 dX6_day_8 rfl (fun c11 => ?_) (fun c11 => ?_)
    · replace h := zite_t c11 h
      refine zs_aload_n dX6_day_18 rfl ?_
      refine gX6_10 dX6_day_19 ?_
      refine gX6_150 zl_10 dX6_day_22 ?_
      obtain ⟨x4, e5, h⟩ := zbind h
      refine zs_nmi (Option.some.inj e5) ?_
      refine zs_istore_n [some (.ref 0), some (.int p1), some (.int x4)] dX6_day_25 (Nat.le_of_ble_eq_true rfl) rfl rfl ?_
      refine zs_aload_n dX6_day_26 rfl ?_
      refine gX6_10 dX6_day_27 ?_
      refine zs_iload_n dX6_day_30 rfl ?_
      obtain ⟨w6, e7, h⟩ := zbind h
      refine pX6_150 zl_10 dX6_day_31 ?_
      refine zs_nmw (Option.some.inj e7) ?_
      refine zs_iload_n dX6_day_34 rfl ?_
      obtain ⟨rfl, rfl⟩ := zpi2 h
      exact zs_iret dX6_day_35 ⟨rfl, rfl⟩
    · replace h := zite_f c11 h
      refine zs_aload_n dX6_day_11 rfl ?_
      refine zs_ldc kX6_51 dX6_day_12 ?_
      obtain ⟨v9, w10, e8, h⟩ := zb2_inv h
      refine zc_V1i moX6_finding mvX6_finding kX6_52 rfl dX6_day_14 za_0 (Nat.le_of_ble_eq_true rfl) (zrm (by decide)) (tX6_finding e8) ?_
      obtain ⟨rfl, rfl⟩ := zpi2 h
      exact zs_iret dX6_day_17 ⟨rfl, rfl⟩
def lpX6_days_51 (p1 : Int32) (v5 : Int32) : Nat → zW → Int32 → Option zW
  | 0, _, _ => none
  | n + 1, w7, x6 => (if (w7.1 10 9) ≤ x6 then (some w7) else (Option.bind (fX6_carryOn w7 10 x6 p1) fun w10 => lpX6_days_51 p1 v5 n w10 (x6 + 1)))
def fX6_days (w : zW) (p1 : Int32) : Option (Int32 × zW) := (if p1 < (1 : Int32) then (zb2 (fX6_finding w (-1000000001 : Int32)) fun v2 w3 => some (v2, w3)) else ((if p1 ≤ (200 : Int32) then ((if ((w.1 10 8) + p1) ≤ (9999 : Int32) then (Option.bind (fX0_lettersThere w 10) fun v5 => Option.bind (lpX6_days_51 p1 v5 zF w (0 : Int32)) fun w14 => Option.bind (some (zsf w14 10 8 ((w14.1 10 8) + p1))) fun w15 => Option.bind (fX0_lettersThere w15 10) fun v18 => some ((v18 - v5), w15)) else (zb2 (fX6_finding w (-1000000005 : Int32)) fun v20 w21 => some (v20, w21)))) else (zb2 (fX6_finding w (-1000000001 : Int32)) fun v24 w25 => some (v24, w25)))))
set_option maxRecDepth 100000 in
theorem tlX6_days_51 {p1 : Int32} {v5 : Int32}  {Q : Option Value → zW → Prop} : ∀ (n : Nat) (w7 : zW) (x6 : Int32) (w8 : zW), lpX6_days_51 p1 v5 n w7 x6 = some w8 → zWP RX6 cX6_days (zMB 4 (some .int) 6 Q) 78 [some (.ref 0), some (.int p1), some (.int v5), none] [] w8 → zWP RX6 cX6_days (zMB 4 (some .int) 6 Q) 51 [some (.ref 0), some (.int p1), some (.int v5), some (.int x6)] [] w7 := by
  intro n
  induction n with
  | zero => intro w7 x6 w8 h K; simp [lpX6_days_51] at h
  | succ n ih =>
    intro w7 x6 w8 h K
    rw [lpX6_days_51] at h
    refine zs_iload_n dX6_days_51 rfl ?_
    refine zs_aload_n dX6_days_52 rfl ?_
    refine gX6_10 dX6_days_53 ?_
    refine gX6_231 zl_10 dX6_days_56 ?_
    refine zs_icmp_ge 78 dX6_days_59 rfl (fun c11 => ?_) (fun c11 => ?_)
    · replace h := zite_t c11 h
      refine zs_fo [true, true, true, false] rfl ?_
      obtain rfl := Option.some.inj h
      exact K
    · replace h := zite_f c11 h
      refine zs_aload_n dX6_days_62 rfl ?_
      refine zs_aload_n dX6_days_63 rfl ?_
      refine gX6_10 dX6_days_64 ?_
      refine zs_iload_n dX6_days_67 rfl ?_
      refine zs_iload_n dX6_days_68 rfl ?_
      obtain ⟨w10, e9, h⟩ := zbind h
      refine zc_V3v moX6_carryOn mvX6_carryOn kX6_234 rfl dX6_days_69 za_0 (Nat.le_of_ble_eq_true rfl) (zrm (by decide)) (tX6_carryOn zl_10 e9) ?_
      refine zs_iinc (x6 + 1) [some (.ref 0), some (.int p1), some (.int v5), some (.int (x6 + 1))] dX6_days_72 rfl rfl (Nat.le_of_ble_eq_true rfl) rfl rfl ?_
      refine zs_goto 51 dX6_days_75 rfl ?_
      exact ih _ _ _ h K
set_option maxRecDepth 100000 in
theorem tX6_days {w : zW} {p1 : Int32}  {r : Int32} {w' : zW} (h : fX6_days w p1 = some (r, w')) : zRun yX6_days cX6_days 4 (some .int) 6 [.ref 0, .int p1] w (zI r w') := by
  refine zRun.of (k := 2) rfl rfl rfl ?_
  show zWP RX6 cX6_days (zMB 4 (some .int) 6 (zI r w')) 0 [some (.ref 0), some (.int p1), none, none] [] w
  unfold fX6_days at h
  refine zs_iload_n dX6_days_0 rfl ?_
  refine zs_iconst (1 : Int32) dX6_days_1 ziconst_1 ?_
  refine zs_icmp_lt 12 dX6_days_2 rfl (fun c27 => ?_) (fun c27 => ?_)
  · replace h := zite_t c27 h
    refine zs_aload_n dX6_days_12 rfl ?_
    refine zs_ldc kX6_51 dX6_days_13 ?_
    obtain ⟨v2, w3, e1, h⟩ := zb2_inv h
    refine zc_V1i moX6_finding mvX6_finding kX6_52 rfl dX6_days_15 za_0 (Nat.le_of_ble_eq_true rfl) (zrm (by decide)) (tX6_finding e1) ?_
    obtain ⟨rfl, rfl⟩ := zpi2 h
    exact zs_iret dX6_days_18 ⟨rfl, rfl⟩
  · replace h := zite_f c27 h
    refine zs_iload_n dX6_days_5 rfl ?_
    refine zs_sipush (200 : Int32) dX6_days_6 zsipush_200 ?_
    refine zs_icmp_le 19 dX6_days_9 rfl (fun c26 => ?_) (fun c26 => ?_)
    · replace h := zite_t c26 h
      refine zs_aload_n dX6_days_19 rfl ?_
      refine gX6_10 dX6_days_20 ?_
      refine gX6_150 zl_10 dX6_days_23 ?_
      refine zs_iload_n dX6_days_26 rfl ?_
      refine zs_iadd dX6_days_27 ?_
      refine zs_sipush (9999 : Int32) dX6_days_28 zsipush_9999 ?_
      refine zs_icmp_le 41 dX6_days_31 rfl (fun c22 => ?_) (fun c22 => ?_)
      · replace h := zite_t c22 h
        refine zs_aload_n dX6_days_41 rfl ?_
        refine gX6_10 dX6_days_42 ?_
        obtain ⟨v5, e4, h⟩ := zbind h
        refine zc_V0i moX0_lettersThere mvX0_lettersThere kX6_228 rfl dX6_days_45 (za_L zl_10) (Nat.le_of_ble_eq_true rfl) (zrm (by decide)) (tX0_lettersThere zl_10 e4) ?_
        refine zs_istore_n [some (.ref 0), some (.int p1), some (.int v5), none] dX6_days_48 (Nat.le_of_ble_eq_true rfl) rfl rfl ?_
        refine zs_iconst (0 : Int32) dX6_days_49 ziconst_0 ?_
        refine zs_istore_n [some (.ref 0), some (.int p1), some (.int v5), some (.int (0 : Int32))] dX6_days_50 (Nat.le_of_ble_eq_true rfl) rfl rfl ?_
        obtain ⟨w14, e12, h⟩ := zbind h
        have K13 : zWP RX6 cX6_days (zMB 4 (some .int) 6 (zI r w')) 78 [some (.ref 0), some (.int p1), some (.int v5), none] [] w14 := by
          refine zs_aload_n dX6_days_78 rfl ?_
          refine gX6_10 dX6_days_79 ?_
          refine zs_dup dX6_days_82 rfl ?_
          refine gX6_150 zl_10 dX6_days_83 ?_
          refine zs_iload_n dX6_days_86 rfl ?_
          refine zs_iadd dX6_days_87 ?_
          obtain ⟨w15, e16, h⟩ := zbind h
          refine pX6_150 zl_10 dX6_days_88 ?_
          refine zs_nmw (Option.some.inj e16) ?_
          refine zs_aload_n dX6_days_91 rfl ?_
          refine gX6_10 dX6_days_92 ?_
          obtain ⟨v18, e17, h⟩ := zbind h
          refine zc_V0i moX0_lettersThere mvX0_lettersThere kX6_228 rfl dX6_days_95 (za_L zl_10) (Nat.le_of_ble_eq_true rfl) (zrm (by decide)) (tX0_lettersThere zl_10 e17) ?_
          refine zs_iload_n dX6_days_98 rfl ?_
          refine zs_isub dX6_days_99 ?_
          obtain ⟨rfl, rfl⟩ := zpi2 h
          exact zs_iret dX6_days_100 ⟨rfl, rfl⟩
        exact tlX6_days_51  zF _ _ _ e12 K13
      · replace h := zite_f c22 h
        refine zs_aload_n dX6_days_34 rfl ?_
        refine zs_ldc kX6_95 dX6_days_35 ?_
        obtain ⟨v20, w21, e19, h⟩ := zb2_inv h
        refine zc_V1i moX6_finding mvX6_finding kX6_52 rfl dX6_days_37 za_0 (Nat.le_of_ble_eq_true rfl) (zrm (by decide)) (tX6_finding e19) ?_
        obtain ⟨rfl, rfl⟩ := zpi2 h
        exact zs_iret dX6_days_40 ⟨rfl, rfl⟩
    · replace h := zite_f c26 h
      refine zs_aload_n dX6_days_12 rfl ?_
      refine zs_ldc kX6_51 dX6_days_13 ?_
      obtain ⟨v24, w25, e23, h⟩ := zb2_inv h
      refine zc_V1i moX6_finding mvX6_finding kX6_52 rfl dX6_days_15 za_0 (Nat.le_of_ble_eq_true rfl) (zrm (by decide)) (tX6_finding e23) ?_
      obtain ⟨rfl, rfl⟩ := zpi2 h
      exact zs_iret dX6_days_18 ⟨rfl, rfl⟩
def lpX6_daysAhead_47 (p1 : Int32) : Nat → zW → Int32 → Option ((Int32 × zW) ⊕ zW)
  | 0, _, _ => none
  | n + 1, w10, x9 => (if (200 : Int32) ≤ x9 then (some (.inr w10)) else (Option.bind (fX0_isThere w10 30 p1) fun v13 => (if v13 = 0 then (Option.bind (fX0_passDay w10 30 p1 ((w10.1 30 8) + x9)) fun w15 => lpX6_daysAhead_47 p1 n w15 (x9 + 1)) else (some (.inl (x9, w10))))))
def fX6_daysAhead (w : zW) (p1 : Int32) : Option (Int32 × zW) := Option.bind (fX0_become w 30 10) fun w2 => Option.bind (fX0_hasLetter w2 30 p1) fun v4 => (if v4 = 0 then (some ((1000000 : Int32), w2)) else (Option.bind (zrd w2 (30 + 5) 10 p1) fun v5 => Option.bind (fX5_layOut w2 30 v5) fun w8 => zbs (lpX6_daysAhead_47 p1 zF w8 (0 : Int32)) fun w20 => Option.bind (fX0_isThere w20 30 p1) fun v22 => (if v22 = 0 then (some ((1000000 : Int32), w20)) else (some ((200 : Int32), w20)))))
set_option maxRecDepth 100000 in
theorem tlX6_daysAhead_47 {p1 : Int32}  {Q : Option Value → zW → Prop} : ∀ (n : Nat) (w10 : zW) (x9 : Int32) (s : ((Int32 × zW) ⊕ zW)), lpX6_daysAhead_47 p1 n w10 x9 = some s → (∀ a, s = .inl a → Q (some (.int a.1)) a.2) → (∀ (w11 : zW), s = .inr w11 → zWP RX6 cX6_daysAhead (zMB 3 (some .int) 5 Q) 94 [some (.ref 0), some (.int p1), none] [] w11) → zWP RX6 cX6_daysAhead (zMB 3 (some .int) 5 Q) 47 [some (.ref 0), some (.int p1), some (.int x9)] [] w10 := by
  intro n
  induction n with
  | zero => intro w10 x9 s h K1 K; simp [lpX6_daysAhead_47] at h
  | succ n ih =>
    intro w10 x9 s h K1 K
    rw [lpX6_daysAhead_47] at h
    refine zs_iload_n dX6_daysAhead_47 rfl ?_
    refine zs_sipush (200 : Int32) dX6_daysAhead_48 zsipush_200 ?_
    refine zs_icmp_ge 94 dX6_daysAhead_51 rfl (fun c17 => ?_) (fun c17 => ?_)
    · replace h := zite_t c17 h
      refine zs_fo [true, true, false] rfl ?_
      obtain rfl := Option.some.inj h
      exact K w10 rfl
    · replace h := zite_f c17 h
      refine zs_aload_n dX6_daysAhead_54 rfl ?_
      refine gX6_19 dX6_daysAhead_55 ?_
      refine zs_iload_n dX6_daysAhead_58 rfl ?_
      obtain ⟨v13, e12, h⟩ := zbind h
      refine zc_V1i moX0_isThere mvX0_isThere kX6_214 rfl dX6_daysAhead_59 (za_L zl_30) (Nat.le_of_ble_eq_true rfl) (zrm (by decide)) (tX0_isThere zl_30 e12) ?_
      refine zs_if_eq 67 dX6_daysAhead_62 rfl (fun c16 => ?_) (fun c16 => ?_)
      · replace h := zite_t c16 h
        refine zs_aload_n dX6_daysAhead_67 rfl ?_
        refine gX6_19 dX6_daysAhead_68 ?_
        refine zs_iload_n dX6_daysAhead_71 rfl ?_
        refine zs_aload_n dX6_daysAhead_72 rfl ?_
        refine gX6_25 dX6_daysAhead_73 ?_
        refine zs_aload_n dX6_daysAhead_76 rfl ?_
        refine gX6_19 dX6_daysAhead_77 ?_
        refine gX6_150 zl_30 dX6_daysAhead_80 ?_
        refine zs_iload_n dX6_daysAhead_83 rfl ?_
        refine zs_iadd dX6_daysAhead_84 ?_
        obtain ⟨w15, e14, h⟩ := zbind h
        refine zc_V3v moX0_passDay mvX0_passDay kX6_339 rfl dX6_daysAhead_85 (za_L zl_30) (Nat.le_of_ble_eq_true rfl) (zrm (by decide)) (tX0_passDay zl_30 e14) ?_
        refine zs_iinc (x9 + 1) [some (.ref 0), some (.int p1), some (.int (x9 + 1))] dX6_daysAhead_88 rfl rfl (Nat.le_of_ble_eq_true rfl) rfl rfl ?_
        refine zs_goto 47 dX6_daysAhead_91 rfl ?_
        exact ih _ _ _ h K1 K
      · replace h := zite_f c16 h
        refine zs_iload_n dX6_daysAhead_65 rfl ?_
        obtain rfl := Option.some.inj h
        exact zs_iret dX6_daysAhead_66 (K1 (x9, w10) rfl)
set_option maxRecDepth 100000 in
theorem tX6_daysAhead {w : zW} {p1 : Int32}  {r : Int32} {w' : zW} (h : fX6_daysAhead w p1 = some (r, w')) : zRun yX6_daysAhead cX6_daysAhead 3 (some .int) 5 [.ref 0, .int p1] w (zI r w') := by
  refine zRun.of (k := 1) rfl rfl rfl ?_
  show zWP RX6 cX6_daysAhead (zMB 3 (some .int) 5 (zI r w')) 0 [some (.ref 0), some (.int p1), none] [] w
  unfold fX6_daysAhead at h
  refine zs_aload_n dX6_daysAhead_0 rfl ?_
  refine gX6_19 dX6_daysAhead_1 ?_
  refine zs_aload_n dX6_daysAhead_4 rfl ?_
  refine gX6_10 dX6_daysAhead_5 ?_
  obtain ⟨w2, e1, h⟩ := zbind h
  refine zc_V1v moX0_become mvX0_become kX6_241 rfl dX6_daysAhead_8 (za_L zl_30) (Nat.le_of_ble_eq_true rfl) (zrm (by decide)) (tX0_become zl_30 zl_10 e1) ?_
  refine zs_aload_n dX6_daysAhead_11 rfl ?_
  refine gX6_19 dX6_daysAhead_12 ?_
  refine zs_iload_n dX6_daysAhead_15 rfl ?_
  obtain ⟨v4, e3, h⟩ := zbind h
  refine zc_V1i moX0_hasLetter mvX0_hasLetter kX6_196 rfl dX6_daysAhead_16 (za_L zl_30) (Nat.le_of_ble_eq_true rfl) (zrm (by decide)) (tX0_hasLetter zl_30 e3) ?_
  refine zs_if_ne 25 dX6_daysAhead_19 rfl (fun c24 => ?_) (fun c24 => ?_)
  · replace h := zite_f c24 h
    refine zs_aload_n dX6_daysAhead_25 rfl ?_
    refine gX6_25 dX6_daysAhead_26 ?_
    refine zs_aload_n dX6_daysAhead_29 rfl ?_
    refine gX6_19 dX6_daysAhead_30 ?_
    refine zs_aload_n dX6_daysAhead_33 rfl ?_
    refine gX6_19 dX6_daysAhead_34 ?_
    refine gX6_199 zl_30 dX6_daysAhead_37 ?_
    refine zs_iload_n dX6_daysAhead_40 rfl ?_
    obtain ⟨v5, e6, h⟩ := zbind h
    refine zs_iald dX6_daysAhead_41 (za_L5 zl_30) e6 ?_
    obtain ⟨w8, e7, h⟩ := zbind h
    refine zc_V2v moX5_layOut mvX5_layOut kX6_146 rfl dX6_daysAhead_42 za_40 (Nat.le_of_ble_eq_true rfl) (zrm (by decide)) (tX5_layOut zl_30 e7) ?_
    refine zs_iconst (0 : Int32) dX6_daysAhead_45 ziconst_0 ?_
    refine zs_istore_n [some (.ref 0), some (.int p1), some (.int (0 : Int32))] dX6_daysAhead_46 (Nat.le_of_ble_eq_true rfl) rfl rfl ?_
    rcases zbs_inv h with e18 | ⟨w20, e18, h⟩
    · skip
      exact tlX6_daysAhead_47  zF _ _ _ e18 (fun _ q => by cases q; exact ⟨rfl, rfl⟩) (fun _ q => by cases q)
    · have K19 : zWP RX6 cX6_daysAhead (zMB 3 (some .int) 5 (zI r w')) 94 [some (.ref 0), some (.int p1), none] [] w20 := by
        refine zs_aload_n dX6_daysAhead_94 rfl ?_
        refine gX6_19 dX6_daysAhead_95 ?_
        refine zs_iload_n dX6_daysAhead_98 rfl ?_
        obtain ⟨v22, e21, h⟩ := zbind h
        refine zc_V1i moX0_isThere mvX0_isThere kX6_214 rfl dX6_daysAhead_99 (za_L zl_30) (Nat.le_of_ble_eq_true rfl) (zrm (by decide)) (tX0_isThere zl_30 e21) ?_
        refine zs_if_eq 111 dX6_daysAhead_102 rfl (fun c23 => ?_) (fun c23 => ?_)
        · replace h := zite_t c23 h
          refine zs_ldc kX6_180 dX6_daysAhead_111 ?_
          obtain ⟨rfl, rfl⟩ := zpi2 h
          exact zs_iret dX6_daysAhead_113 ⟨rfl, rfl⟩
        · replace h := zite_f c23 h
          refine zs_sipush (200 : Int32) dX6_daysAhead_105 zsipush_200 ?_
          refine zs_goto 113 dX6_daysAhead_108 rfl ?_
          obtain ⟨rfl, rfl⟩ := zpi2 h
          exact zs_iret dX6_daysAhead_113 ⟨rfl, rfl⟩
      exact tlX6_daysAhead_47  zF _ _ _ e18 (fun _ q => by cases q) (fun _ q => by cases q; exact K19)
  · replace h := zite_t c24 h
    refine zs_ldc kX6_180 dX6_daysAhead_22 ?_
    obtain ⟨rfl, rfl⟩ := zpi2 h
    exact zs_iret dX6_daysAhead_24 ⟨rfl, rfl⟩
def fX6_daysUntil (w : zW) (p1 : Int32) : Option (Int32 × zW) := (if p1 < (1000000 : Int32) then (some ((p1 - (w.1 10 8)), w)) else (zb2 (fX6_finding w (-1000000004 : Int32)) fun v2 w3 => some (v2, w3)))
set_option maxRecDepth 100000 in
theorem tX6_daysUntil {w : zW} {p1 : Int32}  {r : Int32} {w' : zW} (h : fX6_daysUntil w p1 = some (r, w')) : zRun yX6_daysUntil cX6_daysUntil 2 (some .int) 1 [.ref 0, .int p1] w (zI r w') := by
  refine zRun.of (k := 0) rfl rfl rfl ?_
  show zWP RX6 cX6_daysUntil (zMB 2 (some .int) 1 (zI r w')) 0 [some (.ref 0), some (.int p1)] [] w
  unfold fX6_daysUntil at h
  refine zs_iload_n dX6_daysUntil_0 rfl ?_
  refine zs_ldc kX6_180 dX6_daysUntil_1 ?_
  refine zs_icmp_lt 15 dX6_daysUntil_3 rfl (fun c4 => ?_) (fun c4 => ?_)
  · replace h := zite_t c4 h
    refine zs_iload_n dX6_daysUntil_15 rfl ?_
    refine zs_aload_n dX6_daysUntil_16 rfl ?_
    refine gX6_10 dX6_daysUntil_17 ?_
    refine gX6_150 zl_10 dX6_daysUntil_20 ?_
    refine zs_isub dX6_daysUntil_23 ?_
    obtain ⟨rfl, rfl⟩ := zpi2 h
    exact zs_iret dX6_daysUntil_24 ⟨rfl, rfl⟩
  · replace h := zite_f c4 h
    refine zs_aload_n dX6_daysUntil_6 rfl ?_
    refine zs_ldc kX6_122 dX6_daysUntil_7 ?_
    obtain ⟨v2, w3, e1, h⟩ := zb2_inv h
    refine zc_V1i moX6_finding mvX6_finding kX6_52 rfl dX6_daysUntil_9 za_0 (Nat.le_of_ble_eq_true rfl) (zrm (by decide)) (tX6_finding e1) ?_
    refine zs_goto 24 dX6_daysUntil_12 rfl ?_
    obtain ⟨rfl, rfl⟩ := zpi2 h
    exact zs_iret dX6_daysUntil_24 ⟨rfl, rfl⟩
def fX6_dig (w : zW) (p1 : Int32) (p2 : Int32) : Option (Int32 × zW) := Option.bind (fX6_isKind w p1) fun v2 => (if v2 = 0 then (zb2 (fX6_finding w (-1000000001 : Int32)) fun v4 w5 => some (v4, w5)) else (Option.bind (fX0_hasVillage w 10 p2) fun v7 => (if v7 = 0 then (zb2 (fX6_finding w (-1000000001 : Int32)) fun v17 w18 => some (v17, w18)) else (Option.bind (fX5_layOut w 10 p1) fun w9 => Option.bind (fX6_bestDigging w9 p1 p2) fun v11 => (if 0 ≤ v11 then (some (v11, w9)) else (zb2 (fX6_finding w9 (-1000000004 : Int32)) fun v13 w14 => some (v13, w14)))))))
set_option maxRecDepth 100000 in
theorem tX6_dig {w : zW} {p1 : Int32} {p2 : Int32}  {r : Int32} {w' : zW} (h : fX6_dig w p1 p2 = some (r, w')) : zRun yX6_dig cX6_dig 4 (some .int) 6 [.ref 0, .int p1, .int p2] w (zI r w') := by
  refine zRun.of (k := 1) rfl rfl rfl ?_
  show zWP RX6 cX6_dig (zMB 4 (some .int) 6 (zI r w')) 0 [some (.ref 0), some (.int p1), some (.int p2), none] [] w
  unfold fX6_dig at h
  refine zs_iload_n dX6_dig_0 rfl ?_
  obtain ⟨v2, e1, h⟩ := zbind h
  refine zc_S1i moX6_isKind mvX6_isKind kX6_130 dX6_dig_1 (Nat.le_of_ble_eq_true rfl) (zrm (by decide)) (tX6_isKind e1) ?_
  refine zs_if_eq 18 dX6_dig_4 rfl (fun c20 => ?_) (fun c20 => ?_)
  · replace h := zite_t c20 h
    refine zs_aload_n dX6_dig_18 rfl ?_
    refine zs_ldc kX6_51 dX6_dig_19 ?_
    obtain ⟨v4, w5, e3, h⟩ := zb2_inv h
    refine zc_V1i moX6_finding mvX6_finding kX6_52 rfl dX6_dig_21 za_0 (Nat.le_of_ble_eq_true rfl) (zrm (by decide)) (tX6_finding e3) ?_
    obtain ⟨rfl, rfl⟩ := zpi2 h
    exact zs_iret dX6_dig_24 ⟨rfl, rfl⟩
  · replace h := zite_f c20 h
    refine zs_aload_n dX6_dig_7 rfl ?_
    refine gX6_10 dX6_dig_8 ?_
    refine zs_iload_n dX6_dig_11 rfl ?_
    obtain ⟨v7, e6, h⟩ := zbind h
    refine zc_V1i moX0_hasVillage mvX0_hasVillage kX6_65 rfl dX6_dig_12 (za_L zl_10) (Nat.le_of_ble_eq_true rfl) (zrm (by decide)) (tX0_hasVillage zl_10 e6) ?_
    refine zs_if_ne 25 dX6_dig_15 rfl (fun c19 => ?_) (fun c19 => ?_)
    · replace h := zite_f c19 h
      refine zs_aload_n dX6_dig_25 rfl ?_
      refine gX6_25 dX6_dig_26 ?_
      refine zs_aload_n dX6_dig_29 rfl ?_
      refine gX6_10 dX6_dig_30 ?_
      refine zs_iload_n dX6_dig_33 rfl ?_
      obtain ⟨w9, e8, h⟩ := zbind h
      refine zc_V2v moX5_layOut mvX5_layOut kX6_146 rfl dX6_dig_34 za_40 (Nat.le_of_ble_eq_true rfl) (zrm (by decide)) (tX5_layOut zl_10 e8) ?_
      refine zs_aload_n dX6_dig_37 rfl ?_
      refine zs_iload_n dX6_dig_38 rfl ?_
      refine zs_iload_n dX6_dig_39 rfl ?_
      obtain ⟨v11, e10, h⟩ := zbind h
      refine zc_V2i moX6_bestDigging mvX6_bestDigging kX6_187 rfl dX6_dig_40 za_0 (Nat.le_of_ble_eq_true rfl) (zrm (by decide)) (tX6_bestDigging e10) ?_
      refine zs_istore_n [some (.ref 0), some (.int p1), some (.int p2), some (.int v11)] dX6_dig_43 (Nat.le_of_ble_eq_true rfl) rfl rfl ?_
      refine zs_iload_n dX6_dig_44 rfl ?_
      refine zs_if_ge 57 dX6_dig_45 rfl (fun c15 => ?_) (fun c15 => ?_)
      · replace h := zite_t c15 h
        refine zs_iload_n dX6_dig_57 rfl ?_
        obtain ⟨rfl, rfl⟩ := zpi2 h
        exact zs_iret dX6_dig_58 ⟨rfl, rfl⟩
      · replace h := zite_f c15 h
        refine zs_aload_n dX6_dig_48 rfl ?_
        refine zs_ldc kX6_122 dX6_dig_49 ?_
        obtain ⟨v13, w14, e12, h⟩ := zb2_inv h
        refine zc_V1i moX6_finding mvX6_finding kX6_52 rfl dX6_dig_51 za_0 (Nat.le_of_ble_eq_true rfl) (zrm (by decide)) (tX6_finding e12) ?_
        refine zs_goto 58 dX6_dig_54 rfl ?_
        obtain ⟨rfl, rfl⟩ := zpi2 h
        exact zs_iret dX6_dig_58 ⟨rfl, rfl⟩
    · replace h := zite_t c19 h
      refine zs_aload_n dX6_dig_18 rfl ?_
      refine zs_ldc kX6_51 dX6_dig_19 ?_
      obtain ⟨v17, w18, e16, h⟩ := zb2_inv h
      refine zc_V1i moX6_finding mvX6_finding kX6_52 rfl dX6_dig_21 za_0 (Nat.le_of_ble_eq_true rfl) (zrm (by decide)) (tX6_finding e16) ?_
      obtain ⟨rfl, rfl⟩ := zpi2 h
      exact zs_iret dX6_dig_24 ⟨rfl, rfl⟩
def fX6_every (w : zW) (p1 : Int32) : Option (Int32 × zW) := (if p1 < (1 : Int32) then (zb2 (fX6_finding w (-1000000001 : Int32)) fun v2 w3 => some (v2, w3)) else ((if p1 ≤ (99 : Int32) then (Option.bind (some ((w.1 10 7))) fun x4 => Option.bind (some (zsf w 10 7 p1)) fun w6 => some (x4, w6)) else (zb2 (fX6_finding w (-1000000001 : Int32)) fun v9 w10 => some (v9, w10)))))
set_option maxRecDepth 100000 in
theorem tX6_every {w : zW} {p1 : Int32}  {r : Int32} {w' : zW} (h : fX6_every w p1 = some (r, w')) : zRun yX6_every cX6_every 3 (some .int) 1 [.ref 0, .int p1] w (zI r w') := by
  refine zRun.of (k := 1) rfl rfl rfl ?_
  show zWP RX6 cX6_every (zMB 3 (some .int) 1 (zI r w')) 0 [some (.ref 0), some (.int p1), none] [] w
  unfold fX6_every at h
  refine zs_iload_n dX6_every_0 rfl ?_
  refine zs_iconst (1 : Int32) dX6_every_1 ziconst_1 ?_
  refine zs_icmp_lt 11 dX6_every_2 rfl (fun c12 => ?_) (fun c12 => ?_)
  · replace h := zite_t c12 h
    refine zs_aload_n dX6_every_11 rfl ?_
    refine zs_ldc kX6_51 dX6_every_12 ?_
    obtain ⟨v2, w3, e1, h⟩ := zb2_inv h
    refine zc_V1i moX6_finding mvX6_finding kX6_52 rfl dX6_every_14 za_0 (Nat.le_of_ble_eq_true rfl) (zrm (by decide)) (tX6_finding e1) ?_
    obtain ⟨rfl, rfl⟩ := zpi2 h
    exact zs_iret dX6_every_17 ⟨rfl, rfl⟩
  · replace h := zite_f c12 h
    refine zs_iload_n dX6_every_5 rfl ?_
    refine zs_bipush (99 : Int32) dX6_every_6 zbipush_99 ?_
    refine zs_icmp_le 18 dX6_every_8 rfl (fun c11 => ?_) (fun c11 => ?_)
    · replace h := zite_t c11 h
      refine zs_aload_n dX6_every_18 rfl ?_
      refine gX6_10 dX6_every_19 ?_
      refine gX6_115 zl_10 dX6_every_22 ?_
      obtain ⟨x4, e5, h⟩ := zbind h
      refine zs_nmi (Option.some.inj e5) ?_
      refine zs_istore_n [some (.ref 0), some (.int p1), some (.int x4)] dX6_every_25 (Nat.le_of_ble_eq_true rfl) rfl rfl ?_
      refine zs_aload_n dX6_every_26 rfl ?_
      refine gX6_10 dX6_every_27 ?_
      refine zs_iload_n dX6_every_30 rfl ?_
      obtain ⟨w6, e7, h⟩ := zbind h
      refine pX6_115 zl_10 dX6_every_31 ?_
      refine zs_nmw (Option.some.inj e7) ?_
      refine zs_iload_n dX6_every_34 rfl ?_
      obtain ⟨rfl, rfl⟩ := zpi2 h
      exact zs_iret dX6_every_35 ⟨rfl, rfl⟩
    · replace h := zite_f c11 h
      refine zs_aload_n dX6_every_11 rfl ?_
      refine zs_ldc kX6_51 dX6_every_12 ?_
      obtain ⟨v9, w10, e8, h⟩ := zb2_inv h
      refine zc_V1i moX6_finding mvX6_finding kX6_52 rfl dX6_every_14 za_0 (Nat.le_of_ble_eq_true rfl) (zrm (by decide)) (tX6_finding e8) ?_
      obtain ⟨rfl, rfl⟩ := zpi2 h
      exact zs_iret dX6_every_17 ⟨rfl, rfl⟩
def fX6_fall (w : zW) (p1 : Int32) (p2 : Int32) (p3 : Int32) : Option (Int32 × zW) := Option.bind (fX6_isKind w p1) fun v2 => (if v2 = 0 then (zb2 (fX6_finding w (-1000000001 : Int32)) fun v4 w5 => some (v4, w5)) else (Option.bind (fX6_areVillages w p2 p3) fun v7 => (if v7 = 0 then (zb2 (fX6_finding w (-1000000001 : Int32)) fun v21 w22 => some (v21, w22)) else (Option.bind (fX5_layOut w 10 p1) fun w9 => Option.bind (fX5_comesDown w9 p2 p3) fun v11 => (if v11 = 0 then (zb2 (fX6_finding w9 (-1000000004 : Int32)) fun v17 w18 => some (v17, w18)) else (Option.bind (fX0_heightOf w9 10 p2) fun v13 => Option.bind (fX0_heightOf w9 10 p3) fun v15 => some ((v13 - v15), w9)))))))
set_option maxRecDepth 100000 in
theorem tX6_fall {w : zW} {p1 : Int32} {p2 : Int32} {p3 : Int32}  {r : Int32} {w' : zW} (h : fX6_fall w p1 p2 p3 = some (r, w')) : zRun yX6_fall cX6_fall 4 (some .int) 5 [.ref 0, .int p1, .int p2, .int p3] w (zI r w') := by
  refine zRun.of (k := 0) rfl rfl rfl ?_
  show zWP RX6 cX6_fall (zMB 4 (some .int) 5 (zI r w')) 0 [some (.ref 0), some (.int p1), some (.int p2), some (.int p3)] [] w
  unfold fX6_fall at h
  refine zs_iload_n dX6_fall_0 rfl ?_
  obtain ⟨v2, e1, h⟩ := zbind h
  refine zc_S1i moX6_isKind mvX6_isKind kX6_130 dX6_fall_1 (Nat.le_of_ble_eq_true rfl) (zrm (by decide)) (tX6_isKind e1) ?_
  refine zs_if_eq 16 dX6_fall_4 rfl (fun c24 => ?_) (fun c24 => ?_)
  · replace h := zite_t c24 h
    refine zs_aload_n dX6_fall_16 rfl ?_
    refine zs_ldc kX6_51 dX6_fall_17 ?_
    obtain ⟨v4, w5, e3, h⟩ := zb2_inv h
    refine zc_V1i moX6_finding mvX6_finding kX6_52 rfl dX6_fall_19 za_0 (Nat.le_of_ble_eq_true rfl) (zrm (by decide)) (tX6_finding e3) ?_
    obtain ⟨rfl, rfl⟩ := zpi2 h
    exact zs_iret dX6_fall_22 ⟨rfl, rfl⟩
  · replace h := zite_f c24 h
    refine zs_aload_n dX6_fall_7 rfl ?_
    refine zs_iload_n dX6_fall_8 rfl ?_
    refine zs_iload_n dX6_fall_9 rfl ?_
    obtain ⟨v7, e6, h⟩ := zbind h
    refine zc_V2i moX6_areVillages mvX6_areVillages kX6_143 rfl dX6_fall_10 za_0 (Nat.le_of_ble_eq_true rfl) (zrm (by decide)) (tX6_areVillages e6) ?_
    refine zs_if_ne 23 dX6_fall_13 rfl (fun c23 => ?_) (fun c23 => ?_)
    · replace h := zite_f c23 h
      refine zs_aload_n dX6_fall_23 rfl ?_
      refine gX6_25 dX6_fall_24 ?_
      refine zs_aload_n dX6_fall_27 rfl ?_
      refine gX6_10 dX6_fall_28 ?_
      refine zs_iload_n dX6_fall_31 rfl ?_
      obtain ⟨w9, e8, h⟩ := zbind h
      refine zc_V2v moX5_layOut mvX5_layOut kX6_146 rfl dX6_fall_32 za_40 (Nat.le_of_ble_eq_true rfl) (zrm (by decide)) (tX5_layOut zl_10 e8) ?_
      refine zs_aload_n dX6_fall_35 rfl ?_
      refine gX6_25 dX6_fall_36 ?_
      refine zs_iload_n dX6_fall_39 rfl ?_
      refine zs_iload_n dX6_fall_40 rfl ?_
      obtain ⟨v11, e10, h⟩ := zbind h
      refine zc_V2i moX5_comesDown mvX5_comesDown kX6_181 rfl dX6_fall_41 za_40 (Nat.le_of_ble_eq_true rfl) (zrm (by decide)) (tX5_comesDown e10) ?_
      refine zs_if_ne 54 dX6_fall_44 rfl (fun c19 => ?_) (fun c19 => ?_)
      · replace h := zite_f c19 h
        refine zs_aload_n dX6_fall_54 rfl ?_
        refine gX6_10 dX6_fall_55 ?_
        refine zs_iload_n dX6_fall_58 rfl ?_
        obtain ⟨v13, e12, h⟩ := zbind h
        refine zc_V1i moX0_heightOf mvX0_heightOf kX6_68 rfl dX6_fall_59 (za_L zl_10) (Nat.le_of_ble_eq_true rfl) (zrm (by decide)) (tX0_heightOf zl_10 e12) ?_
        refine zs_aload_n dX6_fall_62 rfl ?_
        refine gX6_10 dX6_fall_63 ?_
        refine zs_iload_n dX6_fall_66 rfl ?_
        obtain ⟨v15, e14, h⟩ := zbind h
        refine zc_V1i moX0_heightOf mvX0_heightOf kX6_68 rfl dX6_fall_67 (za_L zl_10) (Nat.le_of_ble_eq_true rfl) (zrm (by decide)) (tX0_heightOf zl_10 e14) ?_
        refine zs_isub dX6_fall_70 ?_
        obtain ⟨rfl, rfl⟩ := zpi2 h
        exact zs_iret dX6_fall_71 ⟨rfl, rfl⟩
      · replace h := zite_t c19 h
        refine zs_aload_n dX6_fall_47 rfl ?_
        refine zs_ldc kX6_122 dX6_fall_48 ?_
        obtain ⟨v17, w18, e16, h⟩ := zb2_inv h
        refine zc_V1i moX6_finding mvX6_finding kX6_52 rfl dX6_fall_50 za_0 (Nat.le_of_ble_eq_true rfl) (zrm (by decide)) (tX6_finding e16) ?_
        obtain ⟨rfl, rfl⟩ := zpi2 h
        exact zs_iret dX6_fall_53 ⟨rfl, rfl⟩
    · replace h := zite_t c23 h
      refine zs_aload_n dX6_fall_16 rfl ?_
      refine zs_ldc kX6_51 dX6_fall_17 ?_
      obtain ⟨v21, w22, e20, h⟩ := zb2_inv h
      refine zc_V1i moX6_finding mvX6_finding kX6_52 rfl dX6_fall_19 za_0 (Nat.le_of_ble_eq_true rfl) (zrm (by decide)) (tX6_finding e20) ?_
      obtain ⟨rfl, rfl⟩ := zpi2 h
      exact zs_iret dX6_fall_22 ⟨rfl, rfl⟩
def lpX6_feed_42 (p1 : Int32) : Nat → zW → Int32 → Option zW
  | 0, _, _ => none
  | n + 1, w7, x6 => (if x6 < 0 then (some w7) else (Option.bind (fX4_append w7 ((p1 >>> (((8 : Int32) * x6) &&& 31)) &&& (255 : Int32))) fun w10 => lpX6_feed_42 p1 n w10 (x6 + (-1))))
def fX6_feed (w : zW) (p1 : Int32) (p2 : Int32) : Option (Int32 × zW) := (if p2 < (1 : Int32) then (zb2 (fX6_finding w (-1000000001 : Int32)) fun v2 w3 => some (v2, w3)) else ((if p2 ≤ (4 : Int32) then ((if ((w.1 43 1) + p2) ≤ (120 : Int32) then (Option.bind (some ((p2 - (1 : Int32)))) fun x4 => Option.bind (lpX6_feed_42 p1 zF w x4) fun w14 => some ((w14.1 43 1), w14)) else (zb2 (fX6_finding w (-1000000002 : Int32)) fun v16 w17 => some (v16, w17)))) else (zb2 (fX6_finding w (-1000000001 : Int32)) fun v20 w21 => some (v20, w21)))))
set_option maxRecDepth 100000 in
theorem tlX6_feed_42 {p1 : Int32}  {Q : Option Value → zW → Prop} : ∀ (n : Nat) (w7 : zW) (x6 : Int32) (w8 : zW), lpX6_feed_42 p1 n w7 x6 = some w8 → zWP RX6 cX6_feed (zMB 4 (some .int) 1 Q) 69 [some (.ref 0), none, none, none] [] w8 → zWP RX6 cX6_feed (zMB 4 (some .int) 1 Q) 42 [some (.ref 0), some (.int p1), none, some (.int x6)] [] w7 := by
  intro n
  induction n with
  | zero => intro w7 x6 w8 h K; simp [lpX6_feed_42] at h
  | succ n ih =>
    intro w7 x6 w8 h K
    rw [lpX6_feed_42] at h
    refine zs_iload_n dX6_feed_42 rfl ?_
    refine zs_if_lt 69 dX6_feed_43 rfl (fun c11 => ?_) (fun c11 => ?_)
    · replace h := zite_t c11 h
      refine zs_fo [true, false, false, false] rfl ?_
      obtain rfl := Option.some.inj h
      exact K
    · replace h := zite_f c11 h
      refine zs_aload_n dX6_feed_46 rfl ?_
      refine gX6_32 dX6_feed_47 ?_
      refine zs_iload_n dX6_feed_50 rfl ?_
      refine zs_bipush (8 : Int32) dX6_feed_51 zbipush_8 ?_
      refine zs_iload_n dX6_feed_53 rfl ?_
      refine zs_imul dX6_feed_54 ?_
      refine zs_ishr dX6_feed_55 ?_
      refine zs_sipush (255 : Int32) dX6_feed_56 zsipush_255 ?_
      refine zs_iand dX6_feed_59 ?_
      obtain ⟨w10, e9, h⟩ := zbind h
      refine zc_V1v moX4_append mvX4_append kX6_251 rfl dX6_feed_60 za_43 (Nat.le_of_ble_eq_true rfl) (zrm (by decide)) (tX4_append e9) ?_
      refine zs_iinc (x6 + (-1)) [some (.ref 0), some (.int p1), none, some (.int (x6 + (-1)))] dX6_feed_63 rfl rfl (Nat.le_of_ble_eq_true rfl) rfl rfl ?_
      refine zs_goto 42 dX6_feed_66 rfl ?_
      exact ih _ _ _ h K
set_option maxRecDepth 100000 in
theorem tX6_feed {w : zW} {p1 : Int32} {p2 : Int32}  {r : Int32} {w' : zW} (h : fX6_feed w p1 p2 = some (r, w')) : zRun yX6_feed cX6_feed 4 (some .int) 1 [.ref 0, .int p1, .int p2] w (zI r w') := by
  refine zRun.of (k := 1) rfl rfl rfl ?_
  show zWP RX6 cX6_feed (zMB 4 (some .int) 1 (zI r w')) 0 [some (.ref 0), some (.int p1), some (.int p2), none] [] w
  unfold fX6_feed at h
  refine zs_iload_n dX6_feed_0 rfl ?_
  refine zs_iconst (1 : Int32) dX6_feed_1 ziconst_1 ?_
  refine zs_icmp_lt 10 dX6_feed_2 rfl (fun c23 => ?_) (fun c23 => ?_)
  · replace h := zite_t c23 h
    refine zs_aload_n dX6_feed_10 rfl ?_
    refine zs_ldc kX6_51 dX6_feed_11 ?_
    obtain ⟨v2, w3, e1, h⟩ := zb2_inv h
    refine zc_V1i moX6_finding mvX6_finding kX6_52 rfl dX6_feed_13 za_0 (Nat.le_of_ble_eq_true rfl) (zrm (by decide)) (tX6_finding e1) ?_
    obtain ⟨rfl, rfl⟩ := zpi2 h
    exact zs_iret dX6_feed_16 ⟨rfl, rfl⟩
  · replace h := zite_f c23 h
    refine zs_iload_n dX6_feed_5 rfl ?_
    refine zs_iconst (4 : Int32) dX6_feed_6 ziconst_4 ?_
    refine zs_icmp_le 17 dX6_feed_7 rfl (fun c22 => ?_) (fun c22 => ?_)
    · replace h := zite_t c22 h
      refine zs_aload_n dX6_feed_17 rfl ?_
      refine gX6_32 dX6_feed_18 ?_
      refine gX6_248 dX6_feed_21 ?_
      refine zs_iload_n dX6_feed_24 rfl ?_
      refine zs_iadd dX6_feed_25 ?_
      refine zs_bipush (120 : Int32) dX6_feed_26 zbipush_120 ?_
      refine zs_icmp_le 38 dX6_feed_28 rfl (fun c18 => ?_) (fun c18 => ?_)
      · replace h := zite_t c18 h
        refine zs_iload_n dX6_feed_38 rfl ?_
        refine zs_iconst (1 : Int32) dX6_feed_39 ziconst_1 ?_
        refine zs_isub dX6_feed_40 ?_
        obtain ⟨x4, e5, h⟩ := zbind h
        refine zs_nmi (Option.some.inj e5) ?_
        refine zs_istore_n [some (.ref 0), some (.int p1), some (.int p2), some (.int x4)] dX6_feed_41 (Nat.le_of_ble_eq_true rfl) rfl rfl ?_
        obtain ⟨w14, e12, h⟩ := zbind h
        have K13 : zWP RX6 cX6_feed (zMB 4 (some .int) 1 (zI r w')) 69 [some (.ref 0), none, none, none] [] w14 := by
          refine zs_aload_n dX6_feed_69 rfl ?_
          refine gX6_32 dX6_feed_70 ?_
          refine gX6_248 dX6_feed_73 ?_
          obtain ⟨rfl, rfl⟩ := zpi2 h
          exact zs_iret dX6_feed_76 ⟨rfl, rfl⟩
        refine zs_fo [true, true, false, true] rfl ?_
        exact tlX6_feed_42  zF _ _ _ e12 K13
      · replace h := zite_f c18 h
        refine zs_aload_n dX6_feed_31 rfl ?_
        refine zs_ldc kX6_60 dX6_feed_32 ?_
        obtain ⟨v16, w17, e15, h⟩ := zb2_inv h
        refine zc_V1i moX6_finding mvX6_finding kX6_52 rfl dX6_feed_34 za_0 (Nat.le_of_ble_eq_true rfl) (zrm (by decide)) (tX6_finding e15) ?_
        obtain ⟨rfl, rfl⟩ := zpi2 h
        exact zs_iret dX6_feed_37 ⟨rfl, rfl⟩
    · replace h := zite_f c22 h
      refine zs_aload_n dX6_feed_10 rfl ?_
      refine zs_ldc kX6_51 dX6_feed_11 ?_
      obtain ⟨v20, w21, e19, h⟩ := zb2_inv h
      refine zc_V1i moX6_finding mvX6_finding kX6_52 rfl dX6_feed_13 za_0 (Nat.le_of_ble_eq_true rfl) (zrm (by decide)) (tX6_finding e19) ?_
      obtain ⟨rfl, rfl⟩ := zpi2 h
      exact zs_iret dX6_feed_16 ⟨rfl, rfl⟩
def fX6_first (w : zW) (p1 : Int32) (p2 : Int32) : Option (Int32 × zW) := Option.bind (fX0_hasLetter w 10 p1) fun v2 => (if v2 = 0 then (zb2 (fX6_finding w (-1000000001 : Int32)) fun v4 w5 => some (v4, w5)) else (Option.bind (fX0_hasLetter w 10 p2) fun v7 => (if v7 = 0 then (zb2 (fX6_finding w (-1000000001 : Int32)) fun v9 w10 => some (v9, w10)) else ((if p1 = p2 then (zb2 (fX6_finding w (-1000000001 : Int32)) fun v28 w29 => some (v28, w29)) else ((if ((w.1 10 8) + (200 : Int32)) ≤ (9999 : Int32) then (zb2 (fX6_daysAhead w p1) fun v12 w13 => zb2 (fX6_daysAhead w13 p2) fun v15 w16 => (if v12 = v15 then ((if v12 < (1000000 : Int32) then (some ((0 : Int32), w16)) else (zb2 (fX6_finding w16 (-1000000004 : Int32)) fun v19 w20 => some (v19, w20)))) else ((if v15 ≤ v12 then (some ((2 : Int32), w16)) else (some ((1 : Int32), w16)))))) else (zb2 (fX6_finding w (-1000000005 : Int32)) fun v24 w25 => some (v24, w25)))))))))
set_option maxRecDepth 100000 in
theorem tX6_first {w : zW} {p1 : Int32} {p2 : Int32}  {r : Int32} {w' : zW} (h : fX6_first w p1 p2 = some (r, w')) : zRun yX6_first cX6_first 5 (some .int) 6 [.ref 0, .int p1, .int p2] w (zI r w') := by
  refine zRun.of (k := 2) rfl rfl rfl ?_
  show zWP RX6 cX6_first (zMB 5 (some .int) 6 (zI r w')) 0 [some (.ref 0), some (.int p1), some (.int p2), none, none] [] w
  unfold fX6_first at h
  refine zs_aload_n dX6_first_0 rfl ?_
  refine gX6_10 dX6_first_1 ?_
  refine zs_iload_n dX6_first_4 rfl ?_
  obtain ⟨v2, e1, h⟩ := zbind h
  refine zc_V1i moX0_hasLetter mvX0_hasLetter kX6_196 rfl dX6_first_5 (za_L zl_10) (Nat.le_of_ble_eq_true rfl) (zrm (by decide)) (tX0_hasLetter zl_10 e1) ?_
  refine zs_if_eq 27 dX6_first_8 rfl (fun c32 => ?_) (fun c32 => ?_)
  · replace h := zite_t c32 h
    refine zs_aload_n dX6_first_27 rfl ?_
    refine zs_ldc kX6_51 dX6_first_28 ?_
    obtain ⟨v4, w5, e3, h⟩ := zb2_inv h
    refine zc_V1i moX6_finding mvX6_finding kX6_52 rfl dX6_first_30 za_0 (Nat.le_of_ble_eq_true rfl) (zrm (by decide)) (tX6_finding e3) ?_
    obtain ⟨rfl, rfl⟩ := zpi2 h
    exact zs_iret dX6_first_33 ⟨rfl, rfl⟩
  · replace h := zite_f c32 h
    refine zs_aload_n dX6_first_11 rfl ?_
    refine gX6_10 dX6_first_12 ?_
    refine zs_iload_n dX6_first_15 rfl ?_
    obtain ⟨v7, e6, h⟩ := zbind h
    refine zc_V1i moX0_hasLetter mvX0_hasLetter kX6_196 rfl dX6_first_16 (za_L zl_10) (Nat.le_of_ble_eq_true rfl) (zrm (by decide)) (tX0_hasLetter zl_10 e6) ?_
    refine zs_if_eq 27 dX6_first_19 rfl (fun c31 => ?_) (fun c31 => ?_)
    · replace h := zite_t c31 h
      refine zs_aload_n dX6_first_27 rfl ?_
      refine zs_ldc kX6_51 dX6_first_28 ?_
      obtain ⟨v9, w10, e8, h⟩ := zb2_inv h
      refine zc_V1i moX6_finding mvX6_finding kX6_52 rfl dX6_first_30 za_0 (Nat.le_of_ble_eq_true rfl) (zrm (by decide)) (tX6_finding e8) ?_
      obtain ⟨rfl, rfl⟩ := zpi2 h
      exact zs_iret dX6_first_33 ⟨rfl, rfl⟩
    · replace h := zite_f c31 h
      refine zs_iload_n dX6_first_22 rfl ?_
      refine zs_iload_n dX6_first_23 rfl ?_
      refine zs_icmp_ne 34 dX6_first_24 rfl (fun c30 => ?_) (fun c30 => ?_)
      · replace h := zite_f c30 h
        refine zs_aload_n dX6_first_34 rfl ?_
        refine gX6_10 dX6_first_35 ?_
        refine gX6_150 zl_10 dX6_first_38 ?_
        refine zs_sipush (200 : Int32) dX6_first_41 zsipush_200 ?_
        refine zs_iadd dX6_first_44 ?_
        refine zs_sipush (9999 : Int32) dX6_first_45 zsipush_9999 ?_
        refine zs_icmp_le 58 dX6_first_48 rfl (fun c26 => ?_) (fun c26 => ?_)
        · replace h := zite_t c26 h
          refine zs_aload_n dX6_first_58 rfl ?_
          refine zs_iload_n dX6_first_59 rfl ?_
          obtain ⟨v12, w13, e11, h⟩ := zb2_inv h
          refine zc_V1i moX6_daysAhead mvX6_daysAhead kX6_245 rfl dX6_first_60 za_0 (Nat.le_of_ble_eq_true rfl) (zrm (by decide)) (tX6_daysAhead e11) ?_
          refine zs_istore_n [some (.ref 0), some (.int p1), some (.int p2), some (.int v12), none] dX6_first_63 (Nat.le_of_ble_eq_true rfl) rfl rfl ?_
          refine zs_aload_n dX6_first_64 rfl ?_
          refine zs_iload_n dX6_first_65 rfl ?_
          obtain ⟨v15, w16, e14, h⟩ := zb2_inv h
          refine zc_V1i moX6_daysAhead mvX6_daysAhead kX6_245 rfl dX6_first_66 za_0 (Nat.le_of_ble_eq_true rfl) (zrm (by decide)) (tX6_daysAhead e14) ?_
          refine zs_istore [some (.ref 0), some (.int p1), some (.int p2), some (.int v12), some (.int v15)] dX6_first_69 (Nat.le_of_ble_eq_true rfl) rfl rfl ?_
          refine zs_iload_n dX6_first_71 rfl ?_
          refine zs_iload dX6_first_72 rfl ?_
          refine zs_icmp_ne 94 dX6_first_74 rfl (fun c22 => ?_) (fun c22 => ?_)
          · replace h := zite_f c22 h
            refine zs_iload_n dX6_first_94 rfl ?_
            refine zs_iload dX6_first_95 rfl ?_
            refine zs_icmp_ge 104 dX6_first_97 rfl (fun c17 => ?_) (fun c17 => ?_)
            · replace h := zite_t c17 h
              refine zs_iconst (2 : Int32) dX6_first_104 ziconst_2 ?_
              obtain ⟨rfl, rfl⟩ := zpi2 h
              exact zs_iret dX6_first_105 ⟨rfl, rfl⟩
            · replace h := zite_f c17 h
              refine zs_iconst (1 : Int32) dX6_first_100 ziconst_1 ?_
              refine zs_goto 105 dX6_first_101 rfl ?_
              obtain ⟨rfl, rfl⟩ := zpi2 h
              exact zs_iret dX6_first_105 ⟨rfl, rfl⟩
          · replace h := zite_t c22 h
            refine zs_iload_n dX6_first_77 rfl ?_
            refine zs_ldc kX6_180 dX6_first_78 ?_
            refine zs_icmp_lt 92 dX6_first_80 rfl (fun c21 => ?_) (fun c21 => ?_)
            · replace h := zite_t c21 h
              refine zs_iconst (0 : Int32) dX6_first_92 ziconst_0 ?_
              obtain ⟨rfl, rfl⟩ := zpi2 h
              exact zs_iret dX6_first_93 ⟨rfl, rfl⟩
            · replace h := zite_f c21 h
              refine zs_aload_n dX6_first_83 rfl ?_
              refine zs_ldc kX6_122 dX6_first_84 ?_
              obtain ⟨v19, w20, e18, h⟩ := zb2_inv h
              refine zc_V1i moX6_finding mvX6_finding kX6_52 rfl dX6_first_86 za_0 (Nat.le_of_ble_eq_true rfl) (zrm (by decide)) (tX6_finding e18) ?_
              refine zs_goto 93 dX6_first_89 rfl ?_
              obtain ⟨rfl, rfl⟩ := zpi2 h
              exact zs_iret dX6_first_93 ⟨rfl, rfl⟩
        · replace h := zite_f c26 h
          refine zs_aload_n dX6_first_51 rfl ?_
          refine zs_ldc kX6_95 dX6_first_52 ?_
          obtain ⟨v24, w25, e23, h⟩ := zb2_inv h
          refine zc_V1i moX6_finding mvX6_finding kX6_52 rfl dX6_first_54 za_0 (Nat.le_of_ble_eq_true rfl) (zrm (by decide)) (tX6_finding e23) ?_
          obtain ⟨rfl, rfl⟩ := zpi2 h
          exact zs_iret dX6_first_57 ⟨rfl, rfl⟩
      · replace h := zite_t c30 h
        refine zs_aload_n dX6_first_27 rfl ?_
        refine zs_ldc kX6_51 dX6_first_28 ?_
        obtain ⟨v28, w29, e27, h⟩ := zb2_inv h
        refine zc_V1i moX6_finding mvX6_finding kX6_52 rfl dX6_first_30 za_0 (Nat.le_of_ble_eq_true rfl) (zrm (by decide)) (tX6_finding e27) ?_
        obtain ⟨rfl, rfl⟩ := zpi2 h
        exact zs_iret dX6_first_33 ⟨rfl, rfl⟩
def fX6_goes (w : zW) (p1 : Int32) (p2 : Int32) (p3 : Int32) : Option (Int32 × zW) := Option.bind (fX6_isKind w p1) fun v2 => (if v2 = 0 then (zb2 (fX6_finding w (-1000000001 : Int32)) fun v4 w5 => some (v4, w5)) else (Option.bind (fX0_hasRoad w 10 p2) fun v7 => (if v7 = 0 then (zb2 (fX6_finding w (-1000000001 : Int32)) fun v26 w27 => some (v26, w27)) else (Option.bind (zrd w (10 + 2) 24 p2) fun v8 => Option.bind (zrd w (10 + 3) 24 p2) fun v10 => Option.bind (if p3 = 0 then (Option.bind (fX0_carries w 10 p1 v8 v10) fun v20 => some v20) else (Option.bind (fX0_carries w 10 p1 v10 v8) fun v22 => some v22)) fun x16 => (if x16 = 0 then (some ((0 : Int32), w)) else (some ((1 : Int32), w)))))))
set_option maxRecDepth 100000 in
theorem tX6_goes {w : zW} {p1 : Int32} {p2 : Int32} {p3 : Int32}  {r : Int32} {w' : zW} (h : fX6_goes w p1 p2 p3 = some (r, w')) : zRun yX6_goes cX6_goes 7 (some .int) 3 [.ref 0, .int p1, .int p2, .int p3] w (zI r w') := by
  refine zRun.of (k := 3) rfl rfl rfl ?_
  show zWP RX6 cX6_goes (zMB 7 (some .int) 3 (zI r w')) 0 [some (.ref 0), some (.int p1), some (.int p2), some (.int p3), none, none, none] [] w
  unfold fX6_goes at h
  refine zs_iload_n dX6_goes_0 rfl ?_
  obtain ⟨v2, e1, h⟩ := zbind h
  refine zc_S1i moX6_isKind mvX6_isKind kX6_130 dX6_goes_1 (Nat.le_of_ble_eq_true rfl) (zrm (by decide)) (tX6_isKind e1) ?_
  refine zs_if_eq 18 dX6_goes_4 rfl (fun c29 => ?_) (fun c29 => ?_)
  · replace h := zite_t c29 h
    refine zs_aload_n dX6_goes_18 rfl ?_
    refine zs_ldc kX6_51 dX6_goes_19 ?_
    obtain ⟨v4, w5, e3, h⟩ := zb2_inv h
    refine zc_V1i moX6_finding mvX6_finding kX6_52 rfl dX6_goes_21 za_0 (Nat.le_of_ble_eq_true rfl) (zrm (by decide)) (tX6_finding e3) ?_
    obtain ⟨rfl, rfl⟩ := zpi2 h
    exact zs_iret dX6_goes_24 ⟨rfl, rfl⟩
  · replace h := zite_f c29 h
    refine zs_aload_n dX6_goes_7 rfl ?_
    refine gX6_10 dX6_goes_8 ?_
    refine zs_iload_n dX6_goes_11 rfl ?_
    obtain ⟨v7, e6, h⟩ := zbind h
    refine zc_V1i moX0_hasRoad mvX0_hasRoad kX6_103 rfl dX6_goes_12 (za_L zl_10) (Nat.le_of_ble_eq_true rfl) (zrm (by decide)) (tX0_hasRoad zl_10 e6) ?_
    refine zs_if_ne 25 dX6_goes_15 rfl (fun c28 => ?_) (fun c28 => ?_)
    · replace h := zite_f c28 h
      refine zs_aload_n dX6_goes_25 rfl ?_
      refine gX6_10 dX6_goes_26 ?_
      refine gX6_106 zl_10 dX6_goes_29 ?_
      refine zs_iload_n dX6_goes_32 rfl ?_
      obtain ⟨v8, e9, h⟩ := zbind h
      refine zs_iald dX6_goes_33 (za_L2 zl_10) e9 ?_
      refine zs_istore [some (.ref 0), some (.int p1), some (.int p2), some (.int p3), some (.int v8), none, none] dX6_goes_34 (Nat.le_of_ble_eq_true rfl) rfl rfl ?_
      refine zs_aload_n dX6_goes_36 rfl ?_
      refine gX6_10 dX6_goes_37 ?_
      refine gX6_109 zl_10 dX6_goes_40 ?_
      refine zs_iload_n dX6_goes_43 rfl ?_
      obtain ⟨v10, e11, h⟩ := zbind h
      refine zs_iald dX6_goes_44 (za_L3 zl_10) e11 ?_
      refine zs_istore [some (.ref 0), some (.int p1), some (.int p2), some (.int p3), some (.int v8), some (.int v10), none] dX6_goes_45 (Nat.le_of_ble_eq_true rfl) rfl rfl ?_
      refine zs_iload_n dX6_goes_47 rfl ?_
      obtain ⟨x16, m18, h⟩ := zbind h
      have K17 : zWP RX6 cX6_goes (zMB 7 (some .int) 3 (zI r w')) 78 [none, none, none, none, none, none, none] [.int x16] w := by
        refine zs_istore [none, none, none, none, none, none, some (.int x16)] dX6_goes_78 (Nat.le_of_ble_eq_true rfl) rfl rfl ?_
        refine zs_iload dX6_goes_80 rfl ?_
        refine zs_if_eq 89 dX6_goes_82 rfl (fun c23 => ?_) (fun c23 => ?_)
        · replace h := zite_t c23 h
          refine zs_iconst (0 : Int32) dX6_goes_89 ziconst_0 ?_
          obtain ⟨rfl, rfl⟩ := zpi2 h
          exact zs_iret dX6_goes_90 ⟨rfl, rfl⟩
        · replace h := zite_f c23 h
          refine zs_iconst (1 : Int32) dX6_goes_85 ziconst_1 ?_
          refine zs_goto 90 dX6_goes_86 rfl ?_
          obtain ⟨rfl, rfl⟩ := zpi2 h
          exact zs_iret dX6_goes_90 ⟨rfl, rfl⟩
      refine zs_if_eq 66 dX6_goes_48 rfl (fun c24 => ?_) (fun c24 => ?_)
      · replace m18 := zite_t c24 m18
        refine zs_aload_n dX6_goes_66 rfl ?_
        refine gX6_10 dX6_goes_67 ?_
        refine zs_iload_n dX6_goes_70 rfl ?_
        refine zs_iload dX6_goes_71 rfl ?_
        refine zs_iload dX6_goes_73 rfl ?_
        obtain ⟨v20, e19, m18⟩ := zbind m18
        refine zc_V3i moX0_carries mvX0_carries kX6_139 rfl dX6_goes_75 (za_L zl_10) (Nat.le_of_ble_eq_true rfl) (zrm (by decide)) (tX0_carries zl_10 e19) ?_
        refine zs_fo [false, false, false, false, false, false, false] rfl ?_
        obtain rfl := Option.some.inj m18
        exact K17
      · replace m18 := zite_f c24 m18
        refine zs_aload_n dX6_goes_51 rfl ?_
        refine gX6_10 dX6_goes_52 ?_
        refine zs_iload_n dX6_goes_55 rfl ?_
        refine zs_iload dX6_goes_56 rfl ?_
        refine zs_iload dX6_goes_58 rfl ?_
        obtain ⟨v22, e21, m18⟩ := zbind m18
        refine zc_V3i moX0_carries mvX0_carries kX6_139 rfl dX6_goes_60 (za_L zl_10) (Nat.le_of_ble_eq_true rfl) (zrm (by decide)) (tX0_carries zl_10 e21) ?_
        refine zs_goto 78 dX6_goes_63 rfl ?_
        refine zs_fo [false, false, false, false, false, false, false] rfl ?_
        obtain rfl := Option.some.inj m18
        exact K17
    · replace h := zite_t c28 h
      refine zs_aload_n dX6_goes_18 rfl ?_
      refine zs_ldc kX6_51 dX6_goes_19 ?_
      obtain ⟨v26, w27, e25, h⟩ := zb2_inv h
      refine zc_V1i moX6_finding mvX6_finding kX6_52 rfl dX6_goes_21 za_0 (Nat.le_of_ble_eq_true rfl) (zrm (by decide)) (tX6_finding e25) ?_
      obtain ⟨rfl, rfl⟩ := zpi2 h
      exact zs_iret dX6_goes_24 ⟨rfl, rfl⟩
def lpX6_heightToRise_7 (w : zW) (p1 : Int32) (p2 : Int32) (p3 : Int32) : Nat → Int32 → Int32 → Option Int32
  | 0, _, _ => none
  | n + 1, x1, x2 => (if (w.1 10 0) ≤ x2 then (some x1) else (Option.bind (fX0_areJoined w 10 p2 x2) fun v5 => Option.bind (if v5 = 0 then (some x1) else (Option.bind (fX0_takes w 10 p1 x2) fun v22 => (if v22 = 0 then (some x1) else (Option.bind (fX5_comesDown w x2 p3) fun v24 => (if v24 = 0 then (some x1) else (Option.bind (fX0_heightOf w 10 x2) fun v26 => Option.bind (fX2_leastDrop w p1) fun v28 => Option.bind (some ((zmin x1 (v26 + v28)))) fun x29 => some x29)))))) fun x18 => lpX6_heightToRise_7 w p1 p2 p3 n x18 (x2 + 1)))
def fX6_heightToRise (w : zW) (p1 : Int32) (p2 : Int32) (p3 : Int32) : Option Int32 := Option.bind (lpX6_heightToRise_7 w p1 p2 p3 zF (1000000 : Int32) (0 : Int32)) fun y37 => some y37
set_option maxRecDepth 100000 in
theorem tlX6_heightToRise_7 {w : zW} {p1 : Int32} {p2 : Int32} {p3 : Int32}  {Q : Option Value → zW → Prop} : ∀ (n : Nat) (x1 : Int32) (x2 : Int32) (y3 : Int32), lpX6_heightToRise_7 w p1 p2 p3 n x1 x2 = some y3 → zWP RX6 cX6_heightToRise (zMB 6 (some .int) 3 Q) 85 [none, none, none, none, some (.int y3), none] [] w → zWP RX6 cX6_heightToRise (zMB 6 (some .int) 3 Q) 7 [some (.ref 0), some (.int p1), some (.int p2), some (.int p3), some (.int x1), some (.int x2)] [] w := by
  intro n
  induction n with
  | zero => intro x1 x2 y3 h K; simp [lpX6_heightToRise_7] at h
  | succ n ih =>
    intro x1 x2 y3 h K
    rw [lpX6_heightToRise_7] at h
    refine zs_iload dX6_heightToRise_7 rfl ?_
    refine zs_aload_n dX6_heightToRise_9 rfl ?_
    refine gX6_10 dX6_heightToRise_10 ?_
    refine gX6_119 zl_10 dX6_heightToRise_13 ?_
    refine zs_icmp_ge 85 dX6_heightToRise_16 rfl (fun c34 => ?_) (fun c34 => ?_)
    · replace h := zite_t c34 h
      refine zs_fo [false, false, false, false, true, false] rfl ?_
      obtain rfl := Option.some.inj h
      exact K
    · replace h := zite_f c34 h
      refine zs_aload_n dX6_heightToRise_19 rfl ?_
      refine gX6_10 dX6_heightToRise_20 ?_
      refine zs_iload_n dX6_heightToRise_23 rfl ?_
      refine zs_iload dX6_heightToRise_24 rfl ?_
      obtain ⟨v5, e4, h⟩ := zbind h
      refine zc_V2i moX0_areJoined mvX0_areJoined kX6_92 rfl dX6_heightToRise_26 (za_L zl_10) (Nat.le_of_ble_eq_true rfl) (zrm (by decide)) (tX0_areJoined zl_10 e4) ?_
      obtain ⟨x18, m20, h⟩ := zbind h
      have K19 : zWP RX6 cX6_heightToRise (zMB 6 (some .int) 3 Q) 79 [some (.ref 0), some (.int p1), some (.int p2), some (.int p3), some (.int x18), some (.int x2)] [] w := by
        refine zs_iinc (x2 + 1) [some (.ref 0), some (.int p1), some (.int p2), some (.int p3), some (.int x18), some (.int (x2 + 1))] dX6_heightToRise_79 rfl rfl (Nat.le_of_ble_eq_true rfl) rfl rfl ?_
        refine zs_goto 7 dX6_heightToRise_82 rfl ?_
        exact ih _ _ _ h K
      refine zs_if_eq 79 dX6_heightToRise_29 rfl (fun c33 => ?_) (fun c33 => ?_)
      · replace m20 := zite_t c33 m20
        obtain rfl := Option.some.inj m20
        exact K19
      · replace m20 := zite_f c33 m20
        refine zs_aload_n dX6_heightToRise_32 rfl ?_
        refine gX6_10 dX6_heightToRise_33 ?_
        refine zs_iload_n dX6_heightToRise_36 rfl ?_
        refine zs_iload dX6_heightToRise_37 rfl ?_
        obtain ⟨v22, e21, m20⟩ := zbind m20
        refine zc_V2i moX0_takes mvX0_takes kX6_328 rfl dX6_heightToRise_39 (za_L zl_10) (Nat.le_of_ble_eq_true rfl) (zrm (by decide)) (tX0_takes zl_10 e21) ?_
        refine zs_if_eq 79 dX6_heightToRise_42 rfl (fun c32 => ?_) (fun c32 => ?_)
        · replace m20 := zite_t c32 m20
          obtain rfl := Option.some.inj m20
          exact K19
        · replace m20 := zite_f c32 m20
          refine zs_aload_n dX6_heightToRise_45 rfl ?_
          refine gX6_25 dX6_heightToRise_46 ?_
          refine zs_iload dX6_heightToRise_49 rfl ?_
          refine zs_iload_n dX6_heightToRise_51 rfl ?_
          obtain ⟨v24, e23, m20⟩ := zbind m20
          refine zc_V2i moX5_comesDown mvX5_comesDown kX6_181 rfl dX6_heightToRise_52 za_40 (Nat.le_of_ble_eq_true rfl) (zrm (by decide)) (tX5_comesDown e23) ?_
          refine zs_if_eq 79 dX6_heightToRise_55 rfl (fun c31 => ?_) (fun c31 => ?_)
          · replace m20 := zite_t c31 m20
            obtain rfl := Option.some.inj m20
            exact K19
          · replace m20 := zite_f c31 m20
            refine zs_iload dX6_heightToRise_58 rfl ?_
            refine zs_aload_n dX6_heightToRise_60 rfl ?_
            refine gX6_10 dX6_heightToRise_61 ?_
            refine zs_iload dX6_heightToRise_64 rfl ?_
            obtain ⟨v26, e25, m20⟩ := zbind m20
            refine zc_V1i moX0_heightOf mvX0_heightOf kX6_68 rfl dX6_heightToRise_66 (za_L zl_10) (Nat.le_of_ble_eq_true rfl) (zrm (by decide)) (tX0_heightOf zl_10 e25) ?_
            refine zs_iload_n dX6_heightToRise_69 rfl ?_
            obtain ⟨v28, e27, m20⟩ := zbind m20
            refine zc_S1i moX2_leastDrop mvX2_leastDrop kX6_331 dX6_heightToRise_70 (Nat.le_of_ble_eq_true rfl) (zrm (by decide)) (tX2_leastDrop e27) ?_
            refine zs_iadd dX6_heightToRise_73 ?_
            refine zs_min kX6_308 zst_min zin_math zco_min (zrm1 (by decide)) (Nat.le_of_ble_eq_true rfl) dX6_heightToRise_74 ?_
            obtain ⟨x29, e30, m20⟩ := zbind m20
            refine zs_nmi (Option.some.inj e30) ?_
            refine zs_istore [some (.ref 0), some (.int p1), some (.int p2), some (.int p3), some (.int x29), some (.int x2)] dX6_heightToRise_77 (Nat.le_of_ble_eq_true rfl) rfl rfl ?_
            obtain rfl := Option.some.inj m20
            exact K19
set_option maxRecDepth 100000 in
theorem tX6_heightToRise {w : zW} {p1 : Int32} {p2 : Int32} {p3 : Int32}  {r : Int32} (h : fX6_heightToRise w p1 p2 p3 = some r) : zRun yX6_heightToRise cX6_heightToRise 6 (some .int) 3 [.ref 0, .int p1, .int p2, .int p3] w (zI r w) := by
  refine zRun.of (k := 2) rfl rfl rfl ?_
  show zWP RX6 cX6_heightToRise (zMB 6 (some .int) 3 (zI r w)) 0 [some (.ref 0), some (.int p1), some (.int p2), some (.int p3), none, none] [] w
  unfold fX6_heightToRise at h
  refine zs_ldc kX6_180 dX6_heightToRise_0 ?_
  refine zs_istore [some (.ref 0), some (.int p1), some (.int p2), some (.int p3), some (.int (1000000 : Int32)), none] dX6_heightToRise_2 (Nat.le_of_ble_eq_true rfl) rfl rfl ?_
  refine zs_iconst (0 : Int32) dX6_heightToRise_4 ziconst_0 ?_
  refine zs_istore [some (.ref 0), some (.int p1), some (.int p2), some (.int p3), some (.int (1000000 : Int32)), some (.int (0 : Int32))] dX6_heightToRise_5 (Nat.le_of_ble_eq_true rfl) rfl rfl ?_
  obtain ⟨y37, e35, h⟩ := zbind h
  have K36 : zWP RX6 cX6_heightToRise (zMB 6 (some .int) 3 (zI r w)) 85 [none, none, none, none, some (.int y37), none] [] w := by
    refine zs_iload dX6_heightToRise_85 rfl ?_
    obtain rfl := Option.some.inj h
    exact zs_iret dX6_heightToRise_87 ⟨rfl, rfl⟩
  exact tlX6_heightToRise_7  zF _ _ _ e35 K36
def fX6_hermit (w : zW) (p1 : Int32) (p2 : Int32) : Option (Int32 × zW) := Option.bind (fX0_hasVillage w 10 p1) fun v2 => (if v2 = 0 then (zb2 (fX6_finding w (-1000000001 : Int32)) fun v9 w10 => some (v9, w10)) else (Option.bind (fX0_isHermits w 10 p1) fun v4 => Option.bind (fX0_setHermits w 10 p1 p2) fun w6 => (if v4 = p2 then (some ((0 : Int32), w6)) else (some ((1 : Int32), w6)))))
set_option maxRecDepth 100000 in
theorem tX6_hermit {w : zW} {p1 : Int32} {p2 : Int32}  {r : Int32} {w' : zW} (h : fX6_hermit w p1 p2 = some (r, w')) : zRun yX6_hermit cX6_hermit 4 (some .int) 2 [.ref 0, .int p1, .int p2] w (zI r w') := by
  refine zRun.of (k := 1) rfl rfl rfl ?_
  show zWP RX6 cX6_hermit (zMB 4 (some .int) 2 (zI r w')) 0 [some (.ref 0), some (.int p1), some (.int p2), none] [] w
  unfold fX6_hermit at h
  refine zs_aload_n dX6_hermit_0 rfl ?_
  refine gX6_10 dX6_hermit_1 ?_
  refine zs_iload_n dX6_hermit_4 rfl ?_
  obtain ⟨v2, e1, h⟩ := zbind h
  refine zc_V1i moX0_hasVillage mvX0_hasVillage kX6_65 rfl dX6_hermit_5 (za_L zl_10) (Nat.le_of_ble_eq_true rfl) (zrm (by decide)) (tX0_hasVillage zl_10 e1) ?_
  refine zs_if_ne 18 dX6_hermit_8 rfl (fun c11 => ?_) (fun c11 => ?_)
  · replace h := zite_f c11 h
    refine zs_aload_n dX6_hermit_18 rfl ?_
    refine gX6_10 dX6_hermit_19 ?_
    refine zs_iload_n dX6_hermit_22 rfl ?_
    obtain ⟨v4, e3, h⟩ := zbind h
    refine zc_V1i moX0_isHermits mvX0_isHermits kX6_71 rfl dX6_hermit_23 (za_L zl_10) (Nat.le_of_ble_eq_true rfl) (zrm (by decide)) (tX0_isHermits zl_10 e3) ?_
    refine zs_istore_n [some (.ref 0), some (.int p1), some (.int p2), some (.int v4)] dX6_hermit_26 (Nat.le_of_ble_eq_true rfl) rfl rfl ?_
    refine zs_aload_n dX6_hermit_27 rfl ?_
    refine gX6_10 dX6_hermit_28 ?_
    refine zs_iload_n dX6_hermit_31 rfl ?_
    refine zs_iload_n dX6_hermit_32 rfl ?_
    obtain ⟨w6, e5, h⟩ := zbind h
    refine zc_V2v moX0_setHermits mvX0_setHermits kX6_84 rfl dX6_hermit_33 (za_L zl_10) (Nat.le_of_ble_eq_true rfl) (zrm (by decide)) (tX0_setHermits zl_10 e5) ?_
    refine zs_iload_n dX6_hermit_36 rfl ?_
    refine zs_iload_n dX6_hermit_37 rfl ?_
    refine zs_icmp_ne 45 dX6_hermit_38 rfl (fun c7 => ?_) (fun c7 => ?_)
    · replace h := zite_f c7 h
      refine zs_iconst (1 : Int32) dX6_hermit_45 ziconst_1 ?_
      obtain ⟨rfl, rfl⟩ := zpi2 h
      exact zs_iret dX6_hermit_46 ⟨rfl, rfl⟩
    · replace h := zite_t c7 h
      refine zs_iconst (0 : Int32) dX6_hermit_41 ziconst_0 ?_
      refine zs_goto 46 dX6_hermit_42 rfl ?_
      obtain ⟨rfl, rfl⟩ := zpi2 h
      exact zs_iret dX6_hermit_46 ⟨rfl, rfl⟩
  · replace h := zite_t c11 h
    refine zs_aload_n dX6_hermit_11 rfl ?_
    refine zs_ldc kX6_51 dX6_hermit_12 ?_
    obtain ⟨v9, w10, e8, h⟩ := zb2_inv h
    refine zc_V1i moX6_finding mvX6_finding kX6_52 rfl dX6_hermit_14 za_0 (Nat.le_of_ble_eq_true rfl) (zrm (by decide)) (tX6_finding e8) ?_
    obtain ⟨rfl, rfl⟩ := zpi2 h
    exact zs_iret dX6_hermit_17 ⟨rfl, rfl⟩
def fX6_image (w : zW)  : Option (Int32 × zW) := Option.bind (fX0_become w 20 10) fun w2 => Option.bind (some (zsf w2 0 7 (1 : Int32))) fun w3 => some ((1 : Int32), w3)
set_option maxRecDepth 100000 in
theorem tX6_image {w : zW}   {r : Int32} {w' : zW} (h : fX6_image w  = some (r, w')) : zRun yX6_image cX6_image 1 (some .int) 2 [.ref 0] w (zI r w') := by
  refine zRun.of (k := 0) rfl rfl rfl ?_
  show zWP RX6 cX6_image (zMB 1 (some .int) 2 (zI r w')) 0 [some (.ref 0)] [] w
  unfold fX6_image at h
  refine zs_aload_n dX6_image_0 rfl ?_
  refine gX6_16 dX6_image_1 ?_
  refine zs_aload_n dX6_image_4 rfl ?_
  refine gX6_10 dX6_image_5 ?_
  obtain ⟨w2, e1, h⟩ := zbind h
  refine zc_V1v moX0_become mvX0_become kX6_241 rfl dX6_image_8 (za_L zl_20) (Nat.le_of_ble_eq_true rfl) (zrm (by decide)) (tX0_become zl_20 zl_10 e1) ?_
  refine zs_aload_n dX6_image_11 rfl ?_
  refine zs_iconst (1 : Int32) dX6_image_12 ziconst_1 ?_
  obtain ⟨w3, e4, h⟩ := zbind h
  refine pX6_318 (Or.inr rfl) dX6_image_13 ?_
  refine zs_nmw (Option.some.inj e4) ?_
  refine zs_iconst (1 : Int32) dX6_image_16 ziconst_1 ?_
  obtain ⟨rfl, rfl⟩ := zpi2 h
  exact zs_iret dX6_image_17 ⟨rfl, rfl⟩
def fX6_isHeight (w : zW) (p0 : Int32) : Option Int32 := (if p0 < 0 then (some (0 : Int32)) else ((if (9999 : Int32) < p0 then (some (0 : Int32)) else (some (1 : Int32)))))
set_option maxRecDepth 100000 in
theorem tX6_isHeight {w : zW} {p0 : Int32}  {r : Int32} (h : fX6_isHeight w p0 = some r) : zRun yX6_isHeight cX6_isHeight 1 (some .boolean) 0 [.int p0] w (zI r w) := by
  refine zRun.of (k := 0) rfl rfl rfl ?_
  show zWP RX6 cX6_isHeight (zMB 1 (some .boolean) 0 (zI r w)) 0 [some (.int p0)] [] w
  unfold fX6_isHeight at h
  refine zs_iload_n dX6_isHeight_0 rfl ?_
  refine zs_if_lt 15 dX6_isHeight_1 rfl (fun c2 => ?_) (fun c2 => ?_)
  · replace h := zite_t c2 h
    refine zs_iconst (0 : Int32) dX6_isHeight_15 ziconst_0 ?_
    obtain rfl := Option.some.inj h
    exact zs_bret dX6_isHeight_16 (Or.inl rfl) ⟨rfl, rfl⟩
  · replace h := zite_f c2 h
    refine zs_iload_n dX6_isHeight_4 rfl ?_
    refine zs_sipush (9999 : Int32) dX6_isHeight_5 zsipush_9999 ?_
    refine zs_icmp_gt 15 dX6_isHeight_8 rfl (fun c1 => ?_) (fun c1 => ?_)
    · replace h := zite_t c1 h
      refine zs_iconst (0 : Int32) dX6_isHeight_15 ziconst_0 ?_
      obtain rfl := Option.some.inj h
      exact zs_bret dX6_isHeight_16 (Or.inl rfl) ⟨rfl, rfl⟩
    · replace h := zite_f c1 h
      refine zs_iconst (1 : Int32) dX6_isHeight_11 ziconst_1 ?_
      refine zs_goto 16 dX6_isHeight_12 rfl ?_
      obtain rfl := Option.some.inj h
      exact zs_bret dX6_isHeight_16 (Or.inr rfl) ⟨rfl, rfl⟩
def lpX6_kind_25 (p1 : Int32) (p2 : Int32) : Nat → zW → Int32 → Int32 → Int32 → Option (Int32 × zW)
  | 0, _, _, _, _ => none
  | n + 1, w6, x3, x4, x5 => (if (6 : Int32) ≤ x5 then (some (x3, w6)) else (Option.bind (fX5_layOut w6 10 x5) fun w10 => Option.bind (fX5_earliest w10 p1 p2 (w10.1 10 8)) fun v12 => zb2 (if x4 ≤ v12 then (some (x3, x4)) else (some (x5, v12))) fun x13 x14 => lpX6_kind_25 p1 p2 n w10 x13 x14 (x5 + 1)))
def fX6_kind (w : zW) (p1 : Int32) (p2 : Int32) : Option (Int32 × zW) := Option.bind (fX6_areVillages w p1 p2) fun v2 => (if v2 = 0 then (zb2 (fX6_finding w (-1000000001 : Int32)) fun v28 w29 => some (v28, w29)) else (zb2 (lpX6_kind_25 p1 p2 zF w (-1 : Int32) (1000000 : Int32) (0 : Int32)) fun y21 w22 => (if 0 ≤ y21 then (some (y21, w22)) else (zb2 (fX6_finding w22 (-1000000004 : Int32)) fun v24 w25 => some (v24, w25)))))
set_option maxRecDepth 100000 in
theorem tlX6_kind_25 {p1 : Int32} {p2 : Int32}  {Q : Option Value → zW → Prop} : ∀ (n : Nat) (w6 : zW) (x3 : Int32) (x4 : Int32) (x5 : Int32) (y7 : Int32) (w8 : zW), lpX6_kind_25 p1 p2 n w6 x3 x4 x5 = some (y7, w8) → zWP RX6 cX6_kind (zMB 7 (some .int) 5 Q) 83 [some (.ref 0), none, none, some (.int y7), none, none, none] [] w8 → zWP RX6 cX6_kind (zMB 7 (some .int) 5 Q) 25 [some (.ref 0), some (.int p1), some (.int p2), some (.int x3), some (.int x4), some (.int x5), none] [] w6 := by
  intro n
  induction n with
  | zero => intro w6 x3 x4 x5 y7 w8 h K; simp [lpX6_kind_25] at h
  | succ n ih =>
    intro w6 x3 x4 x5 y7 w8 h K
    rw [lpX6_kind_25] at h
    refine zs_iload dX6_kind_25 rfl ?_
    refine zs_bipush (6 : Int32) dX6_kind_27 zbipush_6 ?_
    refine zs_icmp_ge 83 dX6_kind_29 rfl (fun c18 => ?_) (fun c18 => ?_)
    · replace h := zite_t c18 h
      refine zs_fo [true, false, false, true, false, false, false] rfl ?_
      obtain ⟨rfl, rfl⟩ := zpi2 h
      exact K
    · replace h := zite_f c18 h
      refine zs_aload_n dX6_kind_32 rfl ?_
      refine gX6_25 dX6_kind_33 ?_
      refine zs_aload_n dX6_kind_36 rfl ?_
      refine gX6_10 dX6_kind_37 ?_
      refine zs_iload dX6_kind_40 rfl ?_
      obtain ⟨w10, e9, h⟩ := zbind h
      refine zc_V2v moX5_layOut mvX5_layOut kX6_146 rfl dX6_kind_42 za_40 (Nat.le_of_ble_eq_true rfl) (zrm (by decide)) (tX5_layOut zl_10 e9) ?_
      refine zs_aload_n dX6_kind_45 rfl ?_
      refine gX6_25 dX6_kind_46 ?_
      refine zs_iload_n dX6_kind_49 rfl ?_
      refine zs_iload_n dX6_kind_50 rfl ?_
      refine zs_aload_n dX6_kind_51 rfl ?_
      refine gX6_10 dX6_kind_52 ?_
      refine gX6_150 zl_10 dX6_kind_55 ?_
      obtain ⟨v12, e11, h⟩ := zbind h
      refine zc_V3i moX5_earliest mvX5_earliest kX6_153 rfl dX6_kind_58 za_40 (Nat.le_of_ble_eq_true rfl) (zrm (by decide)) (tX5_earliest e11) ?_
      refine zs_istore [some (.ref 0), some (.int p1), some (.int p2), some (.int x3), some (.int x4), some (.int x5), some (.int v12)] dX6_kind_61 (Nat.le_of_ble_eq_true rfl) rfl rfl ?_
      refine zs_iload dX6_kind_63 rfl ?_
      refine zs_iload dX6_kind_65 rfl ?_
      obtain ⟨x13, x14, m16, h⟩ := zb2_inv h
      have K15 : zWP RX6 cX6_kind (zMB 7 (some .int) 5 Q) 77 [some (.ref 0), some (.int p1), some (.int p2), some (.int x13), some (.int x14), some (.int x5), none] [] w10 := by
        refine zs_iinc (x5 + 1) [some (.ref 0), some (.int p1), some (.int p2), some (.int x13), some (.int x14), some (.int (x5 + 1)), none] dX6_kind_77 rfl rfl (Nat.le_of_ble_eq_true rfl) rfl rfl ?_
        refine zs_goto 25 dX6_kind_80 rfl ?_
        exact ih _ _ _ _ _ _ h K
      refine zs_icmp_ge 77 dX6_kind_67 rfl (fun c17 => ?_) (fun c17 => ?_)
      · replace m16 := zite_t c17 m16
        refine zs_fo [true, true, true, true, true, true, false] rfl ?_
        obtain ⟨rfl, rfl⟩ := zpi2 m16
        exact K15
      · replace m16 := zite_f c17 m16
        refine zs_iload dX6_kind_70 rfl ?_
        refine zs_istore_n [some (.ref 0), some (.int p1), some (.int p2), some (.int x5), some (.int x4), some (.int x5), some (.int v12)] dX6_kind_72 (Nat.le_of_ble_eq_true rfl) rfl rfl ?_
        refine zs_iload dX6_kind_73 rfl ?_
        refine zs_istore [some (.ref 0), some (.int p1), some (.int p2), some (.int x5), some (.int v12), some (.int x5), some (.int v12)] dX6_kind_75 (Nat.le_of_ble_eq_true rfl) rfl rfl ?_
        refine zs_fo [true, true, true, true, true, true, false] rfl ?_
        obtain ⟨rfl, rfl⟩ := zpi2 m16
        exact K15
set_option maxRecDepth 100000 in
theorem tX6_kind {w : zW} {p1 : Int32} {p2 : Int32}  {r : Int32} {w' : zW} (h : fX6_kind w p1 p2 = some (r, w')) : zRun yX6_kind cX6_kind 7 (some .int) 5 [.ref 0, .int p1, .int p2] w (zI r w') := by
  refine zRun.of (k := 4) rfl rfl rfl ?_
  show zWP RX6 cX6_kind (zMB 7 (some .int) 5 (zI r w')) 0 [some (.ref 0), some (.int p1), some (.int p2), none, none, none, none] [] w
  unfold fX6_kind at h
  refine zs_aload_n dX6_kind_0 rfl ?_
  refine zs_iload_n dX6_kind_1 rfl ?_
  refine zs_iload_n dX6_kind_2 rfl ?_
  obtain ⟨v2, e1, h⟩ := zbind h
  refine zc_V2i moX6_areVillages mvX6_areVillages kX6_143 rfl dX6_kind_3 za_0 (Nat.le_of_ble_eq_true rfl) (zrm (by decide)) (tX6_areVillages e1) ?_
  refine zs_if_ne 16 dX6_kind_6 rfl (fun c30 => ?_) (fun c30 => ?_)
  · replace h := zite_f c30 h
    refine zs_iconst (-1 : Int32) dX6_kind_16 ziconst_m1 ?_
    refine zs_istore_n [some (.ref 0), some (.int p1), some (.int p2), some (.int (-1 : Int32)), none, none, none] dX6_kind_17 (Nat.le_of_ble_eq_true rfl) rfl rfl ?_
    refine zs_ldc kX6_180 dX6_kind_18 ?_
    refine zs_istore [some (.ref 0), some (.int p1), some (.int p2), some (.int (-1 : Int32)), some (.int (1000000 : Int32)), none, none] dX6_kind_20 (Nat.le_of_ble_eq_true rfl) rfl rfl ?_
    refine zs_iconst (0 : Int32) dX6_kind_22 ziconst_0 ?_
    refine zs_istore [some (.ref 0), some (.int p1), some (.int p2), some (.int (-1 : Int32)), some (.int (1000000 : Int32)), some (.int (0 : Int32)), none] dX6_kind_23 (Nat.le_of_ble_eq_true rfl) rfl rfl ?_
    obtain ⟨y21, w22, e19, h⟩ := zb2_inv h
    have K20 : zWP RX6 cX6_kind (zMB 7 (some .int) 5 (zI r w')) 83 [some (.ref 0), none, none, some (.int y21), none, none, none] [] w22 := by
      refine zs_iload_n dX6_kind_83 rfl ?_
      refine zs_if_ge 96 dX6_kind_84 rfl (fun c26 => ?_) (fun c26 => ?_)
      · replace h := zite_t c26 h
        refine zs_iload_n dX6_kind_96 rfl ?_
        obtain ⟨rfl, rfl⟩ := zpi2 h
        exact zs_iret dX6_kind_97 ⟨rfl, rfl⟩
      · replace h := zite_f c26 h
        refine zs_aload_n dX6_kind_87 rfl ?_
        refine zs_ldc kX6_122 dX6_kind_88 ?_
        obtain ⟨v24, w25, e23, h⟩ := zb2_inv h
        refine zc_V1i moX6_finding mvX6_finding kX6_52 rfl dX6_kind_90 za_0 (Nat.le_of_ble_eq_true rfl) (zrm (by decide)) (tX6_finding e23) ?_
        refine zs_goto 97 dX6_kind_93 rfl ?_
        obtain ⟨rfl, rfl⟩ := zpi2 h
        exact zs_iret dX6_kind_97 ⟨rfl, rfl⟩
    exact tlX6_kind_25  zF _ _ _ _ _ _ e19 K20
  · replace h := zite_t c30 h
    refine zs_aload_n dX6_kind_9 rfl ?_
    refine zs_ldc kX6_51 dX6_kind_10 ?_
    obtain ⟨v28, w29, e27, h⟩ := zb2_inv h
    refine zc_V1i moX6_finding mvX6_finding kX6_52 rfl dX6_kind_12 za_0 (Nat.le_of_ble_eq_true rfl) (zrm (by decide)) (tX6_finding e27) ?_
    obtain ⟨rfl, rfl⟩ := zpi2 h
    exact zs_iret dX6_kind_15 ⟨rfl, rfl⟩
def lpX6_lays_37 (o2 : Nat) : Nat → zW → Int32 → Int32 → Option (Int32 × zW)
  | 0, _, _, _ => none
  | n + 1, w11, x9, x10 => (if (w11.1 o2 1) ≤ x10 then (some (x9, w11)) else ((if (w11.1 10 0) ≤ x10 then (some (x9, w11)) else (Option.bind (fX3_number w11 o2 x10) fun v15 => zb2 (if (lg_cmp v15 (0 : Int64)) < 0 then (some (x9, w11)) else ((if 0 < (lg_cmp v15 (9999 : Int64)) then (some (x9, w11)) else (Option.bind (fX0_setHeight w11 10 x10 ((v15).toInt32)) fun w24 => some ((x9 + 1), w24))))) fun x19 w20 => lpX6_lays_37 o2 n w20 x19 (x10 + 1)))))
def fX6_lays (w : zW) (p1 : Int32) : Option (Int32 × zW) := zbo (fX6_sheetAt w p1) (zb2 (fX6_finding w (-1000000001 : Int32)) fun v5 w6 => some (v5, w6)) fun o2 => (Option.bind (fX3_isMissing w o2) fun v8 => (if v8 = 0 then (zb2 (lpX6_lays_37 o2 zF w (0 : Int32) (0 : Int32)) fun y31 w32 => some (y31, w32)) else (zb2 (fX6_finding w (-1000000006 : Int32)) fun v34 w35 => some (v34, w35))))
set_option maxRecDepth 100000 in
theorem tlX6_lays_37 {o2 : Nat} (h3 : zIsSheet o2) {Q : Option Value → zW → Prop} : ∀ (n : Nat) (w11 : zW) (x9 : Int32) (x10 : Int32) (y12 : Int32) (w13 : zW), lpX6_lays_37 o2 n w11 x9 x10 = some (y12, w13) → zWP RX6 cX6_lays (zMB 7 (some .int) 2 Q) 103 [none, none, none, some (.int y12), none, none, none] [] w13 → zWP RX6 cX6_lays (zMB 7 (some .int) 2 Q) 37 [some (.ref 0), none, some (.ref o2), some (.int x9), some (.int x10), none, none] [] w11 := by
  intro n
  induction n with
  | zero => intro w11 x9 x10 y12 w13 h K; simp [lpX6_lays_37] at h
  | succ n ih =>
    intro w11 x9 x10 y12 w13 h K
    rw [lpX6_lays_37] at h
    refine zs_iload dX6_lays_37 rfl ?_
    refine zs_aload_n dX6_lays_39 rfl ?_
    refine gX6_272 h3 dX6_lays_40 ?_
    refine zs_icmp_ge 103 dX6_lays_43 rfl (fun c28 => ?_) (fun c28 => ?_)
    · replace h := zite_t c28 h
      refine zs_fo [false, false, false, true, false, false, false] rfl ?_
      obtain ⟨rfl, rfl⟩ := zpi2 h
      exact K
    · replace h := zite_f c28 h
      refine zs_iload dX6_lays_46 rfl ?_
      refine zs_aload_n dX6_lays_48 rfl ?_
      refine gX6_10 dX6_lays_49 ?_
      refine gX6_119 zl_10 dX6_lays_52 ?_
      refine zs_icmp_ge 103 dX6_lays_55 rfl (fun c27 => ?_) (fun c27 => ?_)
      · replace h := zite_t c27 h
        refine zs_fo [false, false, false, true, false, false, false] rfl ?_
        obtain ⟨rfl, rfl⟩ := zpi2 h
        exact K
      · replace h := zite_f c27 h
        refine zs_aload_n dX6_lays_58 rfl ?_
        refine zs_iload dX6_lays_59 rfl ?_
        obtain ⟨v15, e14, h⟩ := zbind h
        refine zc_V1j moX3_number mvX3_number kX6_282 rfl dX6_lays_61 (za_S h3) (Nat.le_of_ble_eq_true rfl) (zrm (by decide)) (tX3_number h3 e14) ?_
        refine zs_lstore [some (.ref 0), none, some (.ref o2), some (.int x9), some (.int x10), some (.long v15), none] dX6_lays_64 (Nat.le_of_ble_eq_true rfl) rfl rfl ?_
        refine zs_lload dX6_lays_66 rfl ?_
        refine zs_lconst (0 : Int64) dX6_lays_68 rfl ?_
        refine zs_lcmp dX6_lays_69 ?_
        obtain ⟨x19, w20, m22, h⟩ := zb2_inv h
        have K21 : zWP RX6 cX6_lays (zMB 7 (some .int) 2 Q) 97 [some (.ref 0), none, some (.ref o2), some (.int x19), some (.int x10), none, none] [] w20 := by
          refine zs_iinc (x10 + 1) [some (.ref 0), none, some (.ref o2), some (.int x19), some (.int (x10 + 1)), none, none] dX6_lays_97 rfl rfl (Nat.le_of_ble_eq_true rfl) rfl rfl ?_
          refine zs_goto 37 dX6_lays_100 rfl ?_
          exact ih _ _ _ _ _ h K
        refine zs_if_lt 97 dX6_lays_70 rfl (fun c26 => ?_) (fun c26 => ?_)
        · replace m22 := zite_t c26 m22
          refine zs_fo [true, false, true, true, true, false, false] rfl ?_
          obtain ⟨rfl, rfl⟩ := zpi2 m22
          exact K21
        · replace m22 := zite_f c26 m22
          refine zs_lload dX6_lays_73 rfl ?_
          refine zs_ldc2_w kX6_306 dX6_lays_75 ?_
          refine zs_lcmp dX6_lays_78 ?_
          refine zs_if_gt 97 dX6_lays_79 rfl (fun c25 => ?_) (fun c25 => ?_)
          · replace m22 := zite_t c25 m22
            refine zs_fo [true, false, true, true, true, false, false] rfl ?_
            obtain ⟨rfl, rfl⟩ := zpi2 m22
            exact K21
          · replace m22 := zite_f c25 m22
            refine zs_aload_n dX6_lays_82 rfl ?_
            refine gX6_10 dX6_lays_83 ?_
            refine zs_iload dX6_lays_86 rfl ?_
            refine zs_lload dX6_lays_88 rfl ?_
            refine zs_l2i dX6_lays_90 ?_
            obtain ⟨w24, e23, m22⟩ := zbind m22
            refine zc_V2v moX0_setHeight mvX0_setHeight kX6_80 rfl dX6_lays_91 (za_L zl_10) (Nat.le_of_ble_eq_true rfl) (zrm (by decide)) (tX0_setHeight zl_10 e23) ?_
            refine zs_iinc (x9 + 1) [some (.ref 0), none, some (.ref o2), some (.int (x9 + 1)), some (.int x10), some (.long v15), none] dX6_lays_94 rfl rfl (Nat.le_of_ble_eq_true rfl) rfl rfl ?_
            refine zs_fo [true, false, true, true, true, false, false] rfl ?_
            obtain ⟨rfl, rfl⟩ := zpi2 m22
            exact K21
set_option maxRecDepth 100000 in
theorem tX6_lays {w : zW} {p1 : Int32}  {r : Int32} {w' : zW} (h : fX6_lays w p1 = some (r, w')) : zRun yX6_lays cX6_lays 7 (some .int) 2 [.ref 0, .int p1] w (zI r w') := by
  refine zRun.of (k := 5) rfl rfl rfl ?_
  show zWP RX6 cX6_lays (zMB 7 (some .int) 2 (zI r w')) 0 [some (.ref 0), some (.int p1), none, none, none, none, none] [] w
  unfold fX6_lays at h
  refine zs_aload_n dX6_lays_0 rfl ?_
  refine zs_iload_n dX6_lays_1 rfl ?_
  rcases zbo_inv h with ⟨e1, h⟩ | ⟨o2, e1, h⟩
  · refine zc_V1n moX6_sheetAt mvX6_sheetAt kX6_261 rfl dX6_lays_2 za_0 (Nat.le_of_ble_eq_true rfl) (zrm (by decide)) (tX6_sheetAt e1) ?_
    refine zs_astore_nN [some (.ref 0), some (.int p1), some (.null), none, none, none, none] dX6_lays_5 (Nat.le_of_ble_eq_true rfl) rfl rfl ?_
    refine zs_aload_nN dX6_lays_6 rfl ?_
    refine zs_ifnonnullN dX6_lays_7 ?_
    refine zs_aload_n dX6_lays_10 rfl ?_
    refine zs_ldc kX6_51 dX6_lays_11 ?_
    obtain ⟨v5, w6, e4, h⟩ := zb2_inv h
    refine zc_V1i moX6_finding mvX6_finding kX6_52 rfl dX6_lays_13 za_0 (Nat.le_of_ble_eq_true rfl) (zrm (by decide)) (tX6_finding e4) ?_
    obtain ⟨rfl, rfl⟩ := zpi2 h
    exact zs_iret dX6_lays_16 ⟨rfl, rfl⟩
  · have h3 : zIsSheet o2 := fX6_sheetAt_ok e1
    refine zc_V1r moX6_sheetAt mvX6_sheetAt kX6_261 rfl dX6_lays_2 za_0 (Nat.le_of_ble_eq_true rfl) (zrm (by decide)) (tX6_sheetAt e1) ?_
    refine zs_astore_n [some (.ref 0), some (.int p1), some (.ref o2), none, none, none, none] dX6_lays_5 (Nat.le_of_ble_eq_true rfl) rfl rfl ?_
    refine zs_aload_n dX6_lays_6 rfl ?_
    refine zs_ifnonnull 17 dX6_lays_7 rfl ?_
    refine zs_aload_n dX6_lays_17 rfl ?_
    obtain ⟨v8, e7, h⟩ := zbind h
    refine zc_V0i moX3_isMissing mvX3_isMissing kX6_275 rfl dX6_lays_18 (za_S h3) (Nat.le_of_ble_eq_true rfl) (zrm (by decide)) (tX3_isMissing h3 e7) ?_
    refine zs_if_eq 32 dX6_lays_21 rfl (fun c36 => ?_) (fun c36 => ?_)
    · replace h := zite_t c36 h
      refine zs_iconst (0 : Int32) dX6_lays_32 ziconst_0 ?_
      refine zs_istore_n [some (.ref 0), some (.int p1), some (.ref o2), some (.int (0 : Int32)), none, none, none] dX6_lays_33 (Nat.le_of_ble_eq_true rfl) rfl rfl ?_
      refine zs_iconst (0 : Int32) dX6_lays_34 ziconst_0 ?_
      refine zs_istore [some (.ref 0), some (.int p1), some (.ref o2), some (.int (0 : Int32)), some (.int (0 : Int32)), none, none] dX6_lays_35 (Nat.le_of_ble_eq_true rfl) rfl rfl ?_
      obtain ⟨y31, w32, e29, h⟩ := zb2_inv h
      have K30 : zWP RX6 cX6_lays (zMB 7 (some .int) 2 (zI r w')) 103 [none, none, none, some (.int y31), none, none, none] [] w32 := by
        refine zs_iload_n dX6_lays_103 rfl ?_
        obtain ⟨rfl, rfl⟩ := zpi2 h
        exact zs_iret dX6_lays_104 ⟨rfl, rfl⟩
      refine zs_fo [true, false, true, true, true, false, false] rfl ?_
      exact tlX6_lays_37 h3 zF _ _ _ _ _ e29 K30
    · replace h := zite_f c36 h
      refine zs_aload_n dX6_lays_24 rfl ?_
      refine zs_ldc_w kX6_278 dX6_lays_25 ?_
      obtain ⟨v34, w35, e33, h⟩ := zb2_inv h
      refine zc_V1i moX6_finding mvX6_finding kX6_52 rfl dX6_lays_28 za_0 (Nat.le_of_ble_eq_true rfl) (zrm (by decide)) (tX6_finding e33) ?_
      obtain ⟨rfl, rfl⟩ := zpi2 h
      exact zs_iret dX6_lays_31 ⟨rfl, rfl⟩
def fX6_least (w : zW) (p1 : Int32) (p2 : Int32) (p3 : Int32) : Option (Int32 × zW) := Option.bind (fX6_isKind w p1) fun v2 => (if v2 = 0 then (zb2 (fX6_finding w (-1000000001 : Int32)) fun v4 w5 => some (v4, w5)) else (Option.bind (fX6_areVillages w p2 p3) fun v7 => (if v7 = 0 then (zb2 (fX6_finding w (-1000000001 : Int32)) fun v16 w17 => some (v16, w17)) else (Option.bind (fX5_layOut w 10 p1) fun w9 => Option.bind (fX5_earliest w9 p2 p3 (w9.1 10 8)) fun v11 => zb2 (fX6_daysUntil w9 v11) fun v13 w14 => some (v13, w14)))))
set_option maxRecDepth 100000 in
theorem tX6_least {w : zW} {p1 : Int32} {p2 : Int32} {p3 : Int32}  {r : Int32} {w' : zW} (h : fX6_least w p1 p2 p3 = some (r, w')) : zRun yX6_least cX6_least 4 (some .int) 5 [.ref 0, .int p1, .int p2, .int p3] w (zI r w') := by
  refine zRun.of (k := 0) rfl rfl rfl ?_
  show zWP RX6 cX6_least (zMB 4 (some .int) 5 (zI r w')) 0 [some (.ref 0), some (.int p1), some (.int p2), some (.int p3)] [] w
  unfold fX6_least at h
  refine zs_iload_n dX6_least_0 rfl ?_
  obtain ⟨v2, e1, h⟩ := zbind h
  refine zc_S1i moX6_isKind mvX6_isKind kX6_130 dX6_least_1 (Nat.le_of_ble_eq_true rfl) (zrm (by decide)) (tX6_isKind e1) ?_
  refine zs_if_eq 16 dX6_least_4 rfl (fun c19 => ?_) (fun c19 => ?_)
  · replace h := zite_t c19 h
    refine zs_aload_n dX6_least_16 rfl ?_
    refine zs_ldc kX6_51 dX6_least_17 ?_
    obtain ⟨v4, w5, e3, h⟩ := zb2_inv h
    refine zc_V1i moX6_finding mvX6_finding kX6_52 rfl dX6_least_19 za_0 (Nat.le_of_ble_eq_true rfl) (zrm (by decide)) (tX6_finding e3) ?_
    obtain ⟨rfl, rfl⟩ := zpi2 h
    exact zs_iret dX6_least_22 ⟨rfl, rfl⟩
  · replace h := zite_f c19 h
    refine zs_aload_n dX6_least_7 rfl ?_
    refine zs_iload_n dX6_least_8 rfl ?_
    refine zs_iload_n dX6_least_9 rfl ?_
    obtain ⟨v7, e6, h⟩ := zbind h
    refine zc_V2i moX6_areVillages mvX6_areVillages kX6_143 rfl dX6_least_10 za_0 (Nat.le_of_ble_eq_true rfl) (zrm (by decide)) (tX6_areVillages e6) ?_
    refine zs_if_ne 23 dX6_least_13 rfl (fun c18 => ?_) (fun c18 => ?_)
    · replace h := zite_f c18 h
      refine zs_aload_n dX6_least_23 rfl ?_
      refine gX6_25 dX6_least_24 ?_
      refine zs_aload_n dX6_least_27 rfl ?_
      refine gX6_10 dX6_least_28 ?_
      refine zs_iload_n dX6_least_31 rfl ?_
      obtain ⟨w9, e8, h⟩ := zbind h
      refine zc_V2v moX5_layOut mvX5_layOut kX6_146 rfl dX6_least_32 za_40 (Nat.le_of_ble_eq_true rfl) (zrm (by decide)) (tX5_layOut zl_10 e8) ?_
      refine zs_aload_n dX6_least_35 rfl ?_
      refine zs_aload_n dX6_least_36 rfl ?_
      refine gX6_25 dX6_least_37 ?_
      refine zs_iload_n dX6_least_40 rfl ?_
      refine zs_iload_n dX6_least_41 rfl ?_
      refine zs_aload_n dX6_least_42 rfl ?_
      refine gX6_10 dX6_least_43 ?_
      refine gX6_150 zl_10 dX6_least_46 ?_
      obtain ⟨v11, e10, h⟩ := zbind h
      refine zc_V3i moX5_earliest mvX5_earliest kX6_153 rfl dX6_least_49 za_40 (Nat.le_of_ble_eq_true rfl) (zrm (by decide)) (tX5_earliest e10) ?_
      obtain ⟨v13, w14, e12, h⟩ := zb2_inv h
      refine zc_V1i moX6_daysUntil mvX6_daysUntil kX6_156 rfl dX6_least_52 za_0 (Nat.le_of_ble_eq_true rfl) (zrm (by decide)) (tX6_daysUntil e12) ?_
      obtain ⟨rfl, rfl⟩ := zpi2 h
      exact zs_iret dX6_least_55 ⟨rfl, rfl⟩
    · replace h := zite_t c18 h
      refine zs_aload_n dX6_least_16 rfl ?_
      refine zs_ldc kX6_51 dX6_least_17 ?_
      obtain ⟨v16, w17, e15, h⟩ := zb2_inv h
      refine zc_V1i moX6_finding mvX6_finding kX6_52 rfl dX6_least_19 za_0 (Nat.le_of_ble_eq_true rfl) (zrm (by decide)) (tX6_finding e15) ?_
      obtain ⟨rfl, rfl⟩ := zpi2 h
      exact zs_iret dX6_least_22 ⟨rfl, rfl⟩
def fX6_live (w : zW) (p1 : Int32) (p2 : Int32) : Option (Int32 × zW) := Option.bind (fX6_isKind w p1) fun v2 => (if v2 = 0 then (zb2 (fX6_finding w (-1000000001 : Int32)) fun v4 w5 => some (v4, w5)) else ((if p2 = 0 then (zb2 (fX6_finding w (-1000000001 : Int32)) fun v7 w8 => some (v7, w8)) else (Option.bind (fX0_allVillages w 10) fun v10 => (if (p2 &&& (v10 ^^^ (-1 : Int32))) = 0 then (Option.bind (fX5_layOut w 10 p1) fun w12 => Option.bind (fX5_bestHome w12 p2 (w12.1 10 8)) fun v14 => (if 0 ≤ v14 then (some (v14, w12)) else (zb2 (fX6_finding w12 (-1000000004 : Int32)) fun v16 w17 => some (v16, w17)))) else (zb2 (fX6_finding w (-1000000001 : Int32)) fun v20 w21 => some (v20, w21)))))))
set_option maxRecDepth 100000 in
theorem tX6_live {w : zW} {p1 : Int32} {p2 : Int32}  {r : Int32} {w' : zW} (h : fX6_live w p1 p2 = some (r, w')) : zRun yX6_live cX6_live 4 (some .int) 6 [.ref 0, .int p1, .int p2] w (zI r w') := by
  refine zRun.of (k := 1) rfl rfl rfl ?_
  show zWP RX6 cX6_live (zMB 4 (some .int) 6 (zI r w')) 0 [some (.ref 0), some (.int p1), some (.int p2), none] [] w
  unfold fX6_live at h
  refine zs_iload_n dX6_live_0 rfl ?_
  obtain ⟨v2, e1, h⟩ := zbind h
  refine zc_S1i moX6_isKind mvX6_isKind kX6_130 dX6_live_1 (Nat.le_of_ble_eq_true rfl) (zrm (by decide)) (tX6_isKind e1) ?_
  refine zs_if_eq 25 dX6_live_4 rfl (fun c24 => ?_) (fun c24 => ?_)
  · replace h := zite_t c24 h
    refine zs_aload_n dX6_live_25 rfl ?_
    refine zs_ldc kX6_51 dX6_live_26 ?_
    obtain ⟨v4, w5, e3, h⟩ := zb2_inv h
    refine zc_V1i moX6_finding mvX6_finding kX6_52 rfl dX6_live_28 za_0 (Nat.le_of_ble_eq_true rfl) (zrm (by decide)) (tX6_finding e3) ?_
    obtain ⟨rfl, rfl⟩ := zpi2 h
    exact zs_iret dX6_live_31 ⟨rfl, rfl⟩
  · replace h := zite_f c24 h
    refine zs_iload_n dX6_live_7 rfl ?_
    refine zs_if_eq 25 dX6_live_8 rfl (fun c23 => ?_) (fun c23 => ?_)
    · replace h := zite_t c23 h
      refine zs_aload_n dX6_live_25 rfl ?_
      refine zs_ldc kX6_51 dX6_live_26 ?_
      obtain ⟨v7, w8, e6, h⟩ := zb2_inv h
      refine zc_V1i moX6_finding mvX6_finding kX6_52 rfl dX6_live_28 za_0 (Nat.le_of_ble_eq_true rfl) (zrm (by decide)) (tX6_finding e6) ?_
      obtain ⟨rfl, rfl⟩ := zpi2 h
      exact zs_iret dX6_live_31 ⟨rfl, rfl⟩
    · replace h := zite_f c23 h
      refine zs_iload_n dX6_live_11 rfl ?_
      refine zs_aload_n dX6_live_12 rfl ?_
      refine gX6_10 dX6_live_13 ?_
      obtain ⟨v10, e9, h⟩ := zbind h
      refine zc_V0i moX0_allVillages mvX0_allVillages kX6_171 rfl dX6_live_16 (za_L zl_10) (Nat.le_of_ble_eq_true rfl) (zrm (by decide)) (tX0_allVillages zl_10 e9) ?_
      refine zs_iconst (-1 : Int32) dX6_live_19 ziconst_m1 ?_
      refine zs_ixor dX6_live_20 ?_
      refine zs_iand dX6_live_21 ?_
      refine zs_if_eq 32 dX6_live_22 rfl (fun c22 => ?_) (fun c22 => ?_)
      · replace h := zite_t c22 h
        refine zs_aload_n dX6_live_32 rfl ?_
        refine gX6_25 dX6_live_33 ?_
        refine zs_aload_n dX6_live_36 rfl ?_
        refine gX6_10 dX6_live_37 ?_
        refine zs_iload_n dX6_live_40 rfl ?_
        obtain ⟨w12, e11, h⟩ := zbind h
        refine zc_V2v moX5_layOut mvX5_layOut kX6_146 rfl dX6_live_41 za_40 (Nat.le_of_ble_eq_true rfl) (zrm (by decide)) (tX5_layOut zl_10 e11) ?_
        refine zs_aload_n dX6_live_44 rfl ?_
        refine gX6_25 dX6_live_45 ?_
        refine zs_iload_n dX6_live_48 rfl ?_
        refine zs_aload_n dX6_live_49 rfl ?_
        refine gX6_10 dX6_live_50 ?_
        refine gX6_150 zl_10 dX6_live_53 ?_
        obtain ⟨v14, e13, h⟩ := zbind h
        refine zc_V2i moX5_bestHome mvX5_bestHome kX6_174 rfl dX6_live_56 za_40 (Nat.le_of_ble_eq_true rfl) (zrm (by decide)) (tX5_bestHome e13) ?_
        refine zs_istore_n [some (.ref 0), some (.int p1), some (.int p2), some (.int v14)] dX6_live_59 (Nat.le_of_ble_eq_true rfl) rfl rfl ?_
        refine zs_iload_n dX6_live_60 rfl ?_
        refine zs_if_ge 73 dX6_live_61 rfl (fun c18 => ?_) (fun c18 => ?_)
        · replace h := zite_t c18 h
          refine zs_iload_n dX6_live_73 rfl ?_
          obtain ⟨rfl, rfl⟩ := zpi2 h
          exact zs_iret dX6_live_74 ⟨rfl, rfl⟩
        · replace h := zite_f c18 h
          refine zs_aload_n dX6_live_64 rfl ?_
          refine zs_ldc kX6_122 dX6_live_65 ?_
          obtain ⟨v16, w17, e15, h⟩ := zb2_inv h
          refine zc_V1i moX6_finding mvX6_finding kX6_52 rfl dX6_live_67 za_0 (Nat.le_of_ble_eq_true rfl) (zrm (by decide)) (tX6_finding e15) ?_
          refine zs_goto 74 dX6_live_70 rfl ?_
          obtain ⟨rfl, rfl⟩ := zpi2 h
          exact zs_iret dX6_live_74 ⟨rfl, rfl⟩
      · replace h := zite_f c22 h
        refine zs_aload_n dX6_live_25 rfl ?_
        refine zs_ldc kX6_51 dX6_live_26 ?_
        obtain ⟨v20, w21, e19, h⟩ := zb2_inv h
        refine zc_V1i moX6_finding mvX6_finding kX6_52 rfl dX6_live_28 za_0 (Nat.le_of_ble_eq_true rfl) (zrm (by decide)) (tX6_finding e19) ?_
        obtain ⟨rfl, rfl⟩ := zpi2 h
        exact zs_iret dX6_live_31 ⟨rfl, rfl⟩
def fX6_needs (w : zW) (p1 : Int32) (p2 : Int32) : Option (Int32 × zW) := Option.bind (fX6_isKind w p1) fun v2 => (if v2 = 0 then (zb2 (fX6_finding w (-1000000001 : Int32)) fun v4 w5 => some (v4, w5)) else (Option.bind (fX0_hasRoad w 10 p2) fun v7 => (if v7 = 0 then (zb2 (fX6_finding w (-1000000001 : Int32)) fun v13 w14 => some (v13, w14)) else (Option.bind (zrd w (10 + 4) 24 p2) fun v8 => Option.bind (fX2_daysFor w p1 v8) fun v11 => some (v11, w)))))
set_option maxRecDepth 100000 in
theorem tX6_needs {w : zW} {p1 : Int32} {p2 : Int32}  {r : Int32} {w' : zW} (h : fX6_needs w p1 p2 = some (r, w')) : zRun yX6_needs cX6_needs 3 (some .int) 1 [.ref 0, .int p1, .int p2] w (zI r w') := by
  refine zRun.of (k := 0) rfl rfl rfl ?_
  show zWP RX6 cX6_needs (zMB 3 (some .int) 1 (zI r w')) 0 [some (.ref 0), some (.int p1), some (.int p2)] [] w
  unfold fX6_needs at h
  refine zs_iload_n dX6_needs_0 rfl ?_
  obtain ⟨v2, e1, h⟩ := zbind h
  refine zc_S1i moX6_isKind mvX6_isKind kX6_130 dX6_needs_1 (Nat.le_of_ble_eq_true rfl) (zrm (by decide)) (tX6_isKind e1) ?_
  refine zs_if_eq 18 dX6_needs_4 rfl (fun c16 => ?_) (fun c16 => ?_)
  · replace h := zite_t c16 h
    refine zs_aload_n dX6_needs_18 rfl ?_
    refine zs_ldc kX6_51 dX6_needs_19 ?_
    obtain ⟨v4, w5, e3, h⟩ := zb2_inv h
    refine zc_V1i moX6_finding mvX6_finding kX6_52 rfl dX6_needs_21 za_0 (Nat.le_of_ble_eq_true rfl) (zrm (by decide)) (tX6_finding e3) ?_
    obtain ⟨rfl, rfl⟩ := zpi2 h
    exact zs_iret dX6_needs_24 ⟨rfl, rfl⟩
  · replace h := zite_f c16 h
    refine zs_aload_n dX6_needs_7 rfl ?_
    refine gX6_10 dX6_needs_8 ?_
    refine zs_iload_n dX6_needs_11 rfl ?_
    obtain ⟨v7, e6, h⟩ := zbind h
    refine zc_V1i moX0_hasRoad mvX0_hasRoad kX6_103 rfl dX6_needs_12 (za_L zl_10) (Nat.le_of_ble_eq_true rfl) (zrm (by decide)) (tX0_hasRoad zl_10 e6) ?_
    refine zs_if_ne 25 dX6_needs_15 rfl (fun c15 => ?_) (fun c15 => ?_)
    · replace h := zite_f c15 h
      refine zs_iload_n dX6_needs_25 rfl ?_
      refine zs_aload_n dX6_needs_26 rfl ?_
      refine gX6_10 dX6_needs_27 ?_
      refine gX6_112 zl_10 dX6_needs_30 ?_
      refine zs_iload_n dX6_needs_33 rfl ?_
      obtain ⟨v8, e9, h⟩ := zbind h
      refine zs_iald dX6_needs_34 (za_L4 zl_10) e9 ?_
      obtain ⟨v11, e10, h⟩ := zbind h
      refine zc_S2i moX2_daysFor mvX2_daysFor kX6_133 dX6_needs_35 (Nat.le_of_ble_eq_true rfl) (zrm (by decide)) (tX2_daysFor e10) ?_
      obtain ⟨rfl, rfl⟩ := zpi2 h
      exact zs_iret dX6_needs_38 ⟨rfl, rfl⟩
    · replace h := zite_t c15 h
      refine zs_aload_n dX6_needs_18 rfl ?_
      refine zs_ldc kX6_51 dX6_needs_19 ?_
      obtain ⟨v13, w14, e12, h⟩ := zb2_inv h
      refine zc_V1i moX6_finding mvX6_finding kX6_52 rfl dX6_needs_21 za_0 (Nat.le_of_ble_eq_true rfl) (zrm (by decide)) (tX6_finding e12) ?_
      obtain ⟨rfl, rfl⟩ := zpi2 h
      exact zs_iret dX6_needs_24 ⟨rfl, rfl⟩
def fX6_next (w : zW) (p1 : Int32) : Option (Int32 × zW) := Option.bind (fX0_hasLetter w 10 p1) fun v2 => (if v2 = 0 then (zb2 (fX6_finding w (-1000000001 : Int32)) fun v20 w21 => some (v20, w21)) else (Option.bind (zrd w (10 + 9) 10 p1) fun v3 => (if v3 ≤ 0 then (Option.bind (zrd w (10 + 5) 10 p1) fun v5 => Option.bind (fX5_layOut w 10 v5) fun w8 => Option.bind (zrd w8 (10 + 6) 10 p1) fun v9 => Option.bind (zrd w8 (10 + 7) 10 p1) fun v11 => Option.bind (fX5_lookAhead w8 v9 v11 (w8.1 10 8)) fun w14 => some ((w14.1 40 7), w14)) else (zb2 (fX6_finding w (-1000000005 : Int32)) fun v16 w17 => some (v16, w17)))))
set_option maxRecDepth 100000 in
theorem tX6_next {w : zW} {p1 : Int32}  {r : Int32} {w' : zW} (h : fX6_next w p1 = some (r, w')) : zRun yX6_next cX6_next 2 (some .int) 5 [.ref 0, .int p1] w (zI r w') := by
  refine zRun.of (k := 0) rfl rfl rfl ?_
  show zWP RX6 cX6_next (zMB 2 (some .int) 5 (zI r w')) 0 [some (.ref 0), some (.int p1)] [] w
  unfold fX6_next at h
  refine zs_aload_n dX6_next_0 rfl ?_
  refine gX6_10 dX6_next_1 ?_
  refine zs_iload_n dX6_next_4 rfl ?_
  obtain ⟨v2, e1, h⟩ := zbind h
  refine zc_V1i moX0_hasLetter mvX0_hasLetter kX6_196 rfl dX6_next_5 (za_L zl_10) (Nat.le_of_ble_eq_true rfl) (zrm (by decide)) (tX0_hasLetter zl_10 e1) ?_
  refine zs_if_ne 18 dX6_next_8 rfl (fun c22 => ?_) (fun c22 => ?_)
  · replace h := zite_f c22 h
    refine zs_aload_n dX6_next_18 rfl ?_
    refine gX6_10 dX6_next_19 ?_
    refine gX6_211 zl_10 dX6_next_22 ?_
    refine zs_iload_n dX6_next_25 rfl ?_
    obtain ⟨v3, e4, h⟩ := zbind h
    refine zs_iald dX6_next_26 (za_L9 zl_10) e4 ?_
    refine zs_if_le 37 dX6_next_27 rfl (fun c18 => ?_) (fun c18 => ?_)
    · replace h := zite_t c18 h
      refine zs_aload_n dX6_next_37 rfl ?_
      refine gX6_25 dX6_next_38 ?_
      refine zs_aload_n dX6_next_41 rfl ?_
      refine gX6_10 dX6_next_42 ?_
      refine zs_aload_n dX6_next_45 rfl ?_
      refine gX6_10 dX6_next_46 ?_
      refine gX6_199 zl_10 dX6_next_49 ?_
      refine zs_iload_n dX6_next_52 rfl ?_
      obtain ⟨v5, e6, h⟩ := zbind h
      refine zs_iald dX6_next_53 (za_L5 zl_10) e6 ?_
      obtain ⟨w8, e7, h⟩ := zbind h
      refine zc_V2v moX5_layOut mvX5_layOut kX6_146 rfl dX6_next_54 za_40 (Nat.le_of_ble_eq_true rfl) (zrm (by decide)) (tX5_layOut zl_10 e7) ?_
      refine zs_aload_n dX6_next_57 rfl ?_
      refine gX6_25 dX6_next_58 ?_
      refine zs_aload_n dX6_next_61 rfl ?_
      refine gX6_10 dX6_next_62 ?_
      refine gX6_202 zl_10 dX6_next_65 ?_
      refine zs_iload_n dX6_next_68 rfl ?_
      obtain ⟨v9, e10, h⟩ := zbind h
      refine zs_iald dX6_next_69 (za_L6 zl_10) e10 ?_
      refine zs_aload_n dX6_next_70 rfl ?_
      refine gX6_10 dX6_next_71 ?_
      refine gX6_205 zl_10 dX6_next_74 ?_
      refine zs_iload_n dX6_next_77 rfl ?_
      obtain ⟨v11, e12, h⟩ := zbind h
      refine zs_iald dX6_next_78 (za_L7 zl_10) e12 ?_
      refine zs_aload_n dX6_next_79 rfl ?_
      refine gX6_10 dX6_next_80 ?_
      refine gX6_150 zl_10 dX6_next_83 ?_
      obtain ⟨w14, e13, h⟩ := zbind h
      refine zc_V3v moX5_lookAhead mvX5_lookAhead kX6_221 rfl dX6_next_86 za_40 (Nat.le_of_ble_eq_true rfl) (zrm (by decide)) (tX5_lookAhead e13) ?_
      refine zs_aload_n dX6_next_89 rfl ?_
      refine gX6_25 dX6_next_90 ?_
      refine gX6_225 dX6_next_93 ?_
      obtain ⟨rfl, rfl⟩ := zpi2 h
      exact zs_iret dX6_next_96 ⟨rfl, rfl⟩
    · replace h := zite_f c18 h
      refine zs_aload_n dX6_next_30 rfl ?_
      refine zs_ldc kX6_95 dX6_next_31 ?_
      obtain ⟨v16, w17, e15, h⟩ := zb2_inv h
      refine zc_V1i moX6_finding mvX6_finding kX6_52 rfl dX6_next_33 za_0 (Nat.le_of_ble_eq_true rfl) (zrm (by decide)) (tX6_finding e15) ?_
      obtain ⟨rfl, rfl⟩ := zpi2 h
      exact zs_iret dX6_next_36 ⟨rfl, rfl⟩
  · replace h := zite_t c22 h
    refine zs_aload_n dX6_next_11 rfl ?_
    refine zs_ldc kX6_51 dX6_next_12 ?_
    obtain ⟨v20, w21, e19, h⟩ := zb2_inv h
    refine zc_V1i moX6_finding mvX6_finding kX6_52 rfl dX6_next_14 za_0 (Nat.le_of_ble_eq_true rfl) (zrm (by decide)) (tX6_finding e19) ?_
    obtain ⟨rfl, rfl⟩ := zpi2 h
    exact zs_iret dX6_next_17 ⟨rfl, rfl⟩
def fX6_now (w : zW) (p1 : Int32) : Option (Int32 × zW) := (if p1 = 0 then (some ((w.1 10 8), w)) else (if p1 = 1 then (some ((w.1 10 7), w)) else (if p1 = 2 then (Option.bind (fX0_lettersThere w 10) fun v7 => some (v7, w)) else (if p1 = 3 then (Option.bind (fX0_lettersOnTheirWay w 10) fun v9 => some (v9, w)) else (if p1 = 4 then (Option.bind (fX0_lettersThere w 10) fun v11 => Option.bind (fX0_lettersOnTheirWay w 10) fun v13 => some ((((w.1 10 9) - v11) - v13), w)) else (zb2 (fX6_finding w (-1000000001 : Int32)) fun v15 w16 => some (v15, w16)))))))
set_option maxRecDepth 100000 in
theorem tX6_now {w : zW} {p1 : Int32}  {r : Int32} {w' : zW} (h : fX6_now w p1 = some (r, w')) : zRun yX6_now cX6_now 2 (some .int) 4 [.ref 0, .int p1] w (zI r w') := by
  refine zRun.of (k := 0) rfl rfl rfl ?_
  show zWP RX6 cX6_now (zMB 2 (some .int) 4 (zI r w')) 0 [some (.ref 0), some (.int p1)] [] w
  unfold fX6_now at h
  refine zs_iload_n dX6_now_0 rfl ?_
  by_cases c1 : p1 = 0
  · replace h := zite_t c1 h
    refine zs_tswIn (0 : Int32) 36 dX6_now_1 c1 (by decide) (by decide) rfl rfl ?_
    refine zs_aload_n dX6_now_36 rfl ?_
    refine gX6_10 dX6_now_37 ?_
    refine gX6_150 zl_10 dX6_now_40 ?_
    obtain ⟨rfl, rfl⟩ := zpi2 h
    exact zs_iret dX6_now_43 ⟨rfl, rfl⟩
  · replace h := zite_f c1 h
    by_cases c2 : p1 = 1
    · replace h := zite_t c2 h
      refine zs_tswIn (1 : Int32) 44 dX6_now_1 c2 (by decide) (by decide) rfl rfl ?_
      refine zs_aload_n dX6_now_44 rfl ?_
      refine gX6_10 dX6_now_45 ?_
      refine gX6_115 zl_10 dX6_now_48 ?_
      obtain ⟨rfl, rfl⟩ := zpi2 h
      exact zs_iret dX6_now_51 ⟨rfl, rfl⟩
    · replace h := zite_f c2 h
      by_cases c3 : p1 = 2
      · replace h := zite_t c3 h
        refine zs_tswIn (2 : Int32) 52 dX6_now_1 c3 (by decide) (by decide) rfl rfl ?_
        refine zs_aload_n dX6_now_52 rfl ?_
        refine gX6_10 dX6_now_53 ?_
        obtain ⟨v7, e6, h⟩ := zbind h
        refine zc_V0i moX0_lettersThere mvX0_lettersThere kX6_228 rfl dX6_now_56 (za_L zl_10) (Nat.le_of_ble_eq_true rfl) (zrm (by decide)) (tX0_lettersThere zl_10 e6) ?_
        obtain ⟨rfl, rfl⟩ := zpi2 h
        exact zs_iret dX6_now_59 ⟨rfl, rfl⟩
      · replace h := zite_f c3 h
        by_cases c4 : p1 = 3
        · replace h := zite_t c4 h
          refine zs_tswIn (3 : Int32) 60 dX6_now_1 c4 (by decide) (by decide) rfl rfl ?_
          refine zs_aload_n dX6_now_60 rfl ?_
          refine gX6_10 dX6_now_61 ?_
          obtain ⟨v9, e8, h⟩ := zbind h
          refine zc_V0i moX0_lettersOnTheirWay mvX0_lettersOnTheirWay kX6_238 rfl dX6_now_64 (za_L zl_10) (Nat.le_of_ble_eq_true rfl) (zrm (by decide)) (tX0_lettersOnTheirWay zl_10 e8) ?_
          obtain ⟨rfl, rfl⟩ := zpi2 h
          exact zs_iret dX6_now_67 ⟨rfl, rfl⟩
        · replace h := zite_f c4 h
          by_cases c5 : p1 = 4
          · replace h := zite_t c5 h
            refine zs_tswIn (4 : Int32) 68 dX6_now_1 c5 (by decide) (by decide) rfl rfl ?_
            refine zs_aload_n dX6_now_68 rfl ?_
            refine gX6_10 dX6_now_69 ?_
            refine gX6_231 zl_10 dX6_now_72 ?_
            refine zs_aload_n dX6_now_75 rfl ?_
            refine gX6_10 dX6_now_76 ?_
            obtain ⟨v11, e10, h⟩ := zbind h
            refine zc_V0i moX0_lettersThere mvX0_lettersThere kX6_228 rfl dX6_now_79 (za_L zl_10) (Nat.le_of_ble_eq_true rfl) (zrm (by decide)) (tX0_lettersThere zl_10 e10) ?_
            refine zs_isub dX6_now_82 ?_
            refine zs_aload_n dX6_now_83 rfl ?_
            refine gX6_10 dX6_now_84 ?_
            obtain ⟨v13, e12, h⟩ := zbind h
            refine zc_V0i moX0_lettersOnTheirWay mvX0_lettersOnTheirWay kX6_238 rfl dX6_now_87 (za_L zl_10) (Nat.le_of_ble_eq_true rfl) (zrm (by decide)) (tX0_lettersOnTheirWay zl_10 e12) ?_
            refine zs_isub dX6_now_90 ?_
            obtain ⟨rfl, rfl⟩ := zpi2 h
            exact zs_iret dX6_now_91 ⟨rfl, rfl⟩
          · replace h := zite_f c5 h
            refine zs_tswOut 92 dX6_now_1 (by have q := zout (x := p1) (n := 5) (lo := 0) (fun i hi => by match i, hi with | 0, _ => exact c1 | 1, _ => exact c2 | 2, _ => exact c3 | 3, _ => exact c4 | 4, _ => exact c5); omega) rfl ?_
            refine zs_aload_n dX6_now_92 rfl ?_
            refine zs_ldc kX6_51 dX6_now_93 ?_
            obtain ⟨v15, w16, e14, h⟩ := zb2_inv h
            refine zc_V1i moX6_finding mvX6_finding kX6_52 rfl dX6_now_95 za_0 (Nat.le_of_ble_eq_true rfl) (zrm (by decide)) (tX6_finding e14) ?_
            obtain ⟨rfl, rfl⟩ := zpi2 h
            exact zs_iret dX6_now_98 ⟨rfl, rfl⟩
def fX6_of (w : zW) (p1 : Int32) (p2 : Int32) : Option (Int32 × zW) := Option.bind (fX0_hasLetter w 10 p1) fun v2 => (if v2 = 0 then (zb2 (fX6_finding w (-1000000001 : Int32)) fun v26 w27 => some (v26, w27)) else ((if p2 = 0 then (Option.bind (zrd w (10 + 5) 10 p1) fun v9 => some (v9, w)) else (if p2 = 1 then (Option.bind (zrd w (10 + 6) 10 p1) fun v11 => some (v11, w)) else (if p2 = 2 then (Option.bind (zrd w (10 + 7) 10 p1) fun v13 => some (v13, w)) else (if p2 = 3 then (Option.bind (zrd w (10 + 8) 10 p1) fun v15 => some (v15, w)) else (if p2 = 4 then (Option.bind (zrd w (10 + 9) 10 p1) fun v17 => some (v17, w)) else (if p2 = 5 then (Option.bind (fX0_isThere w 10 p1) fun v20 => (if v20 = 0 then (some ((0 : Int32), w)) else (some ((1 : Int32), w)))) else (zb2 (fX6_finding w (-1000000001 : Int32)) fun v23 w24 => some (v23, w24))))))))))
set_option maxRecDepth 100000 in
theorem tX6_of {w : zW} {p1 : Int32} {p2 : Int32}  {r : Int32} {w' : zW} (h : fX6_of w p1 p2 = some (r, w')) : zRun yX6_of cX6_of 3 (some .int) 3 [.ref 0, .int p1, .int p2] w (zI r w') := by
  refine zRun.of (k := 0) rfl rfl rfl ?_
  show zWP RX6 cX6_of (zMB 3 (some .int) 3 (zI r w')) 0 [some (.ref 0), some (.int p1), some (.int p2)] [] w
  unfold fX6_of at h
  refine zs_aload_n dX6_of_0 rfl ?_
  refine gX6_10 dX6_of_1 ?_
  refine zs_iload_n dX6_of_4 rfl ?_
  obtain ⟨v2, e1, h⟩ := zbind h
  refine zc_V1i moX0_hasLetter mvX0_hasLetter kX6_196 rfl dX6_of_5 (za_L zl_10) (Nat.le_of_ble_eq_true rfl) (zrm (by decide)) (tX0_hasLetter zl_10 e1) ?_
  refine zs_if_ne 18 dX6_of_8 rfl (fun c28 => ?_) (fun c28 => ?_)
  · replace h := zite_f c28 h
    refine zs_iload_n dX6_of_18 rfl ?_
    by_cases c3 : p2 = 0
    · replace h := zite_t c3 h
      refine zs_tswIn (0 : Int32) 56 dX6_of_19 c3 (by decide) (by decide) rfl rfl ?_
      refine zs_aload_n dX6_of_56 rfl ?_
      refine gX6_10 dX6_of_57 ?_
      refine gX6_199 zl_10 dX6_of_60 ?_
      refine zs_iload_n dX6_of_63 rfl ?_
      obtain ⟨v9, e10, h⟩ := zbind h
      refine zs_iald dX6_of_64 (za_L5 zl_10) e10 ?_
      obtain ⟨rfl, rfl⟩ := zpi2 h
      exact zs_iret dX6_of_65 ⟨rfl, rfl⟩
    · replace h := zite_f c3 h
      by_cases c4 : p2 = 1
      · replace h := zite_t c4 h
        refine zs_tswIn (1 : Int32) 66 dX6_of_19 c4 (by decide) (by decide) rfl rfl ?_
        refine zs_aload_n dX6_of_66 rfl ?_
        refine gX6_10 dX6_of_67 ?_
        refine gX6_202 zl_10 dX6_of_70 ?_
        refine zs_iload_n dX6_of_73 rfl ?_
        obtain ⟨v11, e12, h⟩ := zbind h
        refine zs_iald dX6_of_74 (za_L6 zl_10) e12 ?_
        obtain ⟨rfl, rfl⟩ := zpi2 h
        exact zs_iret dX6_of_75 ⟨rfl, rfl⟩
      · replace h := zite_f c4 h
        by_cases c5 : p2 = 2
        · replace h := zite_t c5 h
          refine zs_tswIn (2 : Int32) 76 dX6_of_19 c5 (by decide) (by decide) rfl rfl ?_
          refine zs_aload_n dX6_of_76 rfl ?_
          refine gX6_10 dX6_of_77 ?_
          refine gX6_205 zl_10 dX6_of_80 ?_
          refine zs_iload_n dX6_of_83 rfl ?_
          obtain ⟨v13, e14, h⟩ := zbind h
          refine zs_iald dX6_of_84 (za_L7 zl_10) e14 ?_
          obtain ⟨rfl, rfl⟩ := zpi2 h
          exact zs_iret dX6_of_85 ⟨rfl, rfl⟩
        · replace h := zite_f c5 h
          by_cases c6 : p2 = 3
          · replace h := zite_t c6 h
            refine zs_tswIn (3 : Int32) 86 dX6_of_19 c6 (by decide) (by decide) rfl rfl ?_
            refine zs_aload_n dX6_of_86 rfl ?_
            refine gX6_10 dX6_of_87 ?_
            refine gX6_208 zl_10 dX6_of_90 ?_
            refine zs_iload_n dX6_of_93 rfl ?_
            obtain ⟨v15, e16, h⟩ := zbind h
            refine zs_iald dX6_of_94 (za_L8 zl_10) e16 ?_
            obtain ⟨rfl, rfl⟩ := zpi2 h
            exact zs_iret dX6_of_95 ⟨rfl, rfl⟩
          · replace h := zite_f c6 h
            by_cases c7 : p2 = 4
            · replace h := zite_t c7 h
              refine zs_tswIn (4 : Int32) 96 dX6_of_19 c7 (by decide) (by decide) rfl rfl ?_
              refine zs_aload_n dX6_of_96 rfl ?_
              refine gX6_10 dX6_of_97 ?_
              refine gX6_211 zl_10 dX6_of_100 ?_
              refine zs_iload_n dX6_of_103 rfl ?_
              obtain ⟨v17, e18, h⟩ := zbind h
              refine zs_iald dX6_of_104 (za_L9 zl_10) e18 ?_
              obtain ⟨rfl, rfl⟩ := zpi2 h
              exact zs_iret dX6_of_105 ⟨rfl, rfl⟩
            · replace h := zite_f c7 h
              by_cases c8 : p2 = 5
              · replace h := zite_t c8 h
                refine zs_tswIn (5 : Int32) 106 dX6_of_19 c8 (by decide) (by decide) rfl rfl ?_
                refine zs_aload_n dX6_of_106 rfl ?_
                refine gX6_10 dX6_of_107 ?_
                refine zs_iload_n dX6_of_110 rfl ?_
                obtain ⟨v20, e19, h⟩ := zbind h
                refine zc_V1i moX0_isThere mvX0_isThere kX6_214 rfl dX6_of_111 (za_L zl_10) (Nat.le_of_ble_eq_true rfl) (zrm (by decide)) (tX0_isThere zl_10 e19) ?_
                refine zs_if_eq 121 dX6_of_114 rfl (fun c21 => ?_) (fun c21 => ?_)
                · replace h := zite_t c21 h
                  refine zs_iconst (0 : Int32) dX6_of_121 ziconst_0 ?_
                  obtain ⟨rfl, rfl⟩ := zpi2 h
                  exact zs_iret dX6_of_122 ⟨rfl, rfl⟩
                · replace h := zite_f c21 h
                  refine zs_iconst (1 : Int32) dX6_of_117 ziconst_1 ?_
                  refine zs_goto 122 dX6_of_118 rfl ?_
                  obtain ⟨rfl, rfl⟩ := zpi2 h
                  exact zs_iret dX6_of_122 ⟨rfl, rfl⟩
              · replace h := zite_f c8 h
                refine zs_tswOut 123 dX6_of_19 (by have q := zout (x := p2) (n := 6) (lo := 0) (fun i hi => by match i, hi with | 0, _ => exact c3 | 1, _ => exact c4 | 2, _ => exact c5 | 3, _ => exact c6 | 4, _ => exact c7 | 5, _ => exact c8); omega) rfl ?_
                refine zs_aload_n dX6_of_123 rfl ?_
                refine zs_ldc kX6_51 dX6_of_124 ?_
                obtain ⟨v23, w24, e22, h⟩ := zb2_inv h
                refine zc_V1i moX6_finding mvX6_finding kX6_52 rfl dX6_of_126 za_0 (Nat.le_of_ble_eq_true rfl) (zrm (by decide)) (tX6_finding e22) ?_
                obtain ⟨rfl, rfl⟩ := zpi2 h
                exact zs_iret dX6_of_129 ⟨rfl, rfl⟩
  · replace h := zite_t c28 h
    refine zs_aload_n dX6_of_11 rfl ?_
    refine zs_ldc kX6_51 dX6_of_12 ?_
    obtain ⟨v26, w27, e25, h⟩ := zb2_inv h
    refine zc_V1i moX6_finding mvX6_finding kX6_52 rfl dX6_of_14 za_0 (Nat.le_of_ble_eq_true rfl) (zrm (by decide)) (tX6_finding e25) ?_
    obtain ⟨rfl, rfl⟩ := zpi2 h
    exact zs_iret dX6_of_17 ⟨rfl, rfl⟩
def fX6_on (w : zW) (p1 : Int32) (p2 : Int32) : Option (Int32 × zW) := Option.bind (fX0_hasLetter w 10 p1) fun v2 => (if v2 = 0 then (zb2 (fX6_finding w (-1000000001 : Int32)) fun v4 w5 => some (v4, w5)) else ((if p2 < 0 then (zb2 (fX6_finding w (-1000000001 : Int32)) fun v7 w8 => some (v7, w8)) else ((if p2 ≤ (200 : Int32) then ((if ((w.1 10 8) + p2) ≤ (9999 : Int32) then (Option.bind (fX0_become w 30 10) fun w10 => Option.bind (fX6_carryOn w10 30 p1 p2) fun w12 => Option.bind (zrd w12 (30 + 6) 10 p1) fun v13 => some (v13, w12)) else (zb2 (fX6_finding w (-1000000005 : Int32)) fun v16 w17 => some (v16, w17)))) else (zb2 (fX6_finding w (-1000000001 : Int32)) fun v20 w21 => some (v20, w21)))))))
set_option maxRecDepth 100000 in
theorem tX6_on {w : zW} {p1 : Int32} {p2 : Int32}  {r : Int32} {w' : zW} (h : fX6_on w p1 p2 = some (r, w')) : zRun yX6_on cX6_on 3 (some .int) 6 [.ref 0, .int p1, .int p2] w (zI r w') := by
  refine zRun.of (k := 0) rfl rfl rfl ?_
  show zWP RX6 cX6_on (zMB 3 (some .int) 6 (zI r w')) 0 [some (.ref 0), some (.int p1), some (.int p2)] [] w
  unfold fX6_on at h
  refine zs_aload_n dX6_on_0 rfl ?_
  refine gX6_10 dX6_on_1 ?_
  refine zs_iload_n dX6_on_4 rfl ?_
  obtain ⟨v2, e1, h⟩ := zbind h
  refine zc_V1i moX0_hasLetter mvX0_hasLetter kX6_196 rfl dX6_on_5 (za_L zl_10) (Nat.le_of_ble_eq_true rfl) (zrm (by decide)) (tX0_hasLetter zl_10 e1) ?_
  refine zs_if_eq 22 dX6_on_8 rfl (fun c24 => ?_) (fun c24 => ?_)
  · replace h := zite_t c24 h
    refine zs_aload_n dX6_on_22 rfl ?_
    refine zs_ldc kX6_51 dX6_on_23 ?_
    obtain ⟨v4, w5, e3, h⟩ := zb2_inv h
    refine zc_V1i moX6_finding mvX6_finding kX6_52 rfl dX6_on_25 za_0 (Nat.le_of_ble_eq_true rfl) (zrm (by decide)) (tX6_finding e3) ?_
    obtain ⟨rfl, rfl⟩ := zpi2 h
    exact zs_iret dX6_on_28 ⟨rfl, rfl⟩
  · replace h := zite_f c24 h
    refine zs_iload_n dX6_on_11 rfl ?_
    refine zs_if_lt 22 dX6_on_12 rfl (fun c23 => ?_) (fun c23 => ?_)
    · replace h := zite_t c23 h
      refine zs_aload_n dX6_on_22 rfl ?_
      refine zs_ldc kX6_51 dX6_on_23 ?_
      obtain ⟨v7, w8, e6, h⟩ := zb2_inv h
      refine zc_V1i moX6_finding mvX6_finding kX6_52 rfl dX6_on_25 za_0 (Nat.le_of_ble_eq_true rfl) (zrm (by decide)) (tX6_finding e6) ?_
      obtain ⟨rfl, rfl⟩ := zpi2 h
      exact zs_iret dX6_on_28 ⟨rfl, rfl⟩
    · replace h := zite_f c23 h
      refine zs_iload_n dX6_on_15 rfl ?_
      refine zs_sipush (200 : Int32) dX6_on_16 zsipush_200 ?_
      refine zs_icmp_le 29 dX6_on_19 rfl (fun c22 => ?_) (fun c22 => ?_)
      · replace h := zite_t c22 h
        refine zs_aload_n dX6_on_29 rfl ?_
        refine gX6_10 dX6_on_30 ?_
        refine gX6_150 zl_10 dX6_on_33 ?_
        refine zs_iload_n dX6_on_36 rfl ?_
        refine zs_iadd dX6_on_37 ?_
        refine zs_sipush (9999 : Int32) dX6_on_38 zsipush_9999 ?_
        refine zs_icmp_le 51 dX6_on_41 rfl (fun c18 => ?_) (fun c18 => ?_)
        · replace h := zite_t c18 h
          refine zs_aload_n dX6_on_51 rfl ?_
          refine gX6_19 dX6_on_52 ?_
          refine zs_aload_n dX6_on_55 rfl ?_
          refine gX6_10 dX6_on_56 ?_
          obtain ⟨w10, e9, h⟩ := zbind h
          refine zc_V1v moX0_become mvX0_become kX6_241 rfl dX6_on_59 (za_L zl_30) (Nat.le_of_ble_eq_true rfl) (zrm (by decide)) (tX0_become zl_30 zl_10 e9) ?_
          refine zs_aload_n dX6_on_62 rfl ?_
          refine zs_aload_n dX6_on_63 rfl ?_
          refine gX6_19 dX6_on_64 ?_
          refine zs_iload_n dX6_on_67 rfl ?_
          refine zs_iload_n dX6_on_68 rfl ?_
          obtain ⟨w12, e11, h⟩ := zbind h
          refine zc_V3v moX6_carryOn mvX6_carryOn kX6_234 rfl dX6_on_69 za_0 (Nat.le_of_ble_eq_true rfl) (zrm (by decide)) (tX6_carryOn zl_30 e11) ?_
          refine zs_aload_n dX6_on_72 rfl ?_
          refine gX6_19 dX6_on_73 ?_
          refine gX6_202 zl_30 dX6_on_76 ?_
          refine zs_iload_n dX6_on_79 rfl ?_
          obtain ⟨v13, e14, h⟩ := zbind h
          refine zs_iald dX6_on_80 (za_L6 zl_30) e14 ?_
          obtain ⟨rfl, rfl⟩ := zpi2 h
          exact zs_iret dX6_on_81 ⟨rfl, rfl⟩
        · replace h := zite_f c18 h
          refine zs_aload_n dX6_on_44 rfl ?_
          refine zs_ldc kX6_95 dX6_on_45 ?_
          obtain ⟨v16, w17, e15, h⟩ := zb2_inv h
          refine zc_V1i moX6_finding mvX6_finding kX6_52 rfl dX6_on_47 za_0 (Nat.le_of_ble_eq_true rfl) (zrm (by decide)) (tX6_finding e15) ?_
          obtain ⟨rfl, rfl⟩ := zpi2 h
          exact zs_iret dX6_on_50 ⟨rfl, rfl⟩
      · replace h := zite_f c22 h
        refine zs_aload_n dX6_on_22 rfl ?_
        refine zs_ldc kX6_51 dX6_on_23 ?_
        obtain ⟨v20, w21, e19, h⟩ := zb2_inv h
        refine zc_V1i moX6_finding mvX6_finding kX6_52 rfl dX6_on_25 za_0 (Nat.le_of_ble_eq_true rfl) (zrm (by decide)) (tX6_finding e19) ?_
        obtain ⟨rfl, rfl⟩ := zpi2 h
        exact zs_iret dX6_on_28 ⟨rfl, rfl⟩
def fX6_peak (w : zW)  : Option (Int32 × zW) := (if (w.1 10 0) = 0 then (zb2 (fX6_finding w (-1000000004 : Int32)) fun v4 w5 => some (v4, w5)) else (Option.bind (fX0_highest w 10) fun v2 => some (v2, w)))
set_option maxRecDepth 100000 in
theorem tX6_peak {w : zW}   {r : Int32} {w' : zW} (h : fX6_peak w  = some (r, w')) : zRun yX6_peak cX6_peak 1 (some .int) 1 [.ref 0] w (zI r w') := by
  refine zRun.of (k := 0) rfl rfl rfl ?_
  show zWP RX6 cX6_peak (zMB 1 (some .int) 1 (zI r w')) 0 [some (.ref 0)] [] w
  unfold fX6_peak at h
  refine zs_aload_n dX6_peak_0 rfl ?_
  refine gX6_10 dX6_peak_1 ?_
  refine gX6_119 zl_10 dX6_peak_4 ?_
  refine zs_if_ne 19 dX6_peak_7 rfl (fun c6 => ?_) (fun c6 => ?_)
  · replace h := zite_f c6 h
    refine zs_aload_n dX6_peak_19 rfl ?_
    refine gX6_10 dX6_peak_20 ?_
    obtain ⟨v2, e1, h⟩ := zbind h
    refine zc_V0i moX0_highest mvX0_highest kX6_127 rfl dX6_peak_23 (za_L zl_10) (Nat.le_of_ble_eq_true rfl) (zrm (by decide)) (tX0_highest zl_10 e1) ?_
    obtain ⟨rfl, rfl⟩ := zpi2 h
    exact zs_iret dX6_peak_26 ⟨rfl, rfl⟩
  · replace h := zite_t c6 h
    refine zs_aload_n dX6_peak_10 rfl ?_
    refine zs_ldc kX6_122 dX6_peak_11 ?_
    obtain ⟨v4, w5, e3, h⟩ := zb2_inv h
    refine zc_V1i moX6_finding mvX6_finding kX6_52 rfl dX6_peak_13 za_0 (Nat.le_of_ble_eq_true rfl) (zrm (by decide)) (tX6_finding e3) ?_
    refine zs_goto 26 dX6_peak_16 rfl ?_
    obtain ⟨rfl, rfl⟩ := zpi2 h
    exact zs_iret dX6_peak_26 ⟨rfl, rfl⟩
def fX6_quiet (w : zW) (p1 : Int32) : Option (Int32 × zW) := Option.bind (fX6_isKind w p1) fun v2 => (if v2 = 0 then (zb2 (fX6_finding w (-1000000001 : Int32)) fun v8 w9 => some (v8, w9)) else (Option.bind (fX5_layOut w 10 p1) fun w4 => Option.bind (fX5_silentPairs w4) fun v6 => some (v6, w4)))
set_option maxRecDepth 100000 in
theorem tX6_quiet {w : zW} {p1 : Int32}  {r : Int32} {w' : zW} (h : fX6_quiet w p1 = some (r, w')) : zRun yX6_quiet cX6_quiet 2 (some .int) 5 [.ref 0, .int p1] w (zI r w') := by
  refine zRun.of (k := 0) rfl rfl rfl ?_
  show zWP RX6 cX6_quiet (zMB 2 (some .int) 5 (zI r w')) 0 [some (.ref 0), some (.int p1)] [] w
  unfold fX6_quiet at h
  refine zs_iload_n dX6_quiet_0 rfl ?_
  obtain ⟨v2, e1, h⟩ := zbind h
  refine zc_S1i moX6_isKind mvX6_isKind kX6_130 dX6_quiet_1 (Nat.le_of_ble_eq_true rfl) (zrm (by decide)) (tX6_isKind e1) ?_
  refine zs_if_ne 14 dX6_quiet_4 rfl (fun c10 => ?_) (fun c10 => ?_)
  · replace h := zite_f c10 h
    refine zs_aload_n dX6_quiet_14 rfl ?_
    refine gX6_25 dX6_quiet_15 ?_
    refine zs_aload_n dX6_quiet_18 rfl ?_
    refine gX6_10 dX6_quiet_19 ?_
    refine zs_iload_n dX6_quiet_22 rfl ?_
    obtain ⟨w4, e3, h⟩ := zbind h
    refine zc_V2v moX5_layOut mvX5_layOut kX6_146 rfl dX6_quiet_23 za_40 (Nat.le_of_ble_eq_true rfl) (zrm (by decide)) (tX5_layOut zl_10 e3) ?_
    refine zs_aload_n dX6_quiet_26 rfl ?_
    refine gX6_25 dX6_quiet_27 ?_
    obtain ⟨v6, e5, h⟩ := zbind h
    refine zc_V0i moX5_silentPairs mvX5_silentPairs kX6_177 rfl dX6_quiet_30 za_40 (Nat.le_of_ble_eq_true rfl) (zrm (by decide)) (tX5_silentPairs e5) ?_
    obtain ⟨rfl, rfl⟩ := zpi2 h
    exact zs_iret dX6_quiet_33 ⟨rfl, rfl⟩
  · replace h := zite_t c10 h
    refine zs_aload_n dX6_quiet_7 rfl ?_
    refine zs_ldc kX6_51 dX6_quiet_8 ?_
    obtain ⟨v8, w9, e7, h⟩ := zb2_inv h
    refine zc_V1i moX6_finding mvX6_finding kX6_52 rfl dX6_quiet_10 za_0 (Nat.le_of_ble_eq_true rfl) (zrm (by decide)) (tX6_finding e7) ?_
    obtain ⟨rfl, rfl⟩ := zpi2 h
    exact zs_iret dX6_quiet_13 ⟨rfl, rfl⟩
def fX6_reach (w : zW) (p1 : Int32) (p2 : Int32) : Option (Int32 × zW) := Option.bind (fX6_isKind w p1) fun v2 => (if v2 = 0 then (zb2 (fX6_finding w (-1000000001 : Int32)) fun v4 w5 => some (v4, w5)) else (Option.bind (fX0_hasVillage w 10 p2) fun v7 => (if v7 = 0 then (zb2 (fX6_finding w (-1000000001 : Int32)) fun v13 w14 => some (v13, w14)) else (Option.bind (fX5_layOut w 10 p1) fun w9 => Option.bind (fX5_allFrom w9 p2) fun v11 => some (v11, w9)))))
set_option maxRecDepth 100000 in
theorem tX6_reach {w : zW} {p1 : Int32} {p2 : Int32}  {r : Int32} {w' : zW} (h : fX6_reach w p1 p2 = some (r, w')) : zRun yX6_reach cX6_reach 3 (some .int) 5 [.ref 0, .int p1, .int p2] w (zI r w') := by
  refine zRun.of (k := 0) rfl rfl rfl ?_
  show zWP RX6 cX6_reach (zMB 3 (some .int) 5 (zI r w')) 0 [some (.ref 0), some (.int p1), some (.int p2)] [] w
  unfold fX6_reach at h
  refine zs_iload_n dX6_reach_0 rfl ?_
  obtain ⟨v2, e1, h⟩ := zbind h
  refine zc_S1i moX6_isKind mvX6_isKind kX6_130 dX6_reach_1 (Nat.le_of_ble_eq_true rfl) (zrm (by decide)) (tX6_isKind e1) ?_
  refine zs_if_eq 18 dX6_reach_4 rfl (fun c16 => ?_) (fun c16 => ?_)
  · replace h := zite_t c16 h
    refine zs_aload_n dX6_reach_18 rfl ?_
    refine zs_ldc kX6_51 dX6_reach_19 ?_
    obtain ⟨v4, w5, e3, h⟩ := zb2_inv h
    refine zc_V1i moX6_finding mvX6_finding kX6_52 rfl dX6_reach_21 za_0 (Nat.le_of_ble_eq_true rfl) (zrm (by decide)) (tX6_finding e3) ?_
    obtain ⟨rfl, rfl⟩ := zpi2 h
    exact zs_iret dX6_reach_24 ⟨rfl, rfl⟩
  · replace h := zite_f c16 h
    refine zs_aload_n dX6_reach_7 rfl ?_
    refine gX6_10 dX6_reach_8 ?_
    refine zs_iload_n dX6_reach_11 rfl ?_
    obtain ⟨v7, e6, h⟩ := zbind h
    refine zc_V1i moX0_hasVillage mvX0_hasVillage kX6_65 rfl dX6_reach_12 (za_L zl_10) (Nat.le_of_ble_eq_true rfl) (zrm (by decide)) (tX0_hasVillage zl_10 e6) ?_
    refine zs_if_ne 25 dX6_reach_15 rfl (fun c15 => ?_) (fun c15 => ?_)
    · replace h := zite_f c15 h
      refine zs_aload_n dX6_reach_25 rfl ?_
      refine gX6_25 dX6_reach_26 ?_
      refine zs_aload_n dX6_reach_29 rfl ?_
      refine gX6_10 dX6_reach_30 ?_
      refine zs_iload_n dX6_reach_33 rfl ?_
      obtain ⟨w9, e8, h⟩ := zbind h
      refine zc_V2v moX5_layOut mvX5_layOut kX6_146 rfl dX6_reach_34 za_40 (Nat.le_of_ble_eq_true rfl) (zrm (by decide)) (tX5_layOut zl_10 e8) ?_
      refine zs_aload_n dX6_reach_37 rfl ?_
      refine gX6_25 dX6_reach_38 ?_
      refine zs_iload_n dX6_reach_41 rfl ?_
      obtain ⟨v11, e10, h⟩ := zbind h
      refine zc_V1i moX5_allFrom mvX5_allFrom kX6_159 rfl dX6_reach_42 za_40 (Nat.le_of_ble_eq_true rfl) (zrm (by decide)) (tX5_allFrom e10) ?_
      obtain ⟨rfl, rfl⟩ := zpi2 h
      exact zs_iret dX6_reach_45 ⟨rfl, rfl⟩
    · replace h := zite_t c15 h
      refine zs_aload_n dX6_reach_18 rfl ?_
      refine zs_ldc kX6_51 dX6_reach_19 ?_
      obtain ⟨v13, w14, e12, h⟩ := zb2_inv h
      refine zc_V1i moX6_finding mvX6_finding kX6_52 rfl dX6_reach_21 za_0 (Nat.le_of_ble_eq_true rfl) (zrm (by decide)) (tX6_finding e12) ?_
      obtain ⟨rfl, rfl⟩ := zpi2 h
      exact zs_iret dX6_reach_24 ⟨rfl, rfl⟩
def lpX6_read_52 (w : zW) (p2 : Int32) (o2 : Nat) : Nat → Int32 → Int32 → Option ((Int32 × zW) ⊕ Unit)
  | 0, _, _ => none
  | n + 1, x11, x12 => (if (w.1 o2 1) ≤ x12 then (some (.inr ())) else (Option.bind (fX3_number w o2 x12) fun v14 => (if (lg_cmp v14 (0 : Int64)) < 0 then (some (.inl (((1 : Int32) + x12), w))) else ((if (lg_cmp v14 (((w.1 10 0)).toInt64)) < 0 then (Option.bind (some (((v14).toInt32))) fun x15 => (if x12 ≤ 0 then (lpX6_read_52 w p2 o2 n x15 (x12 + 1)) else (Option.bind (fX0_leadsInto w 10 p2 x11 x15) fun v18 => (if v18 = 0 then (some (.inl (((1 : Int32) + x12), w))) else (lpX6_read_52 w p2 o2 n x15 (x12 + 1)))))) else (some (.inl (((1 : Int32) + x12), w))))))))
def fX6_read (w : zW) (p1 : Int32) (p2 : Int32) : Option (Int32 × zW) := zbo (fX6_sheetAt w p1) (zb2 (fX6_finding w (-1000000001 : Int32)) fun v5 w6 => some (v5, w6)) fun o2 => (Option.bind (fX3_isMissing w o2) fun v8 => (if v8 = 0 then (Option.bind (fX6_isKind w p2) fun v10 => (if v10 = 0 then (zb2 (fX6_finding w (-1000000001 : Int32)) fun v27 w28 => some (v27, w28)) else (zbs (lpX6_read_52 w p2 o2 zF (-1 : Int32) (0 : Int32)) fun _ => some ((0 : Int32), w)))) else (zb2 (fX6_finding w (-1000000006 : Int32)) fun v31 w32 => some (v31, w32))))
set_option maxRecDepth 100000 in
theorem tlX6_read_52 {w : zW} {p2 : Int32} {o2 : Nat} (h3 : zIsSheet o2) {Q : Option Value → zW → Prop} : ∀ (n : Nat) (x11 : Int32) (x12 : Int32) (s : ((Int32 × zW) ⊕ Unit)), lpX6_read_52 w p2 o2 n x11 x12 = some s → (∀ a, s = .inl a → Q (some (.int a.1)) a.2) → (∀ (a : Unit), s = .inr a → zWP RX6 cX6_read (zMB 9 (some .int) 4 Q) 135 [none, none, none, none, none, none, none, none, none] [] w) → zWP RX6 cX6_read (zMB 9 (some .int) 4 Q) 52 [some (.ref 0), none, some (.int p2), some (.ref o2), some (.int x11), some (.int x12), none, none, none] [] w := by
  intro n
  induction n with
  | zero => intro x11 x12 s h K1 K; simp [lpX6_read_52] at h
  | succ n ih =>
    intro x11 x12 s h K1 K
    rw [lpX6_read_52] at h
    refine zs_iload dX6_read_52 rfl ?_
    refine zs_aload_n dX6_read_54 rfl ?_
    refine gX6_272 h3 dX6_read_55 ?_
    refine zs_icmp_ge 135 dX6_read_58 rfl (fun c23 => ?_) (fun c23 => ?_)
    · replace h := zite_t c23 h
      refine zs_fo [false, false, false, false, false, false, false, false, false] rfl ?_
      obtain rfl := Option.some.inj h
      exact K () rfl
    · replace h := zite_f c23 h
      refine zs_aload_n dX6_read_61 rfl ?_
      refine zs_iload dX6_read_62 rfl ?_
      obtain ⟨v14, e13, h⟩ := zbind h
      refine zc_V1j moX3_number mvX3_number kX6_282 rfl dX6_read_64 (za_S h3) (Nat.le_of_ble_eq_true rfl) (zrm (by decide)) (tX3_number h3 e13) ?_
      refine zs_lstore [some (.ref 0), none, some (.int p2), some (.ref o2), some (.int x11), some (.int x12), some (.long v14), none, none] dX6_read_67 (Nat.le_of_ble_eq_true rfl) rfl rfl ?_
      refine zs_lload dX6_read_69 rfl ?_
      refine zs_lconst (0 : Int64) dX6_read_71 rfl ?_
      refine zs_lcmp dX6_read_72 ?_
      refine zs_if_lt 90 dX6_read_73 rfl (fun c22 => ?_) (fun c22 => ?_)
      · replace h := zite_t c22 h
        refine zs_iconst (1 : Int32) dX6_read_90 ziconst_1 ?_
        refine zs_iload dX6_read_91 rfl ?_
        refine zs_iadd dX6_read_93 ?_
        obtain rfl := Option.some.inj h
        exact zs_iret dX6_read_94 (K1 (((1 : Int32) + x12), w) rfl)
      · replace h := zite_f c22 h
        refine zs_lload dX6_read_76 rfl ?_
        refine zs_aload_n dX6_read_78 rfl ?_
        refine gX6_10 dX6_read_79 ?_
        refine gX6_119 zl_10 dX6_read_82 ?_
        refine zs_i2l dX6_read_85 ?_
        refine zs_lcmp dX6_read_86 ?_
        refine zs_if_lt 95 dX6_read_87 rfl (fun c21 => ?_) (fun c21 => ?_)
        · replace h := zite_t c21 h
          refine zs_lload dX6_read_95 rfl ?_
          refine zs_l2i dX6_read_97 ?_
          obtain ⟨x15, e16, h⟩ := zbind h
          refine zs_nmi (Option.some.inj e16) ?_
          refine zs_istore [some (.ref 0), none, some (.int p2), some (.ref o2), some (.int x11), some (.int x12), some (.long v14), none, some (.int x15)] dX6_read_98 (Nat.le_of_ble_eq_true rfl) rfl rfl ?_
          refine zs_iload dX6_read_100 rfl ?_
          refine zs_if_le 125 dX6_read_102 rfl (fun c20 => ?_) (fun c20 => ?_)
          · replace h := zite_t c20 h
            refine zs_iload dX6_read_125 rfl ?_
            refine zs_istore [some (.ref 0), none, some (.int p2), some (.ref o2), some (.int x15), some (.int x12), some (.long v14), none, some (.int x15)] dX6_read_127 (Nat.le_of_ble_eq_true rfl) rfl rfl ?_
            refine zs_iinc (x12 + 1) [some (.ref 0), none, some (.int p2), some (.ref o2), some (.int x15), some (.int (x12 + 1)), some (.long v14), none, some (.int x15)] dX6_read_129 rfl rfl (Nat.le_of_ble_eq_true rfl) rfl rfl ?_
            refine zs_goto 52 dX6_read_132 rfl ?_
            refine zs_fo [true, false, true, true, true, true, false, false, false] rfl ?_
            exact ih _ _ _ h K1 K
          · replace h := zite_f c20 h
            refine zs_aload_n dX6_read_105 rfl ?_
            refine gX6_10 dX6_read_106 ?_
            refine zs_iload_n dX6_read_109 rfl ?_
            refine zs_iload dX6_read_110 rfl ?_
            refine zs_iload dX6_read_112 rfl ?_
            obtain ⟨v18, e17, h⟩ := zbind h
            refine zc_V3i moX0_leadsInto mvX0_leadsInto kX6_315 rfl dX6_read_114 (za_L zl_10) (Nat.le_of_ble_eq_true rfl) (zrm (by decide)) (tX0_leadsInto zl_10 e17) ?_
            refine zs_if_ne 125 dX6_read_117 rfl (fun c19 => ?_) (fun c19 => ?_)
            · replace h := zite_f c19 h
              refine zs_iload dX6_read_125 rfl ?_
              refine zs_istore [some (.ref 0), none, some (.int p2), some (.ref o2), some (.int x15), some (.int x12), some (.long v14), none, some (.int x15)] dX6_read_127 (Nat.le_of_ble_eq_true rfl) rfl rfl ?_
              refine zs_iinc (x12 + 1) [some (.ref 0), none, some (.int p2), some (.ref o2), some (.int x15), some (.int (x12 + 1)), some (.long v14), none, some (.int x15)] dX6_read_129 rfl rfl (Nat.le_of_ble_eq_true rfl) rfl rfl ?_
              refine zs_goto 52 dX6_read_132 rfl ?_
              refine zs_fo [true, false, true, true, true, true, false, false, false] rfl ?_
              exact ih _ _ _ h K1 K
            · replace h := zite_t c19 h
              refine zs_iconst (1 : Int32) dX6_read_120 ziconst_1 ?_
              refine zs_iload dX6_read_121 rfl ?_
              refine zs_iadd dX6_read_123 ?_
              obtain rfl := Option.some.inj h
              exact zs_iret dX6_read_124 (K1 (((1 : Int32) + x12), w) rfl)
        · replace h := zite_f c21 h
          refine zs_iconst (1 : Int32) dX6_read_90 ziconst_1 ?_
          refine zs_iload dX6_read_91 rfl ?_
          refine zs_iadd dX6_read_93 ?_
          obtain rfl := Option.some.inj h
          exact zs_iret dX6_read_94 (K1 (((1 : Int32) + x12), w) rfl)
set_option maxRecDepth 100000 in
theorem tX6_read {w : zW} {p1 : Int32} {p2 : Int32}  {r : Int32} {w' : zW} (h : fX6_read w p1 p2 = some (r, w')) : zRun yX6_read cX6_read 9 (some .int) 4 [.ref 0, .int p1, .int p2] w (zI r w') := by
  refine zRun.of (k := 6) rfl rfl rfl ?_
  show zWP RX6 cX6_read (zMB 9 (some .int) 4 (zI r w')) 0 [some (.ref 0), some (.int p1), some (.int p2), none, none, none, none, none, none] [] w
  unfold fX6_read at h
  refine zs_aload_n dX6_read_0 rfl ?_
  refine zs_iload_n dX6_read_1 rfl ?_
  rcases zbo_inv h with ⟨e1, h⟩ | ⟨o2, e1, h⟩
  · refine zc_V1n moX6_sheetAt mvX6_sheetAt kX6_261 rfl dX6_read_2 za_0 (Nat.le_of_ble_eq_true rfl) (zrm (by decide)) (tX6_sheetAt e1) ?_
    refine zs_astore_nN [some (.ref 0), some (.int p1), some (.int p2), some (.null), none, none, none, none, none] dX6_read_5 (Nat.le_of_ble_eq_true rfl) rfl rfl ?_
    refine zs_aload_nN dX6_read_6 rfl ?_
    refine zs_ifnonnullN dX6_read_7 ?_
    refine zs_aload_n dX6_read_10 rfl ?_
    refine zs_ldc kX6_51 dX6_read_11 ?_
    obtain ⟨v5, w6, e4, h⟩ := zb2_inv h
    refine zc_V1i moX6_finding mvX6_finding kX6_52 rfl dX6_read_13 za_0 (Nat.le_of_ble_eq_true rfl) (zrm (by decide)) (tX6_finding e4) ?_
    obtain ⟨rfl, rfl⟩ := zpi2 h
    exact zs_iret dX6_read_16 ⟨rfl, rfl⟩
  · have h3 : zIsSheet o2 := fX6_sheetAt_ok e1
    refine zc_V1r moX6_sheetAt mvX6_sheetAt kX6_261 rfl dX6_read_2 za_0 (Nat.le_of_ble_eq_true rfl) (zrm (by decide)) (tX6_sheetAt e1) ?_
    refine zs_astore_n [some (.ref 0), some (.int p1), some (.int p2), some (.ref o2), none, none, none, none, none] dX6_read_5 (Nat.le_of_ble_eq_true rfl) rfl rfl ?_
    refine zs_aload_n dX6_read_6 rfl ?_
    refine zs_ifnonnull 17 dX6_read_7 rfl ?_
    refine zs_aload_n dX6_read_17 rfl ?_
    obtain ⟨v8, e7, h⟩ := zbind h
    refine zc_V0i moX3_isMissing mvX3_isMissing kX6_275 rfl dX6_read_18 (za_S h3) (Nat.le_of_ble_eq_true rfl) (zrm (by decide)) (tX3_isMissing h3 e7) ?_
    refine zs_if_eq 32 dX6_read_21 rfl (fun c33 => ?_) (fun c33 => ?_)
    · replace h := zite_t c33 h
      refine zs_iload_n dX6_read_32 rfl ?_
      obtain ⟨v10, e9, h⟩ := zbind h
      refine zc_S1i moX6_isKind mvX6_isKind kX6_130 dX6_read_33 (Nat.le_of_ble_eq_true rfl) (zrm (by decide)) (tX6_isKind e9) ?_
      refine zs_if_ne 46 dX6_read_36 rfl (fun c29 => ?_) (fun c29 => ?_)
      · replace h := zite_f c29 h
        refine zs_iconst (-1 : Int32) dX6_read_46 ziconst_m1 ?_
        refine zs_istore [some (.ref 0), some (.int p1), some (.int p2), some (.ref o2), some (.int (-1 : Int32)), none, none, none, none] dX6_read_47 (Nat.le_of_ble_eq_true rfl) rfl rfl ?_
        refine zs_iconst (0 : Int32) dX6_read_49 ziconst_0 ?_
        refine zs_istore [some (.ref 0), some (.int p1), some (.int p2), some (.ref o2), some (.int (-1 : Int32)), some (.int (0 : Int32)), none, none, none] dX6_read_50 (Nat.le_of_ble_eq_true rfl) rfl rfl ?_
        rcases zbs_inv h with e24 | ⟨_, e24, h⟩
        · skip
          refine zs_fo [true, false, true, true, true, true, false, false, false] rfl ?_
          exact tlX6_read_52 h3 zF _ _ _ e24 (fun _ q => by cases q; exact ⟨rfl, rfl⟩) (fun _ q => by cases q)
        · have K25 : zWP RX6 cX6_read (zMB 9 (some .int) 4 (zI r w')) 135 [none, none, none, none, none, none, none, none, none] [] w := by
            refine zs_iconst (0 : Int32) dX6_read_135 ziconst_0 ?_
            obtain ⟨rfl, rfl⟩ := zpi2 h
            exact zs_iret dX6_read_136 ⟨rfl, rfl⟩
          refine zs_fo [true, false, true, true, true, true, false, false, false] rfl ?_
          exact tlX6_read_52 h3 zF _ _ _ e24 (fun _ q => by cases q) (fun _ q => by cases q; exact K25)
      · replace h := zite_t c29 h
        refine zs_aload_n dX6_read_39 rfl ?_
        refine zs_ldc kX6_51 dX6_read_40 ?_
        obtain ⟨v27, w28, e26, h⟩ := zb2_inv h
        refine zc_V1i moX6_finding mvX6_finding kX6_52 rfl dX6_read_42 za_0 (Nat.le_of_ble_eq_true rfl) (zrm (by decide)) (tX6_finding e26) ?_
        obtain ⟨rfl, rfl⟩ := zpi2 h
        exact zs_iret dX6_read_45 ⟨rfl, rfl⟩
    · replace h := zite_f c33 h
      refine zs_aload_n dX6_read_24 rfl ?_
      refine zs_ldc_w kX6_278 dX6_read_25 ?_
      obtain ⟨v31, w32, e30, h⟩ := zb2_inv h
      refine zc_V1i moX6_finding mvX6_finding kX6_52 rfl dX6_read_28 za_0 (Nat.le_of_ble_eq_true rfl) (zrm (by decide)) (tX6_finding e30) ?_
      obtain ⟨rfl, rfl⟩ := zpi2 h
      exact zs_iret dX6_read_31 ⟨rfl, rfl⟩
def fX6_rise (w : zW) (p1 : Int32) (p2 : Int32) (p3 : Int32) : Option (Int32 × zW) := Option.bind (fX6_isKind w p1) fun v2 => (if v2 = 0 then (zb2 (fX6_finding w (-1000000001 : Int32)) fun v4 w5 => some (v4, w5)) else (Option.bind (fX6_areUnlikeVillages w p2 p3) fun v7 => (if v7 = 0 then (zb2 (fX6_finding w (-1000000001 : Int32)) fun v22 w23 => some (v22, w23)) else (Option.bind (fX5_layOut w 10 p1) fun w9 => Option.bind (fX5_comesDown w9 p2 p3) fun v11 => (if v11 = 0 then (Option.bind (fX6_heightToRise w9 p1 p2 p3) fun v13 => (if v13 ≤ (9999 : Int32) then (some (v13, w9)) else (zb2 (fX6_finding w9 (-1000000004 : Int32)) fun v15 w16 => some (v15, w16)))) else (Option.bind (fX0_heightOf w9 10 p2) fun v19 => some (v19, w9)))))))
set_option maxRecDepth 100000 in
theorem tX6_rise {w : zW} {p1 : Int32} {p2 : Int32} {p3 : Int32}  {r : Int32} {w' : zW} (h : fX6_rise w p1 p2 p3 = some (r, w')) : zRun yX6_rise cX6_rise 5 (some .int) 5 [.ref 0, .int p1, .int p2, .int p3] w (zI r w') := by
  refine zRun.of (k := 1) rfl rfl rfl ?_
  show zWP RX6 cX6_rise (zMB 5 (some .int) 5 (zI r w')) 0 [some (.ref 0), some (.int p1), some (.int p2), some (.int p3), none] [] w
  unfold fX6_rise at h
  refine zs_iload_n dX6_rise_0 rfl ?_
  obtain ⟨v2, e1, h⟩ := zbind h
  refine zc_S1i moX6_isKind mvX6_isKind kX6_130 dX6_rise_1 (Nat.le_of_ble_eq_true rfl) (zrm (by decide)) (tX6_isKind e1) ?_
  refine zs_if_eq 16 dX6_rise_4 rfl (fun c25 => ?_) (fun c25 => ?_)
  · replace h := zite_t c25 h
    refine zs_aload_n dX6_rise_16 rfl ?_
    refine zs_ldc kX6_51 dX6_rise_17 ?_
    obtain ⟨v4, w5, e3, h⟩ := zb2_inv h
    refine zc_V1i moX6_finding mvX6_finding kX6_52 rfl dX6_rise_19 za_0 (Nat.le_of_ble_eq_true rfl) (zrm (by decide)) (tX6_finding e3) ?_
    obtain ⟨rfl, rfl⟩ := zpi2 h
    exact zs_iret dX6_rise_22 ⟨rfl, rfl⟩
  · replace h := zite_f c25 h
    refine zs_aload_n dX6_rise_7 rfl ?_
    refine zs_iload_n dX6_rise_8 rfl ?_
    refine zs_iload_n dX6_rise_9 rfl ?_
    obtain ⟨v7, e6, h⟩ := zbind h
    refine zc_V2i moX6_areUnlikeVillages mvX6_areUnlikeVillages kX6_88 rfl dX6_rise_10 za_0 (Nat.le_of_ble_eq_true rfl) (zrm (by decide)) (tX6_areUnlikeVillages e6) ?_
    refine zs_if_ne 23 dX6_rise_13 rfl (fun c24 => ?_) (fun c24 => ?_)
    · replace h := zite_f c24 h
      refine zs_aload_n dX6_rise_23 rfl ?_
      refine gX6_25 dX6_rise_24 ?_
      refine zs_aload_n dX6_rise_27 rfl ?_
      refine gX6_10 dX6_rise_28 ?_
      refine zs_iload_n dX6_rise_31 rfl ?_
      obtain ⟨w9, e8, h⟩ := zbind h
      refine zc_V2v moX5_layOut mvX5_layOut kX6_146 rfl dX6_rise_32 za_40 (Nat.le_of_ble_eq_true rfl) (zrm (by decide)) (tX5_layOut zl_10 e8) ?_
      refine zs_aload_n dX6_rise_35 rfl ?_
      refine gX6_25 dX6_rise_36 ?_
      refine zs_iload_n dX6_rise_39 rfl ?_
      refine zs_iload_n dX6_rise_40 rfl ?_
      obtain ⟨v11, e10, h⟩ := zbind h
      refine zc_V2i moX5_comesDown mvX5_comesDown kX6_181 rfl dX6_rise_41 za_40 (Nat.le_of_ble_eq_true rfl) (zrm (by decide)) (tX5_comesDown e10) ?_
      refine zs_if_eq 56 dX6_rise_44 rfl (fun c20 => ?_) (fun c20 => ?_)
      · replace h := zite_t c20 h
        refine zs_aload_n dX6_rise_56 rfl ?_
        refine zs_iload_n dX6_rise_57 rfl ?_
        refine zs_iload_n dX6_rise_58 rfl ?_
        refine zs_iload_n dX6_rise_59 rfl ?_
        obtain ⟨v13, e12, h⟩ := zbind h
        refine zc_V3i moX6_heightToRise mvX6_heightToRise kX6_184 rfl dX6_rise_60 za_0 (Nat.le_of_ble_eq_true rfl) (zrm (by decide)) (tX6_heightToRise e12) ?_
        refine zs_istore [some (.ref 0), some (.int p1), some (.int p2), some (.int p3), some (.int v13)] dX6_rise_63 (Nat.le_of_ble_eq_true rfl) rfl rfl ?_
        refine zs_iload dX6_rise_65 rfl ?_
        refine zs_sipush (9999 : Int32) dX6_rise_67 zsipush_9999 ?_
        refine zs_icmp_le 82 dX6_rise_70 rfl (fun c17 => ?_) (fun c17 => ?_)
        · replace h := zite_t c17 h
          refine zs_iload dX6_rise_82 rfl ?_
          obtain ⟨rfl, rfl⟩ := zpi2 h
          exact zs_iret dX6_rise_84 ⟨rfl, rfl⟩
        · replace h := zite_f c17 h
          refine zs_aload_n dX6_rise_73 rfl ?_
          refine zs_ldc kX6_122 dX6_rise_74 ?_
          obtain ⟨v15, w16, e14, h⟩ := zb2_inv h
          refine zc_V1i moX6_finding mvX6_finding kX6_52 rfl dX6_rise_76 za_0 (Nat.le_of_ble_eq_true rfl) (zrm (by decide)) (tX6_finding e14) ?_
          refine zs_goto 84 dX6_rise_79 rfl ?_
          obtain ⟨rfl, rfl⟩ := zpi2 h
          exact zs_iret dX6_rise_84 ⟨rfl, rfl⟩
      · replace h := zite_f c20 h
        refine zs_aload_n dX6_rise_47 rfl ?_
        refine gX6_10 dX6_rise_48 ?_
        refine zs_iload_n dX6_rise_51 rfl ?_
        obtain ⟨v19, e18, h⟩ := zbind h
        refine zc_V1i moX0_heightOf mvX0_heightOf kX6_68 rfl dX6_rise_52 (za_L zl_10) (Nat.le_of_ble_eq_true rfl) (zrm (by decide)) (tX0_heightOf zl_10 e18) ?_
        obtain ⟨rfl, rfl⟩ := zpi2 h
        exact zs_iret dX6_rise_55 ⟨rfl, rfl⟩
    · replace h := zite_t c24 h
      refine zs_aload_n dX6_rise_16 rfl ?_
      refine zs_ldc kX6_51 dX6_rise_17 ?_
      obtain ⟨v22, w23, e21, h⟩ := zb2_inv h
      refine zc_V1i moX6_finding mvX6_finding kX6_52 rfl dX6_rise_19 za_0 (Nat.le_of_ble_eq_true rfl) (zrm (by decide)) (tX6_finding e21) ?_
      obtain ⟨rfl, rfl⟩ := zpi2 h
      exact zs_iret dX6_rise_22 ⟨rfl, rfl⟩
def fX6_road (w : zW) (p1 : Int32) (p2 : Int32) (p3 : Int32) : Option (Int32 × zW) := Option.bind (fX6_areUnlikeVillages w p1 p2) fun v2 => (if v2 = 0 then (zb2 (fX6_finding w (-1000000001 : Int32)) fun v4 w5 => some (v4, w5)) else ((if p3 < (1 : Int32) then (zb2 (fX6_finding w (-1000000001 : Int32)) fun v7 w8 => some (v7, w8)) else ((if p3 ≤ (9 : Int32) then (Option.bind (fX0_areJoined w 10 p1 p2) fun v10 => (if v10 = 0 then (Option.bind (fX0_roadsFull w 10) fun v12 => (if v12 = 0 then (zb2 (fX0_addRoad w 10 p1 p2 p3) fun v14 w15 => some (v14, w15)) else (zb2 (fX6_finding w (-1000000002 : Int32)) fun v17 w18 => some (v17, w18)))) else (zb2 (fX6_finding w (-1000000005 : Int32)) fun v21 w22 => some (v21, w22)))) else (zb2 (fX6_finding w (-1000000001 : Int32)) fun v25 w26 => some (v25, w26)))))))
set_option maxRecDepth 100000 in
theorem tX6_road {w : zW} {p1 : Int32} {p2 : Int32} {p3 : Int32}  {r : Int32} {w' : zW} (h : fX6_road w p1 p2 p3 = some (r, w')) : zRun yX6_road cX6_road 4 (some .int) 3 [.ref 0, .int p1, .int p2, .int p3] w (zI r w') := by
  refine zRun.of (k := 0) rfl rfl rfl ?_
  show zWP RX6 cX6_road (zMB 4 (some .int) 3 (zI r w')) 0 [some (.ref 0), some (.int p1), some (.int p2), some (.int p3)] [] w
  unfold fX6_road at h
  refine zs_aload_n dX6_road_0 rfl ?_
  refine zs_iload_n dX6_road_1 rfl ?_
  refine zs_iload_n dX6_road_2 rfl ?_
  obtain ⟨v2, e1, h⟩ := zbind h
  refine zc_V2i moX6_areUnlikeVillages mvX6_areUnlikeVillages kX6_88 rfl dX6_road_3 za_0 (Nat.le_of_ble_eq_true rfl) (zrm (by decide)) (tX6_areUnlikeVillages e1) ?_
  refine zs_if_eq 20 dX6_road_6 rfl (fun c29 => ?_) (fun c29 => ?_)
  · replace h := zite_t c29 h
    refine zs_aload_n dX6_road_20 rfl ?_
    refine zs_ldc kX6_51 dX6_road_21 ?_
    obtain ⟨v4, w5, e3, h⟩ := zb2_inv h
    refine zc_V1i moX6_finding mvX6_finding kX6_52 rfl dX6_road_23 za_0 (Nat.le_of_ble_eq_true rfl) (zrm (by decide)) (tX6_finding e3) ?_
    obtain ⟨rfl, rfl⟩ := zpi2 h
    exact zs_iret dX6_road_26 ⟨rfl, rfl⟩
  · replace h := zite_f c29 h
    refine zs_iload_n dX6_road_9 rfl ?_
    refine zs_iconst (1 : Int32) dX6_road_10 ziconst_1 ?_
    refine zs_icmp_lt 20 dX6_road_11 rfl (fun c28 => ?_) (fun c28 => ?_)
    · replace h := zite_t c28 h
      refine zs_aload_n dX6_road_20 rfl ?_
      refine zs_ldc kX6_51 dX6_road_21 ?_
      obtain ⟨v7, w8, e6, h⟩ := zb2_inv h
      refine zc_V1i moX6_finding mvX6_finding kX6_52 rfl dX6_road_23 za_0 (Nat.le_of_ble_eq_true rfl) (zrm (by decide)) (tX6_finding e6) ?_
      obtain ⟨rfl, rfl⟩ := zpi2 h
      exact zs_iret dX6_road_26 ⟨rfl, rfl⟩
    · replace h := zite_f c28 h
      refine zs_iload_n dX6_road_14 rfl ?_
      refine zs_bipush (9 : Int32) dX6_road_15 zbipush_9 ?_
      refine zs_icmp_le 27 dX6_road_17 rfl (fun c27 => ?_) (fun c27 => ?_)
      · replace h := zite_t c27 h
        refine zs_aload_n dX6_road_27 rfl ?_
        refine gX6_10 dX6_road_28 ?_
        refine zs_iload_n dX6_road_31 rfl ?_
        refine zs_iload_n dX6_road_32 rfl ?_
        obtain ⟨v10, e9, h⟩ := zbind h
        refine zc_V2i moX0_areJoined mvX0_areJoined kX6_92 rfl dX6_road_33 (za_L zl_10) (Nat.le_of_ble_eq_true rfl) (zrm (by decide)) (tX0_areJoined zl_10 e9) ?_
        refine zs_if_eq 46 dX6_road_36 rfl (fun c23 => ?_) (fun c23 => ?_)
        · replace h := zite_t c23 h
          refine zs_aload_n dX6_road_46 rfl ?_
          refine gX6_10 dX6_road_47 ?_
          obtain ⟨v12, e11, h⟩ := zbind h
          refine zc_V0i moX0_roadsFull mvX0_roadsFull kX6_96 rfl dX6_road_50 (za_L zl_10) (Nat.le_of_ble_eq_true rfl) (zrm (by decide)) (tX0_roadsFull zl_10 e11) ?_
          refine zs_if_eq 63 dX6_road_53 rfl (fun c19 => ?_) (fun c19 => ?_)
          · replace h := zite_t c19 h
            refine zs_aload_n dX6_road_63 rfl ?_
            refine gX6_10 dX6_road_64 ?_
            refine zs_iload_n dX6_road_67 rfl ?_
            refine zs_iload_n dX6_road_68 rfl ?_
            refine zs_iload_n dX6_road_69 rfl ?_
            obtain ⟨v14, w15, e13, h⟩ := zb2_inv h
            refine zc_V3i moX0_addRoad mvX0_addRoad kX6_99 rfl dX6_road_70 (za_L zl_10) (Nat.le_of_ble_eq_true rfl) (zrm (by decide)) (tX0_addRoad zl_10 e13) ?_
            obtain ⟨rfl, rfl⟩ := zpi2 h
            exact zs_iret dX6_road_73 ⟨rfl, rfl⟩
          · replace h := zite_f c19 h
            refine zs_aload_n dX6_road_56 rfl ?_
            refine zs_ldc kX6_60 dX6_road_57 ?_
            obtain ⟨v17, w18, e16, h⟩ := zb2_inv h
            refine zc_V1i moX6_finding mvX6_finding kX6_52 rfl dX6_road_59 za_0 (Nat.le_of_ble_eq_true rfl) (zrm (by decide)) (tX6_finding e16) ?_
            obtain ⟨rfl, rfl⟩ := zpi2 h
            exact zs_iret dX6_road_62 ⟨rfl, rfl⟩
        · replace h := zite_f c23 h
          refine zs_aload_n dX6_road_39 rfl ?_
          refine zs_ldc kX6_95 dX6_road_40 ?_
          obtain ⟨v21, w22, e20, h⟩ := zb2_inv h
          refine zc_V1i moX6_finding mvX6_finding kX6_52 rfl dX6_road_42 za_0 (Nat.le_of_ble_eq_true rfl) (zrm (by decide)) (tX6_finding e20) ?_
          obtain ⟨rfl, rfl⟩ := zpi2 h
          exact zs_iret dX6_road_45 ⟨rfl, rfl⟩
      · replace h := zite_f c27 h
        refine zs_aload_n dX6_road_20 rfl ?_
        refine zs_ldc kX6_51 dX6_road_21 ?_
        obtain ⟨v25, w26, e24, h⟩ := zb2_inv h
        refine zc_V1i moX6_finding mvX6_finding kX6_52 rfl dX6_road_23 za_0 (Nat.le_of_ble_eq_true rfl) (zrm (by decide)) (tX6_finding e24) ?_
        obtain ⟨rfl, rfl⟩ := zpi2 h
        exact zs_iret dX6_road_26 ⟨rfl, rfl⟩
def fX6_roadOf (w : zW) (p1 : Int32) (p2 : Int32) : Option (Int32 × zW) := Option.bind (fX0_hasRoad w 10 p1) fun v2 => (if v2 = 0 then (zb2 (fX6_finding w (-1000000001 : Int32)) fun v16 w17 => some (v16, w17)) else ((if p2 = 0 then (Option.bind (zrd w (10 + 2) 24 p1) fun v6 => some (v6, w)) else (if p2 = 1 then (Option.bind (zrd w (10 + 3) 24 p1) fun v8 => some (v8, w)) else (if p2 = 2 then (Option.bind (zrd w (10 + 4) 24 p1) fun v10 => some (v10, w)) else (zb2 (fX6_finding w (-1000000001 : Int32)) fun v13 w14 => some (v13, w14)))))))
set_option maxRecDepth 100000 in
theorem tX6_roadOf {w : zW} {p1 : Int32} {p2 : Int32}  {r : Int32} {w' : zW} (h : fX6_roadOf w p1 p2 = some (r, w')) : zRun yX6_roadOf cX6_roadOf 3 (some .int) 1 [.ref 0, .int p1, .int p2] w (zI r w') := by
  refine zRun.of (k := 0) rfl rfl rfl ?_
  show zWP RX6 cX6_roadOf (zMB 3 (some .int) 1 (zI r w')) 0 [some (.ref 0), some (.int p1), some (.int p2)] [] w
  unfold fX6_roadOf at h
  refine zs_aload_n dX6_roadOf_0 rfl ?_
  refine gX6_10 dX6_roadOf_1 ?_
  refine zs_iload_n dX6_roadOf_4 rfl ?_
  obtain ⟨v2, e1, h⟩ := zbind h
  refine zc_V1i moX0_hasRoad mvX0_hasRoad kX6_103 rfl dX6_roadOf_5 (za_L zl_10) (Nat.le_of_ble_eq_true rfl) (zrm (by decide)) (tX0_hasRoad zl_10 e1) ?_
  refine zs_if_ne 18 dX6_roadOf_8 rfl (fun c18 => ?_) (fun c18 => ?_)
  · replace h := zite_f c18 h
    refine zs_iload_n dX6_roadOf_18 rfl ?_
    by_cases c3 : p2 = 0
    · replace h := zite_t c3 h
      refine zs_tswIn (0 : Int32) 44 dX6_roadOf_19 c3 (by decide) (by decide) rfl rfl ?_
      refine zs_aload_n dX6_roadOf_44 rfl ?_
      refine gX6_10 dX6_roadOf_45 ?_
      refine gX6_106 zl_10 dX6_roadOf_48 ?_
      refine zs_iload_n dX6_roadOf_51 rfl ?_
      obtain ⟨v6, e7, h⟩ := zbind h
      refine zs_iald dX6_roadOf_52 (za_L2 zl_10) e7 ?_
      obtain ⟨rfl, rfl⟩ := zpi2 h
      exact zs_iret dX6_roadOf_53 ⟨rfl, rfl⟩
    · replace h := zite_f c3 h
      by_cases c4 : p2 = 1
      · replace h := zite_t c4 h
        refine zs_tswIn (1 : Int32) 54 dX6_roadOf_19 c4 (by decide) (by decide) rfl rfl ?_
        refine zs_aload_n dX6_roadOf_54 rfl ?_
        refine gX6_10 dX6_roadOf_55 ?_
        refine gX6_109 zl_10 dX6_roadOf_58 ?_
        refine zs_iload_n dX6_roadOf_61 rfl ?_
        obtain ⟨v8, e9, h⟩ := zbind h
        refine zs_iald dX6_roadOf_62 (za_L3 zl_10) e9 ?_
        obtain ⟨rfl, rfl⟩ := zpi2 h
        exact zs_iret dX6_roadOf_63 ⟨rfl, rfl⟩
      · replace h := zite_f c4 h
        by_cases c5 : p2 = 2
        · replace h := zite_t c5 h
          refine zs_tswIn (2 : Int32) 64 dX6_roadOf_19 c5 (by decide) (by decide) rfl rfl ?_
          refine zs_aload_n dX6_roadOf_64 rfl ?_
          refine gX6_10 dX6_roadOf_65 ?_
          refine gX6_112 zl_10 dX6_roadOf_68 ?_
          refine zs_iload_n dX6_roadOf_71 rfl ?_
          obtain ⟨v10, e11, h⟩ := zbind h
          refine zs_iald dX6_roadOf_72 (za_L4 zl_10) e11 ?_
          obtain ⟨rfl, rfl⟩ := zpi2 h
          exact zs_iret dX6_roadOf_73 ⟨rfl, rfl⟩
        · replace h := zite_f c5 h
          refine zs_tswOut 74 dX6_roadOf_19 (by have q := zout (x := p2) (n := 3) (lo := 0) (fun i hi => by match i, hi with | 0, _ => exact c3 | 1, _ => exact c4 | 2, _ => exact c5); omega) rfl ?_
          refine zs_aload_n dX6_roadOf_74 rfl ?_
          refine zs_ldc kX6_51 dX6_roadOf_75 ?_
          obtain ⟨v13, w14, e12, h⟩ := zb2_inv h
          refine zc_V1i moX6_finding mvX6_finding kX6_52 rfl dX6_roadOf_77 za_0 (Nat.le_of_ble_eq_true rfl) (zrm (by decide)) (tX6_finding e12) ?_
          obtain ⟨rfl, rfl⟩ := zpi2 h
          exact zs_iret dX6_roadOf_80 ⟨rfl, rfl⟩
  · replace h := zite_t c18 h
    refine zs_aload_n dX6_roadOf_11 rfl ?_
    refine zs_ldc kX6_51 dX6_roadOf_12 ?_
    obtain ⟨v16, w17, e15, h⟩ := zb2_inv h
    refine zc_V1i moX6_finding mvX6_finding kX6_52 rfl dX6_roadOf_14 za_0 (Nat.le_of_ble_eq_true rfl) (zrm (by decide)) (tX6_finding e15) ?_
    obtain ⟨rfl, rfl⟩ := zpi2 h
    exact zs_iret dX6_roadOf_17 ⟨rfl, rfl⟩
def fX6_round (w : zW) (p1 : Int32) (p2 : Int32) (p3 : Int32) : Option (Int32 × zW) := Option.bind (fX6_isKind w p1) fun v2 => (if v2 = 0 then (zb2 (fX6_finding w (-1000000001 : Int32)) fun v4 w5 => some (v4, w5)) else (Option.bind (fX6_areVillages w p2 p3) fun v7 => (if v7 = 0 then (zb2 (fX6_finding w (-1000000001 : Int32)) fun v16 w17 => some (v16, w17)) else (Option.bind (fX5_layOut w 10 p1) fun w9 => Option.bind (fX5_answered w9 p2 p3 (w9.1 10 8)) fun v11 => zb2 (fX6_daysUntil w9 v11) fun v13 w14 => some (v13, w14)))))
set_option maxRecDepth 100000 in
theorem tX6_round {w : zW} {p1 : Int32} {p2 : Int32} {p3 : Int32}  {r : Int32} {w' : zW} (h : fX6_round w p1 p2 p3 = some (r, w')) : zRun yX6_round cX6_round 4 (some .int) 5 [.ref 0, .int p1, .int p2, .int p3] w (zI r w') := by
  refine zRun.of (k := 0) rfl rfl rfl ?_
  show zWP RX6 cX6_round (zMB 4 (some .int) 5 (zI r w')) 0 [some (.ref 0), some (.int p1), some (.int p2), some (.int p3)] [] w
  unfold fX6_round at h
  refine zs_iload_n dX6_round_0 rfl ?_
  obtain ⟨v2, e1, h⟩ := zbind h
  refine zc_S1i moX6_isKind mvX6_isKind kX6_130 dX6_round_1 (Nat.le_of_ble_eq_true rfl) (zrm (by decide)) (tX6_isKind e1) ?_
  refine zs_if_eq 16 dX6_round_4 rfl (fun c19 => ?_) (fun c19 => ?_)
  · replace h := zite_t c19 h
    refine zs_aload_n dX6_round_16 rfl ?_
    refine zs_ldc kX6_51 dX6_round_17 ?_
    obtain ⟨v4, w5, e3, h⟩ := zb2_inv h
    refine zc_V1i moX6_finding mvX6_finding kX6_52 rfl dX6_round_19 za_0 (Nat.le_of_ble_eq_true rfl) (zrm (by decide)) (tX6_finding e3) ?_
    obtain ⟨rfl, rfl⟩ := zpi2 h
    exact zs_iret dX6_round_22 ⟨rfl, rfl⟩
  · replace h := zite_f c19 h
    refine zs_aload_n dX6_round_7 rfl ?_
    refine zs_iload_n dX6_round_8 rfl ?_
    refine zs_iload_n dX6_round_9 rfl ?_
    obtain ⟨v7, e6, h⟩ := zbind h
    refine zc_V2i moX6_areVillages mvX6_areVillages kX6_143 rfl dX6_round_10 za_0 (Nat.le_of_ble_eq_true rfl) (zrm (by decide)) (tX6_areVillages e6) ?_
    refine zs_if_ne 23 dX6_round_13 rfl (fun c18 => ?_) (fun c18 => ?_)
    · replace h := zite_f c18 h
      refine zs_aload_n dX6_round_23 rfl ?_
      refine gX6_25 dX6_round_24 ?_
      refine zs_aload_n dX6_round_27 rfl ?_
      refine gX6_10 dX6_round_28 ?_
      refine zs_iload_n dX6_round_31 rfl ?_
      obtain ⟨w9, e8, h⟩ := zbind h
      refine zc_V2v moX5_layOut mvX5_layOut kX6_146 rfl dX6_round_32 za_40 (Nat.le_of_ble_eq_true rfl) (zrm (by decide)) (tX5_layOut zl_10 e8) ?_
      refine zs_aload_n dX6_round_35 rfl ?_
      refine zs_aload_n dX6_round_36 rfl ?_
      refine gX6_25 dX6_round_37 ?_
      refine zs_iload_n dX6_round_40 rfl ?_
      refine zs_iload_n dX6_round_41 rfl ?_
      refine zs_aload_n dX6_round_42 rfl ?_
      refine gX6_10 dX6_round_43 ?_
      refine gX6_150 zl_10 dX6_round_46 ?_
      obtain ⟨v11, e10, h⟩ := zbind h
      refine zc_V3i moX5_answered mvX5_answered kX6_168 rfl dX6_round_49 za_40 (Nat.le_of_ble_eq_true rfl) (zrm (by decide)) (tX5_answered e10) ?_
      obtain ⟨v13, w14, e12, h⟩ := zb2_inv h
      refine zc_V1i moX6_daysUntil mvX6_daysUntil kX6_156 rfl dX6_round_52 za_0 (Nat.le_of_ble_eq_true rfl) (zrm (by decide)) (tX6_daysUntil e12) ?_
      obtain ⟨rfl, rfl⟩ := zpi2 h
      exact zs_iret dX6_round_55 ⟨rfl, rfl⟩
    · replace h := zite_t c18 h
      refine zs_aload_n dX6_round_16 rfl ?_
      refine zs_ldc kX6_51 dX6_round_17 ?_
      obtain ⟨v16, w17, e15, h⟩ := zb2_inv h
      refine zc_V1i moX6_finding mvX6_finding kX6_52 rfl dX6_round_19 za_0 (Nat.le_of_ble_eq_true rfl) (zrm (by decide)) (tX6_finding e15) ?_
      obtain ⟨rfl, rfl⟩ := zpi2 h
      exact zs_iret dX6_round_22 ⟨rfl, rfl⟩
def fX6_sea (w : zW)  : Option (Int32 × zW) := (if (w.1 10 0) = 0 then (zb2 (fX6_finding w (-1000000004 : Int32)) fun v4 w5 => some (v4, w5)) else (Option.bind (fX0_lowest w 10) fun v2 => some (v2, w)))
set_option maxRecDepth 100000 in
theorem tX6_sea {w : zW}   {r : Int32} {w' : zW} (h : fX6_sea w  = some (r, w')) : zRun yX6_sea cX6_sea 1 (some .int) 1 [.ref 0] w (zI r w') := by
  refine zRun.of (k := 0) rfl rfl rfl ?_
  show zWP RX6 cX6_sea (zMB 1 (some .int) 1 (zI r w')) 0 [some (.ref 0)] [] w
  unfold fX6_sea at h
  refine zs_aload_n dX6_sea_0 rfl ?_
  refine gX6_10 dX6_sea_1 ?_
  refine gX6_119 zl_10 dX6_sea_4 ?_
  refine zs_if_ne 19 dX6_sea_7 rfl (fun c6 => ?_) (fun c6 => ?_)
  · replace h := zite_f c6 h
    refine zs_aload_n dX6_sea_19 rfl ?_
    refine gX6_10 dX6_sea_20 ?_
    obtain ⟨v2, e1, h⟩ := zbind h
    refine zc_V0i moX0_lowest mvX0_lowest kX6_123 rfl dX6_sea_23 (za_L zl_10) (Nat.le_of_ble_eq_true rfl) (zrm (by decide)) (tX0_lowest zl_10 e1) ?_
    obtain ⟨rfl, rfl⟩ := zpi2 h
    exact zs_iret dX6_sea_26 ⟨rfl, rfl⟩
  · replace h := zite_t c6 h
    refine zs_aload_n dX6_sea_10 rfl ?_
    refine zs_ldc kX6_122 dX6_sea_11 ?_
    obtain ⟨v4, w5, e3, h⟩ := zb2_inv h
    refine zc_V1i moX6_finding mvX6_finding kX6_52 rfl dX6_sea_13 za_0 (Nat.le_of_ble_eq_true rfl) (zrm (by decide)) (tX6_finding e3) ?_
    refine zs_goto 26 dX6_sea_16 rfl ?_
    obtain ⟨rfl, rfl⟩ := zpi2 h
    exact zs_iret dX6_sea_26 ⟨rfl, rfl⟩
def fX6_send (w : zW) (p1 : Int32) (p2 : Int32) (p3 : Int32) : Option (Int32 × zW) := Option.bind (fX6_isKind w p1) fun v2 => (if v2 = 0 then (zb2 (fX6_finding w (-1000000001 : Int32)) fun v4 w5 => some (v4, w5)) else (Option.bind (fX6_areVillages w p2 p3) fun v7 => (if v7 = 0 then (zb2 (fX6_finding w (-1000000001 : Int32)) fun v18 w19 => some (v18, w19)) else (Option.bind (fX0_lettersFull w 10) fun v9 => (if v9 = 0 then (zb2 (fX0_addLetter w 10 p1 p2 p3) fun v11 w12 => some (v11, w12)) else (zb2 (fX6_finding w (-1000000002 : Int32)) fun v14 w15 => some (v14, w15)))))))
set_option maxRecDepth 100000 in
theorem tX6_send {w : zW} {p1 : Int32} {p2 : Int32} {p3 : Int32}  {r : Int32} {w' : zW} (h : fX6_send w p1 p2 p3 = some (r, w')) : zRun yX6_send cX6_send 4 (some .int) 2 [.ref 0, .int p1, .int p2, .int p3] w (zI r w') := by
  refine zRun.of (k := 0) rfl rfl rfl ?_
  show zWP RX6 cX6_send (zMB 4 (some .int) 2 (zI r w')) 0 [some (.ref 0), some (.int p1), some (.int p2), some (.int p3)] [] w
  unfold fX6_send at h
  refine zs_iload_n dX6_send_0 rfl ?_
  obtain ⟨v2, e1, h⟩ := zbind h
  refine zc_S1i moX6_isKind mvX6_isKind kX6_130 dX6_send_1 (Nat.le_of_ble_eq_true rfl) (zrm (by decide)) (tX6_isKind e1) ?_
  refine zs_if_eq 16 dX6_send_4 rfl (fun c21 => ?_) (fun c21 => ?_)
  · replace h := zite_t c21 h
    refine zs_aload_n dX6_send_16 rfl ?_
    refine zs_ldc kX6_51 dX6_send_17 ?_
    obtain ⟨v4, w5, e3, h⟩ := zb2_inv h
    refine zc_V1i moX6_finding mvX6_finding kX6_52 rfl dX6_send_19 za_0 (Nat.le_of_ble_eq_true rfl) (zrm (by decide)) (tX6_finding e3) ?_
    obtain ⟨rfl, rfl⟩ := zpi2 h
    exact zs_iret dX6_send_22 ⟨rfl, rfl⟩
  · replace h := zite_f c21 h
    refine zs_aload_n dX6_send_7 rfl ?_
    refine zs_iload_n dX6_send_8 rfl ?_
    refine zs_iload_n dX6_send_9 rfl ?_
    obtain ⟨v7, e6, h⟩ := zbind h
    refine zc_V2i moX6_areVillages mvX6_areVillages kX6_143 rfl dX6_send_10 za_0 (Nat.le_of_ble_eq_true rfl) (zrm (by decide)) (tX6_areVillages e6) ?_
    refine zs_if_ne 23 dX6_send_13 rfl (fun c20 => ?_) (fun c20 => ?_)
    · replace h := zite_f c20 h
      refine zs_aload_n dX6_send_23 rfl ?_
      refine gX6_10 dX6_send_24 ?_
      obtain ⟨v9, e8, h⟩ := zbind h
      refine zc_V0i moX0_lettersFull mvX0_lettersFull kX6_190 rfl dX6_send_27 (za_L zl_10) (Nat.le_of_ble_eq_true rfl) (zrm (by decide)) (tX0_lettersFull zl_10 e8) ?_
      refine zs_if_eq 40 dX6_send_30 rfl (fun c16 => ?_) (fun c16 => ?_)
      · replace h := zite_t c16 h
        refine zs_aload_n dX6_send_40 rfl ?_
        refine gX6_10 dX6_send_41 ?_
        refine zs_iload_n dX6_send_44 rfl ?_
        refine zs_iload_n dX6_send_45 rfl ?_
        refine zs_iload_n dX6_send_46 rfl ?_
        obtain ⟨v11, w12, e10, h⟩ := zb2_inv h
        refine zc_V3i moX0_addLetter mvX0_addLetter kX6_193 rfl dX6_send_47 (za_L zl_10) (Nat.le_of_ble_eq_true rfl) (zrm (by decide)) (tX0_addLetter zl_10 e10) ?_
        obtain ⟨rfl, rfl⟩ := zpi2 h
        exact zs_iret dX6_send_50 ⟨rfl, rfl⟩
      · replace h := zite_f c16 h
        refine zs_aload_n dX6_send_33 rfl ?_
        refine zs_ldc kX6_60 dX6_send_34 ?_
        obtain ⟨v14, w15, e13, h⟩ := zb2_inv h
        refine zc_V1i moX6_finding mvX6_finding kX6_52 rfl dX6_send_36 za_0 (Nat.le_of_ble_eq_true rfl) (zrm (by decide)) (tX6_finding e13) ?_
        obtain ⟨rfl, rfl⟩ := zpi2 h
        exact zs_iret dX6_send_39 ⟨rfl, rfl⟩
    · replace h := zite_t c20 h
      refine zs_aload_n dX6_send_16 rfl ?_
      refine zs_ldc kX6_51 dX6_send_17 ?_
      obtain ⟨v18, w19, e17, h⟩ := zb2_inv h
      refine zc_V1i moX6_finding mvX6_finding kX6_52 rfl dX6_send_19 za_0 (Nat.le_of_ble_eq_true rfl) (zrm (by decide)) (tX6_finding e17) ?_
      obtain ⟨rfl, rfl⟩ := zpi2 h
      exact zs_iret dX6_send_22 ⟨rfl, rfl⟩
def fX6_sheet (w : zW) (p1 : Int32) (p2 : Int32) (p3 : Int32) : Option (Int32 × zW) := zbo (fX6_sheetAt w p1) (zb2 (fX6_finding w (-1000000001 : Int32)) fun v5 w6 => some (v5, w6)) fun o2 => (Option.bind (fX3_isWidth w p2) fun v8 => (if v8 = 0 then (zb2 (fX6_finding w (-1000000001 : Int32)) fun v20 w21 => some (v20, w21)) else ((if 0 ≤ p3 then ((if p3 ≤ (40 : Int32) then (Option.bind (fX3_renew w o2 p2 p3) fun w10 => some ((w10.1 o2 1), w10)) else (zb2 (fX6_finding w (-1000000001 : Int32)) fun v12 w13 => some (v12, w13)))) else (zb2 (fX6_finding w (-1000000007 : Int32)) fun v16 w17 => some (v16, w17))))))
set_option maxRecDepth 100000 in
theorem tX6_sheet {w : zW} {p1 : Int32} {p2 : Int32} {p3 : Int32}  {r : Int32} {w' : zW} (h : fX6_sheet w p1 p2 p3 = some (r, w')) : zRun yX6_sheet cX6_sheet 5 (some .int) 2 [.ref 0, .int p1, .int p2, .int p3] w (zI r w') := by
  refine zRun.of (k := 1) rfl rfl rfl ?_
  show zWP RX6 cX6_sheet (zMB 5 (some .int) 2 (zI r w')) 0 [some (.ref 0), some (.int p1), some (.int p2), some (.int p3), none] [] w
  unfold fX6_sheet at h
  refine zs_aload_n dX6_sheet_0 rfl ?_
  refine zs_iload_n dX6_sheet_1 rfl ?_
  rcases zbo_inv h with ⟨e1, h⟩ | ⟨o2, e1, h⟩
  · refine zc_V1n moX6_sheetAt mvX6_sheetAt kX6_261 rfl dX6_sheet_2 za_0 (Nat.le_of_ble_eq_true rfl) (zrm (by decide)) (tX6_sheetAt e1) ?_
    refine zs_astoreN [some (.ref 0), some (.int p1), some (.int p2), some (.int p3), some (.null)] dX6_sheet_5 (Nat.le_of_ble_eq_true rfl) rfl rfl ?_
    refine zs_aloadN dX6_sheet_7 rfl ?_
    refine zs_ifnullN 19 dX6_sheet_9 rfl ?_
    refine zs_aload_n dX6_sheet_19 rfl ?_
    refine zs_ldc kX6_51 dX6_sheet_20 ?_
    obtain ⟨v5, w6, e4, h⟩ := zb2_inv h
    refine zc_V1i moX6_finding mvX6_finding kX6_52 rfl dX6_sheet_22 za_0 (Nat.le_of_ble_eq_true rfl) (zrm (by decide)) (tX6_finding e4) ?_
    obtain ⟨rfl, rfl⟩ := zpi2 h
    exact zs_iret dX6_sheet_25 ⟨rfl, rfl⟩
  · have h3 : zIsSheet o2 := fX6_sheetAt_ok e1
    refine zc_V1r moX6_sheetAt mvX6_sheetAt kX6_261 rfl dX6_sheet_2 za_0 (Nat.le_of_ble_eq_true rfl) (zrm (by decide)) (tX6_sheetAt e1) ?_
    refine zs_astore [some (.ref 0), some (.int p1), some (.int p2), some (.int p3), some (.ref o2)] dX6_sheet_5 (Nat.le_of_ble_eq_true rfl) rfl rfl ?_
    refine zs_aload dX6_sheet_7 rfl ?_
    refine zs_ifnull dX6_sheet_9 ?_
    refine zs_iload_n dX6_sheet_12 rfl ?_
    obtain ⟨v8, e7, h⟩ := zbind h
    refine zc_S1i moX3_isWidth mvX3_isWidth kX6_265 dX6_sheet_13 (Nat.le_of_ble_eq_true rfl) (zrm (by decide)) (tX3_isWidth e7) ?_
    refine zs_if_ne 26 dX6_sheet_16 rfl (fun c22 => ?_) (fun c22 => ?_)
    · replace h := zite_f c22 h
      refine zs_iload_n dX6_sheet_26 rfl ?_
      refine zs_if_ge 38 dX6_sheet_27 rfl (fun c18 => ?_) (fun c18 => ?_)
      · replace h := zite_t c18 h
        refine zs_iload_n dX6_sheet_38 rfl ?_
        refine zs_bipush (40 : Int32) dX6_sheet_39 zbipush_40 ?_
        refine zs_icmp_le 51 dX6_sheet_41 rfl (fun c14 => ?_) (fun c14 => ?_)
        · replace h := zite_t c14 h
          refine zs_aload dX6_sheet_51 rfl ?_
          refine zs_iload_n dX6_sheet_53 rfl ?_
          refine zs_iload_n dX6_sheet_54 rfl ?_
          obtain ⟨w10, e9, h⟩ := zbind h
          refine zc_V2v moX3_renew mvX3_renew kX6_269 rfl dX6_sheet_55 (za_S h3) (Nat.le_of_ble_eq_true rfl) (zrm (by decide)) (tX3_renew h3 e9) ?_
          refine zs_aload dX6_sheet_58 rfl ?_
          refine gX6_272 h3 dX6_sheet_60 ?_
          obtain ⟨rfl, rfl⟩ := zpi2 h
          exact zs_iret dX6_sheet_63 ⟨rfl, rfl⟩
        · replace h := zite_f c14 h
          refine zs_aload_n dX6_sheet_44 rfl ?_
          refine zs_ldc kX6_51 dX6_sheet_45 ?_
          obtain ⟨v12, w13, e11, h⟩ := zb2_inv h
          refine zc_V1i moX6_finding mvX6_finding kX6_52 rfl dX6_sheet_47 za_0 (Nat.le_of_ble_eq_true rfl) (zrm (by decide)) (tX6_finding e11) ?_
          obtain ⟨rfl, rfl⟩ := zpi2 h
          exact zs_iret dX6_sheet_50 ⟨rfl, rfl⟩
      · replace h := zite_f c18 h
        refine zs_aload_n dX6_sheet_30 rfl ?_
        refine zs_ldc_w kX6_268 dX6_sheet_31 ?_
        obtain ⟨v16, w17, e15, h⟩ := zb2_inv h
        refine zc_V1i moX6_finding mvX6_finding kX6_52 rfl dX6_sheet_34 za_0 (Nat.le_of_ble_eq_true rfl) (zrm (by decide)) (tX6_finding e15) ?_
        obtain ⟨rfl, rfl⟩ := zpi2 h
        exact zs_iret dX6_sheet_37 ⟨rfl, rfl⟩
    · replace h := zite_t c22 h
      refine zs_aload_n dX6_sheet_19 rfl ?_
      refine zs_ldc kX6_51 dX6_sheet_20 ?_
      obtain ⟨v20, w21, e19, h⟩ := zb2_inv h
      refine zc_V1i moX6_finding mvX6_finding kX6_52 rfl dX6_sheet_22 za_0 (Nat.le_of_ble_eq_true rfl) (zrm (by decide)) (tX6_finding e19) ?_
      obtain ⟨rfl, rfl⟩ := zpi2 h
      exact zs_iret dX6_sheet_25 ⟨rfl, rfl⟩
def fX6_slide (w : zW) (p1 : Int32) (p2 : Int32) : Option (Int32 × zW) := Option.bind (fX0_hasVillage w 10 p1) fun v2 => (if v2 = 0 then (zb2 (fX6_finding w (-1000000001 : Int32)) fun v4 w5 => some (v4, w5)) else (Option.bind (fX6_isHeight w p2) fun v7 => (if v7 = 0 then (zb2 (fX6_finding w (-1000000001 : Int32)) fun v13 w14 => some (v13, w14)) else (Option.bind (fX0_heightOf w 10 p1) fun v9 => Option.bind (fX0_setHeight w 10 p1 p2) fun w11 => some (v9, w11)))))
set_option maxRecDepth 100000 in
theorem tX6_slide {w : zW} {p1 : Int32} {p2 : Int32}  {r : Int32} {w' : zW} (h : fX6_slide w p1 p2 = some (r, w')) : zRun yX6_slide cX6_slide 4 (some .int) 2 [.ref 0, .int p1, .int p2] w (zI r w') := by
  refine zRun.of (k := 1) rfl rfl rfl ?_
  show zWP RX6 cX6_slide (zMB 4 (some .int) 2 (zI r w')) 0 [some (.ref 0), some (.int p1), some (.int p2), none] [] w
  unfold fX6_slide at h
  refine zs_aload_n dX6_slide_0 rfl ?_
  refine gX6_10 dX6_slide_1 ?_
  refine zs_iload_n dX6_slide_4 rfl ?_
  obtain ⟨v2, e1, h⟩ := zbind h
  refine zc_V1i moX0_hasVillage mvX0_hasVillage kX6_65 rfl dX6_slide_5 (za_L zl_10) (Nat.le_of_ble_eq_true rfl) (zrm (by decide)) (tX0_hasVillage zl_10 e1) ?_
  refine zs_if_eq 18 dX6_slide_8 rfl (fun c16 => ?_) (fun c16 => ?_)
  · replace h := zite_t c16 h
    refine zs_aload_n dX6_slide_18 rfl ?_
    refine zs_ldc kX6_51 dX6_slide_19 ?_
    obtain ⟨v4, w5, e3, h⟩ := zb2_inv h
    refine zc_V1i moX6_finding mvX6_finding kX6_52 rfl dX6_slide_21 za_0 (Nat.le_of_ble_eq_true rfl) (zrm (by decide)) (tX6_finding e3) ?_
    obtain ⟨rfl, rfl⟩ := zpi2 h
    exact zs_iret dX6_slide_24 ⟨rfl, rfl⟩
  · replace h := zite_f c16 h
    refine zs_iload_n dX6_slide_11 rfl ?_
    obtain ⟨v7, e6, h⟩ := zbind h
    refine zc_S1i moX6_isHeight mvX6_isHeight kX6_47 dX6_slide_12 (Nat.le_of_ble_eq_true rfl) (zrm (by decide)) (tX6_isHeight e6) ?_
    refine zs_if_ne 25 dX6_slide_15 rfl (fun c15 => ?_) (fun c15 => ?_)
    · replace h := zite_f c15 h
      refine zs_aload_n dX6_slide_25 rfl ?_
      refine gX6_10 dX6_slide_26 ?_
      refine zs_iload_n dX6_slide_29 rfl ?_
      obtain ⟨v9, e8, h⟩ := zbind h
      refine zc_V1i moX0_heightOf mvX0_heightOf kX6_68 rfl dX6_slide_30 (za_L zl_10) (Nat.le_of_ble_eq_true rfl) (zrm (by decide)) (tX0_heightOf zl_10 e8) ?_
      refine zs_istore_n [some (.ref 0), some (.int p1), some (.int p2), some (.int v9)] dX6_slide_33 (Nat.le_of_ble_eq_true rfl) rfl rfl ?_
      refine zs_aload_n dX6_slide_34 rfl ?_
      refine gX6_10 dX6_slide_35 ?_
      refine zs_iload_n dX6_slide_38 rfl ?_
      refine zs_iload_n dX6_slide_39 rfl ?_
      obtain ⟨w11, e10, h⟩ := zbind h
      refine zc_V2v moX0_setHeight mvX0_setHeight kX6_80 rfl dX6_slide_40 (za_L zl_10) (Nat.le_of_ble_eq_true rfl) (zrm (by decide)) (tX0_setHeight zl_10 e10) ?_
      refine zs_iload_n dX6_slide_43 rfl ?_
      obtain ⟨rfl, rfl⟩ := zpi2 h
      exact zs_iret dX6_slide_44 ⟨rfl, rfl⟩
    · replace h := zite_t c15 h
      refine zs_aload_n dX6_slide_18 rfl ?_
      refine zs_ldc kX6_51 dX6_slide_19 ?_
      obtain ⟨v13, w14, e12, h⟩ := zb2_inv h
      refine zc_V1i moX6_finding mvX6_finding kX6_52 rfl dX6_slide_21 za_0 (Nat.le_of_ble_eq_true rfl) (zrm (by decide)) (tX6_finding e12) ?_
      obtain ⟨rfl, rfl⟩ := zpi2 h
      exact zs_iret dX6_slide_24 ⟨rfl, rfl⟩
def lpX6_status_33 (w : zW) : Nat → Int32 → Int32 → Option Int32
  | 0, _, _ => none
  | n + 1, x4, x5 => (if (7 : Int32) ≤ x5 then (some x4) else (Option.bind (zrd w 46 7 x5) fun v7 => Option.bind (some ((x4 + v7))) fun x9 => lpX6_status_33 w n x9 (x5 + 1)))
def fX6_status (w : zW) (p1 : Int32) : Option (Int32 × zW) := (if p1 < (-1 : Int32) then (zb2 (fX6_finding w (-1000000001 : Int32)) fun v2 w3 => some (v2, w3)) else ((if p1 < (7 : Int32) then ((if p1 < 0 then (Option.bind (lpX6_status_33 w zF (0 : Int32) (0 : Int32)) fun y14 => some (y14, w)) else (Option.bind (zrd w 46 7 p1) fun v15 => some (v15, w)))) else (zb2 (fX6_finding w (-1000000001 : Int32)) fun v19 w20 => some (v19, w20)))))
set_option maxRecDepth 100000 in
theorem tlX6_status_33 {w : zW}  {Q : Option Value → zW → Prop} : ∀ (n : Nat) (x4 : Int32) (x5 : Int32) (y6 : Int32), lpX6_status_33 w n x4 x5 = some y6 → zWP RX6 cX6_status (zMB 4 (some .int) 1 Q) 54 [none, none, some (.int y6), none] [] w → zWP RX6 cX6_status (zMB 4 (some .int) 1 Q) 33 [some (.ref 0), none, some (.int x4), some (.int x5)] [] w := by
  intro n
  induction n with
  | zero => intro x4 x5 y6 h K; simp [lpX6_status_33] at h
  | succ n ih =>
    intro x4 x5 y6 h K
    rw [lpX6_status_33] at h
    refine zs_iload_n dX6_status_33 rfl ?_
    refine zs_bipush (7 : Int32) dX6_status_34 zbipush_7 ?_
    refine zs_icmp_ge 54 dX6_status_36 rfl (fun c11 => ?_) (fun c11 => ?_)
    · replace h := zite_t c11 h
      refine zs_fo [false, false, true, false] rfl ?_
      obtain rfl := Option.some.inj h
      exact K
    · replace h := zite_f c11 h
      refine zs_iload_n dX6_status_39 rfl ?_
      refine zs_aload_n dX6_status_40 rfl ?_
      refine gX6_42 dX6_status_41 ?_
      refine zs_iload_n dX6_status_44 rfl ?_
      obtain ⟨v7, e8, h⟩ := zbind h
      refine zs_iald dX6_status_45 za_46 e8 ?_
      refine zs_iadd dX6_status_46 ?_
      obtain ⟨x9, e10, h⟩ := zbind h
      refine zs_nmi (Option.some.inj e10) ?_
      refine zs_istore_n [some (.ref 0), none, some (.int x9), some (.int x5)] dX6_status_47 (Nat.le_of_ble_eq_true rfl) rfl rfl ?_
      refine zs_iinc (x5 + 1) [some (.ref 0), none, some (.int x9), some (.int (x5 + 1))] dX6_status_48 rfl rfl (Nat.le_of_ble_eq_true rfl) rfl rfl ?_
      refine zs_goto 33 dX6_status_51 rfl ?_
      exact ih _ _ _ h K
set_option maxRecDepth 100000 in
theorem tX6_status {w : zW} {p1 : Int32}  {r : Int32} {w' : zW} (h : fX6_status w p1 = some (r, w')) : zRun yX6_status cX6_status 4 (some .int) 1 [.ref 0, .int p1] w (zI r w') := by
  refine zRun.of (k := 2) rfl rfl rfl ?_
  show zWP RX6 cX6_status (zMB 4 (some .int) 1 (zI r w')) 0 [some (.ref 0), some (.int p1), none, none] [] w
  unfold fX6_status at h
  refine zs_iload_n dX6_status_0 rfl ?_
  refine zs_iconst (-1 : Int32) dX6_status_1 ziconst_m1 ?_
  refine zs_icmp_lt 11 dX6_status_2 rfl (fun c22 => ?_) (fun c22 => ?_)
  · replace h := zite_t c22 h
    refine zs_aload_n dX6_status_11 rfl ?_
    refine zs_ldc kX6_51 dX6_status_12 ?_
    obtain ⟨v2, w3, e1, h⟩ := zb2_inv h
    refine zc_V1i moX6_finding mvX6_finding kX6_52 rfl dX6_status_14 za_0 (Nat.le_of_ble_eq_true rfl) (zrm (by decide)) (tX6_finding e1) ?_
    obtain ⟨rfl, rfl⟩ := zpi2 h
    exact zs_iret dX6_status_17 ⟨rfl, rfl⟩
  · replace h := zite_f c22 h
    refine zs_iload_n dX6_status_5 rfl ?_
    refine zs_bipush (7 : Int32) dX6_status_6 zbipush_7 ?_
    refine zs_icmp_lt 18 dX6_status_8 rfl (fun c21 => ?_) (fun c21 => ?_)
    · replace h := zite_t c21 h
      refine zs_iload_n dX6_status_18 rfl ?_
      refine zs_if_lt 29 dX6_status_19 rfl (fun c17 => ?_) (fun c17 => ?_)
      · replace h := zite_t c17 h
        refine zs_iconst (0 : Int32) dX6_status_29 ziconst_0 ?_
        refine zs_istore_n [some (.ref 0), some (.int p1), some (.int (0 : Int32)), none] dX6_status_30 (Nat.le_of_ble_eq_true rfl) rfl rfl ?_
        refine zs_iconst (0 : Int32) dX6_status_31 ziconst_0 ?_
        refine zs_istore_n [some (.ref 0), some (.int p1), some (.int (0 : Int32)), some (.int (0 : Int32))] dX6_status_32 (Nat.le_of_ble_eq_true rfl) rfl rfl ?_
        obtain ⟨y14, e12, h⟩ := zbind h
        have K13 : zWP RX6 cX6_status (zMB 4 (some .int) 1 (zI r w')) 54 [none, none, some (.int y14), none] [] w := by
          refine zs_iload_n dX6_status_54 rfl ?_
          obtain ⟨rfl, rfl⟩ := zpi2 h
          exact zs_iret dX6_status_55 ⟨rfl, rfl⟩
        refine zs_fo [true, false, true, true] rfl ?_
        exact tlX6_status_33  zF _ _ _ e12 K13
      · replace h := zite_f c17 h
        refine zs_aload_n dX6_status_22 rfl ?_
        refine gX6_42 dX6_status_23 ?_
        refine zs_iload_n dX6_status_26 rfl ?_
        obtain ⟨v15, e16, h⟩ := zbind h
        refine zs_iald dX6_status_27 za_46 e16 ?_
        obtain ⟨rfl, rfl⟩ := zpi2 h
        exact zs_iret dX6_status_28 ⟨rfl, rfl⟩
    · replace h := zite_f c21 h
      refine zs_aload_n dX6_status_11 rfl ?_
      refine zs_ldc kX6_51 dX6_status_12 ?_
      obtain ⟨v19, w20, e18, h⟩ := zb2_inv h
      refine zc_V1i moX6_finding mvX6_finding kX6_52 rfl dX6_status_14 za_0 (Nat.le_of_ble_eq_true rfl) (zrm (by decide)) (tX6_finding e18) ?_
      obtain ⟨rfl, rfl⟩ := zpi2 h
      exact zs_iret dX6_status_17 ⟨rfl, rfl⟩
def lpX6_table_92 (p3 : Int32) (o2 : Nat) (x18 : Int32) : Nat → zW → Int32 → Option zW
  | 0, _, _ => none
  | n + 1, w21, x20 => (if x18 ≤ x20 then (some w21) else (Option.bind (fX5_earliest w21 p3 x20 (w21.1 10 8)) fun v24 => Option.bind (if v24 < (1000000 : Int32) then (some (((v24 - (w21.1 10 8))).toInt64)) else (some (-1 : Int64))) fun x25 => Option.bind (fX3_put w21 o2 x20 x25) fun w29 => lpX6_table_92 p3 o2 x18 n w29 (x20 + 1)))
def fX6_table (w : zW) (p1 : Int32) (p2 : Int32) (p3 : Int32) : Option (Int32 × zW) := zbo (fX6_sheetAt w p1) (zb2 (fX6_finding w (-1000000001 : Int32)) fun v5 w6 => some (v5, w6)) fun o2 => (Option.bind (fX3_isMissing w o2) fun v8 => (if v8 = 0 then (Option.bind (fX6_isKind w p2) fun v10 => (if v10 = 0 then (zb2 (fX6_finding w (-1000000001 : Int32)) fun v12 w13 => some (v12, w13)) else (Option.bind (fX0_hasVillage w 10 p3) fun v15 => (if v15 = 0 then (zb2 (fX6_finding w (-1000000001 : Int32)) fun v36 w37 => some (v36, w37)) else (Option.bind (fX5_layOut w 10 p2) fun w17 => Option.bind (some ((zmin (w17.1 o2 1) (w17.1 10 0)))) fun x18 => Option.bind (lpX6_table_92 p3 o2 x18 zF w17 (0 : Int32)) fun w34 => some (x18, w34)))))) else (zb2 (fX6_finding w (-1000000006 : Int32)) fun v41 w42 => some (v41, w42))))
set_option maxRecDepth 100000 in
theorem tlX6_table_92 {p3 : Int32} {o2 : Nat} {x18 : Int32} (h3 : zIsSheet o2) {Q : Option Value → zW → Prop} : ∀ (n : Nat) (w21 : zW) (x20 : Int32) (w22 : zW), lpX6_table_92 p3 o2 x18 n w21 x20 = some w22 → zWP RX6 cX6_table (zMB 8 (some .int) 5 Q) 155 [none, none, none, none, none, some (.int x18), none, none] [] w22 → zWP RX6 cX6_table (zMB 8 (some .int) 5 Q) 92 [some (.ref 0), none, none, some (.int p3), some (.ref o2), some (.int x18), some (.int x20), none] [] w21 := by
  intro n
  induction n with
  | zero => intro w21 x20 w22 h K; simp [lpX6_table_92] at h
  | succ n ih =>
    intro w21 x20 w22 h K
    rw [lpX6_table_92] at h
    refine zs_iload dX6_table_92 rfl ?_
    refine zs_iload dX6_table_94 rfl ?_
    refine zs_icmp_ge 155 dX6_table_96 rfl (fun c31 => ?_) (fun c31 => ?_)
    · replace h := zite_t c31 h
      refine zs_fo [false, false, false, false, false, true, false, false] rfl ?_
      obtain rfl := Option.some.inj h
      exact K
    · replace h := zite_f c31 h
      refine zs_aload_n dX6_table_99 rfl ?_
      refine gX6_25 dX6_table_100 ?_
      refine zs_iload_n dX6_table_103 rfl ?_
      refine zs_iload dX6_table_104 rfl ?_
      refine zs_aload_n dX6_table_106 rfl ?_
      refine gX6_10 dX6_table_107 ?_
      refine gX6_150 zl_10 dX6_table_110 ?_
      obtain ⟨v24, e23, h⟩ := zbind h
      refine zc_V3i moX5_earliest mvX5_earliest kX6_153 rfl dX6_table_113 za_40 (Nat.le_of_ble_eq_true rfl) (zrm (by decide)) (tX5_earliest e23) ?_
      refine zs_istore [some (.ref 0), none, none, some (.int p3), some (.ref o2), some (.int x18), some (.int x20), some (.int v24)] dX6_table_116 (Nat.le_of_ble_eq_true rfl) rfl rfl ?_
      refine zs_aload dX6_table_118 rfl ?_
      refine zs_iload dX6_table_120 rfl ?_
      refine zs_iload dX6_table_122 rfl ?_
      refine zs_ldc kX6_180 dX6_table_124 ?_
      obtain ⟨x25, m27, h⟩ := zbind h
      have K26 : zWP RX6 cX6_table (zMB 8 (some .int) 5 Q) 146 [some (.ref 0), none, none, some (.int p3), some (.ref o2), some (.int x18), some (.int x20), none] [.long x25, .int x20, .ref o2] w21 := by
        obtain ⟨w29, e28, h⟩ := zbind h
        refine zc_V2v moX3_put mvX3_put kX6_286 rfl dX6_table_146 (za_S h3) (Nat.le_of_ble_eq_true rfl) (zrm (by decide)) (tX3_put h3 e28) ?_
        refine zs_iinc (x20 + 1) [some (.ref 0), none, none, some (.int p3), some (.ref o2), some (.int x18), some (.int (x20 + 1)), none] dX6_table_149 rfl rfl (Nat.le_of_ble_eq_true rfl) rfl rfl ?_
        refine zs_goto 92 dX6_table_152 rfl ?_
        exact ih _ _ _ h K
      refine zs_icmp_lt 135 dX6_table_126 rfl (fun c30 => ?_) (fun c30 => ?_)
      · replace m27 := zite_t c30 m27
        refine zs_iload dX6_table_135 rfl ?_
        refine zs_aload_n dX6_table_137 rfl ?_
        refine gX6_10 dX6_table_138 ?_
        refine gX6_150 zl_10 dX6_table_141 ?_
        refine zs_isub dX6_table_144 ?_
        refine zs_i2l dX6_table_145 ?_
        refine zs_fo [true, false, false, true, true, true, true, false] rfl ?_
        obtain rfl := Option.some.inj m27
        exact K26
      · replace m27 := zite_f c30 m27
        refine zs_ldc2_w kX6_313 dX6_table_129 ?_
        refine zs_goto 146 dX6_table_132 rfl ?_
        refine zs_fo [true, false, false, true, true, true, true, false] rfl ?_
        obtain rfl := Option.some.inj m27
        exact K26
set_option maxRecDepth 100000 in
theorem tX6_table {w : zW} {p1 : Int32} {p2 : Int32} {p3 : Int32}  {r : Int32} {w' : zW} (h : fX6_table w p1 p2 p3 = some (r, w')) : zRun yX6_table cX6_table 8 (some .int) 5 [.ref 0, .int p1, .int p2, .int p3] w (zI r w') := by
  refine zRun.of (k := 4) rfl rfl rfl ?_
  show zWP RX6 cX6_table (zMB 8 (some .int) 5 (zI r w')) 0 [some (.ref 0), some (.int p1), some (.int p2), some (.int p3), none, none, none, none] [] w
  unfold fX6_table at h
  refine zs_aload_n dX6_table_0 rfl ?_
  refine zs_iload_n dX6_table_1 rfl ?_
  rcases zbo_inv h with ⟨e1, h⟩ | ⟨o2, e1, h⟩
  · refine zc_V1n moX6_sheetAt mvX6_sheetAt kX6_261 rfl dX6_table_2 za_0 (Nat.le_of_ble_eq_true rfl) (zrm (by decide)) (tX6_sheetAt e1) ?_
    refine zs_astoreN [some (.ref 0), some (.int p1), some (.int p2), some (.int p3), some (.null), none, none, none] dX6_table_5 (Nat.le_of_ble_eq_true rfl) rfl rfl ?_
    refine zs_aloadN dX6_table_7 rfl ?_
    refine zs_ifnonnullN dX6_table_9 ?_
    refine zs_aload_n dX6_table_12 rfl ?_
    refine zs_ldc kX6_51 dX6_table_13 ?_
    obtain ⟨v5, w6, e4, h⟩ := zb2_inv h
    refine zc_V1i moX6_finding mvX6_finding kX6_52 rfl dX6_table_15 za_0 (Nat.le_of_ble_eq_true rfl) (zrm (by decide)) (tX6_finding e4) ?_
    obtain ⟨rfl, rfl⟩ := zpi2 h
    exact zs_iret dX6_table_18 ⟨rfl, rfl⟩
  · have h3 : zIsSheet o2 := fX6_sheetAt_ok e1
    refine zc_V1r moX6_sheetAt mvX6_sheetAt kX6_261 rfl dX6_table_2 za_0 (Nat.le_of_ble_eq_true rfl) (zrm (by decide)) (tX6_sheetAt e1) ?_
    refine zs_astore [some (.ref 0), some (.int p1), some (.int p2), some (.int p3), some (.ref o2), none, none, none] dX6_table_5 (Nat.le_of_ble_eq_true rfl) rfl rfl ?_
    refine zs_aload dX6_table_7 rfl ?_
    refine zs_ifnonnull 19 dX6_table_9 rfl ?_
    refine zs_aload dX6_table_19 rfl ?_
    obtain ⟨v8, e7, h⟩ := zbind h
    refine zc_V0i moX3_isMissing mvX3_isMissing kX6_275 rfl dX6_table_21 (za_S h3) (Nat.le_of_ble_eq_true rfl) (zrm (by decide)) (tX3_isMissing h3 e7) ?_
    refine zs_if_eq 35 dX6_table_24 rfl (fun c43 => ?_) (fun c43 => ?_)
    · replace h := zite_t c43 h
      refine zs_iload_n dX6_table_35 rfl ?_
      obtain ⟨v10, e9, h⟩ := zbind h
      refine zc_S1i moX6_isKind mvX6_isKind kX6_130 dX6_table_36 (Nat.le_of_ble_eq_true rfl) (zrm (by decide)) (tX6_isKind e9) ?_
      refine zs_if_eq 53 dX6_table_39 rfl (fun c39 => ?_) (fun c39 => ?_)
      · replace h := zite_t c39 h
        refine zs_aload_n dX6_table_53 rfl ?_
        refine zs_ldc kX6_51 dX6_table_54 ?_
        obtain ⟨v12, w13, e11, h⟩ := zb2_inv h
        refine zc_V1i moX6_finding mvX6_finding kX6_52 rfl dX6_table_56 za_0 (Nat.le_of_ble_eq_true rfl) (zrm (by decide)) (tX6_finding e11) ?_
        obtain ⟨rfl, rfl⟩ := zpi2 h
        exact zs_iret dX6_table_59 ⟨rfl, rfl⟩
      · replace h := zite_f c39 h
        refine zs_aload_n dX6_table_42 rfl ?_
        refine gX6_10 dX6_table_43 ?_
        refine zs_iload_n dX6_table_46 rfl ?_
        obtain ⟨v15, e14, h⟩ := zbind h
        refine zc_V1i moX0_hasVillage mvX0_hasVillage kX6_65 rfl dX6_table_47 (za_L zl_10) (Nat.le_of_ble_eq_true rfl) (zrm (by decide)) (tX0_hasVillage zl_10 e14) ?_
        refine zs_if_ne 60 dX6_table_50 rfl (fun c38 => ?_) (fun c38 => ?_)
        · replace h := zite_f c38 h
          refine zs_aload_n dX6_table_60 rfl ?_
          refine gX6_25 dX6_table_61 ?_
          refine zs_aload_n dX6_table_64 rfl ?_
          refine gX6_10 dX6_table_65 ?_
          refine zs_iload_n dX6_table_68 rfl ?_
          obtain ⟨w17, e16, h⟩ := zbind h
          refine zc_V2v moX5_layOut mvX5_layOut kX6_146 rfl dX6_table_69 za_40 (Nat.le_of_ble_eq_true rfl) (zrm (by decide)) (tX5_layOut zl_10 e16) ?_
          refine zs_aload dX6_table_72 rfl ?_
          refine gX6_272 h3 dX6_table_74 ?_
          refine zs_aload_n dX6_table_77 rfl ?_
          refine gX6_10 dX6_table_78 ?_
          refine gX6_119 zl_10 dX6_table_81 ?_
          refine zs_min kX6_308 zst_min zin_math zco_min (zrm1 (by decide)) (Nat.le_of_ble_eq_true rfl) dX6_table_84 ?_
          obtain ⟨x18, e19, h⟩ := zbind h
          refine zs_nmi (Option.some.inj e19) ?_
          refine zs_istore [some (.ref 0), some (.int p1), some (.int p2), some (.int p3), some (.ref o2), some (.int x18), none, none] dX6_table_87 (Nat.le_of_ble_eq_true rfl) rfl rfl ?_
          refine zs_iconst (0 : Int32) dX6_table_89 ziconst_0 ?_
          refine zs_istore [some (.ref 0), some (.int p1), some (.int p2), some (.int p3), some (.ref o2), some (.int x18), some (.int (0 : Int32)), none] dX6_table_90 (Nat.le_of_ble_eq_true rfl) rfl rfl ?_
          obtain ⟨w34, e32, h⟩ := zbind h
          have K33 : zWP RX6 cX6_table (zMB 8 (some .int) 5 (zI r w')) 155 [none, none, none, none, none, some (.int x18), none, none] [] w34 := by
            refine zs_iload dX6_table_155 rfl ?_
            obtain ⟨rfl, rfl⟩ := zpi2 h
            exact zs_iret dX6_table_157 ⟨rfl, rfl⟩
          refine zs_fo [true, false, false, true, true, true, true, false] rfl ?_
          exact tlX6_table_92 h3 zF _ _ _ e32 K33
        · replace h := zite_t c38 h
          refine zs_aload_n dX6_table_53 rfl ?_
          refine zs_ldc kX6_51 dX6_table_54 ?_
          obtain ⟨v36, w37, e35, h⟩ := zb2_inv h
          refine zc_V1i moX6_finding mvX6_finding kX6_52 rfl dX6_table_56 za_0 (Nat.le_of_ble_eq_true rfl) (zrm (by decide)) (tX6_finding e35) ?_
          obtain ⟨rfl, rfl⟩ := zpi2 h
          exact zs_iret dX6_table_59 ⟨rfl, rfl⟩
    · replace h := zite_f c43 h
      refine zs_aload_n dX6_table_27 rfl ?_
      refine zs_ldc_w kX6_278 dX6_table_28 ?_
      obtain ⟨v41, w42, e40, h⟩ := zb2_inv h
      refine zc_V1i moX6_finding mvX6_finding kX6_52 rfl dX6_table_31 za_0 (Nat.le_of_ble_eq_true rfl) (zrm (by decide)) (tX6_finding e40) ?_
      obtain ⟨rfl, rfl⟩ := zpi2 h
      exact zs_iret dX6_table_34 ⟨rfl, rfl⟩
def fX6_tear (w : zW)  : Option (Int32 × zW) := Option.bind (if (w.1 0 7) = 0 then (some (0 : Int32)) else (some (1 : Int32))) fun x1 => Option.bind (some (zsf w 0 7 (0 : Int32))) fun w4 => some (x1, w4)
set_option maxRecDepth 100000 in
theorem tX6_tear {w : zW}   {r : Int32} {w' : zW} (h : fX6_tear w  = some (r, w')) : zRun yX6_tear cX6_tear 2 (some .int) 0 [.ref 0] w (zI r w') := by
  refine zRun.of (k := 1) rfl rfl rfl ?_
  show zWP RX6 cX6_tear (zMB 2 (some .int) 0 (zI r w')) 0 [some (.ref 0), none] [] w
  unfold fX6_tear at h
  refine zs_aload_n dX6_tear_0 rfl ?_
  refine gX6_318 dX6_tear_1 ?_
  obtain ⟨x1, m3, h⟩ := zbind h
  have K2 : zWP RX6 cX6_tear (zMB 2 (some .int) 0 (zI r w')) 12 [some (.ref 0), none] [.int x1] w := by
    refine zs_istore_n [some (.ref 0), some (.int x1)] dX6_tear_12 (Nat.le_of_ble_eq_true rfl) rfl rfl ?_
    refine zs_aload_n dX6_tear_13 rfl ?_
    refine zs_iconst (0 : Int32) dX6_tear_14 ziconst_0 ?_
    obtain ⟨w4, e5, h⟩ := zbind h
    refine pX6_318 (Or.inl rfl) dX6_tear_15 ?_
    refine zs_nmw (Option.some.inj e5) ?_
    refine zs_iload_n dX6_tear_18 rfl ?_
    obtain ⟨rfl, rfl⟩ := zpi2 h
    exact zs_iret dX6_tear_19 ⟨rfl, rfl⟩
  refine zs_if_eq 11 dX6_tear_4 rfl (fun c6 => ?_) (fun c6 => ?_)
  · replace m3 := zite_t c6 m3
    refine zs_iconst (0 : Int32) dX6_tear_11 ziconst_0 ?_
    obtain rfl := Option.some.inj m3
    exact K2
  · replace m3 := zite_f c6 m3
    refine zs_iconst (1 : Int32) dX6_tear_7 ziconst_1 ?_
    refine zs_goto 12 dX6_tear_8 rfl ?_
    obtain rfl := Option.some.inj m3
    exact K2
def fX6_text (w : zW)  : Option (Int32 × zW) := Option.bind (fX0_become w 30 10) fun w2 => zb2 (fX1_bring w2 30) fun v4 w5 => Option.bind (some (zsf w5 43 1 (0 : Int32))) fun w6 => Option.bind (if v4 < 0 then (some w6) else (Option.bind (fX0_become w6 10 30) fun w14 => some w14)) fun w10 => some (v4, w10)
set_option maxRecDepth 100000 in
theorem tX6_text {w : zW}   {r : Int32} {w' : zW} (h : fX6_text w  = some (r, w')) : zRun yX6_text cX6_text 2 (some .int) 9 [.ref 0] w (zI r w') := by
  refine zRun.of (k := 1) rfl rfl rfl ?_
  show zWP RX6 cX6_text (zMB 2 (some .int) 9 (zI r w')) 0 [some (.ref 0), none] [] w
  unfold fX6_text at h
  refine zs_aload_n dX6_text_0 rfl ?_
  refine gX6_19 dX6_text_1 ?_
  refine zs_aload_n dX6_text_4 rfl ?_
  refine gX6_10 dX6_text_5 ?_
  obtain ⟨w2, e1, h⟩ := zbind h
  refine zc_V1v moX0_become mvX0_become kX6_241 rfl dX6_text_8 (za_L zl_30) (Nat.le_of_ble_eq_true rfl) (zrm (by decide)) (tX0_become zl_30 zl_10 e1) ?_
  refine zs_aload_n dX6_text_11 rfl ?_
  refine gX6_32 dX6_text_12 ?_
  refine zs_aload_n dX6_text_15 rfl ?_
  refine gX6_19 dX6_text_16 ?_
  obtain ⟨v4, w5, e3, h⟩ := zb2_inv h
  refine zc_S2i moX1_bring mvX1_bring kX6_255 dX6_text_19 (Nat.le_of_ble_eq_true rfl) (zrm (by decide)) (tX1_bring zl_30 e3) ?_
  refine zs_istore_n [some (.ref 0), some (.int v4)] dX6_text_22 (Nat.le_of_ble_eq_true rfl) rfl rfl ?_
  refine zs_aload_n dX6_text_23 rfl ?_
  refine gX6_32 dX6_text_24 ?_
  refine zs_iconst (0 : Int32) dX6_text_27 ziconst_0 ?_
  obtain ⟨w6, e7, h⟩ := zbind h
  refine pX6_248 dX6_text_28 ?_
  refine zs_nmw (Option.some.inj e7) ?_
  refine zs_iload_n dX6_text_31 rfl ?_
  obtain ⟨w10, m12, h⟩ := zbind h
  have K11 : zWP RX6 cX6_text (zMB 2 (some .int) 9 (zI r w')) 46 [none, some (.int v4)] [] w10 := by
    refine zs_iload_n dX6_text_46 rfl ?_
    obtain ⟨rfl, rfl⟩ := zpi2 h
    exact zs_iret dX6_text_47 ⟨rfl, rfl⟩
  refine zs_if_lt 46 dX6_text_32 rfl (fun c15 => ?_) (fun c15 => ?_)
  · replace m12 := zite_t c15 m12
    refine zs_fo [false, true] rfl ?_
    obtain rfl := Option.some.inj m12
    exact K11
  · replace m12 := zite_f c15 m12
    refine zs_aload_n dX6_text_35 rfl ?_
    refine gX6_10 dX6_text_36 ?_
    refine zs_aload_n dX6_text_39 rfl ?_
    refine gX6_19 dX6_text_40 ?_
    obtain ⟨w14, e13, m12⟩ := zbind m12
    refine zc_V1v moX0_become mvX0_become kX6_241 rfl dX6_text_43 (za_L zl_10) (Nat.le_of_ble_eq_true rfl) (zrm (by decide)) (tX0_become zl_10 zl_30 e13) ?_
    refine zs_fo [false, true] rfl ?_
    obtain rfl := Option.some.inj m12
    exact K11
def fX6_turn (w : zW) (p1 : Int32) (p2 : Int32) : Option (Int32 × zW) := Option.bind (fX0_hasLetter w 10 p1) fun v2 => (if v2 = 0 then (zb2 (fX6_finding w (-1000000001 : Int32)) fun v4 w5 => some (v4, w5)) else (Option.bind (fX6_isKind w p2) fun v7 => (if v7 = 0 then (zb2 (fX6_finding w (-1000000001 : Int32)) fun v13 w14 => some (v13, w14)) else (Option.bind (zrd w (10 + 5) 10 p1) fun v8 => Option.bind (zwr w (10 + 5) 10 p1 p2) fun w10 => some (v8, w10)))))
set_option maxRecDepth 100000 in
theorem tX6_turn {w : zW} {p1 : Int32} {p2 : Int32}  {r : Int32} {w' : zW} (h : fX6_turn w p1 p2 = some (r, w')) : zRun yX6_turn cX6_turn 4 (some .int) 1 [.ref 0, .int p1, .int p2] w (zI r w') := by
  refine zRun.of (k := 1) rfl rfl rfl ?_
  show zWP RX6 cX6_turn (zMB 4 (some .int) 1 (zI r w')) 0 [some (.ref 0), some (.int p1), some (.int p2), none] [] w
  unfold fX6_turn at h
  refine zs_aload_n dX6_turn_0 rfl ?_
  refine gX6_10 dX6_turn_1 ?_
  refine zs_iload_n dX6_turn_4 rfl ?_
  obtain ⟨v2, e1, h⟩ := zbind h
  refine zc_V1i moX0_hasLetter mvX0_hasLetter kX6_196 rfl dX6_turn_5 (za_L zl_10) (Nat.le_of_ble_eq_true rfl) (zrm (by decide)) (tX0_hasLetter zl_10 e1) ?_
  refine zs_if_eq 18 dX6_turn_8 rfl (fun c16 => ?_) (fun c16 => ?_)
  · replace h := zite_t c16 h
    refine zs_aload_n dX6_turn_18 rfl ?_
    refine zs_ldc kX6_51 dX6_turn_19 ?_
    obtain ⟨v4, w5, e3, h⟩ := zb2_inv h
    refine zc_V1i moX6_finding mvX6_finding kX6_52 rfl dX6_turn_21 za_0 (Nat.le_of_ble_eq_true rfl) (zrm (by decide)) (tX6_finding e3) ?_
    obtain ⟨rfl, rfl⟩ := zpi2 h
    exact zs_iret dX6_turn_24 ⟨rfl, rfl⟩
  · replace h := zite_f c16 h
    refine zs_iload_n dX6_turn_11 rfl ?_
    obtain ⟨v7, e6, h⟩ := zbind h
    refine zc_S1i moX6_isKind mvX6_isKind kX6_130 dX6_turn_12 (Nat.le_of_ble_eq_true rfl) (zrm (by decide)) (tX6_isKind e6) ?_
    refine zs_if_ne 25 dX6_turn_15 rfl (fun c15 => ?_) (fun c15 => ?_)
    · replace h := zite_f c15 h
      refine zs_aload_n dX6_turn_25 rfl ?_
      refine gX6_10 dX6_turn_26 ?_
      refine gX6_199 zl_10 dX6_turn_29 ?_
      refine zs_iload_n dX6_turn_32 rfl ?_
      obtain ⟨v8, e9, h⟩ := zbind h
      refine zs_iald dX6_turn_33 (za_L5 zl_10) e9 ?_
      refine zs_istore_n [some (.ref 0), some (.int p1), some (.int p2), some (.int v8)] dX6_turn_34 (Nat.le_of_ble_eq_true rfl) rfl rfl ?_
      refine zs_aload_n dX6_turn_35 rfl ?_
      refine gX6_10 dX6_turn_36 ?_
      refine gX6_199 zl_10 dX6_turn_39 ?_
      refine zs_iload_n dX6_turn_42 rfl ?_
      refine zs_iload_n dX6_turn_43 rfl ?_
      obtain ⟨w10, e11, h⟩ := zbind h
      refine zs_iast dX6_turn_44 (za_L5 zl_10) e11 ?_
      refine zs_iload_n dX6_turn_45 rfl ?_
      obtain ⟨rfl, rfl⟩ := zpi2 h
      exact zs_iret dX6_turn_46 ⟨rfl, rfl⟩
    · replace h := zite_t c15 h
      refine zs_aload_n dX6_turn_18 rfl ?_
      refine zs_ldc kX6_51 dX6_turn_19 ?_
      obtain ⟨v13, w14, e12, h⟩ := zb2_inv h
      refine zc_V1i moX6_finding mvX6_finding kX6_52 rfl dX6_turn_21 za_0 (Nat.le_of_ble_eq_true rfl) (zrm (by decide)) (tX6_finding e12) ?_
      obtain ⟨rfl, rfl⟩ := zpi2 h
      exact zs_iret dX6_turn_24 ⟨rfl, rfl⟩
def fX6_undo (w : zW)  : Option (Int32 × zW) := (if (w.1 0 7) = 0 then (zb2 (fX6_finding w (-1000000004 : Int32)) fun v4 w5 => some (v4, w5)) else (Option.bind (fX0_become w 10 20) fun w2 => some ((w2.1 10 0), w2)))
set_option maxRecDepth 100000 in
theorem tX6_undo {w : zW}   {r : Int32} {w' : zW} (h : fX6_undo w  = some (r, w')) : zRun yX6_undo cX6_undo 1 (some .int) 2 [.ref 0] w (zI r w') := by
  refine zRun.of (k := 0) rfl rfl rfl ?_
  show zWP RX6 cX6_undo (zMB 1 (some .int) 2 (zI r w')) 0 [some (.ref 0)] [] w
  unfold fX6_undo at h
  refine zs_aload_n dX6_undo_0 rfl ?_
  refine gX6_318 dX6_undo_1 ?_
  refine zs_if_ne 14 dX6_undo_4 rfl (fun c6 => ?_) (fun c6 => ?_)
  · replace h := zite_f c6 h
    refine zs_aload_n dX6_undo_14 rfl ?_
    refine gX6_10 dX6_undo_15 ?_
    refine zs_aload_n dX6_undo_18 rfl ?_
    refine gX6_16 dX6_undo_19 ?_
    obtain ⟨w2, e1, h⟩ := zbind h
    refine zc_V1v moX0_become mvX0_become kX6_241 rfl dX6_undo_22 (za_L zl_10) (Nat.le_of_ble_eq_true rfl) (zrm (by decide)) (tX0_become zl_10 zl_20 e1) ?_
    refine zs_aload_n dX6_undo_25 rfl ?_
    refine gX6_10 dX6_undo_26 ?_
    refine gX6_119 zl_10 dX6_undo_29 ?_
    obtain ⟨rfl, rfl⟩ := zpi2 h
    exact zs_iret dX6_undo_32 ⟨rfl, rfl⟩
  · replace h := zite_t c6 h
    refine zs_aload_n dX6_undo_7 rfl ?_
    refine zs_ldc kX6_122 dX6_undo_8 ?_
    obtain ⟨v4, w5, e3, h⟩ := zb2_inv h
    refine zc_V1i moX6_finding mvX6_finding kX6_52 rfl dX6_undo_10 za_0 (Nat.le_of_ble_eq_true rfl) (zrm (by decide)) (tX6_finding e3) ?_
    obtain ⟨rfl, rfl⟩ := zpi2 h
    exact zs_iret dX6_undo_13 ⟨rfl, rfl⟩
def fX6_village (w : zW) (p1 : Int32) : Option (Int32 × zW) := Option.bind (fX6_isHeight w p1) fun v2 => (if v2 = 0 then (zb2 (fX6_finding w (-1000000001 : Int32)) fun v13 w14 => some (v13, w14)) else (Option.bind (fX0_villagesFull w 10) fun v4 => (if v4 = 0 then (zb2 (fX0_addVillage w 10 p1 (0 : Int32)) fun v6 w7 => some (v6, w7)) else (zb2 (fX6_finding w (-1000000002 : Int32)) fun v9 w10 => some (v9, w10)))))
set_option maxRecDepth 100000 in
theorem tX6_village {w : zW} {p1 : Int32}  {r : Int32} {w' : zW} (h : fX6_village w p1 = some (r, w')) : zRun yX6_village cX6_village 2 (some .int) 3 [.ref 0, .int p1] w (zI r w') := by
  refine zRun.of (k := 0) rfl rfl rfl ?_
  show zWP RX6 cX6_village (zMB 2 (some .int) 3 (zI r w')) 0 [some (.ref 0), some (.int p1)] [] w
  unfold fX6_village at h
  refine zs_iload_n dX6_village_0 rfl ?_
  obtain ⟨v2, e1, h⟩ := zbind h
  refine zc_S1i moX6_isHeight mvX6_isHeight kX6_47 dX6_village_1 (Nat.le_of_ble_eq_true rfl) (zrm (by decide)) (tX6_isHeight e1) ?_
  refine zs_if_ne 14 dX6_village_4 rfl (fun c15 => ?_) (fun c15 => ?_)
  · replace h := zite_f c15 h
    refine zs_aload_n dX6_village_14 rfl ?_
    refine gX6_10 dX6_village_15 ?_
    obtain ⟨v4, e3, h⟩ := zbind h
    refine zc_V0i moX0_villagesFull mvX0_villagesFull kX6_56 rfl dX6_village_18 (za_L zl_10) (Nat.le_of_ble_eq_true rfl) (zrm (by decide)) (tX0_villagesFull zl_10 e3) ?_
    refine zs_if_eq 31 dX6_village_21 rfl (fun c11 => ?_) (fun c11 => ?_)
    · replace h := zite_t c11 h
      refine zs_aload_n dX6_village_31 rfl ?_
      refine gX6_10 dX6_village_32 ?_
      refine zs_iload_n dX6_village_35 rfl ?_
      refine zs_iconst (0 : Int32) dX6_village_36 ziconst_0 ?_
      obtain ⟨v6, w7, e5, h⟩ := zb2_inv h
      refine zc_V2i moX0_addVillage mvX0_addVillage kX6_61 rfl dX6_village_37 (za_L zl_10) (Nat.le_of_ble_eq_true rfl) (zrm (by decide)) (tX0_addVillage zl_10 e5) ?_
      obtain ⟨rfl, rfl⟩ := zpi2 h
      exact zs_iret dX6_village_40 ⟨rfl, rfl⟩
    · replace h := zite_f c11 h
      refine zs_aload_n dX6_village_24 rfl ?_
      refine zs_ldc kX6_60 dX6_village_25 ?_
      obtain ⟨v9, w10, e8, h⟩ := zb2_inv h
      refine zc_V1i moX6_finding mvX6_finding kX6_52 rfl dX6_village_27 za_0 (Nat.le_of_ble_eq_true rfl) (zrm (by decide)) (tX6_finding e8) ?_
      obtain ⟨rfl, rfl⟩ := zpi2 h
      exact zs_iret dX6_village_30 ⟨rfl, rfl⟩
  · replace h := zite_t c15 h
    refine zs_aload_n dX6_village_7 rfl ?_
    refine zs_ldc kX6_51 dX6_village_8 ?_
    obtain ⟨v13, w14, e12, h⟩ := zb2_inv h
    refine zc_V1i moX6_finding mvX6_finding kX6_52 rfl dX6_village_10 za_0 (Nat.le_of_ble_eq_true rfl) (zrm (by decide)) (tX6_finding e12) ?_
    obtain ⟨rfl, rfl⟩ := zpi2 h
    exact zs_iret dX6_village_13 ⟨rfl, rfl⟩
def fX6_villageOf (w : zW) (p1 : Int32) (p2 : Int32) : Option (Int32 × zW) := Option.bind (fX0_hasVillage w 10 p1) fun v2 => (if v2 = 0 then (zb2 (fX6_finding w (-1000000001 : Int32)) fun v20 w21 => some (v20, w21)) else ((if p2 = 0 then (Option.bind (fX0_heightOf w 10 p1) fun v8 => some (v8, w)) else (if p2 = 1 then (Option.bind (fX0_isHermits w 10 p1) fun v10 => (if v10 = 0 then (some ((0 : Int32), w)) else (some ((1 : Int32), w)))) else (if p2 = 2 then (Option.bind (fX0_roadsOf w 10 p1) fun v13 => some (v13, w)) else (if p2 = 3 then (Option.bind (fX0_lettersIn w 10 p1) fun v15 => some (v15, w)) else (zb2 (fX6_finding w (-1000000001 : Int32)) fun v17 w18 => some (v17, w18))))))))
set_option maxRecDepth 100000 in
theorem tX6_villageOf {w : zW} {p1 : Int32} {p2 : Int32}  {r : Int32} {w' : zW} (h : fX6_villageOf w p1 p2 = some (r, w')) : zRun yX6_villageOf cX6_villageOf 3 (some .int) 3 [.ref 0, .int p1, .int p2] w (zI r w') := by
  refine zRun.of (k := 0) rfl rfl rfl ?_
  show zWP RX6 cX6_villageOf (zMB 3 (some .int) 3 (zI r w')) 0 [some (.ref 0), some (.int p1), some (.int p2)] [] w
  unfold fX6_villageOf at h
  refine zs_aload_n dX6_villageOf_0 rfl ?_
  refine gX6_10 dX6_villageOf_1 ?_
  refine zs_iload_n dX6_villageOf_4 rfl ?_
  obtain ⟨v2, e1, h⟩ := zbind h
  refine zc_V1i moX0_hasVillage mvX0_hasVillage kX6_65 rfl dX6_villageOf_5 (za_L zl_10) (Nat.le_of_ble_eq_true rfl) (zrm (by decide)) (tX0_hasVillage zl_10 e1) ?_
  refine zs_if_ne 18 dX6_villageOf_8 rfl (fun c22 => ?_) (fun c22 => ?_)
  · replace h := zite_f c22 h
    refine zs_iload_n dX6_villageOf_18 rfl ?_
    by_cases c3 : p2 = 0
    · replace h := zite_t c3 h
      refine zs_tswIn (0 : Int32) 48 dX6_villageOf_19 c3 (by decide) (by decide) rfl rfl ?_
      refine zs_aload_n dX6_villageOf_48 rfl ?_
      refine gX6_10 dX6_villageOf_49 ?_
      refine zs_iload_n dX6_villageOf_52 rfl ?_
      obtain ⟨v8, e7, h⟩ := zbind h
      refine zc_V1i moX0_heightOf mvX0_heightOf kX6_68 rfl dX6_villageOf_53 (za_L zl_10) (Nat.le_of_ble_eq_true rfl) (zrm (by decide)) (tX0_heightOf zl_10 e7) ?_
      obtain ⟨rfl, rfl⟩ := zpi2 h
      exact zs_iret dX6_villageOf_56 ⟨rfl, rfl⟩
    · replace h := zite_f c3 h
      by_cases c4 : p2 = 1
      · replace h := zite_t c4 h
        refine zs_tswIn (1 : Int32) 57 dX6_villageOf_19 c4 (by decide) (by decide) rfl rfl ?_
        refine zs_aload_n dX6_villageOf_57 rfl ?_
        refine gX6_10 dX6_villageOf_58 ?_
        refine zs_iload_n dX6_villageOf_61 rfl ?_
        obtain ⟨v10, e9, h⟩ := zbind h
        refine zc_V1i moX0_isHermits mvX0_isHermits kX6_71 rfl dX6_villageOf_62 (za_L zl_10) (Nat.le_of_ble_eq_true rfl) (zrm (by decide)) (tX0_isHermits zl_10 e9) ?_
        refine zs_if_eq 72 dX6_villageOf_65 rfl (fun c11 => ?_) (fun c11 => ?_)
        · replace h := zite_t c11 h
          refine zs_iconst (0 : Int32) dX6_villageOf_72 ziconst_0 ?_
          obtain ⟨rfl, rfl⟩ := zpi2 h
          exact zs_iret dX6_villageOf_73 ⟨rfl, rfl⟩
        · replace h := zite_f c11 h
          refine zs_iconst (1 : Int32) dX6_villageOf_68 ziconst_1 ?_
          refine zs_goto 73 dX6_villageOf_69 rfl ?_
          obtain ⟨rfl, rfl⟩ := zpi2 h
          exact zs_iret dX6_villageOf_73 ⟨rfl, rfl⟩
      · replace h := zite_f c4 h
        by_cases c5 : p2 = 2
        · replace h := zite_t c5 h
          refine zs_tswIn (2 : Int32) 74 dX6_villageOf_19 c5 (by decide) (by decide) rfl rfl ?_
          refine zs_aload_n dX6_villageOf_74 rfl ?_
          refine gX6_10 dX6_villageOf_75 ?_
          refine zs_iload_n dX6_villageOf_78 rfl ?_
          obtain ⟨v13, e12, h⟩ := zbind h
          refine zc_V1i moX0_roadsOf mvX0_roadsOf kX6_74 rfl dX6_villageOf_79 (za_L zl_10) (Nat.le_of_ble_eq_true rfl) (zrm (by decide)) (tX0_roadsOf zl_10 e12) ?_
          obtain ⟨rfl, rfl⟩ := zpi2 h
          exact zs_iret dX6_villageOf_82 ⟨rfl, rfl⟩
        · replace h := zite_f c5 h
          by_cases c6 : p2 = 3
          · replace h := zite_t c6 h
            refine zs_tswIn (3 : Int32) 83 dX6_villageOf_19 c6 (by decide) (by decide) rfl rfl ?_
            refine zs_aload_n dX6_villageOf_83 rfl ?_
            refine gX6_10 dX6_villageOf_84 ?_
            refine zs_iload_n dX6_villageOf_87 rfl ?_
            obtain ⟨v15, e14, h⟩ := zbind h
            refine zc_V1i moX0_lettersIn mvX0_lettersIn kX6_77 rfl dX6_villageOf_88 (za_L zl_10) (Nat.le_of_ble_eq_true rfl) (zrm (by decide)) (tX0_lettersIn zl_10 e14) ?_
            obtain ⟨rfl, rfl⟩ := zpi2 h
            exact zs_iret dX6_villageOf_91 ⟨rfl, rfl⟩
          · replace h := zite_f c6 h
            refine zs_tswOut 92 dX6_villageOf_19 (by have q := zout (x := p2) (n := 4) (lo := 0) (fun i hi => by match i, hi with | 0, _ => exact c3 | 1, _ => exact c4 | 2, _ => exact c5 | 3, _ => exact c6); omega) rfl ?_
            refine zs_aload_n dX6_villageOf_92 rfl ?_
            refine zs_ldc kX6_51 dX6_villageOf_93 ?_
            obtain ⟨v17, w18, e16, h⟩ := zb2_inv h
            refine zc_V1i moX6_finding mvX6_finding kX6_52 rfl dX6_villageOf_95 za_0 (Nat.le_of_ble_eq_true rfl) (zrm (by decide)) (tX6_finding e16) ?_
            obtain ⟨rfl, rfl⟩ := zpi2 h
            exact zs_iret dX6_villageOf_98 ⟨rfl, rfl⟩
  · replace h := zite_t c22 h
    refine zs_aload_n dX6_villageOf_11 rfl ?_
    refine zs_ldc kX6_51 dX6_villageOf_12 ?_
    obtain ⟨v20, w21, e19, h⟩ := zb2_inv h
    refine zc_V1i moX6_finding mvX6_finding kX6_52 rfl dX6_villageOf_14 za_0 (Nat.le_of_ble_eq_true rfl) (zrm (by decide)) (tX6_finding e19) ?_
    obtain ⟨rfl, rfl⟩ := zpi2 h
    exact zs_iret dX6_villageOf_17 ⟨rfl, rfl⟩
def fX6_when (w : zW) (p1 : Int32) : Option (Int32 × zW) := Option.bind (fX0_hasLetter w 10 p1) fun v2 => (if v2 = 0 then (zb2 (fX6_finding w (-1000000001 : Int32)) fun v15 w16 => some (v15, w16)) else ((if ((w.1 10 8) + (200 : Int32)) ≤ (9999 : Int32) then (zb2 (fX6_daysAhead w p1) fun v4 w5 => (if v4 < (1000000 : Int32) then (some (v4, w5)) else (zb2 (fX6_finding w5 (-1000000004 : Int32)) fun v7 w8 => some (v7, w8)))) else (zb2 (fX6_finding w (-1000000005 : Int32)) fun v11 w12 => some (v11, w12)))))
set_option maxRecDepth 100000 in
theorem tX6_when {w : zW} {p1 : Int32}  {r : Int32} {w' : zW} (h : fX6_when w p1 = some (r, w')) : zRun yX6_when cX6_when 3 (some .int) 6 [.ref 0, .int p1] w (zI r w') := by
  refine zRun.of (k := 1) rfl rfl rfl ?_
  show zWP RX6 cX6_when (zMB 3 (some .int) 6 (zI r w')) 0 [some (.ref 0), some (.int p1), none] [] w
  unfold fX6_when at h
  refine zs_aload_n dX6_when_0 rfl ?_
  refine gX6_10 dX6_when_1 ?_
  refine zs_iload_n dX6_when_4 rfl ?_
  obtain ⟨v2, e1, h⟩ := zbind h
  refine zc_V1i moX0_hasLetter mvX0_hasLetter kX6_196 rfl dX6_when_5 (za_L zl_10) (Nat.le_of_ble_eq_true rfl) (zrm (by decide)) (tX0_hasLetter zl_10 e1) ?_
  refine zs_if_ne 18 dX6_when_8 rfl (fun c17 => ?_) (fun c17 => ?_)
  · replace h := zite_f c17 h
    refine zs_aload_n dX6_when_18 rfl ?_
    refine gX6_10 dX6_when_19 ?_
    refine gX6_150 zl_10 dX6_when_22 ?_
    refine zs_sipush (200 : Int32) dX6_when_25 zsipush_200 ?_
    refine zs_iadd dX6_when_28 ?_
    refine zs_sipush (9999 : Int32) dX6_when_29 zsipush_9999 ?_
    refine zs_icmp_le 42 dX6_when_32 rfl (fun c13 => ?_) (fun c13 => ?_)
    · replace h := zite_t c13 h
      refine zs_aload_n dX6_when_42 rfl ?_
      refine zs_iload_n dX6_when_43 rfl ?_
      obtain ⟨v4, w5, e3, h⟩ := zb2_inv h
      refine zc_V1i moX6_daysAhead mvX6_daysAhead kX6_245 rfl dX6_when_44 za_0 (Nat.le_of_ble_eq_true rfl) (zrm (by decide)) (tX6_daysAhead e3) ?_
      refine zs_istore_n [some (.ref 0), some (.int p1), some (.int v4)] dX6_when_47 (Nat.le_of_ble_eq_true rfl) rfl rfl ?_
      refine zs_iload_n dX6_when_48 rfl ?_
      refine zs_ldc kX6_180 dX6_when_49 ?_
      refine zs_icmp_lt 63 dX6_when_51 rfl (fun c9 => ?_) (fun c9 => ?_)
      · replace h := zite_t c9 h
        refine zs_iload_n dX6_when_63 rfl ?_
        obtain ⟨rfl, rfl⟩ := zpi2 h
        exact zs_iret dX6_when_64 ⟨rfl, rfl⟩
      · replace h := zite_f c9 h
        refine zs_aload_n dX6_when_54 rfl ?_
        refine zs_ldc kX6_122 dX6_when_55 ?_
        obtain ⟨v7, w8, e6, h⟩ := zb2_inv h
        refine zc_V1i moX6_finding mvX6_finding kX6_52 rfl dX6_when_57 za_0 (Nat.le_of_ble_eq_true rfl) (zrm (by decide)) (tX6_finding e6) ?_
        refine zs_goto 64 dX6_when_60 rfl ?_
        obtain ⟨rfl, rfl⟩ := zpi2 h
        exact zs_iret dX6_when_64 ⟨rfl, rfl⟩
    · replace h := zite_f c13 h
      refine zs_aload_n dX6_when_35 rfl ?_
      refine zs_ldc kX6_95 dX6_when_36 ?_
      obtain ⟨v11, w12, e10, h⟩ := zb2_inv h
      refine zc_V1i moX6_finding mvX6_finding kX6_52 rfl dX6_when_38 za_0 (Nat.le_of_ble_eq_true rfl) (zrm (by decide)) (tX6_finding e10) ?_
      obtain ⟨rfl, rfl⟩ := zpi2 h
      exact zs_iret dX6_when_41 ⟨rfl, rfl⟩
  · replace h := zite_t c17 h
    refine zs_aload_n dX6_when_11 rfl ?_
    refine zs_ldc kX6_51 dX6_when_12 ?_
    obtain ⟨v15, w16, e14, h⟩ := zb2_inv h
    refine zc_V1i moX6_finding mvX6_finding kX6_52 rfl dX6_when_14 za_0 (Nat.le_of_ble_eq_true rfl) (zrm (by decide)) (tX6_finding e14) ?_
    obtain ⟨rfl, rfl⟩ := zpi2 h
    exact zs_iret dX6_when_17 ⟨rfl, rfl⟩
def fX6_whence (w : zW) (p1 : Int32) (p2 : Int32) : Option (Int32 × zW) := Option.bind (fX6_isKind w p1) fun v2 => (if v2 = 0 then (zb2 (fX6_finding w (-1000000001 : Int32)) fun v4 w5 => some (v4, w5)) else (Option.bind (fX0_hasVillage w 10 p2) fun v7 => (if v7 = 0 then (zb2 (fX6_finding w (-1000000001 : Int32)) fun v13 w14 => some (v13, w14)) else (Option.bind (fX5_layOut w 10 p1) fun w9 => Option.bind (fX5_allInto w9 p2) fun v11 => some (v11, w9)))))
set_option maxRecDepth 100000 in
theorem tX6_whence {w : zW} {p1 : Int32} {p2 : Int32}  {r : Int32} {w' : zW} (h : fX6_whence w p1 p2 = some (r, w')) : zRun yX6_whence cX6_whence 3 (some .int) 5 [.ref 0, .int p1, .int p2] w (zI r w') := by
  refine zRun.of (k := 0) rfl rfl rfl ?_
  show zWP RX6 cX6_whence (zMB 3 (some .int) 5 (zI r w')) 0 [some (.ref 0), some (.int p1), some (.int p2)] [] w
  unfold fX6_whence at h
  refine zs_iload_n dX6_whence_0 rfl ?_
  obtain ⟨v2, e1, h⟩ := zbind h
  refine zc_S1i moX6_isKind mvX6_isKind kX6_130 dX6_whence_1 (Nat.le_of_ble_eq_true rfl) (zrm (by decide)) (tX6_isKind e1) ?_
  refine zs_if_eq 18 dX6_whence_4 rfl (fun c16 => ?_) (fun c16 => ?_)
  · replace h := zite_t c16 h
    refine zs_aload_n dX6_whence_18 rfl ?_
    refine zs_ldc kX6_51 dX6_whence_19 ?_
    obtain ⟨v4, w5, e3, h⟩ := zb2_inv h
    refine zc_V1i moX6_finding mvX6_finding kX6_52 rfl dX6_whence_21 za_0 (Nat.le_of_ble_eq_true rfl) (zrm (by decide)) (tX6_finding e3) ?_
    obtain ⟨rfl, rfl⟩ := zpi2 h
    exact zs_iret dX6_whence_24 ⟨rfl, rfl⟩
  · replace h := zite_f c16 h
    refine zs_aload_n dX6_whence_7 rfl ?_
    refine gX6_10 dX6_whence_8 ?_
    refine zs_iload_n dX6_whence_11 rfl ?_
    obtain ⟨v7, e6, h⟩ := zbind h
    refine zc_V1i moX0_hasVillage mvX0_hasVillage kX6_65 rfl dX6_whence_12 (za_L zl_10) (Nat.le_of_ble_eq_true rfl) (zrm (by decide)) (tX0_hasVillage zl_10 e6) ?_
    refine zs_if_ne 25 dX6_whence_15 rfl (fun c15 => ?_) (fun c15 => ?_)
    · replace h := zite_f c15 h
      refine zs_aload_n dX6_whence_25 rfl ?_
      refine gX6_25 dX6_whence_26 ?_
      refine zs_aload_n dX6_whence_29 rfl ?_
      refine gX6_10 dX6_whence_30 ?_
      refine zs_iload_n dX6_whence_33 rfl ?_
      obtain ⟨w9, e8, h⟩ := zbind h
      refine zc_V2v moX5_layOut mvX5_layOut kX6_146 rfl dX6_whence_34 za_40 (Nat.le_of_ble_eq_true rfl) (zrm (by decide)) (tX5_layOut zl_10 e8) ?_
      refine zs_aload_n dX6_whence_37 rfl ?_
      refine gX6_25 dX6_whence_38 ?_
      refine zs_iload_n dX6_whence_41 rfl ?_
      obtain ⟨v11, e10, h⟩ := zbind h
      refine zc_V1i moX5_allInto mvX5_allInto kX6_162 rfl dX6_whence_42 za_40 (Nat.le_of_ble_eq_true rfl) (zrm (by decide)) (tX5_allInto e10) ?_
      obtain ⟨rfl, rfl⟩ := zpi2 h
      exact zs_iret dX6_whence_45 ⟨rfl, rfl⟩
    · replace h := zite_t c15 h
      refine zs_aload_n dX6_whence_18 rfl ?_
      refine zs_ldc kX6_51 dX6_whence_19 ?_
      obtain ⟨v13, w14, e12, h⟩ := zb2_inv h
      refine zc_V1i moX6_finding mvX6_finding kX6_52 rfl dX6_whence_21 za_0 (Nat.le_of_ble_eq_true rfl) (zrm (by decide)) (tX6_finding e12) ?_
      obtain ⟨rfl, rfl⟩ := zpi2 h
      exact zs_iret dX6_whence_24 ⟨rfl, rfl⟩
def fX6_wipe (w : zW)  : Option (Int32 × zW) := Option.bind (some ((w.1 43 1))) fun x1 => Option.bind (some (zsf w 43 1 (0 : Int32))) fun w3 => some (x1, w3)
set_option maxRecDepth 100000 in
theorem tX6_wipe {w : zW}   {r : Int32} {w' : zW} (h : fX6_wipe w  = some (r, w')) : zRun yX6_wipe cX6_wipe 2 (some .int) 0 [.ref 0] w (zI r w') := by
  refine zRun.of (k := 1) rfl rfl rfl ?_
  show zWP RX6 cX6_wipe (zMB 2 (some .int) 0 (zI r w')) 0 [some (.ref 0), none] [] w
  unfold fX6_wipe at h
  refine zs_aload_n dX6_wipe_0 rfl ?_
  refine gX6_32 dX6_wipe_1 ?_
  refine gX6_248 dX6_wipe_4 ?_
  obtain ⟨x1, e2, h⟩ := zbind h
  refine zs_nmi (Option.some.inj e2) ?_
  refine zs_istore_n [some (.ref 0), some (.int x1)] dX6_wipe_7 (Nat.le_of_ble_eq_true rfl) rfl rfl ?_
  refine zs_aload_n dX6_wipe_8 rfl ?_
  refine gX6_32 dX6_wipe_9 ?_
  refine zs_iconst (0 : Int32) dX6_wipe_12 ziconst_0 ?_
  obtain ⟨w3, e4, h⟩ := zbind h
  refine pX6_248 dX6_wipe_13 ?_
  refine zs_nmw (Option.some.inj e4) ?_
  refine zs_iload_n dX6_wipe_16 rfl ?_
  obtain ⟨rfl, rfl⟩ := zpi2 h
  exact zs_iret dX6_wipe_17 ⟨rfl, rfl⟩
def fX6_write (w : zW) (p1 : Int32) (p2 : Int32) (p3 : Int64) : Option (Int64 × zW) := zbo (fX6_sheetAt w p1) (zb2 (fX6_finding w (-1000000001 : Int32)) fun v5 w6 => some (((v5).toInt64), w6)) fun o2 => (Option.bind (fX3_isMissing w o2) fun v8 => (if v8 = 0 then (Option.bind (fX3_has w o2 p2) fun v10 => (if v10 = 0 then (zb2 (fX6_finding w (-1000000001 : Int32)) fun v16 w17 => some (((v16).toInt64), w17)) else (Option.bind (fX3_number w o2 p2) fun v12 => Option.bind (fX3_put w o2 p2 p3) fun w14 => some (v12, w14)))) else (zb2 (fX6_finding w (-1000000006 : Int32)) fun v20 w21 => some (((v20).toInt64), w21))))
set_option maxRecDepth 100000 in
theorem tX6_write {w : zW} {p1 : Int32} {p2 : Int32} {p3 : Int64}  {r : Int64} {w' : zW} (h : fX6_write w p1 p2 p3 = some (r, w')) : zRun yX6_write cX6_write 8 (some .long) 2 [.ref 0, .int p1, .int p2, .long p3] w (zJ r w') := by
  refine zRun.of (k := 3) rfl rfl rfl ?_
  show zWP RX6 cX6_write (zMB 8 (some .long) 2 (zJ r w')) 0 [some (.ref 0), some (.int p1), some (.int p2), some (.long p3), none, none, none, none] [] w
  unfold fX6_write at h
  refine zs_aload_n dX6_write_0 rfl ?_
  refine zs_iload_n dX6_write_1 rfl ?_
  rcases zbo_inv h with ⟨e1, h⟩ | ⟨o2, e1, h⟩
  · refine zc_V1n moX6_sheetAt mvX6_sheetAt kX6_261 rfl dX6_write_2 za_0 (Nat.le_of_ble_eq_true rfl) (zrm (by decide)) (tX6_sheetAt e1) ?_
    refine zs_astoreN [some (.ref 0), some (.int p1), some (.int p2), some (.long p3), none, some (.null), none, none] dX6_write_5 (Nat.le_of_ble_eq_true rfl) rfl rfl ?_
    refine zs_aloadN dX6_write_7 rfl ?_
    refine zs_ifnonnullN dX6_write_9 ?_
    refine zs_aload_n dX6_write_12 rfl ?_
    refine zs_ldc kX6_51 dX6_write_13 ?_
    obtain ⟨v5, w6, e4, h⟩ := zb2_inv h
    refine zc_V1i moX6_finding mvX6_finding kX6_52 rfl dX6_write_15 za_0 (Nat.le_of_ble_eq_true rfl) (zrm (by decide)) (tX6_finding e4) ?_
    refine zs_i2l dX6_write_18 ?_
    obtain ⟨rfl, rfl⟩ := zpi2 h
    exact zs_lret dX6_write_19 ⟨rfl, rfl⟩
  · have h3 : zIsSheet o2 := fX6_sheetAt_ok e1
    refine zc_V1r moX6_sheetAt mvX6_sheetAt kX6_261 rfl dX6_write_2 za_0 (Nat.le_of_ble_eq_true rfl) (zrm (by decide)) (tX6_sheetAt e1) ?_
    refine zs_astore [some (.ref 0), some (.int p1), some (.int p2), some (.long p3), none, some (.ref o2), none, none] dX6_write_5 (Nat.le_of_ble_eq_true rfl) rfl rfl ?_
    refine zs_aload dX6_write_7 rfl ?_
    refine zs_ifnonnull 20 dX6_write_9 rfl ?_
    refine zs_aload dX6_write_20 rfl ?_
    obtain ⟨v8, e7, h⟩ := zbind h
    refine zc_V0i moX3_isMissing mvX3_isMissing kX6_275 rfl dX6_write_22 (za_S h3) (Nat.le_of_ble_eq_true rfl) (zrm (by decide)) (tX3_isMissing h3 e7) ?_
    refine zs_if_eq 37 dX6_write_25 rfl (fun c22 => ?_) (fun c22 => ?_)
    · replace h := zite_t c22 h
      refine zs_aload dX6_write_37 rfl ?_
      refine zs_iload_n dX6_write_39 rfl ?_
      obtain ⟨v10, e9, h⟩ := zbind h
      refine zc_V1i moX3_has mvX3_has kX6_279 rfl dX6_write_40 (za_S h3) (Nat.le_of_ble_eq_true rfl) (zrm (by decide)) (tX3_has h3 e9) ?_
      refine zs_if_ne 54 dX6_write_43 rfl (fun c18 => ?_) (fun c18 => ?_)
      · replace h := zite_f c18 h
        refine zs_aload dX6_write_54 rfl ?_
        refine zs_iload_n dX6_write_56 rfl ?_
        obtain ⟨v12, e11, h⟩ := zbind h
        refine zc_V1j moX3_number mvX3_number kX6_282 rfl dX6_write_57 (za_S h3) (Nat.le_of_ble_eq_true rfl) (zrm (by decide)) (tX3_number h3 e11) ?_
        refine zs_lstore [some (.ref 0), some (.int p1), some (.int p2), some (.long p3), none, some (.ref o2), some (.long v12), none] dX6_write_60 (Nat.le_of_ble_eq_true rfl) rfl rfl ?_
        refine zs_aload dX6_write_62 rfl ?_
        refine zs_iload_n dX6_write_64 rfl ?_
        refine zs_lload_n dX6_write_65 rfl ?_
        obtain ⟨w14, e13, h⟩ := zbind h
        refine zc_V2v moX3_put mvX3_put kX6_286 rfl dX6_write_66 (za_S h3) (Nat.le_of_ble_eq_true rfl) (zrm (by decide)) (tX3_put h3 e13) ?_
        refine zs_lload dX6_write_69 rfl ?_
        obtain ⟨rfl, rfl⟩ := zpi2 h
        exact zs_lret dX6_write_71 ⟨rfl, rfl⟩
      · replace h := zite_t c18 h
        refine zs_aload_n dX6_write_46 rfl ?_
        refine zs_ldc kX6_51 dX6_write_47 ?_
        obtain ⟨v16, w17, e15, h⟩ := zb2_inv h
        refine zc_V1i moX6_finding mvX6_finding kX6_52 rfl dX6_write_49 za_0 (Nat.le_of_ble_eq_true rfl) (zrm (by decide)) (tX6_finding e15) ?_
        refine zs_i2l dX6_write_52 ?_
        obtain ⟨rfl, rfl⟩ := zpi2 h
        exact zs_lret dX6_write_53 ⟨rfl, rfl⟩
    · replace h := zite_f c22 h
      refine zs_aload_n dX6_write_28 rfl ?_
      refine zs_ldc_w kX6_278 dX6_write_29 ?_
      obtain ⟨v20, w21, e19, h⟩ := zb2_inv h
      refine zc_V1i moX6_finding mvX6_finding kX6_52 rfl dX6_write_32 za_0 (Nat.le_of_ble_eq_true rfl) (zrm (by decide)) (tX6_finding e19) ?_
      refine zs_i2l dX6_write_35 ?_
      obtain ⟨rfl, rfl⟩ := zpi2 h
      exact zs_lret dX6_write_36 ⟨rfl, rfl⟩
