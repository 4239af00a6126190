def fX7_end (w : zW) (p1 : Int32) (p2 : Int32) : Option Int32 := Option.bind (zrd w 61 151 (((29 : Int32) + ((3 : Int32) * p1)) + p2)) fun v1 => some v1
set_option maxRecDepth 100000 in
theorem tX7_end {w : zW} {p1 : Int32} {p2 : Int32}  {r : Int32} (h : fX7_end w p1 p2 = some r) : zRun yX7_end cX7_end 3 (some .int) 0 [.ref 60, .int p1, .int p2] w (zI r w) := by
  refine zRun.of (k := 0) rfl rfl rfl ?_
  show zWP RX7 cX7_end (zMB 3 (some .int) 0 (zI r w)) 0 [some (.ref 60), some (.int p1), some (.int p2)] [] w
  unfold fX7_end at h
  refine zs_aload_n dX7_end_0 rfl ?_
  refine gX7_7 dX7_end_1 ?_
  refine zs_bipush (29 : Int32) dX7_end_4 zbipush_29 ?_
  refine zs_iconst (3 : Int32) dX7_end_6 ziconst_3 ?_
  refine zs_iload_n dX7_end_7 rfl ?_
  refine zs_imul dX7_end_8 ?_
  refine zs_iadd dX7_end_9 ?_
  refine zs_iload_n dX7_end_10 rfl ?_
  refine zs_iadd dX7_end_11 ?_
  obtain ⟨v1, e2, h⟩ := zbind h
  refine zs_iald dX7_end_12 za_61 e2 ?_
  obtain rfl := Option.some.inj h
  exact zs_iret dX7_end_13 ⟨rfl, rfl⟩
def lpX7_between_5 (w : zW) (p1 : Int32) (p2 : Int32) : Nat → Int32 → Int32 → Option Int32
  | 0, _, _ => none
  | n + 1, x1, x2 => Option.bind (zrd w 61 151 (1 : Int32)) fun v4 => (if v4 ≤ x2 then (some x1) else (Option.bind (fX7_end w x2 (0 : Int32)) fun v7 => Option.bind (if v7 = p1 then (Option.bind (fX7_end w x2 (1 : Int32)) fun v33 => (if v33 = p2 then (some x2) else (Option.bind (fX7_end w x2 (0 : Int32)) fun v35 => (if v35 = p2 then (Option.bind (fX7_end w x2 (1 : Int32)) fun v37 => (if v37 = p1 then (some x2) else (some x1))) else (some x1))))) else (Option.bind (fX7_end w x2 (0 : Int32)) fun v27 => (if v27 = p2 then (Option.bind (fX7_end w x2 (1 : Int32)) fun v29 => (if v29 = p1 then (some x2) else (some x1))) else (some x1)))) fun x23 => lpX7_between_5 w p1 p2 n x23 (x2 + 1)))
def fX7_between (w : zW) (p1 : Int32) (p2 : Int32) : Option Int32 := Option.bind (lpX7_between_5 w p1 p2 zF (-1 : Int32) (0 : Int32)) fun y45 => some y45
set_option maxRecDepth 100000 in
theorem tlX7_between_5 {w : zW} {p1 : Int32} {p2 : Int32}  {Q : Option Value → zW → Prop} : ∀ (n : Nat) (x1 : Int32) (x2 : Int32) (y3 : Int32), lpX7_between_5 w p1 p2 n x1 x2 = some y3 → zWP RX7 cX7_between (zMB 5 (some .int) 1 Q) 73 [none, none, none, some (.int y3), none] [] w → zWP RX7 cX7_between (zMB 5 (some .int) 1 Q) 5 [some (.ref 60), some (.int p1), some (.int p2), some (.int x1), some (.int x2)] [] w := by
  intro n
  induction n with
  | zero => intro x1 x2 y3 h K; simp [lpX7_between_5] at h
  | succ n ih =>
    intro x1 x2 y3 h K
    rw [lpX7_between_5] at h
    refine zs_iload dX7_between_5 rfl ?_
    refine zs_aload_n dX7_between_7 rfl ?_
    refine gX7_7 dX7_between_8 ?_
    refine zs_iconst (1 : Int32) dX7_between_11 ziconst_1 ?_
    obtain ⟨v4, e5, h⟩ := zbind h
    refine zs_iald dX7_between_12 za_61 e5 ?_
    refine zs_icmp_ge 73 dX7_between_13 rfl (fun c42 => ?_) (fun c42 => ?_)
    · replace h := zite_t c42 h
      refine zs_fo [false, false, false, true, false] rfl ?_
      obtain rfl := Option.some.inj h
      exact K
    · replace h := zite_f c42 h
      refine zs_aload_n dX7_between_16 rfl ?_
      refine zs_iload dX7_between_17 rfl ?_
      refine zs_iconst (0 : Int32) dX7_between_19 ziconst_0 ?_
      obtain ⟨v7, e6, h⟩ := zbind h
      refine zc_V2i moX7_end mvX7_end kX7_58 rfl dX7_between_20 za_60 (Nat.le_of_ble_eq_true rfl) (zrm (by decide)) (tX7_end e6) ?_
      refine zs_iload_n dX7_between_23 rfl ?_
      obtain ⟨x23, m25, h⟩ := zbind h
      have K24 : zWP RX7 cX7_between (zMB 5 (some .int) 1 Q) 66 [some (.ref 60), some (.int p1), some (.int p2), none, some (.int x2)] [.int x23] w := by
        refine zs_istore_n [some (.ref 60), some (.int p1), some (.int p2), some (.int x23), some (.int x2)] dX7_between_66 (Nat.le_of_ble_eq_true rfl) rfl rfl ?_
        refine zs_iinc (x2 + 1) [some (.ref 60), some (.int p1), some (.int p2), some (.int x23), some (.int (x2 + 1))] dX7_between_67 rfl rfl (Nat.le_of_ble_eq_true rfl) rfl rfl ?_
        refine zs_goto 5 dX7_between_70 rfl ?_
        exact ih _ _ _ h K
      refine zs_icmp_ne 38 dX7_between_24 rfl (fun c41 => ?_) (fun c41 => ?_)
      · replace m25 := zite_f c41 m25
        refine zs_aload_n dX7_between_38 rfl ?_
        refine zs_iload dX7_between_39 rfl ?_
        refine zs_iconst (0 : Int32) dX7_between_41 ziconst_0 ?_
        obtain ⟨v27, e26, m25⟩ := zbind m25
        refine zc_V2i moX7_end mvX7_end kX7_58 rfl dX7_between_42 za_60 (Nat.le_of_ble_eq_true rfl) (zrm (by decide)) (tX7_end e26) ?_
        refine zs_iload_n dX7_between_45 rfl ?_
        refine zs_icmp_ne 65 dX7_between_46 rfl (fun c31 => ?_) (fun c31 => ?_)
        · replace m25 := zite_f c31 m25
          refine zs_iload_n dX7_between_65 rfl ?_
          refine zs_fo [true, true, true, false, true] rfl ?_
          obtain rfl := Option.some.inj m25
          exact K24
        · replace m25 := zite_t c31 m25
          refine zs_aload_n dX7_between_49 rfl ?_
          refine zs_iload dX7_between_50 rfl ?_
          refine zs_iconst (1 : Int32) dX7_between_52 ziconst_1 ?_
          obtain ⟨v29, e28, m25⟩ := zbind m25
          refine zc_V2i moX7_end mvX7_end kX7_58 rfl dX7_between_53 za_60 (Nat.le_of_ble_eq_true rfl) (zrm (by decide)) (tX7_end e28) ?_
          refine zs_iload_n dX7_between_56 rfl ?_
          refine zs_icmp_ne 65 dX7_between_57 rfl (fun c30 => ?_) (fun c30 => ?_)
          · replace m25 := zite_f c30 m25
            refine zs_iload_n dX7_between_65 rfl ?_
            refine zs_fo [true, true, true, false, true] rfl ?_
            obtain rfl := Option.some.inj m25
            exact K24
          · replace m25 := zite_t c30 m25
            refine zs_iload dX7_between_60 rfl ?_
            refine zs_goto 66 dX7_between_62 rfl ?_
            refine zs_fo [true, true, true, false, true] rfl ?_
            obtain rfl := Option.some.inj m25
            exact K24
      · replace m25 := zite_t c41 m25
        refine zs_aload_n dX7_between_27 rfl ?_
        refine zs_iload dX7_between_28 rfl ?_
        refine zs_iconst (1 : Int32) dX7_between_30 ziconst_1 ?_
        obtain ⟨v33, e32, m25⟩ := zbind m25
        refine zc_V2i moX7_end mvX7_end kX7_58 rfl dX7_between_31 za_60 (Nat.le_of_ble_eq_true rfl) (zrm (by decide)) (tX7_end e32) ?_
        refine zs_iload_n dX7_between_34 rfl ?_
        refine zs_icmp_eq 60 dX7_between_35 rfl (fun c40 => ?_) (fun c40 => ?_)
        · replace m25 := zite_t c40 m25
          refine zs_iload dX7_between_60 rfl ?_
          refine zs_goto 66 dX7_between_62 rfl ?_
          refine zs_fo [true, true, true, false, true] rfl ?_
          obtain rfl := Option.some.inj m25
          exact K24
        · replace m25 := zite_f c40 m25
          refine zs_aload_n dX7_between_38 rfl ?_
          refine zs_iload dX7_between_39 rfl ?_
          refine zs_iconst (0 : Int32) dX7_between_41 ziconst_0 ?_
          obtain ⟨v35, e34, m25⟩ := zbind m25
          refine zc_V2i moX7_end mvX7_end kX7_58 rfl dX7_between_42 za_60 (Nat.le_of_ble_eq_true rfl) (zrm (by decide)) (tX7_end e34) ?_
          refine zs_iload_n dX7_between_45 rfl ?_
          refine zs_icmp_ne 65 dX7_between_46 rfl (fun c39 => ?_) (fun c39 => ?_)
          · replace m25 := zite_f c39 m25
            refine zs_iload_n dX7_between_65 rfl ?_
            refine zs_fo [true, true, true, false, true] rfl ?_
            obtain rfl := Option.some.inj m25
            exact K24
          · replace m25 := zite_t c39 m25
            refine zs_aload_n dX7_between_49 rfl ?_
            refine zs_iload dX7_between_50 rfl ?_
            refine zs_iconst (1 : Int32) dX7_between_52 ziconst_1 ?_
            obtain ⟨v37, e36, m25⟩ := zbind m25
            refine zc_V2i moX7_end mvX7_end kX7_58 rfl dX7_between_53 za_60 (Nat.le_of_ble_eq_true rfl) (zrm (by decide)) (tX7_end e36) ?_
            refine zs_iload_n dX7_between_56 rfl ?_
            refine zs_icmp_ne 65 dX7_between_57 rfl (fun c38 => ?_) (fun c38 => ?_)
            · replace m25 := zite_f c38 m25
              refine zs_iload_n dX7_between_65 rfl ?_
              refine zs_fo [true, true, true, false, true] rfl ?_
              obtain rfl := Option.some.inj m25
              exact K24
            · replace m25 := zite_t c38 m25
              refine zs_iload dX7_between_60 rfl ?_
              refine zs_goto 66 dX7_between_62 rfl ?_
              refine zs_fo [true, true, true, false, true] rfl ?_
              obtain rfl := Option.some.inj m25
              exact K24
set_option maxRecDepth 100000 in
theorem tX7_between {w : zW} {p1 : Int32} {p2 : Int32}  {r : Int32} (h : fX7_between w p1 p2 = some r) : zRun yX7_between cX7_between 5 (some .int) 1 [.ref 60, .int p1, .int p2] w (zI r w) := by
  refine zRun.of (k := 2) rfl rfl rfl ?_
  show zWP RX7 cX7_between (zMB 5 (some .int) 1 (zI r w)) 0 [some (.ref 60), some (.int p1), some (.int p2), none, none] [] w
  unfold fX7_between at h
  refine zs_iconst (-1 : Int32) dX7_between_0 ziconst_m1 ?_
  refine zs_istore_n [some (.ref 60), some (.int p1), some (.int p2), some (.int (-1 : Int32)), none] dX7_between_1 (Nat.le_of_ble_eq_true rfl) rfl rfl ?_
  refine zs_iconst (0 : Int32) dX7_between_2 ziconst_0 ?_
  refine zs_istore [some (.ref 60), some (.int p1), some (.int p2), some (.int (-1 : Int32)), some (.int (0 : Int32))] dX7_between_3 (Nat.le_of_ble_eq_true rfl) rfl rfl ?_
  obtain ⟨y45, e43, h⟩ := zbind h
  have K44 : zWP RX7 cX7_between (zMB 5 (some .int) 1 (zI r w)) 73 [none, none, none, some (.int y45), none] [] w := by
    refine zs_iload_n dX7_between_73 rfl ?_
    obtain rfl := Option.some.inj h
    exact zs_iret dX7_between_74 ⟨rfl, rfl⟩
  exact tlX7_between_5  zF _ _ _ e43 K44
def fX7_isHermits (w : zW) (p1 : Int32) : Option Int32 := Option.bind (zrd w 61 151 (((5 : Int32) + ((2 : Int32) * p1)) + (1 : Int32))) fun v1 => (if v1 = (1 : Int32) then (some (1 : Int32)) else (some (0 : Int32)))
set_option maxRecDepth 100000 in
theorem tX7_isHermits {w : zW} {p1 : Int32}  {r : Int32} (h : fX7_isHermits w p1 = some r) : zRun yX7_isHermits cX7_isHermits 2 (some .boolean) 0 [.ref 60, .int p1] w (zI r w) := by
  refine zRun.of (k := 0) rfl rfl rfl ?_
  show zWP RX7 cX7_isHermits (zMB 2 (some .boolean) 0 (zI r w)) 0 [some (.ref 60), some (.int p1)] [] w
  unfold fX7_isHermits at h
  refine zs_aload_n dX7_isHermits_0 rfl ?_
  refine gX7_7 dX7_isHermits_1 ?_
  refine zs_iconst (5 : Int32) dX7_isHermits_4 ziconst_5 ?_
  refine zs_iconst (2 : Int32) dX7_isHermits_5 ziconst_2 ?_
  refine zs_iload_n dX7_isHermits_6 rfl ?_
  refine zs_imul dX7_isHermits_7 ?_
  refine zs_iadd dX7_isHermits_8 ?_
  refine zs_iconst (1 : Int32) dX7_isHermits_9 ziconst_1 ?_
  refine zs_iadd dX7_isHermits_10 ?_
  obtain ⟨v1, e2, h⟩ := zbind h
  refine zs_iald dX7_isHermits_11 za_61 e2 ?_
  refine zs_iconst (1 : Int32) dX7_isHermits_12 ziconst_1 ?_
  refine zs_icmp_ne 20 dX7_isHermits_13 rfl (fun c3 => ?_) (fun c3 => ?_)
  · replace h := zite_f c3 h
    refine zs_iconst (0 : Int32) dX7_isHermits_20 ziconst_0 ?_
    obtain rfl := Option.some.inj h
    exact zs_bret dX7_isHermits_21 (Or.inl rfl) ⟨rfl, rfl⟩
  · replace h := zite_t c3 h
    refine zs_iconst (1 : Int32) dX7_isHermits_16 ziconst_1 ?_
    refine zs_goto 21 dX7_isHermits_17 rfl ?_
    obtain rfl := Option.some.inj h
    exact zs_bret dX7_isHermits_21 (Or.inr rfl) ⟨rfl, rfl⟩
def fX7_height (w : zW) (p1 : Int32) : Option Int32 := Option.bind (zrd w 61 151 ((5 : Int32) + ((2 : Int32) * p1))) fun v1 => some v1
set_option maxRecDepth 100000 in
theorem tX7_height {w : zW} {p1 : Int32}  {r : Int32} (h : fX7_height w p1 = some r) : zRun yX7_height cX7_height 2 (some .int) 0 [.ref 60, .int p1] w (zI r w) := by
  refine zRun.of (k := 0) rfl rfl rfl ?_
  show zWP RX7 cX7_height (zMB 2 (some .int) 0 (zI r w)) 0 [some (.ref 60), some (.int p1)] [] w
  unfold fX7_height at h
  refine zs_aload_n dX7_height_0 rfl ?_
  refine gX7_7 dX7_height_1 ?_
  refine zs_iconst (5 : Int32) dX7_height_4 ziconst_5 ?_
  refine zs_iconst (2 : Int32) dX7_height_5 ziconst_2 ?_
  refine zs_iload_n dX7_height_6 rfl ?_
  refine zs_imul dX7_height_7 ?_
  refine zs_iadd dX7_height_8 ?_
  obtain ⟨v1, e2, h⟩ := zbind h
  refine zs_iald dX7_height_9 za_61 e2 ?_
  obtain rfl := Option.some.inj h
  exact zs_iret dX7_height_10 ⟨rfl, rfl⟩
def lpX7_thePeak_4 (w : zW) : Nat → Int32 → Int32 → Option Int32
  | 0, _, _ => none
  | n + 1, x1, x2 => Option.bind (zrd w 61 151 (0 : Int32)) fun v4 => (if v4 ≤ x2 then (some x1) else (Option.bind (fX7_height w x2) fun v7 => Option.bind (fX7_height w x1) fun v9 => Option.bind (if v7 ≤ v9 then (some x1) else (some x2)) fun x10 => lpX7_thePeak_4 w n x10 (x2 + 1)))
def fX7_thePeak (w : zW)  : Option Int32 := Option.bind (lpX7_thePeak_4 w zF (0 : Int32) (1 : Int32)) fun y17 => some y17
set_option maxRecDepth 100000 in
theorem tlX7_thePeak_4 {w : zW}  {Q : Option Value → zW → Prop} : ∀ (n : Nat) (x1 : Int32) (x2 : Int32) (y3 : Int32), lpX7_thePeak_4 w n x1 x2 = some y3 → zWP RX7 cX7_thePeak (zMB 3 (some .int) 1 Q) 39 [none, some (.int y3), none] [] w → zWP RX7 cX7_thePeak (zMB 3 (some .int) 1 Q) 4 [some (.ref 60), some (.int x1), some (.int x2)] [] w := by
  intro n
  induction n with
  | zero => intro x1 x2 y3 h K; simp [lpX7_thePeak_4] at h
  | succ n ih =>
    intro x1 x2 y3 h K
    rw [lpX7_thePeak_4] at h
    refine zs_iload_n dX7_thePeak_4 rfl ?_
    refine zs_aload_n dX7_thePeak_5 rfl ?_
    refine gX7_7 dX7_thePeak_6 ?_
    refine zs_iconst (0 : Int32) dX7_thePeak_9 ziconst_0 ?_
    obtain ⟨v4, e5, h⟩ := zbind h
    refine zs_iald dX7_thePeak_10 za_61 e5 ?_
    refine zs_icmp_ge 39 dX7_thePeak_11 rfl (fun c14 => ?_) (fun c14 => ?_)
    · replace h := zite_t c14 h
      refine zs_fo [false, true, false] rfl ?_
      obtain rfl := Option.some.inj h
      exact K
    · replace h := zite_f c14 h
      refine zs_aload_n dX7_thePeak_14 rfl ?_
      refine zs_iload_n dX7_thePeak_15 rfl ?_
      obtain ⟨v7, e6, h⟩ := zbind h
      refine zc_V1i moX7_height mvX7_height kX7_69 rfl dX7_thePeak_16 za_60 (Nat.le_of_ble_eq_true rfl) (zrm (by decide)) (tX7_height e6) ?_
      refine zs_aload_n dX7_thePeak_19 rfl ?_
      refine zs_iload_n dX7_thePeak_20 rfl ?_
      obtain ⟨v9, e8, h⟩ := zbind h
      refine zc_V1i moX7_height mvX7_height kX7_69 rfl dX7_thePeak_21 za_60 (Nat.le_of_ble_eq_true rfl) (zrm (by decide)) (tX7_height e8) ?_
      obtain ⟨x10, m12, h⟩ := zbind h
      have K11 : zWP RX7 cX7_thePeak (zMB 3 (some .int) 1 Q) 32 [some (.ref 60), none, some (.int x2)] [.int x10] w := by
        refine zs_istore_n [some (.ref 60), some (.int x10), some (.int x2)] dX7_thePeak_32 (Nat.le_of_ble_eq_true rfl) rfl rfl ?_
        refine zs_iinc (x2 + 1) [some (.ref 60), some (.int x10), some (.int (x2 + 1))] dX7_thePeak_33 rfl rfl (Nat.le_of_ble_eq_true rfl) rfl rfl ?_
        refine zs_goto 4 dX7_thePeak_36 rfl ?_
        exact ih _ _ _ h K
      refine zs_icmp_le 31 dX7_thePeak_24 rfl (fun c13 => ?_) (fun c13 => ?_)
      · replace m12 := zite_t c13 m12
        refine zs_iload_n dX7_thePeak_31 rfl ?_
        refine zs_fo [true, false, true] rfl ?_
        obtain rfl := Option.some.inj m12
        exact K11
      · replace m12 := zite_f c13 m12
        refine zs_iload_n dX7_thePeak_27 rfl ?_
        refine zs_goto 32 dX7_thePeak_28 rfl ?_
        refine zs_fo [true, false, true] rfl ?_
        obtain rfl := Option.some.inj m12
        exact K11
set_option maxRecDepth 100000 in
theorem tX7_thePeak {w : zW}   {r : Int32} (h : fX7_thePeak w  = some r) : zRun yX7_thePeak cX7_thePeak 3 (some .int) 1 [.ref 60] w (zI r w) := by
  refine zRun.of (k := 2) rfl rfl rfl ?_
  show zWP RX7 cX7_thePeak (zMB 3 (some .int) 1 (zI r w)) 0 [some (.ref 60), none, none] [] w
  unfold fX7_thePeak at h
  refine zs_iconst (0 : Int32) dX7_thePeak_0 ziconst_0 ?_
  refine zs_istore_n [some (.ref 60), some (.int (0 : Int32)), none] dX7_thePeak_1 (Nat.le_of_ble_eq_true rfl) rfl rfl ?_
  refine zs_iconst (1 : Int32) dX7_thePeak_2 ziconst_1 ?_
  refine zs_istore_n [some (.ref 60), some (.int (0 : Int32)), some (.int (1 : Int32))] dX7_thePeak_3 (Nat.le_of_ble_eq_true rfl) rfl rfl ?_
  obtain ⟨y17, e15, h⟩ := zbind h
  have K16 : zWP RX7 cX7_thePeak (zMB 3 (some .int) 1 (zI r w)) 39 [none, some (.int y17), none] [] w := by
    refine zs_iload_n dX7_thePeak_39 rfl ?_
    obtain rfl := Option.some.inj h
    exact zs_iret dX7_thePeak_40 ⟨rfl, rfl⟩
  exact tlX7_thePeak_4  zF _ _ _ e15 K16
def fX7_flies (w : zW) (p1 : Int32) : Option Int32 := (if p1 = (5 : Int32) then (some (0 : Int32)) else ((if p1 = (4 : Int32) then (Option.bind (fX7_thePeak w) fun v2 => Option.bind (fX7_isHermits w v2) fun v4 => (if v4 = 0 then (some (1 : Int32)) else (some (0 : Int32)))) else (some (1 : Int32)))))
set_option maxRecDepth 100000 in
theorem tX7_flies {w : zW} {p1 : Int32}  {r : Int32} (h : fX7_flies w p1 = some r) : zRun yX7_flies cX7_flies 2 (some .boolean) 2 [.ref 60, .int p1] w (zI r w) := by
  refine zRun.of (k := 0) rfl rfl rfl ?_
  show zWP RX7 cX7_flies (zMB 2 (some .boolean) 2 (zI r w)) 0 [some (.ref 60), some (.int p1)] [] w
  unfold fX7_flies at h
  refine zs_iload_n dX7_flies_0 rfl ?_
  refine zs_iconst (5 : Int32) dX7_flies_1 ziconst_5 ?_
  refine zs_icmp_eq 25 dX7_flies_2 rfl (fun c7 => ?_) (fun c7 => ?_)
  · replace h := zite_t c7 h
    refine zs_iconst (0 : Int32) dX7_flies_25 ziconst_0 ?_
    obtain rfl := Option.some.inj h
    exact zs_bret dX7_flies_26 (Or.inl rfl) ⟨rfl, rfl⟩
  · replace h := zite_f c7 h
    refine zs_iload_n dX7_flies_5 rfl ?_
    refine zs_iconst (4 : Int32) dX7_flies_6 ziconst_4 ?_
    refine zs_icmp_ne 21 dX7_flies_7 rfl (fun c6 => ?_) (fun c6 => ?_)
    · replace h := zite_f c6 h
      refine zs_iconst (1 : Int32) dX7_flies_21 ziconst_1 ?_
      refine zs_goto 26 dX7_flies_22 rfl ?_
      obtain rfl := Option.some.inj h
      exact zs_bret dX7_flies_26 (Or.inr rfl) ⟨rfl, rfl⟩
    · replace h := zite_t c6 h
      refine zs_aload_n dX7_flies_10 rfl ?_
      refine zs_aload_n dX7_flies_11 rfl ?_
      obtain ⟨v2, e1, h⟩ := zbind h
      refine zc_V0i moX7_thePeak mvX7_thePeak kX7_97 rfl dX7_flies_12 za_60 (Nat.le_of_ble_eq_true rfl) (zrm (by decide)) (tX7_thePeak e1) ?_
      obtain ⟨v4, e3, h⟩ := zbind h
      refine zc_V1i moX7_isHermits mvX7_isHermits kX7_78 rfl dX7_flies_15 za_60 (Nat.le_of_ble_eq_true rfl) (zrm (by decide)) (tX7_isHermits e3) ?_
      refine zs_if_ne 25 dX7_flies_18 rfl (fun c5 => ?_) (fun c5 => ?_)
      · replace h := zite_f c5 h
        refine zs_iconst (0 : Int32) dX7_flies_25 ziconst_0 ?_
        obtain rfl := Option.some.inj h
        exact zs_bret dX7_flies_26 (Or.inl rfl) ⟨rfl, rfl⟩
      · replace h := zite_t c5 h
        refine zs_iconst (1 : Int32) dX7_flies_21 ziconst_1 ?_
        refine zs_goto 26 dX7_flies_22 rfl ?_
        obtain rfl := Option.some.inj h
        exact zs_bret dX7_flies_26 (Or.inr rfl) ⟨rfl, rfl⟩
def lpX7_theSea_4 (w : zW) : Nat → Int32 → Int32 → Option Int32
  | 0, _, _ => none
  | n + 1, x1, x2 => Option.bind (zrd w 61 151 (0 : Int32)) fun v4 => (if v4 ≤ x2 then (some x1) else (Option.bind (fX7_height w x2) fun v7 => Option.bind (fX7_height w x1) fun v9 => Option.bind (if v9 ≤ v7 then (some x1) else (some x2)) fun x10 => lpX7_theSea_4 w n x10 (x2 + 1)))
def fX7_theSea (w : zW)  : Option Int32 := Option.bind (lpX7_theSea_4 w zF (0 : Int32) (1 : Int32)) fun y17 => some y17
set_option maxRecDepth 100000 in
theorem tlX7_theSea_4 {w : zW}  {Q : Option Value → zW → Prop} : ∀ (n : Nat) (x1 : Int32) (x2 : Int32) (y3 : Int32), lpX7_theSea_4 w n x1 x2 = some y3 → zWP RX7 cX7_theSea (zMB 3 (some .int) 1 Q) 39 [none, some (.int y3), none] [] w → zWP RX7 cX7_theSea (zMB 3 (some .int) 1 Q) 4 [some (.ref 60), some (.int x1), some (.int x2)] [] w := by
  intro n
  induction n with
  | zero => intro x1 x2 y3 h K; simp [lpX7_theSea_4] at h
  | succ n ih =>
    intro x1 x2 y3 h K
    rw [lpX7_theSea_4] at h
    refine zs_iload_n dX7_theSea_4 rfl ?_
    refine zs_aload_n dX7_theSea_5 rfl ?_
    refine gX7_7 dX7_theSea_6 ?_
    refine zs_iconst (0 : Int32) dX7_theSea_9 ziconst_0 ?_
    obtain ⟨v4, e5, h⟩ := zbind h
    refine zs_iald dX7_theSea_10 za_61 e5 ?_
    refine zs_icmp_ge 39 dX7_theSea_11 rfl (fun c14 => ?_) (fun c14 => ?_)
    · replace h := zite_t c14 h
      refine zs_fo [false, true, false] rfl ?_
      obtain rfl := Option.some.inj h
      exact K
    · replace h := zite_f c14 h
      refine zs_aload_n dX7_theSea_14 rfl ?_
      refine zs_iload_n dX7_theSea_15 rfl ?_
      obtain ⟨v7, e6, h⟩ := zbind h
      refine zc_V1i moX7_height mvX7_height kX7_69 rfl dX7_theSea_16 za_60 (Nat.le_of_ble_eq_true rfl) (zrm (by decide)) (tX7_height e6) ?_
      refine zs_aload_n dX7_theSea_19 rfl ?_
      refine zs_iload_n dX7_theSea_20 rfl ?_
      obtain ⟨v9, e8, h⟩ := zbind h
      refine zc_V1i moX7_height mvX7_height kX7_69 rfl dX7_theSea_21 za_60 (Nat.le_of_ble_eq_true rfl) (zrm (by decide)) (tX7_height e8) ?_
      obtain ⟨x10, m12, h⟩ := zbind h
      have K11 : zWP RX7 cX7_theSea (zMB 3 (some .int) 1 Q) 32 [some (.ref 60), none, some (.int x2)] [.int x10] w := by
        refine zs_istore_n [some (.ref 60), some (.int x10), some (.int x2)] dX7_theSea_32 (Nat.le_of_ble_eq_true rfl) rfl rfl ?_
        refine zs_iinc (x2 + 1) [some (.ref 60), some (.int x10), some (.int (x2 + 1))] dX7_theSea_33 rfl rfl (Nat.le_of_ble_eq_true rfl) rfl rfl ?_
        refine zs_goto 4 dX7_theSea_36 rfl ?_
        exact ih _ _ _ h K
      refine zs_icmp_ge 31 dX7_theSea_24 rfl (fun c13 => ?_) (fun c13 => ?_)
      · replace m12 := zite_t c13 m12
        refine zs_iload_n dX7_theSea_31 rfl ?_
        refine zs_fo [true, false, true] rfl ?_
        obtain rfl := Option.some.inj m12
        exact K11
      · replace m12 := zite_f c13 m12
        refine zs_iload_n dX7_theSea_27 rfl ?_
        refine zs_goto 32 dX7_theSea_28 rfl ?_
        refine zs_fo [true, false, true] rfl ?_
        obtain rfl := Option.some.inj m12
        exact K11
set_option maxRecDepth 100000 in
theorem tX7_theSea {w : zW}   {r : Int32} (h : fX7_theSea w  = some r) : zRun yX7_theSea cX7_theSea 3 (some .int) 1 [.ref 60] w (zI r w) := by
  refine zRun.of (k := 2) rfl rfl rfl ?_
  show zWP RX7 cX7_theSea (zMB 3 (some .int) 1 (zI r w)) 0 [some (.ref 60), none, none] [] w
  unfold fX7_theSea at h
  refine zs_iconst (0 : Int32) dX7_theSea_0 ziconst_0 ?_
  refine zs_istore_n [some (.ref 60), some (.int (0 : Int32)), none] dX7_theSea_1 (Nat.le_of_ble_eq_true rfl) rfl rfl ?_
  refine zs_iconst (1 : Int32) dX7_theSea_2 ziconst_1 ?_
  refine zs_istore_n [some (.ref 60), some (.int (0 : Int32)), some (.int (1 : Int32))] dX7_theSea_3 (Nat.le_of_ble_eq_true rfl) rfl rfl ?_
  obtain ⟨y17, e15, h⟩ := zbind h
  have K16 : zWP RX7 cX7_theSea (zMB 3 (some .int) 1 (zI r w)) 39 [none, some (.int y17), none] [] w := by
    refine zs_iload_n dX7_theSea_39 rfl ?_
    obtain rfl := Option.some.inj h
    exact zs_iret dX7_theSea_40 ⟨rfl, rfl⟩
  exact tlX7_theSea_4  zF _ _ _ e15 K16
def fX7_takesBalloon (w : zW)  : Option (Int32 × zW) := Option.bind (fX7_theSea w) fun v2 => Option.bind (fX7_thePeak w) fun v4 => Option.bind (zrd w 63 12 v2) fun v5 => (if v5 = (1000000000 : Int32) then (some ((0 : Int32), w)) else (Option.bind (zrd w 63 12 v2) fun v7 => Option.bind (zrd w 61 151 (3 : Int32)) fun v9 => Option.bind (zrem v7 v9) fun v11 => Option.bind (zrd w 63 12 v2) fun v13 => Option.bind (if v11 = 0 then (some (0 : Int32)) else (Option.bind (zrd w 61 151 (3 : Int32)) fun v20 => some (v20 - v11))) fun x17 => Option.bind (some (((v13 + x17) + (1 : Int32)))) fun x22 => Option.bind (zrd w 63 12 v4) fun v24 => Option.bind (if v24 ≤ x22 then (some (0 : Int32)) else (some (1 : Int32))) fun x26 => Option.bind (if x26 = 0 then (Option.bind (zrd w 63 12 v4) fun v34 => some v34) else (some x22)) fun x31 => Option.bind (zwr w 63 12 v4 x31) fun w36 => Option.bind (zgb x26) fun b38 => some (b38, w36)))
set_option maxRecDepth 100000 in
theorem tX7_takesBalloon {w : zW}   {r : Int32} {w' : zW} (h : fX7_takesBalloon w  = some (r, w')) : zRun yX7_takesBalloon cX7_takesBalloon 6 (some .boolean) 2 [.ref 60] w (zI r w') := by
  refine zRun.of (k := 5) rfl rfl rfl ?_
  show zWP RX7 cX7_takesBalloon (zMB 6 (some .boolean) 2 (zI r w')) 0 [some (.ref 60), none, none, none, none, none] [] w
  unfold fX7_takesBalloon at h
  refine zs_aload_n dX7_takesBalloon_0 rfl ?_
  obtain ⟨v2, e1, h⟩ := zbind h
  refine zc_V0i moX7_theSea mvX7_theSea kX7_93 rfl dX7_takesBalloon_1 za_60 (Nat.le_of_ble_eq_true rfl) (zrm (by decide)) (tX7_theSea e1) ?_
  refine zs_istore_n [some (.ref 60), some (.int v2), none, none, none, none] dX7_takesBalloon_4 (Nat.le_of_ble_eq_true rfl) rfl rfl ?_
  refine zs_aload_n dX7_takesBalloon_5 rfl ?_
  obtain ⟨v4, e3, h⟩ := zbind h
  refine zc_V0i moX7_thePeak mvX7_thePeak kX7_97 rfl dX7_takesBalloon_6 za_60 (Nat.le_of_ble_eq_true rfl) (zrm (by decide)) (tX7_thePeak e3) ?_
  refine zs_istore_n [some (.ref 60), some (.int v2), some (.int v4), none, none, none] dX7_takesBalloon_9 (Nat.le_of_ble_eq_true rfl) rfl rfl ?_
  refine zs_aload_n dX7_takesBalloon_10 rfl ?_
  refine gX7_16 dX7_takesBalloon_11 ?_
  refine zs_iload_n dX7_takesBalloon_14 rfl ?_
  obtain ⟨v5, e6, h⟩ := zbind h
  refine zs_iald dX7_takesBalloon_15 za_63 e6 ?_
  refine zs_ldc kX7_109 dX7_takesBalloon_16 ?_
  refine zs_icmp_ne 23 dX7_takesBalloon_18 rfl (fun c43 => ?_) (fun c43 => ?_)
  · replace h := zite_f c43 h
    refine zs_aload_n dX7_takesBalloon_23 rfl ?_
    refine gX7_16 dX7_takesBalloon_24 ?_
    refine zs_iload_n dX7_takesBalloon_27 rfl ?_
    obtain ⟨v7, e8, h⟩ := zbind h
    refine zs_iald dX7_takesBalloon_28 za_63 e8 ?_
    refine zs_aload_n dX7_takesBalloon_29 rfl ?_
    refine gX7_7 dX7_takesBalloon_30 ?_
    refine zs_iconst (3 : Int32) dX7_takesBalloon_33 ziconst_3 ?_
    obtain ⟨v9, e10, h⟩ := zbind h
    refine zs_iald dX7_takesBalloon_34 za_61 e10 ?_
    obtain ⟨v11, e12, h⟩ := zbind h
    refine zs_irem dX7_takesBalloon_35 (zrem_inv e12).1 ?_
    refine zs_nmi (zrem_inv e12).2 ?_
    refine zs_istore_n [some (.ref 60), some (.int v2), some (.int v4), some (.int v11), none, none] dX7_takesBalloon_36 (Nat.le_of_ble_eq_true rfl) rfl rfl ?_
    refine zs_aload_n dX7_takesBalloon_37 rfl ?_
    refine gX7_16 dX7_takesBalloon_38 ?_
    refine zs_iload_n dX7_takesBalloon_41 rfl ?_
    obtain ⟨v13, e14, h⟩ := zbind h
    refine zs_iald dX7_takesBalloon_42 za_63 e14 ?_
    refine zs_iload_n dX7_takesBalloon_43 rfl ?_
    obtain ⟨x17, m19, h⟩ := zbind h
    have K18 : zWP RX7 cX7_takesBalloon (zMB 6 (some .boolean) 2 (zI r w')) 59 [some (.ref 60), none, some (.int v4), none, none, none] [.int x17, .int v13] w := by
      refine zs_iadd dX7_takesBalloon_59 ?_
      refine zs_iconst (1 : Int32) dX7_takesBalloon_60 ziconst_1 ?_
      refine zs_iadd dX7_takesBalloon_61 ?_
      obtain ⟨x22, e23, h⟩ := zbind h
      refine zs_nmi (Option.some.inj e23) ?_
      refine zs_istore [some (.ref 60), none, some (.int v4), none, some (.int x22), none] dX7_takesBalloon_62 (Nat.le_of_ble_eq_true rfl) rfl rfl ?_
      refine zs_iload dX7_takesBalloon_64 rfl ?_
      refine zs_aload_n dX7_takesBalloon_66 rfl ?_
      refine gX7_16 dX7_takesBalloon_67 ?_
      refine zs_iload_n dX7_takesBalloon_70 rfl ?_
      obtain ⟨v24, e25, h⟩ := zbind h
      refine zs_iald dX7_takesBalloon_71 za_63 e25 ?_
      obtain ⟨x26, m28, h⟩ := zbind h
      have K27 : zWP RX7 cX7_takesBalloon (zMB 6 (some .boolean) 2 (zI r w')) 80 [some (.ref 60), none, some (.int v4), none, some (.int x22), none] [.int x26] w := by
        refine zs_istore [some (.ref 60), none, some (.int v4), none, some (.int x22), some (.int x26)] dX7_takesBalloon_80 (Nat.le_of_ble_eq_true rfl) rfl rfl ?_
        refine zs_aload_n dX7_takesBalloon_82 rfl ?_
        refine gX7_16 dX7_takesBalloon_83 ?_
        refine zs_iload_n dX7_takesBalloon_86 rfl ?_
        refine zs_iload dX7_takesBalloon_87 rfl ?_
        obtain ⟨x31, m33, h⟩ := zbind h
        have K32 : zWP RX7 cX7_takesBalloon (zMB 6 (some .boolean) 2 (zI r w')) 103 [none, none, none, none, none, some (.int x26)] [.int x31, .int v4, .ref 63] w := by
          obtain ⟨w36, e37, h⟩ := zbind h
          refine zs_iast dX7_takesBalloon_103 za_63 e37 ?_
          refine zs_iload dX7_takesBalloon_104 rfl ?_
          obtain ⟨b38, e39, h⟩ := zbind h
          refine zs_nmi (zgb_inv e39).2 ?_
          obtain ⟨rfl, rfl⟩ := zpi2 h
          exact zs_bret dX7_takesBalloon_106 (by have q := zgb_inv e39; exact q.2 ▸ q.1) ⟨rfl, rfl⟩
        refine zs_if_eq 97 dX7_takesBalloon_89 rfl (fun c40 => ?_) (fun c40 => ?_)
        · replace m33 := zite_t c40 m33
          refine zs_aload_n dX7_takesBalloon_97 rfl ?_
          refine gX7_16 dX7_takesBalloon_98 ?_
          refine zs_iload_n dX7_takesBalloon_101 rfl ?_
          obtain ⟨v34, e35, m33⟩ := zbind m33
          refine zs_iald dX7_takesBalloon_102 za_63 e35 ?_
          refine zs_fo [false, false, false, false, false, true] rfl ?_
          obtain rfl := Option.some.inj m33
          exact K32
        · replace m33 := zite_f c40 m33
          refine zs_iload dX7_takesBalloon_92 rfl ?_
          refine zs_goto 103 dX7_takesBalloon_94 rfl ?_
          refine zs_fo [false, false, false, false, false, true] rfl ?_
          obtain rfl := Option.some.inj m33
          exact K32
      refine zs_icmp_ge 79 dX7_takesBalloon_72 rfl (fun c41 => ?_) (fun c41 => ?_)
      · replace m28 := zite_t c41 m28
        refine zs_iconst (0 : Int32) dX7_takesBalloon_79 ziconst_0 ?_
        obtain rfl := Option.some.inj m28
        exact K27
      · replace m28 := zite_f c41 m28
        refine zs_iconst (1 : Int32) dX7_takesBalloon_75 ziconst_1 ?_
        refine zs_goto 80 dX7_takesBalloon_76 rfl ?_
        obtain rfl := Option.some.inj m28
        exact K27
    refine zs_if_ne 51 dX7_takesBalloon_44 rfl (fun c42 => ?_) (fun c42 => ?_)
    · replace m19 := zite_f c42 m19
      refine zs_aload_n dX7_takesBalloon_51 rfl ?_
      refine gX7_7 dX7_takesBalloon_52 ?_
      refine zs_iconst (3 : Int32) dX7_takesBalloon_55 ziconst_3 ?_
      obtain ⟨v20, e21, m19⟩ := zbind m19
      refine zs_iald dX7_takesBalloon_56 za_61 e21 ?_
      refine zs_iload_n dX7_takesBalloon_57 rfl ?_
      refine zs_isub dX7_takesBalloon_58 ?_
      refine zs_fo [true, false, true, false, false, false] rfl ?_
      obtain rfl := Option.some.inj m19
      exact K18
    · replace m19 := zite_t c42 m19
      refine zs_iconst (0 : Int32) dX7_takesBalloon_47 ziconst_0 ?_
      refine zs_goto 59 dX7_takesBalloon_48 rfl ?_
      refine zs_fo [true, false, true, false, false, false] rfl ?_
      obtain rfl := Option.some.inj m19
      exact K18
  · replace h := zite_t c43 h
    refine zs_iconst (0 : Int32) dX7_takesBalloon_21 ziconst_0 ?_
    obtain ⟨rfl, rfl⟩ := zpi2 h
    exact zs_bret dX7_takesBalloon_22 (Or.inl rfl) ⟨rfl, rfl⟩
def fX7_goesDown (w : zW) (p1 : Int32) (p2 : Int32) (p3 : Int32) : Option Int32 := Option.bind (if p1 = (3 : Int32) then (some (1 : Int32)) else ((if p1 = (5 : Int32) then (some (1 : Int32)) else (some (0 : Int32))))) fun x2 => Option.bind (fX7_height w p3) fun v7 => Option.bind (fX7_height w p2) fun v9 => Option.bind (if v7 < v9 then (some (1 : Int32)) else ((if x2 = 0 then (some (0 : Int32)) else (Option.bind (fX7_height w p3) fun v20 => Option.bind (fX7_height w p2) fun v22 => (if v20 = v22 then (some (1 : Int32)) else (some (0 : Int32))))))) fun x16 => (if x16 = 0 then (some (0 : Int32)) else ((if p1 = (4 : Int32) then (Option.bind (fX7_isHermits w p3) fun v26 => (if v26 = 0 then (some (1 : Int32)) else (some (0 : Int32)))) else (some (1 : Int32)))))
set_option maxRecDepth 100000 in
theorem tX7_goesDown {w : zW} {p1 : Int32} {p2 : Int32} {p3 : Int32}  {r : Int32} (h : fX7_goesDown w p1 p2 p3 = some r) : zRun yX7_goesDown cX7_goesDown 6 (some .boolean) 1 [.ref 60, .int p1, .int p2, .int p3] w (zI r w) := by
  refine zRun.of (k := 2) rfl rfl rfl ?_
  show zWP RX7 cX7_goesDown (zMB 6 (some .boolean) 1 (zI r w)) 0 [some (.ref 60), some (.int p1), some (.int p2), some (.int p3), none, none] [] w
  unfold fX7_goesDown at h
  refine zs_iload_n dX7_goesDown_0 rfl ?_
  refine zs_iconst (3 : Int32) dX7_goesDown_1 ziconst_3 ?_
  obtain ⟨x2, m4, h⟩ := zbind h
  have K3 : zWP RX7 cX7_goesDown (zMB 6 (some .boolean) 1 (zI r w)) 15 [some (.ref 60), some (.int p1), some (.int p2), some (.int p3), none, none] [.int x2] w := by
    refine zs_istore [some (.ref 60), some (.int p1), some (.int p2), some (.int p3), some (.int x2), none] dX7_goesDown_15 (Nat.le_of_ble_eq_true rfl) rfl rfl ?_
    refine zs_aload_n dX7_goesDown_17 rfl ?_
    refine zs_iload_n dX7_goesDown_18 rfl ?_
    obtain ⟨v7, e6, h⟩ := zbind h
    refine zc_V1i moX7_height mvX7_height kX7_69 rfl dX7_goesDown_19 za_60 (Nat.le_of_ble_eq_true rfl) (zrm (by decide)) (tX7_height e6) ?_
    refine zs_aload_n dX7_goesDown_22 rfl ?_
    refine zs_iload_n dX7_goesDown_23 rfl ?_
    obtain ⟨v9, e8, h⟩ := zbind h
    refine zc_V1i moX7_height mvX7_height kX7_69 rfl dX7_goesDown_24 za_60 (Nat.le_of_ble_eq_true rfl) (zrm (by decide)) (tX7_height e8) ?_
    obtain ⟨x16, m18, h⟩ := zbind h
    have K17 : zWP RX7 cX7_goesDown (zMB 6 (some .boolean) 1 (zI r w)) 53 [some (.ref 60), some (.int p1), none, some (.int p3), none, none] [.int x16] w := by
      refine zs_istore [some (.ref 60), some (.int p1), none, some (.int p3), none, some (.int x16)] dX7_goesDown_53 (Nat.le_of_ble_eq_true rfl) rfl rfl ?_
      refine zs_iload dX7_goesDown_55 rfl ?_
      refine zs_if_eq 77 dX7_goesDown_57 rfl (fun c29 => ?_) (fun c29 => ?_)
      · replace h := zite_t c29 h
        refine zs_iconst (0 : Int32) dX7_goesDown_77 ziconst_0 ?_
        obtain rfl := Option.some.inj h
        exact zs_bret dX7_goesDown_78 (Or.inl rfl) ⟨rfl, rfl⟩
      · replace h := zite_f c29 h
        refine zs_iload_n dX7_goesDown_60 rfl ?_
        refine zs_iconst (4 : Int32) dX7_goesDown_61 ziconst_4 ?_
        refine zs_icmp_ne 73 dX7_goesDown_62 rfl (fun c28 => ?_) (fun c28 => ?_)
        · replace h := zite_f c28 h
          refine zs_iconst (1 : Int32) dX7_goesDown_73 ziconst_1 ?_
          refine zs_goto 78 dX7_goesDown_74 rfl ?_
          obtain rfl := Option.some.inj h
          exact zs_bret dX7_goesDown_78 (Or.inr rfl) ⟨rfl, rfl⟩
        · replace h := zite_t c28 h
          refine zs_aload_n dX7_goesDown_65 rfl ?_
          refine zs_iload_n dX7_goesDown_66 rfl ?_
          obtain ⟨v26, e25, h⟩ := zbind h
          refine zc_V1i moX7_isHermits mvX7_isHermits kX7_78 rfl dX7_goesDown_67 za_60 (Nat.le_of_ble_eq_true rfl) (zrm (by decide)) (tX7_isHermits e25) ?_
          refine zs_if_ne 77 dX7_goesDown_70 rfl (fun c27 => ?_) (fun c27 => ?_)
          · replace h := zite_f c27 h
            refine zs_iconst (0 : Int32) dX7_goesDown_77 ziconst_0 ?_
            obtain rfl := Option.some.inj h
            exact zs_bret dX7_goesDown_78 (Or.inl rfl) ⟨rfl, rfl⟩
          · replace h := zite_t c27 h
            refine zs_iconst (1 : Int32) dX7_goesDown_73 ziconst_1 ?_
            refine zs_goto 78 dX7_goesDown_74 rfl ?_
            obtain rfl := Option.some.inj h
            exact zs_bret dX7_goesDown_78 (Or.inr rfl) ⟨rfl, rfl⟩
    refine zs_icmp_lt 48 dX7_goesDown_27 rfl (fun c30 => ?_) (fun c30 => ?_)
    · replace m18 := zite_t c30 m18
      refine zs_iconst (1 : Int32) dX7_goesDown_48 ziconst_1 ?_
      refine zs_goto 53 dX7_goesDown_49 rfl ?_
      refine zs_fo [true, true, false, true, false, false] rfl ?_
      obtain rfl := Option.some.inj m18
      exact K17
    · replace m18 := zite_f c30 m18
      refine zs_iload dX7_goesDown_30 rfl ?_
      refine zs_if_eq 52 dX7_goesDown_32 rfl (fun c24 => ?_) (fun c24 => ?_)
      · replace m18 := zite_t c24 m18
        refine zs_iconst (0 : Int32) dX7_goesDown_52 ziconst_0 ?_
        refine zs_fo [true, true, false, true, false, false] rfl ?_
        obtain rfl := Option.some.inj m18
        exact K17
      · replace m18 := zite_f c24 m18
        refine zs_aload_n dX7_goesDown_35 rfl ?_
        refine zs_iload_n dX7_goesDown_36 rfl ?_
        obtain ⟨v20, e19, m18⟩ := zbind m18
        refine zc_V1i moX7_height mvX7_height kX7_69 rfl dX7_goesDown_37 za_60 (Nat.le_of_ble_eq_true rfl) (zrm (by decide)) (tX7_height e19) ?_
        refine zs_aload_n dX7_goesDown_40 rfl ?_
        refine zs_iload_n dX7_goesDown_41 rfl ?_
        obtain ⟨v22, e21, m18⟩ := zbind m18
        refine zc_V1i moX7_height mvX7_height kX7_69 rfl dX7_goesDown_42 za_60 (Nat.le_of_ble_eq_true rfl) (zrm (by decide)) (tX7_height e21) ?_
        refine zs_icmp_ne 52 dX7_goesDown_45 rfl (fun c23 => ?_) (fun c23 => ?_)
        · replace m18 := zite_f c23 m18
          refine zs_iconst (0 : Int32) dX7_goesDown_52 ziconst_0 ?_
          refine zs_fo [true, true, false, true, false, false] rfl ?_
          obtain rfl := Option.some.inj m18
          exact K17
        · replace m18 := zite_t c23 m18
          refine zs_iconst (1 : Int32) dX7_goesDown_48 ziconst_1 ?_
          refine zs_goto 53 dX7_goesDown_49 rfl ?_
          refine zs_fo [true, true, false, true, false, false] rfl ?_
          obtain rfl := Option.some.inj m18
          exact K17
  refine zs_icmp_eq 10 dX7_goesDown_2 rfl (fun c31 => ?_) (fun c31 => ?_)
  · replace m4 := zite_t c31 m4
    refine zs_iconst (1 : Int32) dX7_goesDown_10 ziconst_1 ?_
    refine zs_goto 15 dX7_goesDown_11 rfl ?_
    obtain rfl := Option.some.inj m4
    exact K3
  · replace m4 := zite_f c31 m4
    refine zs_iload_n dX7_goesDown_5 rfl ?_
    refine zs_iconst (5 : Int32) dX7_goesDown_6 ziconst_5 ?_
    refine zs_icmp_ne 14 dX7_goesDown_7 rfl (fun c5 => ?_) (fun c5 => ?_)
    · replace m4 := zite_f c5 m4
      refine zs_iconst (0 : Int32) dX7_goesDown_14 ziconst_0 ?_
      obtain rfl := Option.some.inj m4
      exact K3
    · replace m4 := zite_t c5 m4
      refine zs_iconst (1 : Int32) dX7_goesDown_10 ziconst_1 ?_
      refine zs_goto 15 dX7_goesDown_11 rfl ?_
      obtain rfl := Option.some.inj m4
      exact K3
def fX7_needsOf (w : zW) (p1 : Int32) (p2 : Int32) : Option Int32 := (if p1 = 1 then (Option.bind (zdiv (p2 + (1 : Int32)) (2 : Int32)) fun v6 => some v6) else (if p1 = 2 then (some ((2 : Int32) * p2)) else (if p1 = 3 then (some (p2 + (1 : Int32))) else (if p1 = 4 then (some ((2 : Int32) * p2)) else (if p1 = 5 then (some (p2 + (1 : Int32))) else (some p2))))))
set_option maxRecDepth 100000 in
theorem tX7_needsOf {w : zW} {p1 : Int32} {p2 : Int32}  {r : Int32} (h : fX7_needsOf w p1 p2 = some r) : zRun yX7_needsOf cX7_needsOf 3 (some .int) 0 [.ref 60, .int p1, .int p2] w (zI r w) := by
  refine zRun.of (k := 0) rfl rfl rfl ?_
  show zWP RX7 cX7_needsOf (zMB 3 (some .int) 0 (zI r w)) 0 [some (.ref 60), some (.int p1), some (.int p2)] [] w
  unfold fX7_needsOf at h
  refine zs_iload_n dX7_needsOf_0 rfl ?_
  by_cases c1 : p1 = 1
  · replace h := zite_t c1 h
    refine zs_tswIn (1 : Int32) 36 dX7_needsOf_1 c1 (by decide) (by decide) rfl rfl ?_
    refine zs_iload_n dX7_needsOf_36 rfl ?_
    refine zs_iconst (1 : Int32) dX7_needsOf_37 ziconst_1 ?_
    refine zs_iadd dX7_needsOf_38 ?_
    refine zs_iconst (2 : Int32) dX7_needsOf_39 ziconst_2 ?_
    obtain ⟨v6, e7, h⟩ := zbind h
    refine zs_idiv dX7_needsOf_40 (zdiv_inv e7).1 ?_
    refine zs_nmi (zdiv_inv e7).2 ?_
    obtain rfl := Option.some.inj h
    exact zs_iret dX7_needsOf_41 ⟨rfl, rfl⟩
  · replace h := zite_f c1 h
    by_cases c2 : p1 = 2
    · replace h := zite_t c2 h
      refine zs_tswIn (2 : Int32) 42 dX7_needsOf_1 c2 (by decide) (by decide) rfl rfl ?_
      refine zs_iconst (2 : Int32) dX7_needsOf_42 ziconst_2 ?_
      refine zs_iload_n dX7_needsOf_43 rfl ?_
      refine zs_imul dX7_needsOf_44 ?_
      obtain rfl := Option.some.inj h
      exact zs_iret dX7_needsOf_45 ⟨rfl, rfl⟩
    · replace h := zite_f c2 h
      by_cases c3 : p1 = 3
      · replace h := zite_t c3 h
        refine zs_tswIn (3 : Int32) 46 dX7_needsOf_1 c3 (by decide) (by decide) rfl rfl ?_
        refine zs_iload_n dX7_needsOf_46 rfl ?_
        refine zs_iconst (1 : Int32) dX7_needsOf_47 ziconst_1 ?_
        refine zs_iadd dX7_needsOf_48 ?_
        obtain rfl := Option.some.inj h
        exact zs_iret dX7_needsOf_49 ⟨rfl, rfl⟩
      · replace h := zite_f c3 h
        by_cases c4 : p1 = 4
        · replace h := zite_t c4 h
          refine zs_tswIn (4 : Int32) 42 dX7_needsOf_1 c4 (by decide) (by decide) rfl rfl ?_
          refine zs_iconst (2 : Int32) dX7_needsOf_42 ziconst_2 ?_
          refine zs_iload_n dX7_needsOf_43 rfl ?_
          refine zs_imul dX7_needsOf_44 ?_
          obtain rfl := Option.some.inj h
          exact zs_iret dX7_needsOf_45 ⟨rfl, rfl⟩
        · replace h := zite_f c4 h
          by_cases c5 : p1 = 5
          · replace h := zite_t c5 h
            refine zs_tswIn (5 : Int32) 46 dX7_needsOf_1 c5 (by decide) (by decide) rfl rfl ?_
            refine zs_iload_n dX7_needsOf_46 rfl ?_
            refine zs_iconst (1 : Int32) dX7_needsOf_47 ziconst_1 ?_
            refine zs_iadd dX7_needsOf_48 ?_
            obtain rfl := Option.some.inj h
            exact zs_iret dX7_needsOf_49 ⟨rfl, rfl⟩
          · replace h := zite_f c5 h
            refine zs_tswOut 50 dX7_needsOf_1 (by have q := zout (x := p1) (n := 5) (lo := 1) (fun i hi => by match i, hi with | 0, _ => exact c1 | 1, _ => exact c2 | 2, _ => exact c3 | 3, _ => exact c4 | 4, _ => exact c5); omega) rfl ?_
            refine zs_iload_n dX7_needsOf_50 rfl ?_
            obtain rfl := Option.some.inj h
            exact zs_iret dX7_needsOf_51 ⟨rfl, rfl⟩
def fX7_takesRoad (w : zW) (p1 : Int32) (p2 : Int32) (p3 : Int32) (p4 : Int32) : Option (Int32 × zW) := Option.bind (zrd w 63 12 p2) fun v1 => (if v1 = (1000000000 : Int32) then (some ((0 : Int32), w)) else (Option.bind (fX7_goesDown w p1 p2 p3) fun v4 => (if v4 = 0 then (some ((0 : Int32), w)) else (Option.bind (zrd w 63 12 p2) fun v5 => Option.bind (fX7_needsOf w p1 p4) fun v8 => Option.bind (some ((v5 + v8))) fun x9 => Option.bind (zrd w 63 12 p3) fun v11 => Option.bind (if v11 ≤ x9 then (some (0 : Int32)) else (some (1 : Int32))) fun x13 => Option.bind (if x13 = 0 then (Option.bind (zrd w 63 12 p3) fun v21 => some v21) else (some x9)) fun x18 => Option.bind (zwr w 63 12 p3 x18) fun w23 => Option.bind (zgb x13) fun b25 => some (b25, w23)))))
set_option maxRecDepth 100000 in
theorem tX7_takesRoad {w : zW} {p1 : Int32} {p2 : Int32} {p3 : Int32} {p4 : Int32}  {r : Int32} {w' : zW} (h : fX7_takesRoad w p1 p2 p3 p4 = some (r, w')) : zRun yX7_takesRoad cX7_takesRoad 7 (some .boolean) 2 [.ref 60, .int p1, .int p2, .int p3, .int p4] w (zI r w') := by
  refine zRun.of (k := 2) rfl rfl rfl ?_
  show zWP RX7 cX7_takesRoad (zMB 7 (some .boolean) 2 (zI r w')) 0 [some (.ref 60), some (.int p1), some (.int p2), some (.int p3), some (.int p4), none, none] [] w
  unfold fX7_takesRoad at h
  refine zs_aload_n dX7_takesRoad_0 rfl ?_
  refine gX7_16 dX7_takesRoad_1 ?_
  refine zs_iload_n dX7_takesRoad_4 rfl ?_
  obtain ⟨v1, e2, h⟩ := zbind h
  refine zs_iald dX7_takesRoad_5 za_63 e2 ?_
  refine zs_ldc kX7_109 dX7_takesRoad_6 ?_
  refine zs_icmp_eq 21 dX7_takesRoad_8 rfl (fun c30 => ?_) (fun c30 => ?_)
  · replace h := zite_t c30 h
    refine zs_iconst (0 : Int32) dX7_takesRoad_21 ziconst_0 ?_
    obtain ⟨rfl, rfl⟩ := zpi2 h
    exact zs_bret dX7_takesRoad_22 (Or.inl rfl) ⟨rfl, rfl⟩
  · replace h := zite_f c30 h
    refine zs_aload_n dX7_takesRoad_11 rfl ?_
    refine zs_iload_n dX7_takesRoad_12 rfl ?_
    refine zs_iload_n dX7_takesRoad_13 rfl ?_
    refine zs_iload_n dX7_takesRoad_14 rfl ?_
    obtain ⟨v4, e3, h⟩ := zbind h
    refine zc_V3i moX7_goesDown mvX7_goesDown kX7_106 rfl dX7_takesRoad_15 za_60 (Nat.le_of_ble_eq_true rfl) (zrm (by decide)) (tX7_goesDown e3) ?_
    refine zs_if_ne 23 dX7_takesRoad_18 rfl (fun c29 => ?_) (fun c29 => ?_)
    · replace h := zite_f c29 h
      refine zs_aload_n dX7_takesRoad_23 rfl ?_
      refine gX7_16 dX7_takesRoad_24 ?_
      refine zs_iload_n dX7_takesRoad_27 rfl ?_
      obtain ⟨v5, e6, h⟩ := zbind h
      refine zs_iald dX7_takesRoad_28 za_63 e6 ?_
      refine zs_aload_n dX7_takesRoad_29 rfl ?_
      refine zs_iload_n dX7_takesRoad_30 rfl ?_
      refine zs_iload dX7_takesRoad_31 rfl ?_
      obtain ⟨v8, e7, h⟩ := zbind h
      refine zc_V2i moX7_needsOf mvX7_needsOf kX7_103 rfl dX7_takesRoad_33 za_60 (Nat.le_of_ble_eq_true rfl) (zrm (by decide)) (tX7_needsOf e7) ?_
      refine zs_iadd dX7_takesRoad_36 ?_
      obtain ⟨x9, e10, h⟩ := zbind h
      refine zs_nmi (Option.some.inj e10) ?_
      refine zs_istore [some (.ref 60), some (.int p1), some (.int p2), some (.int p3), some (.int p4), some (.int x9), none] dX7_takesRoad_37 (Nat.le_of_ble_eq_true rfl) rfl rfl ?_
      refine zs_iload dX7_takesRoad_39 rfl ?_
      refine zs_aload_n dX7_takesRoad_41 rfl ?_
      refine gX7_16 dX7_takesRoad_42 ?_
      refine zs_iload_n dX7_takesRoad_45 rfl ?_
      obtain ⟨v11, e12, h⟩ := zbind h
      refine zs_iald dX7_takesRoad_46 za_63 e12 ?_
      obtain ⟨x13, m15, h⟩ := zbind h
      have K14 : zWP RX7 cX7_takesRoad (zMB 7 (some .boolean) 2 (zI r w')) 55 [some (.ref 60), none, none, some (.int p3), none, some (.int x9), none] [.int x13] w := by
        refine zs_istore [some (.ref 60), none, none, some (.int p3), none, some (.int x9), some (.int x13)] dX7_takesRoad_55 (Nat.le_of_ble_eq_true rfl) rfl rfl ?_
        refine zs_aload_n dX7_takesRoad_57 rfl ?_
        refine gX7_16 dX7_takesRoad_58 ?_
        refine zs_iload_n dX7_takesRoad_61 rfl ?_
        refine zs_iload dX7_takesRoad_62 rfl ?_
        obtain ⟨x18, m20, h⟩ := zbind h
        have K19 : zWP RX7 cX7_takesRoad (zMB 7 (some .boolean) 2 (zI r w')) 78 [none, none, none, none, none, none, some (.int x13)] [.int x18, .int p3, .ref 63] w := by
          obtain ⟨w23, e24, h⟩ := zbind h
          refine zs_iast dX7_takesRoad_78 za_63 e24 ?_
          refine zs_iload dX7_takesRoad_79 rfl ?_
          obtain ⟨b25, e26, h⟩ := zbind h
          refine zs_nmi (zgb_inv e26).2 ?_
          obtain ⟨rfl, rfl⟩ := zpi2 h
          exact zs_bret dX7_takesRoad_81 (by have q := zgb_inv e26; exact q.2 ▸ q.1) ⟨rfl, rfl⟩
        refine zs_if_eq 72 dX7_takesRoad_64 rfl (fun c27 => ?_) (fun c27 => ?_)
        · replace m20 := zite_t c27 m20
          refine zs_aload_n dX7_takesRoad_72 rfl ?_
          refine gX7_16 dX7_takesRoad_73 ?_
          refine zs_iload_n dX7_takesRoad_76 rfl ?_
          obtain ⟨v21, e22, m20⟩ := zbind m20
          refine zs_iald dX7_takesRoad_77 za_63 e22 ?_
          refine zs_fo [false, false, false, false, false, false, true] rfl ?_
          obtain rfl := Option.some.inj m20
          exact K19
        · replace m20 := zite_f c27 m20
          refine zs_iload dX7_takesRoad_67 rfl ?_
          refine zs_goto 78 dX7_takesRoad_69 rfl ?_
          refine zs_fo [false, false, false, false, false, false, true] rfl ?_
          obtain rfl := Option.some.inj m20
          exact K19
      refine zs_icmp_ge 54 dX7_takesRoad_47 rfl (fun c28 => ?_) (fun c28 => ?_)
      · replace m15 := zite_t c28 m15
        refine zs_iconst (0 : Int32) dX7_takesRoad_54 ziconst_0 ?_
        refine zs_fo [true, false, false, true, false, true, false] rfl ?_
        obtain rfl := Option.some.inj m15
        exact K14
      · replace m15 := zite_f c28 m15
        refine zs_iconst (1 : Int32) dX7_takesRoad_50 ziconst_1 ?_
        refine zs_goto 55 dX7_takesRoad_51 rfl ?_
        refine zs_fo [true, false, false, true, false, true, false] rfl ?_
        obtain rfl := Option.some.inj m15
        exact K14
    · replace h := zite_t c29 h
      refine zs_iconst (0 : Int32) dX7_takesRoad_21 ziconst_0 ?_
      obtain ⟨rfl, rfl⟩ := zpi2 h
      exact zs_bret dX7_takesRoad_22 (Or.inl rfl) ⟨rfl, rfl⟩
def lpX7_goesOn_5 (p1 : Int32) (p2 : Int32) : Nat → zW → Int32 → Int32 → Option (Int32 × zW)
  | 0, _, _, _ => none
  | n + 1, w3, x1, x2 => Option.bind (zrd w3 61 151 (1 : Int32)) fun v6 => (if v6 ≤ x2 then (some (x1, w3)) else (Option.bind (fX7_end w3 x2 (0 : Int32)) fun v9 => Option.bind (fX7_end w3 x2 (1 : Int32)) fun v11 => Option.bind (fX7_end w3 x2 (2 : Int32)) fun v13 => zb2 (fX7_takesRoad w3 p1 v9 v11 v13) fun v15 w16 => Option.bind (fX7_end w16 x2 (1 : Int32)) fun v18 => Option.bind (fX7_end w16 x2 (0 : Int32)) fun v20 => Option.bind (fX7_end w16 x2 (2 : Int32)) fun v22 => zb2 (fX7_takesRoad w16 p1 v18 v20 v22) fun v24 w25 => Option.bind (if x1 = 0 then ((if v15 = 0 then ((if v24 = 0 then (some (0 : Int32)) else (some (1 : Int32)))) else (some (1 : Int32)))) else (some (1 : Int32))) fun x28 => lpX7_goesOn_5 p1 p2 n w25 x28 (x2 + 1)))
def fX7_goesOn (w : zW) (p1 : Int32) (p2 : Int32) : Option (Int32 × zW) := zb2 (lpX7_goesOn_5 p1 p2 zF w (0 : Int32) (0 : Int32)) fun y37 w38 => zb2 (if p2 = 0 then (some ((0 : Int32), w38)) else (zb2 (fX7_takesBalloon w38) fun v48 w49 => (if v48 = 0 then (some ((0 : Int32), w49)) else (some ((1 : Int32), w49))))) fun x43 w44 => (if y37 = 0 then ((if x43 = 0 then (some ((0 : Int32), w44)) else (some ((1 : Int32), w44)))) else (some ((1 : Int32), w44)))
set_option maxRecDepth 100000 in
theorem tlX7_goesOn_5 {p1 : Int32} {p2 : Int32}  {Q : Option Value → zW → Prop} : ∀ (n : Nat) (w3 : zW) (x1 : Int32) (x2 : Int32) (y4 : Int32) (w5 : zW), lpX7_goesOn_5 p1 p2 n w3 x1 x2 = some (y4, w5) → zWP RX7 cX7_goesOn (zMB 7 (some .boolean) 3 Q) 98 [some (.ref 60), none, some (.int p2), some (.int y4), none, none, none] [] w5 → zWP RX7 cX7_goesOn (zMB 7 (some .boolean) 3 Q) 5 [some (.ref 60), some (.int p1), some (.int p2), some (.int x1), some (.int x2), none, none] [] w3 := by
  intro n
  induction n with
  | zero => intro w3 x1 x2 y4 w5 h K; simp [lpX7_goesOn_5] at h
  | succ n ih =>
    intro w3 x1 x2 y4 w5 h K
    rw [lpX7_goesOn_5] at h
    refine zs_iload dX7_goesOn_5 rfl ?_
    refine zs_aload_n dX7_goesOn_7 rfl ?_
    refine gX7_7 dX7_goesOn_8 ?_
    refine zs_iconst (1 : Int32) dX7_goesOn_11 ziconst_1 ?_
    obtain ⟨v6, e7, h⟩ := zbind h
    refine zs_iald dX7_goesOn_12 za_61 e7 ?_
    refine zs_icmp_ge 98 dX7_goesOn_13 rfl (fun c34 => ?_) (fun c34 => ?_)
    · replace h := zite_t c34 h
      refine zs_fo [true, false, true, true, false, false, false] rfl ?_
      obtain ⟨rfl, rfl⟩ := zpi2 h
      exact K
    · replace h := zite_f c34 h
      refine zs_aload_n dX7_goesOn_16 rfl ?_
      refine zs_iload_n dX7_goesOn_17 rfl ?_
      refine zs_aload_n dX7_goesOn_18 rfl ?_
      refine zs_iload dX7_goesOn_19 rfl ?_
      refine zs_iconst (0 : Int32) dX7_goesOn_21 ziconst_0 ?_
      obtain ⟨v9, e8, h⟩ := zbind h
      refine zc_V2i moX7_end mvX7_end kX7_58 rfl dX7_goesOn_22 za_60 (Nat.le_of_ble_eq_true rfl) (zrm (by decide)) (tX7_end e8) ?_
      refine zs_aload_n dX7_goesOn_25 rfl ?_
      refine zs_iload dX7_goesOn_26 rfl ?_
      refine zs_iconst (1 : Int32) dX7_goesOn_28 ziconst_1 ?_
      obtain ⟨v11, e10, h⟩ := zbind h
      refine zc_V2i moX7_end mvX7_end kX7_58 rfl dX7_goesOn_29 za_60 (Nat.le_of_ble_eq_true rfl) (zrm (by decide)) (tX7_end e10) ?_
      refine zs_aload_n dX7_goesOn_32 rfl ?_
      refine zs_iload dX7_goesOn_33 rfl ?_
      refine zs_iconst (2 : Int32) dX7_goesOn_35 ziconst_2 ?_
      obtain ⟨v13, e12, h⟩ := zbind h
      refine zc_V2i moX7_end mvX7_end kX7_58 rfl dX7_goesOn_36 za_60 (Nat.le_of_ble_eq_true rfl) (zrm (by decide)) (tX7_end e12) ?_
      obtain ⟨v15, w16, e14, h⟩ := zb2_inv h
      refine zc_V4i moX7_takesRoad mvX7_takesRoad kX7_110 rfl dX7_goesOn_39 za_60 (Nat.le_of_ble_eq_true rfl) (zrm (by decide)) (tX7_takesRoad e14) ?_
      refine zs_istore [some (.ref 60), some (.int p1), some (.int p2), some (.int x1), some (.int x2), some (.int v15), none] dX7_goesOn_42 (Nat.le_of_ble_eq_true rfl) rfl rfl ?_
      refine zs_aload_n dX7_goesOn_44 rfl ?_
      refine zs_iload_n dX7_goesOn_45 rfl ?_
      refine zs_aload_n dX7_goesOn_46 rfl ?_
      refine zs_iload dX7_goesOn_47 rfl ?_
      refine zs_iconst (1 : Int32) dX7_goesOn_49 ziconst_1 ?_
      obtain ⟨v18, e17, h⟩ := zbind h
      refine zc_V2i moX7_end mvX7_end kX7_58 rfl dX7_goesOn_50 za_60 (Nat.le_of_ble_eq_true rfl) (zrm (by decide)) (tX7_end e17) ?_
      refine zs_aload_n dX7_goesOn_53 rfl ?_
      refine zs_iload dX7_goesOn_54 rfl ?_
      refine zs_iconst (0 : Int32) dX7_goesOn_56 ziconst_0 ?_
      obtain ⟨v20, e19, h⟩ := zbind h
      refine zc_V2i moX7_end mvX7_end kX7_58 rfl dX7_goesOn_57 za_60 (Nat.le_of_ble_eq_true rfl) (zrm (by decide)) (tX7_end e19) ?_
      refine zs_aload_n dX7_goesOn_60 rfl ?_
      refine zs_iload dX7_goesOn_61 rfl ?_
      refine zs_iconst (2 : Int32) dX7_goesOn_63 ziconst_2 ?_
      obtain ⟨v22, e21, h⟩ := zbind h
      refine zc_V2i moX7_end mvX7_end kX7_58 rfl dX7_goesOn_64 za_60 (Nat.le_of_ble_eq_true rfl) (zrm (by decide)) (tX7_end e21) ?_
      obtain ⟨v24, w25, e23, h⟩ := zb2_inv h
      refine zc_V4i moX7_takesRoad mvX7_takesRoad kX7_110 rfl dX7_goesOn_67 za_60 (Nat.le_of_ble_eq_true rfl) (zrm (by decide)) (tX7_takesRoad e23) ?_
      refine zs_istore [some (.ref 60), some (.int p1), some (.int p2), some (.int x1), some (.int x2), some (.int v15), some (.int v24)] dX7_goesOn_70 (Nat.le_of_ble_eq_true rfl) rfl rfl ?_
      refine zs_iload_n dX7_goesOn_72 rfl ?_
      obtain ⟨x28, m30, h⟩ := zbind h
      have K29 : zWP RX7 cX7_goesOn (zMB 7 (some .boolean) 3 Q) 91 [some (.ref 60), some (.int p1), some (.int p2), none, some (.int x2), none, none] [.int x28] w25 := by
        refine zs_istore_n [some (.ref 60), some (.int p1), some (.int p2), some (.int x28), some (.int x2), none, none] dX7_goesOn_91 (Nat.le_of_ble_eq_true rfl) rfl rfl ?_
        refine zs_iinc (x2 + 1) [some (.ref 60), some (.int p1), some (.int p2), some (.int x28), some (.int (x2 + 1)), none, none] dX7_goesOn_92 rfl rfl (Nat.le_of_ble_eq_true rfl) rfl rfl ?_
        refine zs_goto 5 dX7_goesOn_95 rfl ?_
        exact ih _ _ _ _ _ h K
      refine zs_if_ne 86 dX7_goesOn_73 rfl (fun c33 => ?_) (fun c33 => ?_)
      · replace m30 := zite_f c33 m30
        refine zs_iconst (1 : Int32) dX7_goesOn_86 ziconst_1 ?_
        refine zs_goto 91 dX7_goesOn_87 rfl ?_
        refine zs_fo [true, true, true, false, true, false, false] rfl ?_
        obtain rfl := Option.some.inj m30
        exact K29
      · replace m30 := zite_t c33 m30
        refine zs_iload dX7_goesOn_76 rfl ?_
        refine zs_if_ne 86 dX7_goesOn_78 rfl (fun c32 => ?_) (fun c32 => ?_)
        · replace m30 := zite_f c32 m30
          refine zs_iconst (1 : Int32) dX7_goesOn_86 ziconst_1 ?_
          refine zs_goto 91 dX7_goesOn_87 rfl ?_
          refine zs_fo [true, true, true, false, true, false, false] rfl ?_
          obtain rfl := Option.some.inj m30
          exact K29
        · replace m30 := zite_t c32 m30
          refine zs_iload dX7_goesOn_81 rfl ?_
          refine zs_if_eq 90 dX7_goesOn_83 rfl (fun c31 => ?_) (fun c31 => ?_)
          · replace m30 := zite_t c31 m30
            refine zs_iconst (0 : Int32) dX7_goesOn_90 ziconst_0 ?_
            refine zs_fo [true, true, true, false, true, false, false] rfl ?_
            obtain rfl := Option.some.inj m30
            exact K29
          · replace m30 := zite_f c31 m30
            refine zs_iconst (1 : Int32) dX7_goesOn_86 ziconst_1 ?_
            refine zs_goto 91 dX7_goesOn_87 rfl ?_
            refine zs_fo [true, true, true, false, true, false, false] rfl ?_
            obtain rfl := Option.some.inj m30
            exact K29
set_option maxRecDepth 100000 in
theorem tX7_goesOn {w : zW} {p1 : Int32} {p2 : Int32}  {r : Int32} {w' : zW} (h : fX7_goesOn w p1 p2 = some (r, w')) : zRun yX7_goesOn cX7_goesOn 7 (some .boolean) 3 [.ref 60, .int p1, .int p2] w (zI r w') := by
  refine zRun.of (k := 4) rfl rfl rfl ?_
  show zWP RX7 cX7_goesOn (zMB 7 (some .boolean) 3 (zI r w')) 0 [some (.ref 60), some (.int p1), some (.int p2), none, none, none, none] [] w
  unfold fX7_goesOn at h
  refine zs_iconst (0 : Int32) dX7_goesOn_0 ziconst_0 ?_
  refine zs_istore_n [some (.ref 60), some (.int p1), some (.int p2), some (.int (0 : Int32)), none, none, none] dX7_goesOn_1 (Nat.le_of_ble_eq_true rfl) rfl rfl ?_
  refine zs_iconst (0 : Int32) dX7_goesOn_2 ziconst_0 ?_
  refine zs_istore [some (.ref 60), some (.int p1), some (.int p2), some (.int (0 : Int32)), some (.int (0 : Int32)), none, none] dX7_goesOn_3 (Nat.le_of_ble_eq_true rfl) rfl rfl ?_
  obtain ⟨y37, w38, e35, h⟩ := zb2_inv h
  have K36 : zWP RX7 cX7_goesOn (zMB 7 (some .boolean) 3 (zI r w')) 98 [some (.ref 60), none, some (.int p2), some (.int y37), none, none, none] [] w38 := by
    refine zs_iload_n dX7_goesOn_98 rfl ?_
    obtain ⟨x43, w44, m46, h⟩ := zb2_inv h
    have K45 : zWP RX7 cX7_goesOn (zMB 7 (some .boolean) 3 (zI r w')) 114 [none, none, none, some (.int y37), none, none, none] [.int x43] w44 := by
      refine zs_istore [none, none, none, some (.int y37), some (.int x43), none, none] dX7_goesOn_114 (Nat.le_of_ble_eq_true rfl) rfl rfl ?_
      refine zs_iload_n dX7_goesOn_116 rfl ?_
      refine zs_if_ne 125 dX7_goesOn_117 rfl (fun c52 => ?_) (fun c52 => ?_)
      · replace h := zite_f c52 h
        refine zs_iconst (1 : Int32) dX7_goesOn_125 ziconst_1 ?_
        refine zs_goto 130 dX7_goesOn_126 rfl ?_
        obtain ⟨rfl, rfl⟩ := zpi2 h
        exact zs_bret dX7_goesOn_130 (Or.inr rfl) ⟨rfl, rfl⟩
      · replace h := zite_t c52 h
        refine zs_iload dX7_goesOn_120 rfl ?_
        refine zs_if_eq 129 dX7_goesOn_122 rfl (fun c51 => ?_) (fun c51 => ?_)
        · replace h := zite_t c51 h
          refine zs_iconst (0 : Int32) dX7_goesOn_129 ziconst_0 ?_
          obtain ⟨rfl, rfl⟩ := zpi2 h
          exact zs_bret dX7_goesOn_130 (Or.inl rfl) ⟨rfl, rfl⟩
        · replace h := zite_f c51 h
          refine zs_iconst (1 : Int32) dX7_goesOn_125 ziconst_1 ?_
          refine zs_goto 130 dX7_goesOn_126 rfl ?_
          obtain ⟨rfl, rfl⟩ := zpi2 h
          exact zs_bret dX7_goesOn_130 (Or.inr rfl) ⟨rfl, rfl⟩
    refine zs_if_eq 113 dX7_goesOn_99 rfl (fun c53 => ?_) (fun c53 => ?_)
    · replace m46 := zite_t c53 m46
      refine zs_iconst (0 : Int32) dX7_goesOn_113 ziconst_0 ?_
      refine zs_fo [false, false, false, true, false, false, false] rfl ?_
      obtain ⟨rfl, rfl⟩ := zpi2 m46
      exact K45
    · replace m46 := zite_f c53 m46
      refine zs_aload_n dX7_goesOn_102 rfl ?_
      obtain ⟨v48, w49, e47, m46⟩ := zb2_inv m46
      refine zc_V0i moX7_takesBalloon mvX7_takesBalloon kX7_114 rfl dX7_goesOn_103 za_60 (Nat.le_of_ble_eq_true rfl) (zrm (by decide)) (tX7_takesBalloon e47) ?_
      refine zs_if_eq 113 dX7_goesOn_106 rfl (fun c50 => ?_) (fun c50 => ?_)
      · replace m46 := zite_t c50 m46
        refine zs_iconst (0 : Int32) dX7_goesOn_113 ziconst_0 ?_
        refine zs_fo [false, false, false, true, false, false, false] rfl ?_
        obtain ⟨rfl, rfl⟩ := zpi2 m46
        exact K45
      · replace m46 := zite_f c50 m46
        refine zs_iconst (1 : Int32) dX7_goesOn_109 ziconst_1 ?_
        refine zs_goto 114 dX7_goesOn_110 rfl ?_
        refine zs_fo [false, false, false, true, false, false, false] rfl ?_
        obtain ⟨rfl, rfl⟩ := zpi2 m46
        exact K45
  exact tlX7_goesOn_5  zF _ _ _ _ _ e35 K36
def lpX7_find_3 (p1 : Int32) (p2 : Int32) (p3 : Int32) (p4 : Int32) : Nat → zW → Int32 → Option zW
  | 0, _, _ => none
  | n + 1, w2, x1 => (if (12 : Int32) ≤ x1 then (some w2) else (Option.bind (zwr w2 63 12 x1 (1000000000 : Int32)) fun w4 => lpX7_find_3 p1 p2 p3 p4 n w4 (x1 + 1)))
def lpX7_find_55 (p1 : Int32) (x15 : Int32) : Nat → zW → Int32 → Option zW
  | 0, _, _ => none
  | n + 1, w22, x21 => (if x21 = 0 then (some w22) else (zb2 (fX7_goesOn w22 p1 x15) fun v25 w26 => lpX7_find_55 p1 x15 n w26 v25))
def fX7_find (w : zW) (p1 : Int32) (p2 : Int32) (p3 : Int32) (p4 : Int32) : Option zW := Option.bind (lpX7_find_3 p1 p2 p3 p4 zF w (0 : Int32)) fun w9 => Option.bind (zwr w9 63 12 p2 p3) fun w10 => Option.bind (if p4 = 0 then (some (0 : Int32)) else (Option.bind (fX7_flies w10 p1) fun v19 => (if v19 = 0 then (some (0 : Int32)) else (some (1 : Int32))))) fun x15 => Option.bind (lpX7_find_55 p1 x15 zF w10 (1 : Int32)) fun w30 => some w30
set_option maxRecDepth 100000 in
theorem tlX7_find_3 {p1 : Int32} {p2 : Int32} {p3 : Int32} {p4 : Int32}  {Q : Option Value → zW → Prop} : ∀ (n : Nat) (w2 : zW) (x1 : Int32) (w3 : zW), lpX7_find_3 p1 p2 p3 p4 n w2 x1 = some w3 → zWP RX7 cX7_find (zMB 7 none 4 Q) 25 [some (.ref 60), some (.int p1), some (.int p2), some (.int p3), some (.int p4), none, none] [] w3 → zWP RX7 cX7_find (zMB 7 none 4 Q) 3 [some (.ref 60), some (.int p1), some (.int p2), some (.int p3), some (.int p4), some (.int x1), none] [] w2 := by
  intro n
  induction n with
  | zero => intro w2 x1 w3 h K; simp [lpX7_find_3] at h
  | succ n ih =>
    intro w2 x1 w3 h K
    rw [lpX7_find_3] at h
    refine zs_iload dX7_find_3 rfl ?_
    refine zs_bipush (12 : Int32) dX7_find_5 zbipush_12 ?_
    refine zs_icmp_ge 25 dX7_find_7 rfl (fun c6 => ?_) (fun c6 => ?_)
    · replace h := zite_t c6 h
      refine zs_fo [true, true, true, true, true, false, false] rfl ?_
      obtain rfl := Option.some.inj h
      exact K
    · replace h := zite_f c6 h
      refine zs_aload_n dX7_find_10 rfl ?_
      refine gX7_16 dX7_find_11 ?_
      refine zs_iload dX7_find_14 rfl ?_
      refine zs_ldc kX7_109 dX7_find_16 ?_
      obtain ⟨w4, e5, h⟩ := zbind h
      refine zs_iast dX7_find_18 za_63 e5 ?_
      refine zs_iinc (x1 + 1) [some (.ref 60), some (.int p1), some (.int p2), some (.int p3), some (.int p4), some (.int (x1 + 1)), none] dX7_find_19 rfl rfl (Nat.le_of_ble_eq_true rfl) rfl rfl ?_
      refine zs_goto 3 dX7_find_22 rfl ?_
      exact ih _ _ _ h K
set_option maxRecDepth 100000 in
theorem tlX7_find_55 {p1 : Int32} {x15 : Int32}  {Q : Option Value → zW → Prop} : ∀ (n : Nat) (w22 : zW) (x21 : Int32) (w23 : zW), lpX7_find_55 p1 x15 n w22 x21 = some w23 → zWP RX7 cX7_find (zMB 7 none 4 Q) 72 [none, none, none, none, none, none, none] [] w23 → zWP RX7 cX7_find (zMB 7 none 4 Q) 55 [some (.ref 60), some (.int p1), none, none, none, some (.int x15), some (.int x21)] [] w22 := by
  intro n
  induction n with
  | zero => intro w22 x21 w23 h K; simp [lpX7_find_55] at h
  | succ n ih =>
    intro w22 x21 w23 h K
    rw [lpX7_find_55] at h
    refine zs_iload dX7_find_55 rfl ?_
    refine zs_if_eq 72 dX7_find_57 rfl (fun c27 => ?_) (fun c27 => ?_)
    · replace h := zite_t c27 h
      refine zs_fo [false, false, false, false, false, false, false] rfl ?_
      obtain rfl := Option.some.inj h
      exact K
    · replace h := zite_f c27 h
      refine zs_aload_n dX7_find_60 rfl ?_
      refine zs_iload_n dX7_find_61 rfl ?_
      refine zs_iload dX7_find_62 rfl ?_
      obtain ⟨v25, w26, e24, h⟩ := zb2_inv h
      refine zc_V2i moX7_goesOn mvX7_goesOn kX7_121 rfl dX7_find_64 za_60 (Nat.le_of_ble_eq_true rfl) (zrm (by decide)) (tX7_goesOn e24) ?_
      refine zs_istore [some (.ref 60), some (.int p1), none, none, none, some (.int x15), some (.int v25)] dX7_find_67 (Nat.le_of_ble_eq_true rfl) rfl rfl ?_
      refine zs_goto 55 dX7_find_69 rfl ?_
      exact ih _ _ _ h K
set_option maxRecDepth 100000 in
theorem tX7_find {w : zW} {p1 : Int32} {p2 : Int32} {p3 : Int32} {p4 : Int32}   {w' : zW} (h : fX7_find w p1 p2 p3 p4 = some w') : zRun yX7_find cX7_find 7 none 4 [.ref 60, .int p1, .int p2, .int p3, .int p4] w (zV w') := by
  refine zRun.of (k := 2) rfl rfl rfl ?_
  show zWP RX7 cX7_find (zMB 7 none 4 (zV w')) 0 [some (.ref 60), some (.int p1), some (.int p2), some (.int p3), some (.int p4), none, none] [] w
  unfold fX7_find at h
  refine zs_iconst (0 : Int32) dX7_find_0 ziconst_0 ?_
  refine zs_istore [some (.ref 60), some (.int p1), some (.int p2), some (.int p3), some (.int p4), some (.int (0 : Int32)), none] dX7_find_1 (Nat.le_of_ble_eq_true rfl) rfl rfl ?_
  obtain ⟨w9, e7, h⟩ := zbind h
  have K8 : zWP RX7 cX7_find (zMB 7 none 4 (zV w')) 25 [some (.ref 60), some (.int p1), some (.int p2), some (.int p3), some (.int p4), none, none] [] w9 := by
    refine zs_aload_n dX7_find_25 rfl ?_
    refine gX7_16 dX7_find_26 ?_
    refine zs_iload_n dX7_find_29 rfl ?_
    refine zs_iload_n dX7_find_30 rfl ?_
    obtain ⟨w10, e11, h⟩ := zbind h
    refine zs_iast dX7_find_31 za_63 e11 ?_
    refine zs_iload dX7_find_32 rfl ?_
    obtain ⟨x15, m17, h⟩ := zbind h
    have K16 : zWP RX7 cX7_find (zMB 7 none 4 (zV w')) 50 [some (.ref 60), some (.int p1), none, none, none, none, none] [.int x15] w10 := by
      refine zs_istore [some (.ref 60), some (.int p1), none, none, none, some (.int x15), none] dX7_find_50 (Nat.le_of_ble_eq_true rfl) rfl rfl ?_
      refine zs_iconst (1 : Int32) dX7_find_52 ziconst_1 ?_
      refine zs_istore [some (.ref 60), some (.int p1), none, none, none, some (.int x15), some (.int (1 : Int32))] dX7_find_53 (Nat.le_of_ble_eq_true rfl) rfl rfl ?_
      obtain ⟨w30, e28, h⟩ := zbind h
      have K29 : zWP RX7 cX7_find (zMB 7 none 4 (zV w')) 72 [none, none, none, none, none, none, none] [] w30 := by
        obtain rfl := Option.some.inj h
        exact zs_vret dX7_find_72 ⟨rfl, rfl⟩
      exact tlX7_find_55  zF _ _ _ e28 K29
    refine zs_if_eq 49 dX7_find_34 rfl (fun c31 => ?_) (fun c31 => ?_)
    · replace m17 := zite_t c31 m17
      refine zs_iconst (0 : Int32) dX7_find_49 ziconst_0 ?_
      refine zs_fo [true, true, false, false, false, false, false] rfl ?_
      obtain rfl := Option.some.inj m17
      exact K16
    · replace m17 := zite_f c31 m17
      refine zs_aload_n dX7_find_37 rfl ?_
      refine zs_iload_n dX7_find_38 rfl ?_
      obtain ⟨v19, e18, m17⟩ := zbind m17
      refine zc_V1i moX7_flies mvX7_flies kX7_118 rfl dX7_find_39 za_60 (Nat.le_of_ble_eq_true rfl) (zrm (by decide)) (tX7_flies e18) ?_
      refine zs_if_eq 49 dX7_find_42 rfl (fun c20 => ?_) (fun c20 => ?_)
      · replace m17 := zite_t c20 m17
        refine zs_iconst (0 : Int32) dX7_find_49 ziconst_0 ?_
        refine zs_fo [true, true, false, false, false, false, false] rfl ?_
        obtain rfl := Option.some.inj m17
        exact K16
      · replace m17 := zite_f c20 m17
        refine zs_iconst (1 : Int32) dX7_find_45 ziconst_1 ?_
        refine zs_goto 50 dX7_find_46 rfl ?_
        refine zs_fo [true, true, false, false, false, false, false] rfl ?_
        obtain rfl := Option.some.inj m17
        exact K16
  exact tlX7_find_3  zF _ _ _ e7 K8
def fX7_earliest (w : zW) (p1 : Int32) (p2 : Int32) (p3 : Int32) (p4 : Int32) : Option (Int32 × zW) := Option.bind (fX7_find w p1 p2 p4 (1 : Int32)) fun w2 => Option.bind (zrd w2 63 12 p3) fun v3 => some (v3, w2)
set_option maxRecDepth 100000 in
theorem tX7_earliest {w : zW} {p1 : Int32} {p2 : Int32} {p3 : Int32} {p4 : Int32}  {r : Int32} {w' : zW} (h : fX7_earliest w p1 p2 p3 p4 = some (r, w')) : zRun yX7_earliest cX7_earliest 5 (some .int) 5 [.ref 60, .int p1, .int p2, .int p3, .int p4] w (zI r w') := by
  refine zRun.of (k := 0) rfl rfl rfl ?_
  show zWP RX7 cX7_earliest (zMB 5 (some .int) 5 (zI r w')) 0 [some (.ref 60), some (.int p1), some (.int p2), some (.int p3), some (.int p4)] [] w
  unfold fX7_earliest at h
  refine zs_aload_n dX7_earliest_0 rfl ?_
  refine zs_iload_n dX7_earliest_1 rfl ?_
  refine zs_iload_n dX7_earliest_2 rfl ?_
  refine zs_iload dX7_earliest_3 rfl ?_
  refine zs_iconst (1 : Int32) dX7_earliest_5 ziconst_1 ?_
  obtain ⟨w2, e1, h⟩ := zbind h
  refine zc_V4v moX7_find mvX7_find kX7_125 rfl dX7_earliest_6 za_60 (Nat.le_of_ble_eq_true rfl) (zrm (by decide)) (tX7_find e1) ?_
  refine zs_aload_n dX7_earliest_9 rfl ?_
  refine gX7_16 dX7_earliest_10 ?_
  refine zs_iload_n dX7_earliest_13 rfl ?_
  obtain ⟨v3, e4, h⟩ := zbind h
  refine zs_iald dX7_earliest_14 za_63 e4 ?_
  obtain ⟨rfl, rfl⟩ := zpi2 h
  exact zs_iret dX7_earliest_15 ⟨rfl, rfl⟩
def fX7_its (w : zW) (p1 : Int32) (p2 : Int32) : Option Int32 := Option.bind (zrd w 61 151 (((101 : Int32) + ((5 : Int32) * p1)) + p2)) fun v1 => some v1
set_option maxRecDepth 100000 in
theorem tX7_its {w : zW} {p1 : Int32} {p2 : Int32}  {r : Int32} (h : fX7_its w p1 p2 = some r) : zRun yX7_its cX7_its 3 (some .int) 0 [.ref 60, .int p1, .int p2] w (zI r w) := by
  refine zRun.of (k := 0) rfl rfl rfl ?_
  show zWP RX7 cX7_its (zMB 3 (some .int) 0 (zI r w)) 0 [some (.ref 60), some (.int p1), some (.int p2)] [] w
  unfold fX7_its at h
  refine zs_aload_n dX7_its_0 rfl ?_
  refine gX7_7 dX7_its_1 ?_
  refine zs_bipush (101 : Int32) dX7_its_4 zbipush_101 ?_
  refine zs_iconst (5 : Int32) dX7_its_6 ziconst_5 ?_
  refine zs_iload_n dX7_its_7 rfl ?_
  refine zs_imul dX7_its_8 ?_
  refine zs_iadd dX7_its_9 ?_
  refine zs_iload_n dX7_its_10 rfl ?_
  refine zs_iadd dX7_its_11 ?_
  obtain ⟨v1, e2, h⟩ := zbind h
  refine zs_iald dX7_its_12 za_61 e2 ?_
  obtain rfl := Option.some.inj h
  exact zs_iret dX7_its_13 ⟨rfl, rfl⟩
def fX7_keeps (w : zW) (p1 : Int32) (p2 : Int32) (p3 : Int32) (p4 : Int32) (p5 : Int32) : Option (Int32 × zW) := zb2 (fX7_earliest w p1 p2 p3 p4) fun v2 w3 => (if v2 = p5 then (some ((1 : Int32), w3)) else (some ((0 : Int32), w3)))
set_option maxRecDepth 100000 in
theorem tX7_keeps {w : zW} {p1 : Int32} {p2 : Int32} {p3 : Int32} {p4 : Int32} {p5 : Int32}  {r : Int32} {w' : zW} (h : fX7_keeps w p1 p2 p3 p4 p5 = some (r, w')) : zRun yX7_keeps cX7_keeps 6 (some .boolean) 6 [.ref 60, .int p1, .int p2, .int p3, .int p4, .int p5] w (zI r w') := by
  refine zRun.of (k := 0) rfl rfl rfl ?_
  show zWP RX7 cX7_keeps (zMB 6 (some .boolean) 6 (zI r w')) 0 [some (.ref 60), some (.int p1), some (.int p2), some (.int p3), some (.int p4), some (.int p5)] [] w
  unfold fX7_keeps at h
  refine zs_aload_n dX7_keeps_0 rfl ?_
  refine zs_iload_n dX7_keeps_1 rfl ?_
  refine zs_iload_n dX7_keeps_2 rfl ?_
  refine zs_iload_n dX7_keeps_3 rfl ?_
  refine zs_iload dX7_keeps_4 rfl ?_
  obtain ⟨v2, w3, e1, h⟩ := zb2_inv h
  refine zc_V4i moX7_earliest mvX7_earliest kX7_132 rfl dX7_keeps_6 za_60 (Nat.le_of_ble_eq_true rfl) (zrm (by decide)) (tX7_earliest e1) ?_
  refine zs_iload dX7_keeps_9 rfl ?_
  refine zs_icmp_ne 18 dX7_keeps_11 rfl (fun c4 => ?_) (fun c4 => ?_)
  · replace h := zite_f c4 h
    refine zs_iconst (0 : Int32) dX7_keeps_18 ziconst_0 ?_
    obtain ⟨rfl, rfl⟩ := zpi2 h
    exact zs_bret dX7_keeps_19 (Or.inl rfl) ⟨rfl, rfl⟩
  · replace h := zite_t c4 h
    refine zs_iconst (1 : Int32) dX7_keeps_14 ziconst_1 ?_
    refine zs_goto 19 dX7_keeps_15 rfl ?_
    obtain ⟨rfl, rfl⟩ := zpi2 h
    exact zs_bret dX7_keeps_19 (Or.inr rfl) ⟨rfl, rfl⟩
def lpX7_findWay_109 (v2 : Int32) (v4 : Int32) (v6 : Int32) (x16 : Int32) (x37 : Int32) : Nat → zW → Int32 → Option zW
  | 0, _, _ => none
  | n + 1, w51, x50 => Option.bind (zrd w51 61 151 (0 : Int32)) fun v53 => (if v53 ≤ x50 then (some w51) else ((if 0 ≤ (w51.1 60 3) then (some w51) else (Option.bind (if x50 = v4 then (some (-1 : Int32)) else (Option.bind (fX7_between w51 v4 x50) fun v61 => some v61)) fun x57 => Option.bind (if x57 < 0 then (some (0 : Int32)) else (Option.bind (fX7_goesDown w51 v2 v4 x50) fun v73 => (if v73 = 0 then (some (0 : Int32)) else (Option.bind (fX7_end w51 x57 (2 : Int32)) fun v75 => Option.bind (fX7_needsOf w51 v2 v75) fun v77 => some v77)))) fun x69 => zb2 (if x69 ≤ 0 then (some ((0 : Int32), w51)) else (Option.bind (zrd w51 61 151 (4 : Int32)) fun v89 => zb2 (fX7_keeps w51 v2 x50 v6 (v89 + x69) x16) fun v92 w93 => (if v92 = 0 then (some ((0 : Int32), w93)) else (some ((1 : Int32), w93))))) fun x85 w86 => zb2 (if x85 = 0 then ((if x37 = 0 then (some ((0 : Int32), w86)) else (Option.bind (fX7_thePeak w86) fun v110 => (if x50 = v110 then (Option.bind (zrd w86 61 151 (4 : Int32)) fun v111 => zb2 (fX7_keeps w86 v2 x50 v6 (v111 + (1 : Int32)) x16) fun v114 w115 => (if v114 = 0 then (some ((0 : Int32), w115)) else (some ((1 : Int32), w115)))) else (some ((0 : Int32), w86)))))) else (some ((0 : Int32), w86))) fun x105 w106 => Option.bind (if x85 = 0 then ((if x105 = 0 then (some (-1 : Int32)) else (some x50))) else (some x50)) fun x120 => Option.bind (some (zsf w106 60 3 x120)) fun w124 => Option.bind (if x85 = 0 then (some (1 : Int32)) else (some x69)) fun x126 => Option.bind (some (zsf w124 60 4 x126)) fun w129 => lpX7_findWay_109 v2 v4 v6 x16 x37 n w129 (x50 + 1)))))
def fX7_findWay (w : zW) (p1 : Int32) : Option zW := Option.bind (fX7_its w p1 (0 : Int32)) fun v2 => Option.bind (fX7_its w p1 (1 : Int32)) fun v4 => Option.bind (fX7_its w p1 (2 : Int32)) fun v6 => Option.bind (some (zsf w 60 3 (-1 : Int32))) fun w7 => Option.bind (some (zsf w7 60 4 (0 : Int32))) fun w9 => zb2 (if v4 = v6 then (some ((1000000000 : Int32), w9)) else (Option.bind (zrd w9 61 151 (4 : Int32)) fun v20 => zb2 (fX7_earliest w9 v2 v4 v6 v20) fun v23 w24 => some (v23, w24))) fun x16 w17 => (if x16 = (1000000000 : Int32) then (some w17) else (Option.bind (fX7_theSea w17) fun v26 => Option.bind (if v4 = v26 then (Option.bind (zrd w17 61 151 (4 : Int32)) fun v40 => Option.bind (zrd w17 61 151 (3 : Int32)) fun v42 => Option.bind (zrem v40 v42) fun v44 => (if v44 = 0 then (Option.bind (fX7_flies w17 v2) fun v47 => (if v47 = 0 then (some (0 : Int32)) else (some (1 : Int32)))) else (some (0 : Int32)))) else (some (0 : Int32))) fun x37 => Option.bind (lpX7_findWay_109 v2 v4 v6 x16 x37 zF w17 (0 : Int32)) fun w141 => some w141))
set_option maxRecDepth 100000 in
theorem tlX7_findWay_109 {v2 : Int32} {v4 : Int32} {v6 : Int32} {x16 : Int32} {x37 : Int32}  {Q : Option Value → zW → Prop} : ∀ (n : Nat) (w51 : zW) (x50 : Int32) (w52 : zW), lpX7_findWay_109 v2 v4 v6 x16 x37 n w51 x50 = some w52 → zWP RX7 cX7_findWay (zMB 12 none 7 Q) 304 [none, none, none, none, none, none, none, none, none, none, none, none] [] w52 → zWP RX7 cX7_findWay (zMB 12 none 7 Q) 109 [some (.ref 60), none, some (.int v2), some (.int v4), some (.int v6), some (.int x16), some (.int x37), some (.int x50), none, none, none, none] [] w51 := by
  intro n
  induction n with
  | zero => intro w51 x50 w52 h K; simp [lpX7_findWay_109] at h
  | succ n ih =>
    intro w51 x50 w52 h K
    rw [lpX7_findWay_109] at h
    refine zs_iload dX7_findWay_109 rfl ?_
    refine zs_aload_n dX7_findWay_111 rfl ?_
    refine gX7_7 dX7_findWay_112 ?_
    refine zs_iconst (0 : Int32) dX7_findWay_115 ziconst_0 ?_
    obtain ⟨v53, e54, h⟩ := zbind h
    refine zs_iald dX7_findWay_116 za_61 e54 ?_
    refine zs_icmp_ge 304 dX7_findWay_117 rfl (fun c138 => ?_) (fun c138 => ?_)
    · replace h := zite_t c138 h
      refine zs_fo [false, false, false, false, false, false, false, false, false, false, false, false] rfl ?_
      obtain rfl := Option.some.inj h
      exact K
    · replace h := zite_f c138 h
      refine zs_aload_n dX7_findWay_120 rfl ?_
      refine gX7_173 dX7_findWay_121 ?_
      refine zs_if_ge 304 dX7_findWay_124 rfl (fun c137 => ?_) (fun c137 => ?_)
      · replace h := zite_t c137 h
        refine zs_fo [false, false, false, false, false, false, false, false, false, false, false, false] rfl ?_
        obtain rfl := Option.some.inj h
        exact K
      · replace h := zite_f c137 h
        refine zs_iload dX7_findWay_127 rfl ?_
        refine zs_iload_n dX7_findWay_129 rfl ?_
        obtain ⟨x57, m59, h⟩ := zbind h
        have K58 : zWP RX7 cX7_findWay (zMB 12 none 7 Q) 144 [some (.ref 60), none, some (.int v2), some (.int v4), some (.int v6), some (.int x16), some (.int x37), some (.int x50), none, none, none, none] [.int x57] w51 := by
          refine zs_istore [some (.ref 60), none, some (.int v2), some (.int v4), some (.int v6), some (.int x16), some (.int x37), some (.int x50), some (.int x57), none, none, none] dX7_findWay_144 (Nat.le_of_ble_eq_true rfl) rfl rfl ?_
          refine zs_iload dX7_findWay_146 rfl ?_
          obtain ⟨x69, m71, h⟩ := zbind h
          have K70 : zWP RX7 cX7_findWay (zMB 12 none 7 Q) 178 [some (.ref 60), none, some (.int v2), some (.int v4), some (.int v6), some (.int x16), some (.int x37), some (.int x50), none, none, none, none] [.int x69] w51 := by
            refine zs_istore [some (.ref 60), none, some (.int v2), some (.int v4), some (.int v6), some (.int x16), some (.int x37), some (.int x50), none, some (.int x69), none, none] dX7_findWay_178 (Nat.le_of_ble_eq_true rfl) rfl rfl ?_
            refine zs_iload dX7_findWay_180 rfl ?_
            obtain ⟨x85, w86, m88, h⟩ := zb2_inv h
            have K87 : zWP RX7 cX7_findWay (zMB 12 none 7 Q) 213 [some (.ref 60), none, some (.int v2), some (.int v4), some (.int v6), some (.int x16), some (.int x37), some (.int x50), none, some (.int x69), none, none] [.int x85] w86 := by
              refine zs_istore [some (.ref 60), none, some (.int v2), some (.int v4), some (.int v6), some (.int x16), some (.int x37), some (.int x50), none, some (.int x69), some (.int x85), none] dX7_findWay_213 (Nat.le_of_ble_eq_true rfl) rfl rfl ?_
              refine zs_iload dX7_findWay_215 rfl ?_
              obtain ⟨x105, w106, m108, h⟩ := zb2_inv h
              have K107 : zWP RX7 cX7_findWay (zMB 12 none 7 Q) 261 [some (.ref 60), none, some (.int v2), some (.int v4), some (.int v6), some (.int x16), some (.int x37), some (.int x50), none, some (.int x69), some (.int x85), none] [.int x105] w106 := by
                refine zs_istore [some (.ref 60), none, some (.int v2), some (.int v4), some (.int v6), some (.int x16), some (.int x37), some (.int x50), none, some (.int x69), some (.int x85), some (.int x105)] dX7_findWay_261 (Nat.le_of_ble_eq_true rfl) rfl rfl ?_
                refine zs_aload_n dX7_findWay_263 rfl ?_
                refine zs_iload dX7_findWay_264 rfl ?_
                obtain ⟨x120, m122, h⟩ := zbind h
                have K121 : zWP RX7 cX7_findWay (zMB 12 none 7 Q) 280 [some (.ref 60), none, some (.int v2), some (.int v4), some (.int v6), some (.int x16), some (.int x37), some (.int x50), none, some (.int x69), some (.int x85), none] [.int x120, .ref 60] w106 := by
                  obtain ⟨w124, e125, h⟩ := zbind h
                  refine pX7_173 dX7_findWay_280 ?_
                  refine zs_nmw (Option.some.inj e125) ?_
                  refine zs_aload_n dX7_findWay_283 rfl ?_
                  refine zs_iload dX7_findWay_284 rfl ?_
                  obtain ⟨x126, m128, h⟩ := zbind h
                  have K127 : zWP RX7 cX7_findWay (zMB 12 none 7 Q) 295 [some (.ref 60), none, some (.int v2), some (.int v4), some (.int v6), some (.int x16), some (.int x37), some (.int x50), none, none, none, none] [.int x126, .ref 60] w124 := by
                    obtain ⟨w129, e130, h⟩ := zbind h
                    refine pX7_177 dX7_findWay_295 ?_
                    refine zs_nmw (Option.some.inj e130) ?_
                    refine zs_iinc (x50 + 1) [some (.ref 60), none, some (.int v2), some (.int v4), some (.int v6), some (.int x16), some (.int x37), some (.int (x50 + 1)), none, none, none, none] dX7_findWay_298 rfl rfl (Nat.le_of_ble_eq_true rfl) rfl rfl ?_
                    refine zs_goto 109 dX7_findWay_301 rfl ?_
                    exact ih _ _ _ h K
                  refine zs_if_eq 294 dX7_findWay_286 rfl (fun c131 => ?_) (fun c131 => ?_)
                  · replace m128 := zite_t c131 m128
                    refine zs_iconst (1 : Int32) dX7_findWay_294 ziconst_1 ?_
                    refine zs_fo [true, false, true, true, true, true, true, true, false, false, false, false] rfl ?_
                    obtain rfl := Option.some.inj m128
                    exact K127
                  · replace m128 := zite_f c131 m128
                    refine zs_iload dX7_findWay_289 rfl ?_
                    refine zs_goto 295 dX7_findWay_291 rfl ?_
                    refine zs_fo [true, false, true, true, true, true, true, true, false, false, false, false] rfl ?_
                    obtain rfl := Option.some.inj m128
                    exact K127
                refine zs_if_ne 274 dX7_findWay_266 rfl (fun c132 => ?_) (fun c132 => ?_)
                · replace m122 := zite_f c132 m122
                  refine zs_iload dX7_findWay_274 rfl ?_
                  refine zs_goto 280 dX7_findWay_276 rfl ?_
                  refine zs_fo [true, false, true, true, true, true, true, true, false, true, true, false] rfl ?_
                  obtain rfl := Option.some.inj m122
                  exact K121
                · replace m122 := zite_t c132 m122
                  refine zs_iload dX7_findWay_269 rfl ?_
                  refine zs_if_eq 279 dX7_findWay_271 rfl (fun c123 => ?_) (fun c123 => ?_)
                  · replace m122 := zite_t c123 m122
                    refine zs_iconst (-1 : Int32) dX7_findWay_279 ziconst_m1 ?_
                    refine zs_fo [true, false, true, true, true, true, true, true, false, true, true, false] rfl ?_
                    obtain rfl := Option.some.inj m122
                    exact K121
                  · replace m122 := zite_f c123 m122
                    refine zs_iload dX7_findWay_274 rfl ?_
                    refine zs_goto 280 dX7_findWay_276 rfl ?_
                    refine zs_fo [true, false, true, true, true, true, true, true, false, true, true, false] rfl ?_
                    obtain rfl := Option.some.inj m122
                    exact K121
              refine zs_if_ne 260 dX7_findWay_217 rfl (fun c133 => ?_) (fun c133 => ?_)
              · replace m108 := zite_f c133 m108
                refine zs_iconst (0 : Int32) dX7_findWay_260 ziconst_0 ?_
                obtain ⟨rfl, rfl⟩ := zpi2 m108
                exact K107
              · replace m108 := zite_t c133 m108
                refine zs_iload dX7_findWay_220 rfl ?_
                refine zs_if_eq 260 dX7_findWay_222 rfl (fun c118 => ?_) (fun c118 => ?_)
                · replace m108 := zite_t c118 m108
                  refine zs_iconst (0 : Int32) dX7_findWay_260 ziconst_0 ?_
                  obtain ⟨rfl, rfl⟩ := zpi2 m108
                  exact K107
                · replace m108 := zite_f c118 m108
                  refine zs_iload dX7_findWay_225 rfl ?_
                  refine zs_aload_n dX7_findWay_227 rfl ?_
                  obtain ⟨v110, e109, m108⟩ := zbind m108
                  refine zc_V0i moX7_thePeak mvX7_thePeak kX7_97 rfl dX7_findWay_228 za_60 (Nat.le_of_ble_eq_true rfl) (zrm (by decide)) (tX7_thePeak e109) ?_
                  refine zs_icmp_ne 260 dX7_findWay_231 rfl (fun c117 => ?_) (fun c117 => ?_)
                  · replace m108 := zite_f c117 m108
                    refine zs_iconst (0 : Int32) dX7_findWay_260 ziconst_0 ?_
                    obtain ⟨rfl, rfl⟩ := zpi2 m108
                    exact K107
                  · replace m108 := zite_t c117 m108
                    refine zs_aload_n dX7_findWay_234 rfl ?_
                    refine zs_iload_n dX7_findWay_235 rfl ?_
                    refine zs_iload dX7_findWay_236 rfl ?_
                    refine zs_iload dX7_findWay_238 rfl ?_
                    refine zs_aload_n dX7_findWay_240 rfl ?_
                    refine gX7_7 dX7_findWay_241 ?_
                    refine zs_iconst (4 : Int32) dX7_findWay_244 ziconst_4 ?_
                    obtain ⟨v111, e112, m108⟩ := zbind m108
                    refine zs_iald dX7_findWay_245 za_61 e112 ?_
                    refine zs_iconst (1 : Int32) dX7_findWay_246 ziconst_1 ?_
                    refine zs_iadd dX7_findWay_247 ?_
                    refine zs_iload dX7_findWay_248 rfl ?_
                    obtain ⟨v114, w115, e113, m108⟩ := zb2_inv m108
                    refine zc_V5i moX7_keeps mvX7_keeps kX7_180 rfl dX7_findWay_250 za_60 (Nat.le_of_ble_eq_true rfl) (zrm (by decide)) (tX7_keeps e113) ?_
                    refine zs_if_eq 260 dX7_findWay_253 rfl (fun c116 => ?_) (fun c116 => ?_)
                    · replace m108 := zite_t c116 m108
                      refine zs_iconst (0 : Int32) dX7_findWay_260 ziconst_0 ?_
                      obtain ⟨rfl, rfl⟩ := zpi2 m108
                      exact K107
                    · replace m108 := zite_f c116 m108
                      refine zs_iconst (1 : Int32) dX7_findWay_256 ziconst_1 ?_
                      refine zs_goto 261 dX7_findWay_257 rfl ?_
                      obtain ⟨rfl, rfl⟩ := zpi2 m108
                      exact K107
            refine zs_if_le 212 dX7_findWay_182 rfl (fun c134 => ?_) (fun c134 => ?_)
            · replace m88 := zite_t c134 m88
              refine zs_iconst (0 : Int32) dX7_findWay_212 ziconst_0 ?_
              obtain ⟨rfl, rfl⟩ := zpi2 m88
              exact K87
            · replace m88 := zite_f c134 m88
              refine zs_aload_n dX7_findWay_185 rfl ?_
              refine zs_iload_n dX7_findWay_186 rfl ?_
              refine zs_iload dX7_findWay_187 rfl ?_
              refine zs_iload dX7_findWay_189 rfl ?_
              refine zs_aload_n dX7_findWay_191 rfl ?_
              refine gX7_7 dX7_findWay_192 ?_
              refine zs_iconst (4 : Int32) dX7_findWay_195 ziconst_4 ?_
              obtain ⟨v89, e90, m88⟩ := zbind m88
              refine zs_iald dX7_findWay_196 za_61 e90 ?_
              refine zs_iload dX7_findWay_197 rfl ?_
              refine zs_iadd dX7_findWay_199 ?_
              refine zs_iload dX7_findWay_200 rfl ?_
              obtain ⟨v92, w93, e91, m88⟩ := zb2_inv m88
              refine zc_V5i moX7_keeps mvX7_keeps kX7_180 rfl dX7_findWay_202 za_60 (Nat.le_of_ble_eq_true rfl) (zrm (by decide)) (tX7_keeps e91) ?_
              refine zs_if_eq 212 dX7_findWay_205 rfl (fun c94 => ?_) (fun c94 => ?_)
              · replace m88 := zite_t c94 m88
                refine zs_iconst (0 : Int32) dX7_findWay_212 ziconst_0 ?_
                obtain ⟨rfl, rfl⟩ := zpi2 m88
                exact K87
              · replace m88 := zite_f c94 m88
                refine zs_iconst (1 : Int32) dX7_findWay_208 ziconst_1 ?_
                refine zs_goto 213 dX7_findWay_209 rfl ?_
                obtain ⟨rfl, rfl⟩ := zpi2 m88
                exact K87
          refine zs_if_lt 162 dX7_findWay_148 rfl (fun c135 => ?_) (fun c135 => ?_)
          · replace m71 := zite_t c135 m71
            refine zs_iconst (0 : Int32) dX7_findWay_162 ziconst_0 ?_
            refine zs_goto 178 dX7_findWay_163 rfl ?_
            refine zs_fo [true, false, true, true, true, true, true, true, false, false, false, false] rfl ?_
            obtain rfl := Option.some.inj m71
            exact K70
          · replace m71 := zite_f c135 m71
            refine zs_aload_n dX7_findWay_151 rfl ?_
            refine zs_iload_n dX7_findWay_152 rfl ?_
            refine zs_iload_n dX7_findWay_153 rfl ?_
            refine zs_iload dX7_findWay_154 rfl ?_
            obtain ⟨v73, e72, m71⟩ := zbind m71
            refine zc_V3i moX7_goesDown mvX7_goesDown kX7_106 rfl dX7_findWay_156 za_60 (Nat.le_of_ble_eq_true rfl) (zrm (by decide)) (tX7_goesDown e72) ?_
            refine zs_if_ne 166 dX7_findWay_159 rfl (fun c78 => ?_) (fun c78 => ?_)
            · replace m71 := zite_f c78 m71
              refine zs_aload_n dX7_findWay_166 rfl ?_
              refine zs_iload_n dX7_findWay_167 rfl ?_
              refine zs_aload_n dX7_findWay_168 rfl ?_
              refine zs_iload dX7_findWay_169 rfl ?_
              refine zs_iconst (2 : Int32) dX7_findWay_171 ziconst_2 ?_
              obtain ⟨v75, e74, m71⟩ := zbind m71
              refine zc_V2i moX7_end mvX7_end kX7_58 rfl dX7_findWay_172 za_60 (Nat.le_of_ble_eq_true rfl) (zrm (by decide)) (tX7_end e74) ?_
              obtain ⟨v77, e76, m71⟩ := zbind m71
              refine zc_V2i moX7_needsOf mvX7_needsOf kX7_103 rfl dX7_findWay_175 za_60 (Nat.le_of_ble_eq_true rfl) (zrm (by decide)) (tX7_needsOf e76) ?_
              refine zs_fo [true, false, true, true, true, true, true, true, false, false, false, false] rfl ?_
              obtain rfl := Option.some.inj m71
              exact K70
            · replace m71 := zite_t c78 m71
              refine zs_iconst (0 : Int32) dX7_findWay_162 ziconst_0 ?_
              refine zs_goto 178 dX7_findWay_163 rfl ?_
              refine zs_fo [true, false, true, true, true, true, true, true, false, false, false, false] rfl ?_
              obtain rfl := Option.some.inj m71
              exact K70
        refine zs_icmp_ne 137 dX7_findWay_130 rfl (fun c136 => ?_) (fun c136 => ?_)
        · replace m59 := zite_f c136 m59
          refine zs_aload_n dX7_findWay_137 rfl ?_
          refine zs_iload_n dX7_findWay_138 rfl ?_
          refine zs_iload dX7_findWay_139 rfl ?_
          obtain ⟨v61, e60, m59⟩ := zbind m59
          refine zc_V2i moX7_between mvX7_between kX7_81 rfl dX7_findWay_141 za_60 (Nat.le_of_ble_eq_true rfl) (zrm (by decide)) (tX7_between e60) ?_
          obtain rfl := Option.some.inj m59
          exact K58
        · replace m59 := zite_t c136 m59
          refine zs_iconst (-1 : Int32) dX7_findWay_133 ziconst_m1 ?_
          refine zs_goto 144 dX7_findWay_134 rfl ?_
          obtain rfl := Option.some.inj m59
          exact K58
set_option maxRecDepth 100000 in
theorem tX7_findWay {w : zW} {p1 : Int32}   {w' : zW} (h : fX7_findWay w p1 = some w') : zRun yX7_findWay cX7_findWay 12 none 7 [.ref 60, .int p1] w (zV w') := by
  refine zRun.of (k := 10) rfl rfl rfl ?_
  show zWP RX7 cX7_findWay (zMB 12 none 7 (zV w')) 0 [some (.ref 60), some (.int p1), none, none, none, none, none, none, none, none, none, none] [] w
  unfold fX7_findWay at h
  refine zs_aload_n dX7_findWay_0 rfl ?_
  refine zs_iload_n dX7_findWay_1 rfl ?_
  refine zs_iconst (0 : Int32) dX7_findWay_2 ziconst_0 ?_
  obtain ⟨v2, e1, h⟩ := zbind h
  refine zc_V2i moX7_its mvX7_its kX7_62 rfl dX7_findWay_3 za_60 (Nat.le_of_ble_eq_true rfl) (zrm (by decide)) (tX7_its e1) ?_
  refine zs_istore_n [some (.ref 60), some (.int p1), some (.int v2), none, none, none, none, none, none, none, none, none] dX7_findWay_6 (Nat.le_of_ble_eq_true rfl) rfl rfl ?_
  refine zs_aload_n dX7_findWay_7 rfl ?_
  refine zs_iload_n dX7_findWay_8 rfl ?_
  refine zs_iconst (1 : Int32) dX7_findWay_9 ziconst_1 ?_
  obtain ⟨v4, e3, h⟩ := zbind h
  refine zc_V2i moX7_its mvX7_its kX7_62 rfl dX7_findWay_10 za_60 (Nat.le_of_ble_eq_true rfl) (zrm (by decide)) (tX7_its e3) ?_
  refine zs_istore_n [some (.ref 60), some (.int p1), some (.int v2), some (.int v4), none, none, none, none, none, none, none, none] dX7_findWay_13 (Nat.le_of_ble_eq_true rfl) rfl rfl ?_
  refine zs_aload_n dX7_findWay_14 rfl ?_
  refine zs_iload_n dX7_findWay_15 rfl ?_
  refine zs_iconst (2 : Int32) dX7_findWay_16 ziconst_2 ?_
  obtain ⟨v6, e5, h⟩ := zbind h
  refine zc_V2i moX7_its mvX7_its kX7_62 rfl dX7_findWay_17 za_60 (Nat.le_of_ble_eq_true rfl) (zrm (by decide)) (tX7_its e5) ?_
  refine zs_istore [some (.ref 60), some (.int p1), some (.int v2), some (.int v4), some (.int v6), none, none, none, none, none, none, none] dX7_findWay_20 (Nat.le_of_ble_eq_true rfl) rfl rfl ?_
  refine zs_aload_n dX7_findWay_22 rfl ?_
  refine zs_iconst (-1 : Int32) dX7_findWay_23 ziconst_m1 ?_
  obtain ⟨w7, e8, h⟩ := zbind h
  refine pX7_173 dX7_findWay_24 ?_
  refine zs_nmw (Option.some.inj e8) ?_
  refine zs_aload_n dX7_findWay_27 rfl ?_
  refine zs_iconst (0 : Int32) dX7_findWay_28 ziconst_0 ?_
  obtain ⟨w9, e10, h⟩ := zbind h
  refine pX7_177 dX7_findWay_29 ?_
  refine zs_nmw (Option.some.inj e10) ?_
  refine zs_iload_n dX7_findWay_32 rfl ?_
  refine zs_iload dX7_findWay_33 rfl ?_
  obtain ⟨x16, w17, m19, h⟩ := zb2_inv h
  have K18 : zWP RX7 cX7_findWay (zMB 12 none 7 (zV w')) 57 [some (.ref 60), none, some (.int v2), some (.int v4), some (.int v6), none, none, none, none, none, none, none] [.int x16] w17 := by
    refine zs_istore [some (.ref 60), none, some (.int v2), some (.int v4), some (.int v6), some (.int x16), none, none, none, none, none, none] dX7_findWay_57 (Nat.le_of_ble_eq_true rfl) rfl rfl ?_
    refine zs_iload dX7_findWay_59 rfl ?_
    refine zs_ldc kX7_109 dX7_findWay_61 ?_
    refine zs_icmp_ne 67 dX7_findWay_63 rfl (fun c143 => ?_) (fun c143 => ?_)
    · replace h := zite_f c143 h
      refine zs_iload_n dX7_findWay_67 rfl ?_
      refine zs_aload_n dX7_findWay_68 rfl ?_
      obtain ⟨v26, e25, h⟩ := zbind h
      refine zc_V0i moX7_theSea mvX7_theSea kX7_93 rfl dX7_findWay_69 za_60 (Nat.le_of_ble_eq_true rfl) (zrm (by decide)) (tX7_theSea e25) ?_
      obtain ⟨x37, m39, h⟩ := zbind h
      have K38 : zWP RX7 cX7_findWay (zMB 12 none 7 (zV w')) 104 [some (.ref 60), none, some (.int v2), some (.int v4), some (.int v6), some (.int x16), none, none, none, none, none, none] [.int x37] w17 := by
        refine zs_istore [some (.ref 60), none, some (.int v2), some (.int v4), some (.int v6), some (.int x16), some (.int x37), none, none, none, none, none] dX7_findWay_104 (Nat.le_of_ble_eq_true rfl) rfl rfl ?_
        refine zs_iconst (0 : Int32) dX7_findWay_106 ziconst_0 ?_
        refine zs_istore [some (.ref 60), none, some (.int v2), some (.int v4), some (.int v6), some (.int x16), some (.int x37), some (.int (0 : Int32)), none, none, none, none] dX7_findWay_107 (Nat.le_of_ble_eq_true rfl) rfl rfl ?_
        obtain ⟨w141, e139, h⟩ := zbind h
        have K140 : zWP RX7 cX7_findWay (zMB 12 none 7 (zV w')) 304 [none, none, none, none, none, none, none, none, none, none, none, none] [] w141 := by
          obtain rfl := Option.some.inj h
          exact zs_vret dX7_findWay_304 ⟨rfl, rfl⟩
        exact tlX7_findWay_109  zF _ _ _ e139 K140
      refine zs_icmp_ne 103 dX7_findWay_72 rfl (fun c142 => ?_) (fun c142 => ?_)
      · replace m39 := zite_f c142 m39
        refine zs_iconst (0 : Int32) dX7_findWay_103 ziconst_0 ?_
        obtain rfl := Option.some.inj m39
        exact K38
      · replace m39 := zite_t c142 m39
        refine zs_aload_n dX7_findWay_75 rfl ?_
        refine gX7_7 dX7_findWay_76 ?_
        refine zs_iconst (4 : Int32) dX7_findWay_79 ziconst_4 ?_
        obtain ⟨v40, e41, m39⟩ := zbind m39
        refine zs_iald dX7_findWay_80 za_61 e41 ?_
        refine zs_aload_n dX7_findWay_81 rfl ?_
        refine gX7_7 dX7_findWay_82 ?_
        refine zs_iconst (3 : Int32) dX7_findWay_85 ziconst_3 ?_
        obtain ⟨v42, e43, m39⟩ := zbind m39
        refine zs_iald dX7_findWay_86 za_61 e43 ?_
        obtain ⟨v44, e45, m39⟩ := zbind m39
        refine zs_irem dX7_findWay_87 (zrem_inv e45).1 ?_
        refine zs_nmi (zrem_inv e45).2 ?_
        refine zs_if_ne 103 dX7_findWay_88 rfl (fun c49 => ?_) (fun c49 => ?_)
        · replace m39 := zite_f c49 m39
          refine zs_iconst (0 : Int32) dX7_findWay_103 ziconst_0 ?_
          obtain rfl := Option.some.inj m39
          exact K38
        · replace m39 := zite_t c49 m39
          refine zs_aload_n dX7_findWay_91 rfl ?_
          refine zs_iload_n dX7_findWay_92 rfl ?_
          obtain ⟨v47, e46, m39⟩ := zbind m39
          refine zc_V1i moX7_flies mvX7_flies kX7_118 rfl dX7_findWay_93 za_60 (Nat.le_of_ble_eq_true rfl) (zrm (by decide)) (tX7_flies e46) ?_
          refine zs_if_eq 103 dX7_findWay_96 rfl (fun c48 => ?_) (fun c48 => ?_)
          · replace m39 := zite_t c48 m39
            refine zs_iconst (0 : Int32) dX7_findWay_103 ziconst_0 ?_
            obtain rfl := Option.some.inj m39
            exact K38
          · replace m39 := zite_f c48 m39
            refine zs_iconst (1 : Int32) dX7_findWay_99 ziconst_1 ?_
            refine zs_goto 104 dX7_findWay_100 rfl ?_
            obtain rfl := Option.some.inj m39
            exact K38
    · replace h := zite_t c143 h
      obtain rfl := Option.some.inj h
      exact zs_vret dX7_findWay_66 ⟨rfl, rfl⟩
  refine zs_icmp_ne 43 dX7_findWay_35 rfl (fun c144 => ?_) (fun c144 => ?_)
  · replace m19 := zite_f c144 m19
    refine zs_aload_n dX7_findWay_43 rfl ?_
    refine zs_iload_n dX7_findWay_44 rfl ?_
    refine zs_iload_n dX7_findWay_45 rfl ?_
    refine zs_iload dX7_findWay_46 rfl ?_
    refine zs_aload_n dX7_findWay_48 rfl ?_
    refine gX7_7 dX7_findWay_49 ?_
    refine zs_iconst (4 : Int32) dX7_findWay_52 ziconst_4 ?_
    obtain ⟨v20, e21, m19⟩ := zbind m19
    refine zs_iald dX7_findWay_53 za_61 e21 ?_
    obtain ⟨v23, w24, e22, m19⟩ := zb2_inv m19
    refine zc_V4i moX7_earliest mvX7_earliest kX7_132 rfl dX7_findWay_54 za_60 (Nat.le_of_ble_eq_true rfl) (zrm (by decide)) (tX7_earliest e22) ?_
    refine zs_fo [true, false, true, true, true, false, false, false, false, false, false, false] rfl ?_
    obtain ⟨rfl, rfl⟩ := zpi2 m19
    exact K18
  · replace m19 := zite_t c144 m19
    refine zs_ldc kX7_109 dX7_findWay_38 ?_
    refine zs_goto 57 dX7_findWay_40 rfl ?_
    refine zs_fo [true, false, true, true, true, false, false, false, false, false, false, false] rfl ?_
    obtain ⟨rfl, rfl⟩ := zpi2 m19
    exact K18
def fX7_sets (w : zW) (p1 : Int32) (p2 : Int32) (p3 : Int32) : Option zW := Option.bind (zwr w 61 151 (((101 : Int32) + ((5 : Int32) * p1)) + p2) p3) fun w1 => some w1
set_option maxRecDepth 100000 in
theorem tX7_sets {w : zW} {p1 : Int32} {p2 : Int32} {p3 : Int32}   {w' : zW} (h : fX7_sets w p1 p2 p3 = some w') : zRun yX7_sets cX7_sets 4 none 0 [.ref 60, .int p1, .int p2, .int p3] w (zV w') := by
  refine zRun.of (k := 0) rfl rfl rfl ?_
  show zWP RX7 cX7_sets (zMB 4 none 0 (zV w')) 0 [some (.ref 60), some (.int p1), some (.int p2), some (.int p3)] [] w
  unfold fX7_sets at h
  refine zs_aload_n dX7_sets_0 rfl ?_
  refine gX7_7 dX7_sets_1 ?_
  refine zs_bipush (101 : Int32) dX7_sets_4 zbipush_101 ?_
  refine zs_iconst (5 : Int32) dX7_sets_6 ziconst_5 ?_
  refine zs_iload_n dX7_sets_7 rfl ?_
  refine zs_imul dX7_sets_8 ?_
  refine zs_iadd dX7_sets_9 ?_
  refine zs_iload_n dX7_sets_10 rfl ?_
  refine zs_iadd dX7_sets_11 ?_
  refine zs_iload_n dX7_sets_12 rfl ?_
  obtain ⟨w1, e2, h⟩ := zbind h
  refine zs_iast dX7_sets_13 za_61 e2 ?_
  obtain rfl := Option.some.inj h
  exact zs_vret dX7_sets_14 ⟨rfl, rfl⟩
def lpX7_aDay_2  : Nat → zW → Int32 → Option zW
  | 0, _, _ => none
  | n + 1, w2, x1 => Option.bind (zrd w2 61 151 (2 : Int32)) fun v4 => (if v4 ≤ x1 then (some w2) else (Option.bind (fX7_its w2 x1 (4 : Int32)) fun v7 => Option.bind (if v7 = 0 then (Option.bind (fX7_findWay w2 x1) fun w19 => (if (w19.1 60 3) < 0 then (some w19) else (Option.bind (fX7_sets w19 x1 (1 : Int32) (w19.1 60 3)) fun w21 => Option.bind (fX7_sets w21 x1 (4 : Int32) (w21.1 60 4)) fun w23 => some w23))) else (some w2)) fun w15 => lpX7_aDay_2 n w15 (x1 + 1)))
def lpX7_aDay_61  : Nat → zW → Int32 → Option zW
  | 0, _, _ => none
  | n + 1, w31, x30 => Option.bind (zrd w31 61 151 (2 : Int32)) fun v33 => (if v33 ≤ x30 then (some w31) else (Option.bind (fX7_its w31 x30 (4 : Int32)) fun v36 => Option.bind (if v36 ≤ 0 then (some (0 : Int32)) else (some (v36 - (1 : Int32)))) fun x37 => Option.bind (fX7_sets w31 x30 (4 : Int32) x37) fun w41 => lpX7_aDay_61 n w41 (x30 + 1)))
def fX7_aDay (w : zW)  : Option zW := Option.bind (lpX7_aDay_2  zF w (0 : Int32)) fun w29 => Option.bind (lpX7_aDay_61  zF w29 (0 : Int32)) fun w46 => Option.bind (zrd w46 61 151 (4 : Int32)) fun v47 => Option.bind (zwr w46 61 151 (4 : Int32) (v47 + (1 : Int32))) fun w49 => some w49
set_option maxRecDepth 100000 in
theorem tlX7_aDay_2   {Q : Option Value → zW → Prop} : ∀ (n : Nat) (w2 : zW) (x1 : Int32) (w3 : zW), lpX7_aDay_2  n w2 x1 = some w3 → zWP RX7 cX7_aDay (zMB 3 none 8 Q) 59 [some (.ref 60), none, none] [] w3 → zWP RX7 cX7_aDay (zMB 3 none 8 Q) 2 [some (.ref 60), some (.int x1), none] [] w2 := by
  intro n
  induction n with
  | zero => intro w2 x1 w3 h K; simp [lpX7_aDay_2] at h
  | succ n ih =>
    intro w2 x1 w3 h K
    rw [lpX7_aDay_2] at h
    refine zs_iload_n dX7_aDay_2 rfl ?_
    refine zs_aload_n dX7_aDay_3 rfl ?_
    refine gX7_7 dX7_aDay_4 ?_
    refine zs_iconst (2 : Int32) dX7_aDay_7 ziconst_2 ?_
    obtain ⟨v4, e5, h⟩ := zbind h
    refine zs_iald dX7_aDay_8 za_61 e5 ?_
    refine zs_icmp_ge 59 dX7_aDay_9 rfl (fun c26 => ?_) (fun c26 => ?_)
    · replace h := zite_t c26 h
      refine zs_fo [true, false, false] rfl ?_
      obtain rfl := Option.some.inj h
      exact K
    · replace h := zite_f c26 h
      refine zs_aload_n dX7_aDay_12 rfl ?_
      refine zs_iload_n dX7_aDay_13 rfl ?_
      refine zs_iconst (4 : Int32) dX7_aDay_14 ziconst_4 ?_
      obtain ⟨v7, e6, h⟩ := zbind h
      refine zc_V2i moX7_its mvX7_its kX7_62 rfl dX7_aDay_15 za_60 (Nat.le_of_ble_eq_true rfl) (zrm (by decide)) (tX7_its e6) ?_
      obtain ⟨w15, m17, h⟩ := zbind h
      have K16 : zWP RX7 cX7_aDay (zMB 3 none 8 Q) 53 [some (.ref 60), some (.int x1), none] [] w15 := by
        refine zs_iinc (x1 + 1) [some (.ref 60), some (.int (x1 + 1)), none] dX7_aDay_53 rfl rfl (Nat.le_of_ble_eq_true rfl) rfl rfl ?_
        refine zs_goto 2 dX7_aDay_56 rfl ?_
        exact ih _ _ _ h K
      refine zs_if_ne 53 dX7_aDay_18 rfl (fun c25 => ?_) (fun c25 => ?_)
      · replace m17 := zite_f c25 m17
        obtain rfl := Option.some.inj m17
        exact K16
      · replace m17 := zite_t c25 m17
        refine zs_aload_n dX7_aDay_21 rfl ?_
        refine zs_iload_n dX7_aDay_22 rfl ?_
        obtain ⟨w19, e18, m17⟩ := zbind m17
        refine zc_V1v moX7_findWay mvX7_findWay kX7_184 rfl dX7_aDay_23 za_60 (Nat.le_of_ble_eq_true rfl) (zrm (by decide)) (tX7_findWay e18) ?_
        refine zs_aload_n dX7_aDay_26 rfl ?_
        refine gX7_173 dX7_aDay_27 ?_
        refine zs_if_lt 53 dX7_aDay_30 rfl (fun c24 => ?_) (fun c24 => ?_)
        · replace m17 := zite_t c24 m17
          obtain rfl := Option.some.inj m17
          exact K16
        · replace m17 := zite_f c24 m17
          refine zs_aload_n dX7_aDay_33 rfl ?_
          refine zs_iload_n dX7_aDay_34 rfl ?_
          refine zs_iconst (1 : Int32) dX7_aDay_35 ziconst_1 ?_
          refine zs_aload_n dX7_aDay_36 rfl ?_
          refine gX7_173 dX7_aDay_37 ?_
          obtain ⟨w21, e20, m17⟩ := zbind m17
          refine zc_V3v moX7_sets mvX7_sets kX7_157 rfl dX7_aDay_40 za_60 (Nat.le_of_ble_eq_true rfl) (zrm (by decide)) (tX7_sets e20) ?_
          refine zs_aload_n dX7_aDay_43 rfl ?_
          refine zs_iload_n dX7_aDay_44 rfl ?_
          refine zs_iconst (4 : Int32) dX7_aDay_45 ziconst_4 ?_
          refine zs_aload_n dX7_aDay_46 rfl ?_
          refine gX7_177 dX7_aDay_47 ?_
          obtain ⟨w23, e22, m17⟩ := zbind m17
          refine zc_V3v moX7_sets mvX7_sets kX7_157 rfl dX7_aDay_50 za_60 (Nat.le_of_ble_eq_true rfl) (zrm (by decide)) (tX7_sets e22) ?_
          obtain rfl := Option.some.inj m17
          exact K16
set_option maxRecDepth 100000 in
theorem tlX7_aDay_61   {Q : Option Value → zW → Prop} : ∀ (n : Nat) (w31 : zW) (x30 : Int32) (w32 : zW), lpX7_aDay_61  n w31 x30 = some w32 → zWP RX7 cX7_aDay (zMB 3 none 8 Q) 101 [some (.ref 60), none, none] [] w32 → zWP RX7 cX7_aDay (zMB 3 none 8 Q) 61 [some (.ref 60), some (.int x30), none] [] w31 := by
  intro n
  induction n with
  | zero => intro w31 x30 w32 h K; simp [lpX7_aDay_61] at h
  | succ n ih =>
    intro w31 x30 w32 h K
    rw [lpX7_aDay_61] at h
    refine zs_iload_n dX7_aDay_61 rfl ?_
    refine zs_aload_n dX7_aDay_62 rfl ?_
    refine gX7_7 dX7_aDay_63 ?_
    refine zs_iconst (2 : Int32) dX7_aDay_66 ziconst_2 ?_
    obtain ⟨v33, e34, h⟩ := zbind h
    refine zs_iald dX7_aDay_67 za_61 e34 ?_
    refine zs_icmp_ge 101 dX7_aDay_68 rfl (fun c43 => ?_) (fun c43 => ?_)
    · replace h := zite_t c43 h
      refine zs_fo [true, false, false] rfl ?_
      obtain rfl := Option.some.inj h
      exact K
    · replace h := zite_f c43 h
      refine zs_aload_n dX7_aDay_71 rfl ?_
      refine zs_iload_n dX7_aDay_72 rfl ?_
      refine zs_iconst (4 : Int32) dX7_aDay_73 ziconst_4 ?_
      obtain ⟨v36, e35, h⟩ := zbind h
      refine zc_V2i moX7_its mvX7_its kX7_62 rfl dX7_aDay_74 za_60 (Nat.le_of_ble_eq_true rfl) (zrm (by decide)) (tX7_its e35) ?_
      refine zs_istore_n [some (.ref 60), some (.int x30), some (.int v36)] dX7_aDay_77 (Nat.le_of_ble_eq_true rfl) rfl rfl ?_
      refine zs_aload_n dX7_aDay_78 rfl ?_
      refine zs_iload_n dX7_aDay_79 rfl ?_
      refine zs_iconst (4 : Int32) dX7_aDay_80 ziconst_4 ?_
      refine zs_iload_n dX7_aDay_81 rfl ?_
      obtain ⟨x37, m39, h⟩ := zbind h
      have K38 : zWP RX7 cX7_aDay (zMB 3 none 8 Q) 92 [some (.ref 60), some (.int x30), none] [.int x37, .int (4 : Int32), .int x30, .ref 60] w31 := by
        obtain ⟨w41, e40, h⟩ := zbind h
        refine zc_V3v moX7_sets mvX7_sets kX7_157 rfl dX7_aDay_92 za_60 (Nat.le_of_ble_eq_true rfl) (zrm (by decide)) (tX7_sets e40) ?_
        refine zs_iinc (x30 + 1) [some (.ref 60), some (.int (x30 + 1)), none] dX7_aDay_95 rfl rfl (Nat.le_of_ble_eq_true rfl) rfl rfl ?_
        refine zs_goto 61 dX7_aDay_98 rfl ?_
        exact ih _ _ _ h K
      refine zs_if_le 91 dX7_aDay_82 rfl (fun c42 => ?_) (fun c42 => ?_)
      · replace m39 := zite_t c42 m39
        refine zs_iconst (0 : Int32) dX7_aDay_91 ziconst_0 ?_
        refine zs_fo [true, true, false] rfl ?_
        obtain rfl := Option.some.inj m39
        exact K38
      · replace m39 := zite_f c42 m39
        refine zs_iload_n dX7_aDay_85 rfl ?_
        refine zs_iconst (1 : Int32) dX7_aDay_86 ziconst_1 ?_
        refine zs_isub dX7_aDay_87 ?_
        refine zs_goto 92 dX7_aDay_88 rfl ?_
        refine zs_fo [true, true, false] rfl ?_
        obtain rfl := Option.some.inj m39
        exact K38
set_option maxRecDepth 100000 in
theorem tX7_aDay {w : zW}    {w' : zW} (h : fX7_aDay w  = some w') : zRun yX7_aDay cX7_aDay 3 none 8 [.ref 60] w (zV w') := by
  refine zRun.of (k := 2) rfl rfl rfl ?_
  show zWP RX7 cX7_aDay (zMB 3 none 8 (zV w')) 0 [some (.ref 60), none, none] [] w
  unfold fX7_aDay at h
  refine zs_iconst (0 : Int32) dX7_aDay_0 ziconst_0 ?_
  refine zs_istore_n [some (.ref 60), some (.int (0 : Int32)), none] dX7_aDay_1 (Nat.le_of_ble_eq_true rfl) rfl rfl ?_
  obtain ⟨w29, e27, h⟩ := zbind h
  have K28 : zWP RX7 cX7_aDay (zMB 3 none 8 (zV w')) 59 [some (.ref 60), none, none] [] w29 := by
    refine zs_iconst (0 : Int32) dX7_aDay_59 ziconst_0 ?_
    refine zs_istore_n [some (.ref 60), some (.int (0 : Int32)), none] dX7_aDay_60 (Nat.le_of_ble_eq_true rfl) rfl rfl ?_
    obtain ⟨w46, e44, h⟩ := zbind h
    have K45 : zWP RX7 cX7_aDay (zMB 3 none 8 (zV w')) 101 [some (.ref 60), none, none] [] w46 := by
      refine zs_aload_n dX7_aDay_101 rfl ?_
      refine gX7_7 dX7_aDay_102 ?_
      refine zs_iconst (4 : Int32) dX7_aDay_105 ziconst_4 ?_
      refine zs_dup2 dX7_aDay_106 rfl rfl ?_
      obtain ⟨v47, e48, h⟩ := zbind h
      refine zs_iald dX7_aDay_107 za_61 e48 ?_
      refine zs_iconst (1 : Int32) dX7_aDay_108 ziconst_1 ?_
      refine zs_iadd dX7_aDay_109 ?_
      obtain ⟨w49, e50, h⟩ := zbind h
      refine zs_iast dX7_aDay_110 za_61 e50 ?_
      obtain rfl := Option.some.inj h
      exact zs_vret dX7_aDay_111 ⟨rfl, rfl⟩
    exact tlX7_aDay_61  zF _ _ _ e44 K45
  exact tlX7_aDay_2  zF _ _ _ e27 K28
def fX7_addLetter (w : zW) (p1 : Int32) (p2 : Int32) (p3 : Int32) : Option zW := Option.bind (zrd w 61 151 (2 : Int32)) fun v1 => Option.bind (fX7_sets w v1 (0 : Int32) p1) fun w4 => Option.bind (fX7_sets w4 v1 (1 : Int32) p2) fun w6 => Option.bind (fX7_sets w6 v1 (2 : Int32) p3) fun w8 => Option.bind (zrd w8 61 151 (4 : Int32)) fun v9 => Option.bind (fX7_sets w8 v1 (3 : Int32) v9) fun w12 => Option.bind (fX7_sets w12 v1 (4 : Int32) (0 : Int32)) fun w14 => Option.bind (zrd w14 61 151 (2 : Int32)) fun v15 => Option.bind (zwr w14 61 151 (2 : Int32) (v15 + (1 : Int32))) fun w17 => some w17
set_option maxRecDepth 100000 in
theorem tX7_addLetter {w : zW} {p1 : Int32} {p2 : Int32} {p3 : Int32}   {w' : zW} (h : fX7_addLetter w p1 p2 p3 = some w') : zRun yX7_addLetter cX7_addLetter 5 none 1 [.ref 60, .int p1, .int p2, .int p3] w (zV w') := by
  refine zRun.of (k := 1) rfl rfl rfl ?_
  show zWP RX7 cX7_addLetter (zMB 5 none 1 (zV w')) 0 [some (.ref 60), some (.int p1), some (.int p2), some (.int p3), none] [] w
  unfold fX7_addLetter at h
  refine zs_aload_n dX7_addLetter_0 rfl ?_
  refine gX7_7 dX7_addLetter_1 ?_
  refine zs_iconst (2 : Int32) dX7_addLetter_4 ziconst_2 ?_
  obtain ⟨v1, e2, h⟩ := zbind h
  refine zs_iald dX7_addLetter_5 za_61 e2 ?_
  refine zs_istore [some (.ref 60), some (.int p1), some (.int p2), some (.int p3), some (.int v1)] dX7_addLetter_6 (Nat.le_of_ble_eq_true rfl) rfl rfl ?_
  refine zs_aload_n dX7_addLetter_8 rfl ?_
  refine zs_iload dX7_addLetter_9 rfl ?_
  refine zs_iconst (0 : Int32) dX7_addLetter_11 ziconst_0 ?_
  refine zs_iload_n dX7_addLetter_12 rfl ?_
  obtain ⟨w4, e3, h⟩ := zbind h
  refine zc_V3v moX7_sets mvX7_sets kX7_157 rfl dX7_addLetter_13 za_60 (Nat.le_of_ble_eq_true rfl) (zrm (by decide)) (tX7_sets e3) ?_
  refine zs_aload_n dX7_addLetter_16 rfl ?_
  refine zs_iload dX7_addLetter_17 rfl ?_
  refine zs_iconst (1 : Int32) dX7_addLetter_19 ziconst_1 ?_
  refine zs_iload_n dX7_addLetter_20 rfl ?_
  obtain ⟨w6, e5, h⟩ := zbind h
  refine zc_V3v moX7_sets mvX7_sets kX7_157 rfl dX7_addLetter_21 za_60 (Nat.le_of_ble_eq_true rfl) (zrm (by decide)) (tX7_sets e5) ?_
  refine zs_aload_n dX7_addLetter_24 rfl ?_
  refine zs_iload dX7_addLetter_25 rfl ?_
  refine zs_iconst (2 : Int32) dX7_addLetter_27 ziconst_2 ?_
  refine zs_iload_n dX7_addLetter_28 rfl ?_
  obtain ⟨w8, e7, h⟩ := zbind h
  refine zc_V3v moX7_sets mvX7_sets kX7_157 rfl dX7_addLetter_29 za_60 (Nat.le_of_ble_eq_true rfl) (zrm (by decide)) (tX7_sets e7) ?_
  refine zs_aload_n dX7_addLetter_32 rfl ?_
  refine zs_iload dX7_addLetter_33 rfl ?_
  refine zs_iconst (3 : Int32) dX7_addLetter_35 ziconst_3 ?_
  refine zs_aload_n dX7_addLetter_36 rfl ?_
  refine gX7_7 dX7_addLetter_37 ?_
  refine zs_iconst (4 : Int32) dX7_addLetter_40 ziconst_4 ?_
  obtain ⟨v9, e10, h⟩ := zbind h
  refine zs_iald dX7_addLetter_41 za_61 e10 ?_
  obtain ⟨w12, e11, h⟩ := zbind h
  refine zc_V3v moX7_sets mvX7_sets kX7_157 rfl dX7_addLetter_42 za_60 (Nat.le_of_ble_eq_true rfl) (zrm (by decide)) (tX7_sets e11) ?_
  refine zs_aload_n dX7_addLetter_45 rfl ?_
  refine zs_iload dX7_addLetter_46 rfl ?_
  refine zs_iconst (4 : Int32) dX7_addLetter_48 ziconst_4 ?_
  refine zs_iconst (0 : Int32) dX7_addLetter_49 ziconst_0 ?_
  obtain ⟨w14, e13, h⟩ := zbind h
  refine zc_V3v moX7_sets mvX7_sets kX7_157 rfl dX7_addLetter_50 za_60 (Nat.le_of_ble_eq_true rfl) (zrm (by decide)) (tX7_sets e13) ?_
  refine zs_aload_n dX7_addLetter_53 rfl ?_
  refine gX7_7 dX7_addLetter_54 ?_
  refine zs_iconst (2 : Int32) dX7_addLetter_57 ziconst_2 ?_
  refine zs_dup2 dX7_addLetter_58 rfl rfl ?_
  obtain ⟨v15, e16, h⟩ := zbind h
  refine zs_iald dX7_addLetter_59 za_61 e16 ?_
  refine zs_iconst (1 : Int32) dX7_addLetter_60 ziconst_1 ?_
  refine zs_iadd dX7_addLetter_61 ?_
  obtain ⟨w17, e18, h⟩ := zbind h
  refine zs_iast dX7_addLetter_62 za_61 e18 ?_
  obtain rfl := Option.some.inj h
  exact zs_vret dX7_addLetter_63 ⟨rfl, rfl⟩
def fX7_addRoad (w : zW) (p1 : Int32) (p2 : Int32) (p3 : Int32) : Option zW := Option.bind (zrd w 61 151 (1 : Int32)) fun v1 => Option.bind (some (((29 : Int32) + ((3 : Int32) * v1)))) fun x3 => Option.bind (zwr w 61 151 x3 p1) fun w5 => Option.bind (zwr w5 61 151 (x3 + (1 : Int32)) p2) fun w7 => Option.bind (zwr w7 61 151 (x3 + (2 : Int32)) p3) fun w9 => Option.bind (zrd w9 61 151 (1 : Int32)) fun v11 => Option.bind (zwr w9 61 151 (1 : Int32) (v11 + (1 : Int32))) fun w13 => some w13
set_option maxRecDepth 100000 in
theorem tX7_addRoad {w : zW} {p1 : Int32} {p2 : Int32} {p3 : Int32}   {w' : zW} (h : fX7_addRoad w p1 p2 p3 = some w') : zRun yX7_addRoad cX7_addRoad 5 none 0 [.ref 60, .int p1, .int p2, .int p3] w (zV w') := by
  refine zRun.of (k := 1) rfl rfl rfl ?_
  show zWP RX7 cX7_addRoad (zMB 5 none 0 (zV w')) 0 [some (.ref 60), some (.int p1), some (.int p2), some (.int p3), none] [] w
  unfold fX7_addRoad at h
  refine zs_bipush (29 : Int32) dX7_addRoad_0 zbipush_29 ?_
  refine zs_iconst (3 : Int32) dX7_addRoad_2 ziconst_3 ?_
  refine zs_aload_n dX7_addRoad_3 rfl ?_
  refine gX7_7 dX7_addRoad_4 ?_
  refine zs_iconst (1 : Int32) dX7_addRoad_7 ziconst_1 ?_
  obtain ⟨v1, e2, h⟩ := zbind h
  refine zs_iald dX7_addRoad_8 za_61 e2 ?_
  refine zs_imul dX7_addRoad_9 ?_
  refine zs_iadd dX7_addRoad_10 ?_
  obtain ⟨x3, e4, h⟩ := zbind h
  refine zs_nmi (Option.some.inj e4) ?_
  refine zs_istore [some (.ref 60), some (.int p1), some (.int p2), some (.int p3), some (.int x3)] dX7_addRoad_11 (Nat.le_of_ble_eq_true rfl) rfl rfl ?_
  refine zs_aload_n dX7_addRoad_13 rfl ?_
  refine gX7_7 dX7_addRoad_14 ?_
  refine zs_iload dX7_addRoad_17 rfl ?_
  refine zs_iload_n dX7_addRoad_19 rfl ?_
  obtain ⟨w5, e6, h⟩ := zbind h
  refine zs_iast dX7_addRoad_20 za_61 e6 ?_
  refine zs_aload_n dX7_addRoad_21 rfl ?_
  refine gX7_7 dX7_addRoad_22 ?_
  refine zs_iload dX7_addRoad_25 rfl ?_
  refine zs_iconst (1 : Int32) dX7_addRoad_27 ziconst_1 ?_
  refine zs_iadd dX7_addRoad_28 ?_
  refine zs_iload_n dX7_addRoad_29 rfl ?_
  obtain ⟨w7, e8, h⟩ := zbind h
  refine zs_iast dX7_addRoad_30 za_61 e8 ?_
  refine zs_aload_n dX7_addRoad_31 rfl ?_
  refine gX7_7 dX7_addRoad_32 ?_
  refine zs_iload dX7_addRoad_35 rfl ?_
  refine zs_iconst (2 : Int32) dX7_addRoad_37 ziconst_2 ?_
  refine zs_iadd dX7_addRoad_38 ?_
  refine zs_iload_n dX7_addRoad_39 rfl ?_
  obtain ⟨w9, e10, h⟩ := zbind h
  refine zs_iast dX7_addRoad_40 za_61 e10 ?_
  refine zs_aload_n dX7_addRoad_41 rfl ?_
  refine gX7_7 dX7_addRoad_42 ?_
  refine zs_iconst (1 : Int32) dX7_addRoad_45 ziconst_1 ?_
  refine zs_dup2 dX7_addRoad_46 rfl rfl ?_
  obtain ⟨v11, e12, h⟩ := zbind h
  refine zs_iald dX7_addRoad_47 za_61 e12 ?_
  refine zs_iconst (1 : Int32) dX7_addRoad_48 ziconst_1 ?_
  refine zs_iadd dX7_addRoad_49 ?_
  obtain ⟨w13, e14, h⟩ := zbind h
  refine zs_iast dX7_addRoad_50 za_61 e14 ?_
  obtain rfl := Option.some.inj h
  exact zs_vret dX7_addRoad_51 ⟨rfl, rfl⟩
def fX7_addVillage (w : zW) (p1 : Int32) (p2 : Int32) : Option zW := Option.bind (zrd w 61 151 (0 : Int32)) fun v1 => Option.bind (zwr w 61 151 ((5 : Int32) + ((2 : Int32) * v1)) p1) fun w3 => Option.bind (if p2 = 0 then (some (0 : Int32)) else (some (1 : Int32))) fun x5 => Option.bind (zwr w3 61 151 (((5 : Int32) + ((2 : Int32) * v1)) + (1 : Int32)) x5) fun w8 => Option.bind (zrd w8 61 151 (0 : Int32)) fun v10 => Option.bind (zwr w8 61 151 (0 : Int32) (v10 + (1 : Int32))) fun w12 => some w12
set_option maxRecDepth 100000 in
theorem tX7_addVillage {w : zW} {p1 : Int32} {p2 : Int32}   {w' : zW} (h : fX7_addVillage w p1 p2 = some w') : zRun yX7_addVillage cX7_addVillage 4 none 0 [.ref 60, .int p1, .int p2] w (zV w') := by
  refine zRun.of (k := 1) rfl rfl rfl ?_
  show zWP RX7 cX7_addVillage (zMB 4 none 0 (zV w')) 0 [some (.ref 60), some (.int p1), some (.int p2), none] [] w
  unfold fX7_addVillage at h
  refine zs_aload_n dX7_addVillage_0 rfl ?_
  refine gX7_7 dX7_addVillage_1 ?_
  refine zs_iconst (0 : Int32) dX7_addVillage_4 ziconst_0 ?_
  obtain ⟨v1, e2, h⟩ := zbind h
  refine zs_iald dX7_addVillage_5 za_61 e2 ?_
  refine zs_istore_n [some (.ref 60), some (.int p1), some (.int p2), some (.int v1)] dX7_addVillage_6 (Nat.le_of_ble_eq_true rfl) rfl rfl ?_
  refine zs_aload_n dX7_addVillage_7 rfl ?_
  refine gX7_7 dX7_addVillage_8 ?_
  refine zs_iconst (5 : Int32) dX7_addVillage_11 ziconst_5 ?_
  refine zs_iconst (2 : Int32) dX7_addVillage_12 ziconst_2 ?_
  refine zs_iload_n dX7_addVillage_13 rfl ?_
  refine zs_imul dX7_addVillage_14 ?_
  refine zs_iadd dX7_addVillage_15 ?_
  refine zs_iload_n dX7_addVillage_16 rfl ?_
  obtain ⟨w3, e4, h⟩ := zbind h
  refine zs_iast dX7_addVillage_17 za_61 e4 ?_
  refine zs_aload_n dX7_addVillage_18 rfl ?_
  refine gX7_7 dX7_addVillage_19 ?_
  refine zs_iconst (5 : Int32) dX7_addVillage_22 ziconst_5 ?_
  refine zs_iconst (2 : Int32) dX7_addVillage_23 ziconst_2 ?_
  refine zs_iload_n dX7_addVillage_24 rfl ?_
  refine zs_imul dX7_addVillage_25 ?_
  refine zs_iadd dX7_addVillage_26 ?_
  refine zs_iconst (1 : Int32) dX7_addVillage_27 ziconst_1 ?_
  refine zs_iadd dX7_addVillage_28 ?_
  refine zs_iload_n dX7_addVillage_29 rfl ?_
  obtain ⟨x5, m7, h⟩ := zbind h
  have K6 : zWP RX7 cX7_addVillage (zMB 4 none 0 (zV w')) 38 [some (.ref 60), none, none, none] [.int x5, .int (((5 : Int32) + ((2 : Int32) * v1)) + (1 : Int32)), .ref 61] w3 := by
    obtain ⟨w8, e9, h⟩ := zbind h
    refine zs_iast dX7_addVillage_38 za_61 e9 ?_
    refine zs_aload_n dX7_addVillage_39 rfl ?_
    refine gX7_7 dX7_addVillage_40 ?_
    refine zs_iconst (0 : Int32) dX7_addVillage_43 ziconst_0 ?_
    refine zs_dup2 dX7_addVillage_44 rfl rfl ?_
    obtain ⟨v10, e11, h⟩ := zbind h
    refine zs_iald dX7_addVillage_45 za_61 e11 ?_
    refine zs_iconst (1 : Int32) dX7_addVillage_46 ziconst_1 ?_
    refine zs_iadd dX7_addVillage_47 ?_
    obtain ⟨w12, e13, h⟩ := zbind h
    refine zs_iast dX7_addVillage_48 za_61 e13 ?_
    obtain rfl := Option.some.inj h
    exact zs_vret dX7_addVillage_49 ⟨rfl, rfl⟩
  refine zs_if_eq 37 dX7_addVillage_30 rfl (fun c14 => ?_) (fun c14 => ?_)
  · replace m7 := zite_t c14 m7
    refine zs_iconst (0 : Int32) dX7_addVillage_37 ziconst_0 ?_
    refine zs_fo [true, false, false, false] rfl ?_
    obtain rfl := Option.some.inj m7
    exact K6
  · replace m7 := zite_f c14 m7
    refine zs_iconst (1 : Int32) dX7_addVillage_33 ziconst_1 ?_
    refine zs_goto 38 dX7_addVillage_34 rfl ?_
    refine zs_fo [true, false, false, false] rfl ?_
    obtain rfl := Option.some.inj m7
    exact K6
def fX7_byteAt (w : zW) (p1 : Int32) : Option Int32 := (if (w.1 60 7) ≤ p1 then (some (-1 : Int32)) else (Option.bind (zrd w 65 120 p1) fun v1 => some v1))
set_option maxRecDepth 100000 in
theorem tX7_byteAt {w : zW} {p1 : Int32}  {r : Int32} (h : fX7_byteAt w p1 = some r) : zRun yX7_byteAt cX7_byteAt 2 (some .int) 0 [.ref 60, .int p1] w (zI r w) := by
  refine zRun.of (k := 0) rfl rfl rfl ?_
  show zWP RX7 cX7_byteAt (zMB 2 (some .int) 0 (zI r w)) 0 [some (.ref 60), some (.int p1)] [] w
  unfold fX7_byteAt at h
  refine zs_iload_n dX7_byteAt_0 rfl ?_
  refine zs_aload_n dX7_byteAt_1 rfl ?_
  refine gX7_204 dX7_byteAt_2 ?_
  refine zs_icmp_ge 17 dX7_byteAt_5 rfl (fun c3 => ?_) (fun c3 => ?_)
  · replace h := zite_t c3 h
    refine zs_iconst (-1 : Int32) dX7_byteAt_17 ziconst_m1 ?_
    obtain rfl := Option.some.inj h
    exact zs_iret dX7_byteAt_18 ⟨rfl, rfl⟩
  · replace h := zite_f c3 h
    refine zs_aload_n dX7_byteAt_8 rfl ?_
    refine gX7_22 dX7_byteAt_9 ?_
    refine zs_iload_n dX7_byteAt_12 rfl ?_
    obtain ⟨v1, e2, h⟩ := zbind h
    refine zs_iald dX7_byteAt_13 za_65 e2 ?_
    refine zs_goto 18 dX7_byteAt_14 rfl ?_
    obtain rfl := Option.some.inj h
    exact zs_iret dX7_byteAt_18 ⟨rfl, rfl⟩
def fX7_in (w : zW) (p0 : Int32) (p1 : Int32) (p2 : Int32) : Option Int32 := (if p0 < p1 then (some (0 : Int32)) else ((if p2 < p0 then (some (0 : Int32)) else (some (1 : Int32)))))
set_option maxRecDepth 100000 in
theorem tX7_in {w : zW} {p0 : Int32} {p1 : Int32} {p2 : Int32}  {r : Int32} (h : fX7_in w p0 p1 p2 = some r) : zRun yX7_in cX7_in 3 (some .boolean) 0 [.int p0, .int p1, .int p2] w (zI r w) := by
  refine zRun.of (k := 0) rfl rfl rfl ?_
  show zWP RX7 cX7_in (zMB 3 (some .boolean) 0 (zI r w)) 0 [some (.int p0), some (.int p1), some (.int p2)] [] w
  unfold fX7_in at h
  refine zs_iload_n dX7_in_0 rfl ?_
  refine zs_iload_n dX7_in_1 rfl ?_
  refine zs_icmp_lt 14 dX7_in_2 rfl (fun c2 => ?_) (fun c2 => ?_)
  · replace h := zite_t c2 h
    refine zs_iconst (0 : Int32) dX7_in_14 ziconst_0 ?_
    obtain rfl := Option.some.inj h
    exact zs_bret dX7_in_15 (Or.inl rfl) ⟨rfl, rfl⟩
  · replace h := zite_f c2 h
    refine zs_iload_n dX7_in_5 rfl ?_
    refine zs_iload_n dX7_in_6 rfl ?_
    refine zs_icmp_gt 14 dX7_in_7 rfl (fun c1 => ?_) (fun c1 => ?_)
    · replace h := zite_t c1 h
      refine zs_iconst (0 : Int32) dX7_in_14 ziconst_0 ?_
      obtain rfl := Option.some.inj h
      exact zs_bret dX7_in_15 (Or.inl rfl) ⟨rfl, rfl⟩
    · replace h := zite_f c1 h
      refine zs_iconst (1 : Int32) dX7_in_10 ziconst_1 ?_
      refine zs_goto 15 dX7_in_11 rfl ?_
      obtain rfl := Option.some.inj h
      exact zs_bret dX7_in_15 (Or.inr rfl) ⟨rfl, rfl⟩
def fX7_isDigit (w : zW) (p0 : Int32) : Option Int32 := Option.bind (fX7_in w p0 (48 : Int32) (57 : Int32)) fun v2 => Option.bind (zgb v2) fun b3 => some b3
set_option maxRecDepth 100000 in
theorem tX7_isDigit {w : zW} {p0 : Int32}  {r : Int32} (h : fX7_isDigit w p0 = some r) : zRun yX7_isDigit cX7_isDigit 1 (some .boolean) 1 [.int p0] w (zI r w) := by
  refine zRun.of (k := 0) rfl rfl rfl ?_
  show zWP RX7 cX7_isDigit (zMB 1 (some .boolean) 1 (zI r w)) 0 [some (.int p0)] [] w
  unfold fX7_isDigit at h
  refine zs_iload_n dX7_isDigit_0 rfl ?_
  refine zs_bipush (48 : Int32) dX7_isDigit_1 zbipush_48 ?_
  refine zs_bipush (57 : Int32) dX7_isDigit_3 zbipush_57 ?_
  obtain ⟨v2, e1, h⟩ := zbind h
  refine zc_S3i moX7_in mvX7_in kX7_45 dX7_isDigit_5 (Nat.le_of_ble_eq_true rfl) (zrm (by decide)) (tX7_in e1) ?_
  obtain ⟨b3, e4, h⟩ := zbind h
  refine zs_nmi (zgb_inv e4).2 ?_
  obtain rfl := Option.some.inj h
  exact zs_bret dX7_isDigit_8 (by have q := zgb_inv e4; exact q.2 ▸ q.1) ⟨rfl, rfl⟩
def fX7_isLetter (w : zW) (p0 : Int32) : Option Int32 := Option.bind (fX7_in w p0 (97 : Int32) (122 : Int32)) fun v2 => Option.bind (zgb v2) fun b3 => some b3
set_option maxRecDepth 100000 in
theorem tX7_isLetter {w : zW} {p0 : Int32}  {r : Int32} (h : fX7_isLetter w p0 = some r) : zRun yX7_isLetter cX7_isLetter 1 (some .boolean) 1 [.int p0] w (zI r w) := by
  refine zRun.of (k := 0) rfl rfl rfl ?_
  show zWP RX7 cX7_isLetter (zMB 1 (some .boolean) 1 (zI r w)) 0 [some (.int p0)] [] w
  unfold fX7_isLetter at h
  refine zs_iload_n dX7_isLetter_0 rfl ?_
  refine zs_bipush (97 : Int32) dX7_isLetter_1 zbipush_97 ?_
  refine zs_bipush (122 : Int32) dX7_isLetter_3 zbipush_122 ?_
  obtain ⟨v2, e1, h⟩ := zbind h
  refine zc_S3i moX7_in mvX7_in kX7_45 dX7_isLetter_5 (Nat.le_of_ble_eq_true rfl) (zrm (by decide)) (tX7_in e1) ?_
  obtain ⟨b3, e4, h⟩ := zbind h
  refine zs_nmi (zgb_inv e4).2 ?_
  obtain rfl := Option.some.inj h
  exact zs_bret dX7_isLetter_8 (by have q := zgb_inv e4; exact q.2 ▸ q.1) ⟨rfl, rfl⟩
def lpX7_advance_8  : Nat → zW → Option zW
  | 0, _ => none
  | n + 1, w3 => Option.bind (fX7_byteAt w3 (w3.1 60 9)) fun v6 => (if v6 = (32 : Int32) then (Option.bind (some (zsf w3 60 9 ((w3.1 60 9) + (1 : Int32)))) fun w7 => lpX7_advance_8 n w7) else (some w3))
def lpX7_advance_126  : Nat → zW → Option zW
  | 0, _ => none
  | n + 1, w48 => (if (w48.1 60 8) = (1 : Int32) then (Option.bind (fX7_byteAt w48 (w48.1 60 10)) fun v51 => Option.bind (fX7_isLetter w48 v51) fun v53 => (if v53 = 0 then (some w48) else (Option.bind (if (12 : Int32) ≤ ((w48.1 60 10) - (w48.1 60 9)) then (some (-1 : Int64)) else (Option.bind (fX7_byteAt w48 (w48.1 60 10)) fun v60 => some ((((27 : Int64) * (w48.2 60 11)) + ((v60).toInt64)) - (96 : Int64)))) fun x56 => Option.bind (some (zsg w48 60 11 x56)) fun w61 => Option.bind (some (zsf w61 60 10 ((w61.1 60 10) + (1 : Int32)))) fun w63 => lpX7_advance_126 n w63))) else (some w48))
def lpX7_advance_207  : Nat → zW → Option zW
  | 0, _ => none
  | n + 1, w71 => (if (w71.1 60 8) = (2 : Int32) then (Option.bind (fX7_byteAt w71 (w71.1 60 10)) fun v74 => Option.bind (fX7_isDigit w71 v74) fun v76 => (if v76 = 0 then (some w71) else (Option.bind (if (w71.1 60 12) ≤ (999 : Int32) then (Option.bind (fX7_byteAt w71 (w71.1 60 10)) fun v83 => some ((((10 : Int32) * (w71.1 60 12)) + v83) - (48 : Int32))) else (some (10000 : Int32))) fun x79 => Option.bind (some (zsf w71 60 12 x79)) fun w84 => Option.bind (some (zsf w84 60 10 ((w84.1 60 10) + (1 : Int32)))) fun w86 => lpX7_advance_207 n w86))) else (some w71))
def fX7_advance (w : zW)  : Option zW := Option.bind (some (zsf w 60 9 (w.1 60 10))) fun w1 => Option.bind (lpX7_advance_8  zF w1) fun w12 => Option.bind (some (zsf w12 60 10 (w12.1 60 9))) fun w13 => Option.bind (fX7_byteAt w13 (w13.1 60 9)) fun v16 => Option.bind (if 0 ≤ v16 then (Option.bind (fX7_isLetter w13 v16) fun v27 => (if v27 = 0 then (Option.bind (fX7_isDigit w13 v16) fun v29 => (if v29 = 0 then (some (3 : Int32)) else (some (2 : Int32)))) else (some (1 : Int32)))) else (some (0 : Int32))) fun x23 => Option.bind (some (zsf w13 60 8 x23)) fun w32 => Option.bind (some (zsg w32 60 11 (0 : Int64))) fun w34 => Option.bind (if (w34.1 60 8) = (2 : Int32) then (some (0 : Int32)) else (some v16)) fun x36 => Option.bind (some (zsf w34 60 12 x36)) fun w39 => Option.bind (if (w39.1 60 8) = (3 : Int32) then (Option.bind (some (zsf w39 60 10 ((w39.1 60 10) + (1 : Int32)))) fun w46 => some w46) else (some w39)) fun w43 => Option.bind (lpX7_advance_126  zF w43) fun w70 => Option.bind (lpX7_advance_207  zF w70) fun w93 => some w93
set_option maxRecDepth 100000 in
theorem tlX7_advance_8   {Q : Option Value → zW → Prop} : ∀ (n : Nat) (w3 : zW) (w4 : zW), lpX7_advance_8  n w3 = some w4 → zWP RX7 cX7_advance (zMB 2 none 2 Q) 34 [some (.ref 60), none] [] w4 → zWP RX7 cX7_advance (zMB 2 none 2 Q) 8 [some (.ref 60), none] [] w3 := by
  intro n
  induction n with
  | zero => intro w3 w4 h K; simp [lpX7_advance_8] at h
  | succ n ih =>
    intro w3 w4 h K
    rw [lpX7_advance_8] at h
    refine zs_aload_n dX7_advance_8 rfl ?_
    refine zs_aload_n dX7_advance_9 rfl ?_
    refine gX7_210 dX7_advance_10 ?_
    obtain ⟨v6, e5, h⟩ := zbind h
    refine zc_V1i moX7_byteAt mvX7_byteAt kX7_213 rfl dX7_advance_13 za_60 (Nat.le_of_ble_eq_true rfl) (zrm (by decide)) (tX7_byteAt e5) ?_
    refine zs_bipush (32 : Int32) dX7_advance_16 zbipush_32 ?_
    refine zs_icmp_ne 34 dX7_advance_18 rfl (fun c9 => ?_) (fun c9 => ?_)
    · replace h := zite_f c9 h
      obtain rfl := Option.some.inj h
      exact K
    · replace h := zite_t c9 h
      refine zs_aload_n dX7_advance_21 rfl ?_
      refine zs_dup dX7_advance_22 rfl ?_
      refine gX7_210 dX7_advance_23 ?_
      refine zs_iconst (1 : Int32) dX7_advance_26 ziconst_1 ?_
      refine zs_iadd dX7_advance_27 ?_
      obtain ⟨w7, e8, h⟩ := zbind h
      refine pX7_210 dX7_advance_28 ?_
      refine zs_nmw (Option.some.inj e8) ?_
      refine zs_goto 8 dX7_advance_31 rfl ?_
      exact ih _ _ h K
set_option maxRecDepth 100000 in
theorem tlX7_advance_126   {Q : Option Value → zW → Prop} : ∀ (n : Nat) (w48 : zW) (w49 : zW), lpX7_advance_126  n w48 = some w49 → zWP RX7 cX7_advance (zMB 2 none 2 Q) 207 [some (.ref 60), none] [] w49 → zWP RX7 cX7_advance (zMB 2 none 2 Q) 126 [some (.ref 60), none] [] w48 := by
  intro n
  induction n with
  | zero => intro w48 w49 h K; simp [lpX7_advance_126] at h
  | succ n ih =>
    intro w48 w49 h K
    rw [lpX7_advance_126] at h
    refine zs_aload_n dX7_advance_126 rfl ?_
    refine gX7_222 dX7_advance_127 ?_
    refine zs_iconst (1 : Int32) dX7_advance_130 ziconst_1 ?_
    refine zs_icmp_ne 207 dX7_advance_131 rfl (fun c67 => ?_) (fun c67 => ?_)
    · replace h := zite_f c67 h
      obtain rfl := Option.some.inj h
      exact K
    · replace h := zite_t c67 h
      refine zs_aload_n dX7_advance_134 rfl ?_
      refine zs_aload_n dX7_advance_135 rfl ?_
      refine gX7_207 dX7_advance_136 ?_
      obtain ⟨v51, e50, h⟩ := zbind h
      refine zc_V1i moX7_byteAt mvX7_byteAt kX7_213 rfl dX7_advance_139 za_60 (Nat.le_of_ble_eq_true rfl) (zrm (by decide)) (tX7_byteAt e50) ?_
      obtain ⟨v53, e52, h⟩ := zbind h
      refine zc_S1i moX7_isLetter mvX7_isLetter kX7_216 dX7_advance_142 (Nat.le_of_ble_eq_true rfl) (zrm (by decide)) (tX7_isLetter e52) ?_
      refine zs_if_eq 207 dX7_advance_145 rfl (fun c66 => ?_) (fun c66 => ?_)
      · replace h := zite_t c66 h
        obtain rfl := Option.some.inj h
        exact K
      · replace h := zite_f c66 h
        refine zs_aload_n dX7_advance_148 rfl ?_
        refine zs_aload_n dX7_advance_149 rfl ?_
        refine gX7_207 dX7_advance_150 ?_
        refine zs_aload_n dX7_advance_153 rfl ?_
        refine gX7_210 dX7_advance_154 ?_
        refine zs_isub dX7_advance_157 ?_
        refine zs_bipush (12 : Int32) dX7_advance_158 zbipush_12 ?_
        obtain ⟨x56, m58, h⟩ := zbind h
        have K57 : zWP RX7 cX7_advance (zMB 2 none 2 Q) 191 [some (.ref 60), none] [.long x56, .ref 60] w48 := by
          obtain ⟨w61, e62, h⟩ := zbind h
          refine pX7_225 dX7_advance_191 ?_
          refine zs_nmw (Option.some.inj e62) ?_
          refine zs_aload_n dX7_advance_194 rfl ?_
          refine zs_dup dX7_advance_195 rfl ?_
          refine gX7_207 dX7_advance_196 ?_
          refine zs_iconst (1 : Int32) dX7_advance_199 ziconst_1 ?_
          refine zs_iadd dX7_advance_200 ?_
          obtain ⟨w63, e64, h⟩ := zbind h
          refine pX7_207 dX7_advance_201 ?_
          refine zs_nmw (Option.some.inj e64) ?_
          refine zs_goto 126 dX7_advance_204 rfl ?_
          exact ih _ _ h K
        refine zs_icmp_ge 188 dX7_advance_160 rfl (fun c65 => ?_) (fun c65 => ?_)
        · replace m58 := zite_t c65 m58
          refine zs_ldc2_w kX7_236 dX7_advance_188 ?_
          obtain rfl := Option.some.inj m58
          exact K57
        · replace m58 := zite_f c65 m58
          refine zs_ldc2_w kX7_232 dX7_advance_163 ?_
          refine zs_aload_n dX7_advance_166 rfl ?_
          refine gX7_225 dX7_advance_167 ?_
          refine zs_lmul dX7_advance_170 ?_
          refine zs_aload_n dX7_advance_171 rfl ?_
          refine zs_aload_n dX7_advance_172 rfl ?_
          refine gX7_207 dX7_advance_173 ?_
          obtain ⟨v60, e59, m58⟩ := zbind m58
          refine zc_V1i moX7_byteAt mvX7_byteAt kX7_213 rfl dX7_advance_176 za_60 (Nat.le_of_ble_eq_true rfl) (zrm (by decide)) (tX7_byteAt e59) ?_
          refine zs_i2l dX7_advance_179 ?_
          refine zs_ladd dX7_advance_180 ?_
          refine zs_ldc2_w kX7_234 dX7_advance_181 ?_
          refine zs_lsub dX7_advance_184 ?_
          refine zs_goto 191 dX7_advance_185 rfl ?_
          obtain rfl := Option.some.inj m58
          exact K57
set_option maxRecDepth 100000 in
theorem tlX7_advance_207   {Q : Option Value → zW → Prop} : ∀ (n : Nat) (w71 : zW) (w72 : zW), lpX7_advance_207  n w71 = some w72 → zWP RX7 cX7_advance (zMB 2 none 2 Q) 281 [none, none] [] w72 → zWP RX7 cX7_advance (zMB 2 none 2 Q) 207 [some (.ref 60), none] [] w71 := by
  intro n
  induction n with
  | zero => intro w71 w72 h K; simp [lpX7_advance_207] at h
  | succ n ih =>
    intro w71 w72 h K
    rw [lpX7_advance_207] at h
    refine zs_aload_n dX7_advance_207 rfl ?_
    refine gX7_222 dX7_advance_208 ?_
    refine zs_iconst (2 : Int32) dX7_advance_211 ziconst_2 ?_
    refine zs_icmp_ne 281 dX7_advance_212 rfl (fun c90 => ?_) (fun c90 => ?_)
    · replace h := zite_f c90 h
      refine zs_fo [false, false] rfl ?_
      obtain rfl := Option.some.inj h
      exact K
    · replace h := zite_t c90 h
      refine zs_aload_n dX7_advance_215 rfl ?_
      refine zs_aload_n dX7_advance_216 rfl ?_
      refine gX7_207 dX7_advance_217 ?_
      obtain ⟨v74, e73, h⟩ := zbind h
      refine zc_V1i moX7_byteAt mvX7_byteAt kX7_213 rfl dX7_advance_220 za_60 (Nat.le_of_ble_eq_true rfl) (zrm (by decide)) (tX7_byteAt e73) ?_
      obtain ⟨v76, e75, h⟩ := zbind h
      refine zc_S1i moX7_isDigit mvX7_isDigit kX7_219 dX7_advance_223 (Nat.le_of_ble_eq_true rfl) (zrm (by decide)) (tX7_isDigit e75) ?_
      refine zs_if_eq 281 dX7_advance_226 rfl (fun c89 => ?_) (fun c89 => ?_)
      · replace h := zite_t c89 h
        refine zs_fo [false, false] rfl ?_
        obtain rfl := Option.some.inj h
        exact K
      · replace h := zite_f c89 h
        refine zs_aload_n dX7_advance_229 rfl ?_
        refine zs_aload_n dX7_advance_230 rfl ?_
        refine gX7_229 dX7_advance_231 ?_
        refine zs_sipush (999 : Int32) dX7_advance_234 zsipush_999 ?_
        obtain ⟨x79, m81, h⟩ := zbind h
        have K80 : zWP RX7 cX7_advance (zMB 2 none 2 Q) 265 [some (.ref 60), none] [.int x79, .ref 60] w71 := by
          obtain ⟨w84, e85, h⟩ := zbind h
          refine pX7_229 dX7_advance_265 ?_
          refine zs_nmw (Option.some.inj e85) ?_
          refine zs_aload_n dX7_advance_268 rfl ?_
          refine zs_dup dX7_advance_269 rfl ?_
          refine gX7_207 dX7_advance_270 ?_
          refine zs_iconst (1 : Int32) dX7_advance_273 ziconst_1 ?_
          refine zs_iadd dX7_advance_274 ?_
          obtain ⟨w86, e87, h⟩ := zbind h
          refine pX7_207 dX7_advance_275 ?_
          refine zs_nmw (Option.some.inj e87) ?_
          refine zs_goto 207 dX7_advance_278 rfl ?_
          exact ih _ _ h K
        refine zs_icmp_le 246 dX7_advance_237 rfl (fun c88 => ?_) (fun c88 => ?_)
        · replace m81 := zite_t c88 m81
          refine zs_bipush (10 : Int32) dX7_advance_246 zbipush_10 ?_
          refine zs_aload_n dX7_advance_248 rfl ?_
          refine gX7_229 dX7_advance_249 ?_
          refine zs_imul dX7_advance_252 ?_
          refine zs_aload_n dX7_advance_253 rfl ?_
          refine zs_aload_n dX7_advance_254 rfl ?_
          refine gX7_207 dX7_advance_255 ?_
          obtain ⟨v83, e82, m81⟩ := zbind m81
          refine zc_V1i moX7_byteAt mvX7_byteAt kX7_213 rfl dX7_advance_258 za_60 (Nat.le_of_ble_eq_true rfl) (zrm (by decide)) (tX7_byteAt e82) ?_
          refine zs_iadd dX7_advance_261 ?_
          refine zs_bipush (48 : Int32) dX7_advance_262 zbipush_48 ?_
          refine zs_isub dX7_advance_264 ?_
          obtain rfl := Option.some.inj m81
          exact K80
        · replace m81 := zite_f c88 m81
          refine zs_sipush (10000 : Int32) dX7_advance_240 zsipush_10000 ?_
          refine zs_goto 265 dX7_advance_243 rfl ?_
          obtain rfl := Option.some.inj m81
          exact K80
set_option maxRecDepth 100000 in
theorem tX7_advance {w : zW}    {w' : zW} (h : fX7_advance w  = some w') : zRun yX7_advance cX7_advance 2 none 2 [.ref 60] w (zV w') := by
  refine zRun.of (k := 1) rfl rfl rfl ?_
  show zWP RX7 cX7_advance (zMB 2 none 2 (zV w')) 0 [some (.ref 60), none] [] w
  unfold fX7_advance at h
  refine zs_aload_n dX7_advance_0 rfl ?_
  refine zs_aload_n dX7_advance_1 rfl ?_
  refine gX7_207 dX7_advance_2 ?_
  obtain ⟨w1, e2, h⟩ := zbind h
  refine pX7_210 dX7_advance_5 ?_
  refine zs_nmw (Option.some.inj e2) ?_
  obtain ⟨w12, e10, h⟩ := zbind h
  have K11 : zWP RX7 cX7_advance (zMB 2 none 2 (zV w')) 34 [some (.ref 60), none] [] w12 := by
    refine zs_aload_n dX7_advance_34 rfl ?_
    refine zs_aload_n dX7_advance_35 rfl ?_
    refine gX7_210 dX7_advance_36 ?_
    obtain ⟨w13, e14, h⟩ := zbind h
    refine pX7_207 dX7_advance_39 ?_
    refine zs_nmw (Option.some.inj e14) ?_
    refine zs_aload_n dX7_advance_42 rfl ?_
    refine zs_aload_n dX7_advance_43 rfl ?_
    refine gX7_210 dX7_advance_44 ?_
    obtain ⟨v16, e15, h⟩ := zbind h
    refine zc_V1i moX7_byteAt mvX7_byteAt kX7_213 rfl dX7_advance_47 za_60 (Nat.le_of_ble_eq_true rfl) (zrm (by decide)) (tX7_byteAt e15) ?_
    refine zs_istore_n [some (.ref 60), some (.int v16)] dX7_advance_50 (Nat.le_of_ble_eq_true rfl) rfl rfl ?_
    refine zs_aload_n dX7_advance_51 rfl ?_
    refine zs_iload_n dX7_advance_52 rfl ?_
    obtain ⟨x23, m25, h⟩ := zbind h
    have K24 : zWP RX7 cX7_advance (zMB 2 none 2 (zV w')) 83 [some (.ref 60), some (.int v16)] [.int x23, .ref 60] w13 := by
      obtain ⟨w32, e33, h⟩ := zbind h
      refine pX7_222 dX7_advance_83 ?_
      refine zs_nmw (Option.some.inj e33) ?_
      refine zs_aload_n dX7_advance_86 rfl ?_
      refine zs_lconst (0 : Int64) dX7_advance_87 rfl ?_
      obtain ⟨w34, e35, h⟩ := zbind h
      refine pX7_225 dX7_advance_88 ?_
      refine zs_nmw (Option.some.inj e35) ?_
      refine zs_aload_n dX7_advance_91 rfl ?_
      refine zs_aload_n dX7_advance_92 rfl ?_
      refine gX7_222 dX7_advance_93 ?_
      refine zs_iconst (2 : Int32) dX7_advance_96 ziconst_2 ?_
      obtain ⟨x36, m38, h⟩ := zbind h
      have K37 : zWP RX7 cX7_advance (zMB 2 none 2 (zV w')) 105 [some (.ref 60), none] [.int x36, .ref 60] w34 := by
        obtain ⟨w39, e40, h⟩ := zbind h
        refine pX7_229 dX7_advance_105 ?_
        refine zs_nmw (Option.some.inj e40) ?_
        refine zs_aload_n dX7_advance_108 rfl ?_
        refine gX7_222 dX7_advance_109 ?_
        refine zs_iconst (3 : Int32) dX7_advance_112 ziconst_3 ?_
        obtain ⟨w43, m45, h⟩ := zbind h
        have K44 : zWP RX7 cX7_advance (zMB 2 none 2 (zV w')) 126 [some (.ref 60), none] [] w43 := by
          obtain ⟨w70, e68, h⟩ := zbind h
          have K69 : zWP RX7 cX7_advance (zMB 2 none 2 (zV w')) 207 [some (.ref 60), none] [] w70 := by
            obtain ⟨w93, e91, h⟩ := zbind h
            have K92 : zWP RX7 cX7_advance (zMB 2 none 2 (zV w')) 281 [none, none] [] w93 := by
              obtain rfl := Option.some.inj h
              exact zs_vret dX7_advance_281 ⟨rfl, rfl⟩
            exact tlX7_advance_207  zF _ _ e91 K92
          exact tlX7_advance_126  zF _ _ e68 K69
        refine zs_icmp_ne 126 dX7_advance_113 rfl (fun c94 => ?_) (fun c94 => ?_)
        · replace m45 := zite_f c94 m45
          obtain rfl := Option.some.inj m45
          exact K44
        · replace m45 := zite_t c94 m45
          refine zs_aload_n dX7_advance_116 rfl ?_
          refine zs_dup dX7_advance_117 rfl ?_
          refine gX7_207 dX7_advance_118 ?_
          refine zs_iconst (1 : Int32) dX7_advance_121 ziconst_1 ?_
          refine zs_iadd dX7_advance_122 ?_
          obtain ⟨w46, e47, m45⟩ := zbind m45
          refine pX7_207 dX7_advance_123 ?_
          refine zs_nmw (Option.some.inj e47) ?_
          obtain rfl := Option.some.inj m45
          exact K44
      refine zs_icmp_ne 104 dX7_advance_97 rfl (fun c95 => ?_) (fun c95 => ?_)
      · replace m38 := zite_f c95 m38
        refine zs_iload_n dX7_advance_104 rfl ?_
        refine zs_fo [true, false] rfl ?_
        obtain rfl := Option.some.inj m38
        exact K37
      · replace m38 := zite_t c95 m38
        refine zs_iconst (0 : Int32) dX7_advance_100 ziconst_0 ?_
        refine zs_goto 105 dX7_advance_101 rfl ?_
        refine zs_fo [true, false] rfl ?_
        obtain rfl := Option.some.inj m38
        exact K37
    refine zs_if_ge 60 dX7_advance_53 rfl (fun c96 => ?_) (fun c96 => ?_)
    · replace m25 := zite_t c96 m25
      refine zs_iload_n dX7_advance_60 rfl ?_
      obtain ⟨v27, e26, m25⟩ := zbind m25
      refine zc_S1i moX7_isLetter mvX7_isLetter kX7_216 dX7_advance_61 (Nat.le_of_ble_eq_true rfl) (zrm (by decide)) (tX7_isLetter e26) ?_
      refine zs_if_eq 71 dX7_advance_64 rfl (fun c31 => ?_) (fun c31 => ?_)
      · replace m25 := zite_t c31 m25
        refine zs_iload_n dX7_advance_71 rfl ?_
        obtain ⟨v29, e28, m25⟩ := zbind m25
        refine zc_S1i moX7_isDigit mvX7_isDigit kX7_219 dX7_advance_72 (Nat.le_of_ble_eq_true rfl) (zrm (by decide)) (tX7_isDigit e28) ?_
        refine zs_if_eq 82 dX7_advance_75 rfl (fun c30 => ?_) (fun c30 => ?_)
        · replace m25 := zite_t c30 m25
          refine zs_iconst (3 : Int32) dX7_advance_82 ziconst_3 ?_
          obtain rfl := Option.some.inj m25
          exact K24
        · replace m25 := zite_f c30 m25
          refine zs_iconst (2 : Int32) dX7_advance_78 ziconst_2 ?_
          refine zs_goto 83 dX7_advance_79 rfl ?_
          obtain rfl := Option.some.inj m25
          exact K24
      · replace m25 := zite_f c31 m25
        refine zs_iconst (1 : Int32) dX7_advance_67 ziconst_1 ?_
        refine zs_goto 83 dX7_advance_68 rfl ?_
        obtain rfl := Option.some.inj m25
        exact K24
    · replace m25 := zite_f c96 m25
      refine zs_iconst (0 : Int32) dX7_advance_56 ziconst_0 ?_
      refine zs_goto 83 dX7_advance_57 rfl ?_
      obtain rfl := Option.some.inj m25
      exact K24
  exact tlX7_advance_8  zF _ _ e10 K11
def fX7_isThere (w : zW) (p1 : Int32) : Option Int32 := Option.bind (fX7_its w p1 (4 : Int32)) fun v2 => (if v2 = 0 then (Option.bind (fX7_its w p1 (1 : Int32)) fun v4 => Option.bind (fX7_its w p1 (2 : Int32)) fun v6 => (if v4 = v6 then (some (1 : Int32)) else (some (0 : Int32)))) else (some (0 : Int32)))
set_option maxRecDepth 100000 in
theorem tX7_isThere {w : zW} {p1 : Int32}  {r : Int32} (h : fX7_isThere w p1 = some r) : zRun yX7_isThere cX7_isThere 2 (some .boolean) 1 [.ref 60, .int p1] w (zI r w) := by
  refine zRun.of (k := 0) rfl rfl rfl ?_
  show zWP RX7 cX7_isThere (zMB 2 (some .boolean) 1 (zI r w)) 0 [some (.ref 60), some (.int p1)] [] w
  unfold fX7_isThere at h
  refine zs_aload_n dX7_isThere_0 rfl ?_
  refine zs_iload_n dX7_isThere_1 rfl ?_
  refine zs_iconst (4 : Int32) dX7_isThere_2 ziconst_4 ?_
  obtain ⟨v2, e1, h⟩ := zbind h
  refine zc_V2i moX7_its mvX7_its kX7_62 rfl dX7_isThere_3 za_60 (Nat.le_of_ble_eq_true rfl) (zrm (by decide)) (tX7_its e1) ?_
  refine zs_if_ne 28 dX7_isThere_6 rfl (fun c8 => ?_) (fun c8 => ?_)
  · replace h := zite_f c8 h
    refine zs_iconst (0 : Int32) dX7_isThere_28 ziconst_0 ?_
    obtain rfl := Option.some.inj h
    exact zs_bret dX7_isThere_29 (Or.inl rfl) ⟨rfl, rfl⟩
  · replace h := zite_t c8 h
    refine zs_aload_n dX7_isThere_9 rfl ?_
    refine zs_iload_n dX7_isThere_10 rfl ?_
    refine zs_iconst (1 : Int32) dX7_isThere_11 ziconst_1 ?_
    obtain ⟨v4, e3, h⟩ := zbind h
    refine zc_V2i moX7_its mvX7_its kX7_62 rfl dX7_isThere_12 za_60 (Nat.le_of_ble_eq_true rfl) (zrm (by decide)) (tX7_its e3) ?_
    refine zs_aload_n dX7_isThere_15 rfl ?_
    refine zs_iload_n dX7_isThere_16 rfl ?_
    refine zs_iconst (2 : Int32) dX7_isThere_17 ziconst_2 ?_
    obtain ⟨v6, e5, h⟩ := zbind h
    refine zc_V2i moX7_its mvX7_its kX7_62 rfl dX7_isThere_18 za_60 (Nat.le_of_ble_eq_true rfl) (zrm (by decide)) (tX7_its e5) ?_
    refine zs_icmp_ne 28 dX7_isThere_21 rfl (fun c7 => ?_) (fun c7 => ?_)
    · replace h := zite_f c7 h
      refine zs_iconst (0 : Int32) dX7_isThere_28 ziconst_0 ?_
      obtain rfl := Option.some.inj h
      exact zs_bret dX7_isThere_29 (Or.inl rfl) ⟨rfl, rfl⟩
    · replace h := zite_t c7 h
      refine zs_iconst (1 : Int32) dX7_isThere_24 ziconst_1 ?_
      refine zs_goto 29 dX7_isThere_25 rfl ?_
      obtain rfl := Option.some.inj h
      exact zs_bret dX7_isThere_29 (Or.inr rfl) ⟨rfl, rfl⟩
def lpX7_allThere_4 (w : zW) : Nat → Int32 → Int32 → Option Int32
  | 0, _, _ => none
  | n + 1, x1, x2 => Option.bind (zrd w 61 151 (2 : Int32)) fun v4 => (if v4 ≤ x2 then (some x1) else (Option.bind (fX7_isThere w x2) fun v7 => Option.bind (if v7 = 0 then (some (0 : Int32)) else (some ((1 : Int32) <<< (x2 &&& 31)))) fun x8 => Option.bind (some ((x1 ||| x8))) fun x11 => lpX7_allThere_4 w n x11 (x2 + 1)))
def fX7_allThere (w : zW)  : Option Int32 := Option.bind (lpX7_allThere_4 w zF (0 : Int32) (0 : Int32)) fun y17 => some y17
set_option maxRecDepth 100000 in
theorem tlX7_allThere_4 {w : zW}  {Q : Option Value → zW → Prop} : ∀ (n : Nat) (x1 : Int32) (x2 : Int32) (y3 : Int32), lpX7_allThere_4 w n x1 x2 = some y3 → zWP RX7 cX7_allThere (zMB 3 (some .int) 2 Q) 38 [none, some (.int y3), none] [] w → zWP RX7 cX7_allThere (zMB 3 (some .int) 2 Q) 4 [some (.ref 60), some (.int x1), some (.int x2)] [] w := by
  intro n
  induction n with
  | zero => intro x1 x2 y3 h K; simp [lpX7_allThere_4] at h
  | succ n ih =>
    intro x1 x2 y3 h K
    rw [lpX7_allThere_4] at h
    refine zs_iload_n dX7_allThere_4 rfl ?_
    refine zs_aload_n dX7_allThere_5 rfl ?_
    refine gX7_7 dX7_allThere_6 ?_
    refine zs_iconst (2 : Int32) dX7_allThere_9 ziconst_2 ?_
    obtain ⟨v4, e5, h⟩ := zbind h
    refine zs_iald dX7_allThere_10 za_61 e5 ?_
    refine zs_icmp_ge 38 dX7_allThere_11 rfl (fun c14 => ?_) (fun c14 => ?_)
    · replace h := zite_t c14 h
      refine zs_fo [false, true, false] rfl ?_
      obtain rfl := Option.some.inj h
      exact K
    · replace h := zite_f c14 h
      refine zs_iload_n dX7_allThere_14 rfl ?_
      refine zs_aload_n dX7_allThere_15 rfl ?_
      refine zs_iload_n dX7_allThere_16 rfl ?_
      obtain ⟨v7, e6, h⟩ := zbind h
      refine zc_V1i moX7_isThere mvX7_isThere kX7_166 rfl dX7_allThere_17 za_60 (Nat.le_of_ble_eq_true rfl) (zrm (by decide)) (tX7_isThere e6) ?_
      obtain ⟨x8, m10, h⟩ := zbind h
      have K9 : zWP RX7 cX7_allThere (zMB 3 (some .int) 2 Q) 30 [some (.ref 60), none, some (.int x2)] [.int x8, .int x1] w := by
        refine zs_ior dX7_allThere_30 ?_
        obtain ⟨x11, e12, h⟩ := zbind h
        refine zs_nmi (Option.some.inj e12) ?_
        refine zs_istore_n [some (.ref 60), some (.int x11), some (.int x2)] dX7_allThere_31 (Nat.le_of_ble_eq_true rfl) rfl rfl ?_
        refine zs_iinc (x2 + 1) [some (.ref 60), some (.int x11), some (.int (x2 + 1))] dX7_allThere_32 rfl rfl (Nat.le_of_ble_eq_true rfl) rfl rfl ?_
        refine zs_goto 4 dX7_allThere_35 rfl ?_
        exact ih _ _ _ h K
      refine zs_if_eq 29 dX7_allThere_20 rfl (fun c13 => ?_) (fun c13 => ?_)
      · replace m10 := zite_t c13 m10
        refine zs_iconst (0 : Int32) dX7_allThere_29 ziconst_0 ?_
        refine zs_fo [true, false, true] rfl ?_
        obtain rfl := Option.some.inj m10
        exact K9
      · replace m10 := zite_f c13 m10
        refine zs_iconst (1 : Int32) dX7_allThere_23 ziconst_1 ?_
        refine zs_iload_n dX7_allThere_24 rfl ?_
        refine zs_ishl dX7_allThere_25 ?_
        refine zs_goto 30 dX7_allThere_26 rfl ?_
        refine zs_fo [true, false, true] rfl ?_
        obtain rfl := Option.some.inj m10
        exact K9
set_option maxRecDepth 100000 in
theorem tX7_allThere {w : zW}   {r : Int32} (h : fX7_allThere w  = some r) : zRun yX7_allThere cX7_allThere 3 (some .int) 2 [.ref 60] w (zI r w) := by
  refine zRun.of (k := 2) rfl rfl rfl ?_
  show zWP RX7 cX7_allThere (zMB 3 (some .int) 2 (zI r w)) 0 [some (.ref 60), none, none] [] w
  unfold fX7_allThere at h
  refine zs_iconst (0 : Int32) dX7_allThere_0 ziconst_0 ?_
  refine zs_istore_n [some (.ref 60), some (.int (0 : Int32)), none] dX7_allThere_1 (Nat.le_of_ble_eq_true rfl) rfl rfl ?_
  refine zs_iconst (0 : Int32) dX7_allThere_2 ziconst_0 ?_
  refine zs_istore_n [some (.ref 60), some (.int (0 : Int32)), some (.int (0 : Int32))] dX7_allThere_3 (Nat.le_of_ble_eq_true rfl) rfl rfl ?_
  obtain ⟨y17, e15, h⟩ := zbind h
  have K16 : zWP RX7 cX7_allThere (zMB 3 (some .int) 2 (zI r w)) 38 [none, some (.int y17), none] [] w := by
    refine zs_iload_n dX7_allThere_38 rfl ?_
    obtain rfl := Option.some.inj h
    exact zs_iret dX7_allThere_39 ⟨rfl, rfl⟩
  exact tlX7_allThere_4  zF _ _ _ e15 K16
def fX7_finds (w : zW) (p1 : Int32) : Option (Int32 × zW) := Option.bind (zrd w 62 7 ((-1000000001 : Int32) - p1)) fun v1 => Option.bind (zwr w 62 7 ((-1000000001 : Int32) - p1) (v1 + (1 : Int32))) fun w3 => some (p1, w3)
set_option maxRecDepth 100000 in
theorem tX7_finds {w : zW} {p1 : Int32}  {r : Int32} {w' : zW} (h : fX7_finds w p1 = some (r, w')) : zRun yX7_finds cX7_finds 2 (some .int) 0 [.ref 60, .int p1] w (zI r w') := by
  refine zRun.of (k := 0) rfl rfl rfl ?_
  show zWP RX7 cX7_finds (zMB 2 (some .int) 0 (zI r w')) 0 [some (.ref 60), some (.int p1)] [] w
  unfold fX7_finds at h
  refine zs_aload_n dX7_finds_0 rfl ?_
  refine gX7_13 dX7_finds_1 ?_
  refine zs_ldc kX7_44 dX7_finds_4 ?_
  refine zs_iload_n dX7_finds_6 rfl ?_
  refine zs_isub dX7_finds_7 ?_
  refine zs_dup2 dX7_finds_8 rfl rfl ?_
  obtain ⟨v1, e2, h⟩ := zbind h
  refine zs_iald dX7_finds_9 za_62 e2 ?_
  refine zs_iconst (1 : Int32) dX7_finds_10 ziconst_1 ?_
  refine zs_iadd dX7_finds_11 ?_
  obtain ⟨w3, e4, h⟩ := zbind h
  refine zs_iast dX7_finds_12 za_62 e4 ?_
  refine zs_iload_n dX7_finds_13 rfl ?_
  obtain ⟨rfl, rfl⟩ := zpi2 h
  exact zs_iret dX7_finds_14 ⟨rfl, rfl⟩
def fX7_isKind (w : zW) (p0 : Int32) : Option Int32 := Option.bind (fX7_in w p0 (0 : Int32) (5 : Int32)) fun v2 => Option.bind (zgb v2) fun b3 => some b3
set_option maxRecDepth 100000 in
theorem tX7_isKind {w : zW} {p0 : Int32}  {r : Int32} (h : fX7_isKind w p0 = some r) : zRun yX7_isKind cX7_isKind 1 (some .boolean) 1 [.int p0] w (zI r w) := by
  refine zRun.of (k := 0) rfl rfl rfl ?_
  show zWP RX7 cX7_isKind (zMB 1 (some .boolean) 1 (zI r w)) 0 [some (.int p0)] [] w
  unfold fX7_isKind at h
  refine zs_iload_n dX7_isKind_0 rfl ?_
  refine zs_iconst (0 : Int32) dX7_isKind_1 ziconst_0 ?_
  refine zs_iconst (5 : Int32) dX7_isKind_2 ziconst_5 ?_
  obtain ⟨v2, e1, h⟩ := zbind h
  refine zc_S3i moX7_in mvX7_in kX7_45 dX7_isKind_3 (Nat.le_of_ble_eq_true rfl) (zrm (by decide)) (tX7_in e1) ?_
  obtain ⟨b3, e4, h⟩ := zbind h
  refine zs_nmi (zgb_inv e4).2 ?_
  obtain rfl := Option.some.inj h
  exact zs_bret dX7_isKind_6 (by have q := zgb_inv e4; exact q.2 ▸ q.1) ⟨rfl, rfl⟩
def fX7_isPost (w : zW) (p1 : Int32) : Option Int32 := Option.bind (zrd w 61 151 (2 : Int32)) fun v1 => Option.bind (fX7_in w p1 (0 : Int32) (v1 - (1 : Int32))) fun v4 => Option.bind (zgb v4) fun b5 => some b5
set_option maxRecDepth 100000 in
theorem tX7_isPost {w : zW} {p1 : Int32}  {r : Int32} (h : fX7_isPost w p1 = some r) : zRun yX7_isPost cX7_isPost 2 (some .boolean) 1 [.ref 60, .int p1] w (zI r w) := by
  refine zRun.of (k := 0) rfl rfl rfl ?_
  show zWP RX7 cX7_isPost (zMB 2 (some .boolean) 1 (zI r w)) 0 [some (.ref 60), some (.int p1)] [] w
  unfold fX7_isPost at h
  refine zs_iload_n dX7_isPost_0 rfl ?_
  refine zs_iconst (0 : Int32) dX7_isPost_1 ziconst_0 ?_
  refine zs_aload_n dX7_isPost_2 rfl ?_
  refine gX7_7 dX7_isPost_3 ?_
  refine zs_iconst (2 : Int32) dX7_isPost_6 ziconst_2 ?_
  obtain ⟨v1, e2, h⟩ := zbind h
  refine zs_iald dX7_isPost_7 za_61 e2 ?_
  refine zs_iconst (1 : Int32) dX7_isPost_8 ziconst_1 ?_
  refine zs_isub dX7_isPost_9 ?_
  obtain ⟨v4, e3, h⟩ := zbind h
  refine zc_S3i moX7_in mvX7_in kX7_45 dX7_isPost_10 (Nat.le_of_ble_eq_true rfl) (zrm (by decide)) (tX7_in e3) ?_
  obtain ⟨b5, e6, h⟩ := zbind h
  refine zs_nmi (zgb_inv e6).2 ?_
  obtain rfl := Option.some.inj h
  exact zs_bret dX7_isPost_13 (by have q := zgb_inv e6; exact q.2 ▸ q.1) ⟨rfl, rfl⟩
def fX7_isUnder (w : zW) (p0 : Int32) (p1 : Int32) : Option Int32 := (if p1 = 0 then (some (1 : Int32)) else ((if p1 = p0 then (some (1 : Int32)) else ((if p1 = (2 : Int32) then ((if p0 = (4 : Int32) then (some (1 : Int32)) else ((if p1 = (3 : Int32) then ((if p0 = (5 : Int32) then (some (1 : Int32)) else (some (0 : Int32)))) else (some (0 : Int32)))))) else ((if p1 = (3 : Int32) then ((if p0 = (5 : Int32) then (some (1 : Int32)) else (some (0 : Int32)))) else (some (0 : Int32)))))))))
set_option maxRecDepth 100000 in
theorem tX7_isUnder {w : zW} {p0 : Int32} {p1 : Int32}  {r : Int32} (h : fX7_isUnder w p0 p1 = some r) : zRun yX7_isUnder cX7_isUnder 2 (some .boolean) 0 [.int p0, .int p1] w (zI r w) := by
  refine zRun.of (k := 0) rfl rfl rfl ?_
  show zWP RX7 cX7_isUnder (zMB 2 (some .boolean) 0 (zI r w)) 0 [some (.int p0), some (.int p1)] [] w
  unfold fX7_isUnder at h
  refine zs_iload_n dX7_isUnder_0 rfl ?_
  refine zs_if_eq 29 dX7_isUnder_1 rfl (fun c8 => ?_) (fun c8 => ?_)
  · replace h := zite_t c8 h
    refine zs_iconst (1 : Int32) dX7_isUnder_29 ziconst_1 ?_
    refine zs_goto 34 dX7_isUnder_30 rfl ?_
    obtain rfl := Option.some.inj h
    exact zs_bret dX7_isUnder_34 (Or.inr rfl) ⟨rfl, rfl⟩
  · replace h := zite_f c8 h
    refine zs_iload_n dX7_isUnder_4 rfl ?_
    refine zs_iload_n dX7_isUnder_5 rfl ?_
    refine zs_icmp_eq 29 dX7_isUnder_6 rfl (fun c7 => ?_) (fun c7 => ?_)
    · replace h := zite_t c7 h
      refine zs_iconst (1 : Int32) dX7_isUnder_29 ziconst_1 ?_
      refine zs_goto 34 dX7_isUnder_30 rfl ?_
      obtain rfl := Option.some.inj h
      exact zs_bret dX7_isUnder_34 (Or.inr rfl) ⟨rfl, rfl⟩
    · replace h := zite_f c7 h
      refine zs_iload_n dX7_isUnder_9 rfl ?_
      refine zs_iconst (2 : Int32) dX7_isUnder_10 ziconst_2 ?_
      refine zs_icmp_ne 19 dX7_isUnder_11 rfl (fun c6 => ?_) (fun c6 => ?_)
      · replace h := zite_f c6 h
        refine zs_iload_n dX7_isUnder_19 rfl ?_
        refine zs_iconst (3 : Int32) dX7_isUnder_20 ziconst_3 ?_
        refine zs_icmp_ne 33 dX7_isUnder_21 rfl (fun c2 => ?_) (fun c2 => ?_)
        · replace h := zite_f c2 h
          refine zs_iconst (0 : Int32) dX7_isUnder_33 ziconst_0 ?_
          obtain rfl := Option.some.inj h
          exact zs_bret dX7_isUnder_34 (Or.inl rfl) ⟨rfl, rfl⟩
        · replace h := zite_t c2 h
          refine zs_iload_n dX7_isUnder_24 rfl ?_
          refine zs_iconst (5 : Int32) dX7_isUnder_25 ziconst_5 ?_
          refine zs_icmp_ne 33 dX7_isUnder_26 rfl (fun c1 => ?_) (fun c1 => ?_)
          · replace h := zite_f c1 h
            refine zs_iconst (0 : Int32) dX7_isUnder_33 ziconst_0 ?_
            obtain rfl := Option.some.inj h
            exact zs_bret dX7_isUnder_34 (Or.inl rfl) ⟨rfl, rfl⟩
          · replace h := zite_t c1 h
            refine zs_iconst (1 : Int32) dX7_isUnder_29 ziconst_1 ?_
            refine zs_goto 34 dX7_isUnder_30 rfl ?_
            obtain rfl := Option.some.inj h
            exact zs_bret dX7_isUnder_34 (Or.inr rfl) ⟨rfl, rfl⟩
      · replace h := zite_t c6 h
        refine zs_iload_n dX7_isUnder_14 rfl ?_
        refine zs_iconst (4 : Int32) dX7_isUnder_15 ziconst_4 ?_
        refine zs_icmp_eq 29 dX7_isUnder_16 rfl (fun c5 => ?_) (fun c5 => ?_)
        · replace h := zite_t c5 h
          refine zs_iconst (1 : Int32) dX7_isUnder_29 ziconst_1 ?_
          refine zs_goto 34 dX7_isUnder_30 rfl ?_
          obtain rfl := Option.some.inj h
          exact zs_bret dX7_isUnder_34 (Or.inr rfl) ⟨rfl, rfl⟩
        · replace h := zite_f c5 h
          refine zs_iload_n dX7_isUnder_19 rfl ?_
          refine zs_iconst (3 : Int32) dX7_isUnder_20 ziconst_3 ?_
          refine zs_icmp_ne 33 dX7_isUnder_21 rfl (fun c4 => ?_) (fun c4 => ?_)
          · replace h := zite_f c4 h
            refine zs_iconst (0 : Int32) dX7_isUnder_33 ziconst_0 ?_
            obtain rfl := Option.some.inj h
            exact zs_bret dX7_isUnder_34 (Or.inl rfl) ⟨rfl, rfl⟩
          · replace h := zite_t c4 h
            refine zs_iload_n dX7_isUnder_24 rfl ?_
            refine zs_iconst (5 : Int32) dX7_isUnder_25 ziconst_5 ?_
            refine zs_icmp_ne 33 dX7_isUnder_26 rfl (fun c3 => ?_) (fun c3 => ?_)
            · replace h := zite_f c3 h
              refine zs_iconst (0 : Int32) dX7_isUnder_33 ziconst_0 ?_
              obtain rfl := Option.some.inj h
              exact zs_bret dX7_isUnder_34 (Or.inl rfl) ⟨rfl, rfl⟩
            · replace h := zite_t c3 h
              refine zs_iconst (1 : Int32) dX7_isUnder_29 ziconst_1 ?_
              refine zs_goto 34 dX7_isUnder_30 rfl ?_
              obtain rfl := Option.some.inj h
              exact zs_bret dX7_isUnder_34 (Or.inr rfl) ⟨rfl, rfl⟩
def fX7_as (w : zW) (p1 : Int32) (p2 : Int32) : Option (Int32 × zW) := Option.bind (fX7_isPost w p1) fun v2 => (if v2 = 0 then (zb2 (fX7_finds w (-1000000001 : Int32)) fun v4 w5 => some (v4, w5)) else (Option.bind (fX7_isKind w p2) fun v7 => (if v7 = 0 then (zb2 (fX7_finds w (-1000000001 : Int32)) fun v19 w20 => some (v19, w20)) else (Option.bind (fX7_its w p1 (0 : Int32)) fun v9 => Option.bind (fX7_isUnder w v9 p2) fun v11 => (if v11 = 0 then (zb2 (fX7_finds w (-1000000003 : Int32)) fun v13 w14 => some (v13, w14)) else (Option.bind (fX7_its w p1 (2 : Int32)) fun v16 => some (v16, w)))))))
set_option maxRecDepth 100000 in
theorem tX7_as {w : zW} {p1 : Int32} {p2 : Int32}  {r : Int32} {w' : zW} (h : fX7_as w p1 p2 = some (r, w')) : zRun yX7_as cX7_as 3 (some .int) 2 [.ref 60, .int p1, .int p2] w (zI r w') := by
  refine zRun.of (k := 0) rfl rfl rfl ?_
  show zWP RX7 cX7_as (zMB 3 (some .int) 2 (zI r w')) 0 [some (.ref 60), some (.int p1), some (.int p2)] [] w
  unfold fX7_as at h
  refine zs_aload_n dX7_as_0 rfl ?_
  refine zs_iload_n dX7_as_1 rfl ?_
  obtain ⟨v2, e1, h⟩ := zbind h
  refine zc_V1i moX7_isPost mvX7_isPost kX7_163 rfl dX7_as_2 za_60 (Nat.le_of_ble_eq_true rfl) (zrm (by decide)) (tX7_isPost e1) ?_
  refine zs_if_eq 15 dX7_as_5 rfl (fun c22 => ?_) (fun c22 => ?_)
  · replace h := zite_t c22 h
    refine zs_aload_n dX7_as_15 rfl ?_
    refine zs_ldc kX7_44 dX7_as_16 ?_
    obtain ⟨v4, w5, e3, h⟩ := zb2_inv h
    refine zc_V1i moX7_finds mvX7_finds kX7_49 rfl dX7_as_18 za_60 (Nat.le_of_ble_eq_true rfl) (zrm (by decide)) (tX7_finds e3) ?_
    obtain ⟨rfl, rfl⟩ := zpi2 h
    exact zs_iret dX7_as_21 ⟨rfl, rfl⟩
  · replace h := zite_f c22 h
    refine zs_iload_n dX7_as_8 rfl ?_
    obtain ⟨v7, e6, h⟩ := zbind h
    refine zc_S1i moX7_isKind mvX7_isKind kX7_100 dX7_as_9 (Nat.le_of_ble_eq_true rfl) (zrm (by decide)) (tX7_isKind e6) ?_
    refine zs_if_ne 22 dX7_as_12 rfl (fun c21 => ?_) (fun c21 => ?_)
    · replace h := zite_f c21 h
      refine zs_aload_n dX7_as_22 rfl ?_
      refine zs_iload_n dX7_as_23 rfl ?_
      refine zs_iconst (0 : Int32) dX7_as_24 ziconst_0 ?_
      obtain ⟨v9, e8, h⟩ := zbind h
      refine zc_V2i moX7_its mvX7_its kX7_62 rfl dX7_as_25 za_60 (Nat.le_of_ble_eq_true rfl) (zrm (by decide)) (tX7_its e8) ?_
      refine zs_iload_n dX7_as_28 rfl ?_
      obtain ⟨v11, e10, h⟩ := zbind h
      refine zc_S2i moX7_isUnder mvX7_isUnder kX7_169 dX7_as_29 (Nat.le_of_ble_eq_true rfl) (zrm (by decide)) (tX7_isUnder e10) ?_
      refine zs_if_eq 44 dX7_as_32 rfl (fun c17 => ?_) (fun c17 => ?_)
      · replace h := zite_t c17 h
        refine zs_aload_n dX7_as_44 rfl ?_
        refine zs_ldc kX7_172 dX7_as_45 ?_
        obtain ⟨v13, w14, e12, h⟩ := zb2_inv h
        refine zc_V1i moX7_finds mvX7_finds kX7_49 rfl dX7_as_47 za_60 (Nat.le_of_ble_eq_true rfl) (zrm (by decide)) (tX7_finds e12) ?_
        obtain ⟨rfl, rfl⟩ := zpi2 h
        exact zs_iret dX7_as_50 ⟨rfl, rfl⟩
      · replace h := zite_f c17 h
        refine zs_aload_n dX7_as_35 rfl ?_
        refine zs_iload_n dX7_as_36 rfl ?_
        refine zs_iconst (2 : Int32) dX7_as_37 ziconst_2 ?_
        obtain ⟨v16, e15, h⟩ := zbind h
        refine zc_V2i moX7_its mvX7_its kX7_62 rfl dX7_as_38 za_60 (Nat.le_of_ble_eq_true rfl) (zrm (by decide)) (tX7_its e15) ?_
        refine zs_goto 50 dX7_as_41 rfl ?_
        obtain ⟨rfl, rfl⟩ := zpi2 h
        exact zs_iret dX7_as_50 ⟨rfl, rfl⟩
    · replace h := zite_t c21 h
      refine zs_aload_n dX7_as_15 rfl ?_
      refine zs_ldc kX7_44 dX7_as_16 ?_
      obtain ⟨v19, w20, e18, h⟩ := zb2_inv h
      refine zc_V1i moX7_finds mvX7_finds kX7_49 rfl dX7_as_18 za_60 (Nat.le_of_ble_eq_true rfl) (zrm (by decide)) (tX7_finds e18) ?_
      obtain ⟨rfl, rfl⟩ := zpi2 h
      exact zs_iret dX7_as_21 ⟨rfl, rfl⟩
def fX7_back (w : zW) (p1 : Int32) (p2 : Int32) (p3 : Int32) : Option (Int32 × zW) := Option.bind (zrd w 61 151 (4 : Int32)) fun v1 => zb2 (fX7_earliest w p1 p2 p3 v1) fun v4 w5 => (if v4 = (1000000000 : Int32) then (some ((1000000000 : Int32), w5)) else (zb2 (fX7_earliest w5 p1 p3 p2 v4) fun v7 w8 => some (v7, w8)))
set_option maxRecDepth 100000 in
theorem tX7_back {w : zW} {p1 : Int32} {p2 : Int32} {p3 : Int32}  {r : Int32} {w' : zW} (h : fX7_back w p1 p2 p3 = some (r, w')) : zRun yX7_back cX7_back 5 (some .int) 6 [.ref 60, .int p1, .int p2, .int p3] w (zI r w') := by
  refine zRun.of (k := 1) rfl rfl rfl ?_
  show zWP RX7 cX7_back (zMB 5 (some .int) 6 (zI r w')) 0 [some (.ref 60), some (.int p1), some (.int p2), some (.int p3), none] [] w
  unfold fX7_back at h
  refine zs_aload_n dX7_back_0 rfl ?_
  refine zs_iload_n dX7_back_1 rfl ?_
  refine zs_iload_n dX7_back_2 rfl ?_
  refine zs_iload_n dX7_back_3 rfl ?_
  refine zs_aload_n dX7_back_4 rfl ?_
  refine gX7_7 dX7_back_5 ?_
  refine zs_iconst (4 : Int32) dX7_back_8 ziconst_4 ?_
  obtain ⟨v1, e2, h⟩ := zbind h
  refine zs_iald dX7_back_9 za_61 e2 ?_
  obtain ⟨v4, w5, e3, h⟩ := zb2_inv h
  refine zc_V4i moX7_earliest mvX7_earliest kX7_132 rfl dX7_back_10 za_60 (Nat.le_of_ble_eq_true rfl) (zrm (by decide)) (tX7_earliest e3) ?_
  refine zs_istore [some (.ref 60), some (.int p1), some (.int p2), some (.int p3), some (.int v4)] dX7_back_13 (Nat.le_of_ble_eq_true rfl) rfl rfl ?_
  refine zs_iload dX7_back_15 rfl ?_
  refine zs_ldc kX7_109 dX7_back_17 ?_
  refine zs_icmp_ne 27 dX7_back_19 rfl (fun c9 => ?_) (fun c9 => ?_)
  · replace h := zite_f c9 h
    refine zs_aload_n dX7_back_27 rfl ?_
    refine zs_iload_n dX7_back_28 rfl ?_
    refine zs_iload_n dX7_back_29 rfl ?_
    refine zs_iload_n dX7_back_30 rfl ?_
    refine zs_iload dX7_back_31 rfl ?_
    obtain ⟨v7, w8, e6, h⟩ := zb2_inv h
    refine zc_V4i moX7_earliest mvX7_earliest kX7_132 rfl dX7_back_33 za_60 (Nat.le_of_ble_eq_true rfl) (zrm (by decide)) (tX7_earliest e6) ?_
    obtain ⟨rfl, rfl⟩ := zpi2 h
    exact zs_iret dX7_back_36 ⟨rfl, rfl⟩
  · replace h := zite_t c9 h
    refine zs_ldc kX7_109 dX7_back_22 ?_
    refine zs_goto 36 dX7_back_24 rfl ?_
    obtain ⟨rfl, rfl⟩ := zpi2 h
    exact zs_iret dX7_back_36 ⟨rfl, rfl⟩
def fX7_isVillage (w : zW) (p1 : Int32) : Option Int32 := Option.bind (zrd w 61 151 (0 : Int32)) fun v1 => Option.bind (fX7_in w p1 (0 : Int32) (v1 - (1 : Int32))) fun v4 => Option.bind (zgb v4) fun b5 => some b5
set_option maxRecDepth 100000 in
theorem tX7_isVillage {w : zW} {p1 : Int32}  {r : Int32} (h : fX7_isVillage w p1 = some r) : zRun yX7_isVillage cX7_isVillage 2 (some .boolean) 1 [.ref 60, .int p1] w (zI r w) := by
  refine zRun.of (k := 0) rfl rfl rfl ?_
  show zWP RX7 cX7_isVillage (zMB 2 (some .boolean) 1 (zI r w)) 0 [some (.ref 60), some (.int p1)] [] w
  unfold fX7_isVillage at h
  refine zs_iload_n dX7_isVillage_0 rfl ?_
  refine zs_iconst (0 : Int32) dX7_isVillage_1 ziconst_0 ?_
  refine zs_aload_n dX7_isVillage_2 rfl ?_
  refine gX7_7 dX7_isVillage_3 ?_
  refine zs_iconst (0 : Int32) dX7_isVillage_6 ziconst_0 ?_
  obtain ⟨v1, e2, h⟩ := zbind h
  refine zs_iald dX7_isVillage_7 za_61 e2 ?_
  refine zs_iconst (1 : Int32) dX7_isVillage_8 ziconst_1 ?_
  refine zs_isub dX7_isVillage_9 ?_
  obtain ⟨v4, e3, h⟩ := zbind h
  refine zc_S3i moX7_in mvX7_in kX7_45 dX7_isVillage_10 (Nat.le_of_ble_eq_true rfl) (zrm (by decide)) (tX7_in e3) ?_
  obtain ⟨b5, e6, h⟩ := zbind h
  refine zs_nmi (zgb_inv e6).2 ?_
  obtain rfl := Option.some.inj h
  exact zs_bret dX7_isVillage_13 (by have q := zgb_inv e6; exact q.2 ▸ q.1) ⟨rfl, rfl⟩
def lpX7_reached_4 (w : zW) : Nat → Int32 → Int32 → Option Int32
  | 0, _, _ => none
  | n + 1, x1, x2 => Option.bind (zrd w 61 151 (0 : Int32)) fun v4 => (if v4 ≤ x2 then (some x1) else (Option.bind (zrd w 63 12 x2) fun v6 => Option.bind (if (1000000000 : Int32) ≤ v6 then (some (0 : Int32)) else (some ((1 : Int32) <<< (x2 &&& 31)))) fun x8 => Option.bind (some ((x1 ||| x8))) fun x11 => lpX7_reached_4 w n x11 (x2 + 1)))
def fX7_reached (w : zW)  : Option Int32 := Option.bind (lpX7_reached_4 w zF (0 : Int32) (0 : Int32)) fun y17 => some y17
set_option maxRecDepth 100000 in
theorem tlX7_reached_4 {w : zW}  {Q : Option Value → zW → Prop} : ∀ (n : Nat) (x1 : Int32) (x2 : Int32) (y3 : Int32), lpX7_reached_4 w n x1 x2 = some y3 → zWP RX7 cX7_reached (zMB 3 (some .int) 0 Q) 41 [none, some (.int y3), none] [] w → zWP RX7 cX7_reached (zMB 3 (some .int) 0 Q) 4 [some (.ref 60), some (.int x1), some (.int x2)] [] w := by
  intro n
  induction n with
  | zero => intro x1 x2 y3 h K; simp [lpX7_reached_4] at h
  | succ n ih =>
    intro x1 x2 y3 h K
    rw [lpX7_reached_4] at h
    refine zs_iload_n dX7_reached_4 rfl ?_
    refine zs_aload_n dX7_reached_5 rfl ?_
    refine gX7_7 dX7_reached_6 ?_
    refine zs_iconst (0 : Int32) dX7_reached_9 ziconst_0 ?_
    obtain ⟨v4, e5, h⟩ := zbind h
    refine zs_iald dX7_reached_10 za_61 e5 ?_
    refine zs_icmp_ge 41 dX7_reached_11 rfl (fun c14 => ?_) (fun c14 => ?_)
    · replace h := zite_t c14 h
      refine zs_fo [false, true, false] rfl ?_
      obtain rfl := Option.some.inj h
      exact K
    · replace h := zite_f c14 h
      refine zs_iload_n dX7_reached_14 rfl ?_
      refine zs_aload_n dX7_reached_15 rfl ?_
      refine gX7_16 dX7_reached_16 ?_
      refine zs_iload_n dX7_reached_19 rfl ?_
      obtain ⟨v6, e7, h⟩ := zbind h
      refine zs_iald dX7_reached_20 za_63 e7 ?_
      refine zs_ldc kX7_109 dX7_reached_21 ?_
      obtain ⟨x8, m10, h⟩ := zbind h
      have K9 : zWP RX7 cX7_reached (zMB 3 (some .int) 0 Q) 33 [some (.ref 60), none, some (.int x2)] [.int x8, .int x1] w := by
        refine zs_ior dX7_reached_33 ?_
        obtain ⟨x11, e12, h⟩ := zbind h
        refine zs_nmi (Option.some.inj e12) ?_
        refine zs_istore_n [some (.ref 60), some (.int x11), some (.int x2)] dX7_reached_34 (Nat.le_of_ble_eq_true rfl) rfl rfl ?_
        refine zs_iinc (x2 + 1) [some (.ref 60), some (.int x11), some (.int (x2 + 1))] dX7_reached_35 rfl rfl (Nat.le_of_ble_eq_true rfl) rfl rfl ?_
        refine zs_goto 4 dX7_reached_38 rfl ?_
        exact ih _ _ _ h K
      refine zs_icmp_ge 32 dX7_reached_23 rfl (fun c13 => ?_) (fun c13 => ?_)
      · replace m10 := zite_t c13 m10
        refine zs_iconst (0 : Int32) dX7_reached_32 ziconst_0 ?_
        refine zs_fo [true, false, true] rfl ?_
        obtain rfl := Option.some.inj m10
        exact K9
      · replace m10 := zite_f c13 m10
        refine zs_iconst (1 : Int32) dX7_reached_26 ziconst_1 ?_
        refine zs_iload_n dX7_reached_27 rfl ?_
        refine zs_ishl dX7_reached_28 ?_
        refine zs_goto 33 dX7_reached_29 rfl ?_
        refine zs_fo [true, false, true] rfl ?_
        obtain rfl := Option.some.inj m10
        exact K9
set_option maxRecDepth 100000 in
theorem tX7_reached {w : zW}   {r : Int32} (h : fX7_reached w  = some r) : zRun yX7_reached cX7_reached 3 (some .int) 0 [.ref 60] w (zI r w) := by
  refine zRun.of (k := 2) rfl rfl rfl ?_
  show zWP RX7 cX7_reached (zMB 3 (some .int) 0 (zI r w)) 0 [some (.ref 60), none, none] [] w
  unfold fX7_reached at h
  refine zs_iconst (0 : Int32) dX7_reached_0 ziconst_0 ?_
  refine zs_istore_n [some (.ref 60), some (.int (0 : Int32)), none] dX7_reached_1 (Nat.le_of_ble_eq_true rfl) rfl rfl ?_
  refine zs_iconst (0 : Int32) dX7_reached_2 ziconst_0 ?_
  refine zs_istore_n [some (.ref 60), some (.int (0 : Int32)), some (.int (0 : Int32))] dX7_reached_3 (Nat.le_of_ble_eq_true rfl) rfl rfl ?_
  obtain ⟨y17, e15, h⟩ := zbind h
  have K16 : zWP RX7 cX7_reached (zMB 3 (some .int) 0 (zI r w)) 41 [none, some (.int y17), none] [] w := by
    refine zs_iload_n dX7_reached_41 rfl ?_
    obtain rfl := Option.some.inj h
    exact zs_iret dX7_reached_42 ⟨rfl, rfl⟩
  exact tlX7_reached_4  zF _ _ _ e15 K16
def fX7_reachOf (w : zW) (p1 : Int32) (p2 : Int32) (p3 : Int32) : Option (Int32 × zW) := Option.bind (zrd w 61 151 (4 : Int32)) fun v1 => Option.bind (fX7_find w p1 p2 v1 p3) fun w4 => Option.bind (fX7_reached w4) fun v6 => some (v6, w4)
set_option maxRecDepth 100000 in
theorem tX7_reachOf {w : zW} {p1 : Int32} {p2 : Int32} {p3 : Int32}  {r : Int32} {w' : zW} (h : fX7_reachOf w p1 p2 p3 = some (r, w')) : zRun yX7_reachOf cX7_reachOf 4 (some .int) 5 [.ref 60, .int p1, .int p2, .int p3] w (zI r w') := by
  refine zRun.of (k := 0) rfl rfl rfl ?_
  show zWP RX7 cX7_reachOf (zMB 4 (some .int) 5 (zI r w')) 0 [some (.ref 60), some (.int p1), some (.int p2), some (.int p3)] [] w
  unfold fX7_reachOf at h
  refine zs_aload_n dX7_reachOf_0 rfl ?_
  refine zs_iload_n dX7_reachOf_1 rfl ?_
  refine zs_iload_n dX7_reachOf_2 rfl ?_
  refine zs_aload_n dX7_reachOf_3 rfl ?_
  refine gX7_7 dX7_reachOf_4 ?_
  refine zs_iconst (4 : Int32) dX7_reachOf_7 ziconst_4 ?_
  obtain ⟨v1, e2, h⟩ := zbind h
  refine zs_iald dX7_reachOf_8 za_61 e2 ?_
  refine zs_iload_n dX7_reachOf_9 rfl ?_
  obtain ⟨w4, e3, h⟩ := zbind h
  refine zc_V4v moX7_find mvX7_find kX7_125 rfl dX7_reachOf_10 za_60 (Nat.le_of_ble_eq_true rfl) (zrm (by decide)) (tX7_find e3) ?_
  refine zs_aload_n dX7_reachOf_13 rfl ?_
  obtain ⟨v6, e5, h⟩ := zbind h
  refine zc_V0i moX7_reached mvX7_reached kX7_136 rfl dX7_reachOf_14 za_60 (Nat.le_of_ble_eq_true rfl) (zrm (by decide)) (tX7_reached e5) ?_
  obtain ⟨rfl, rfl⟩ := zpi2 h
  exact zs_iret dX7_reachOf_17 ⟨rfl, rfl⟩
def fX7_below (w : zW) (p1 : Int32) (p2 : Int32) : Option (Int32 × zW) := Option.bind (fX7_isKind w p1) fun v2 => (if v2 = 0 then (zb2 (fX7_finds w (-1000000001 : Int32)) fun v4 w5 => some (v4, w5)) else (Option.bind (fX7_isVillage w p2) fun v7 => (if v7 = 0 then (zb2 (fX7_finds w (-1000000001 : Int32)) fun v9 w10 => some (v9, w10)) else (zb2 (fX7_reachOf w p1 p2 (0 : Int32)) fun v12 w13 => some (v12, w13)))))
set_option maxRecDepth 100000 in
theorem tX7_below {w : zW} {p1 : Int32} {p2 : Int32}  {r : Int32} {w' : zW} (h : fX7_below w p1 p2 = some (r, w')) : zRun yX7_below cX7_below 3 (some .int) 6 [.ref 60, .int p1, .int p2] w (zI r w') := by
  refine zRun.of (k := 0) rfl rfl rfl ?_
  show zWP RX7 cX7_below (zMB 3 (some .int) 6 (zI r w')) 0 [some (.ref 60), some (.int p1), some (.int p2)] [] w
  unfold fX7_below at h
  refine zs_iload_n dX7_below_0 rfl ?_
  obtain ⟨v2, e1, h⟩ := zbind h
  refine zc_S1i moX7_isKind mvX7_isKind kX7_100 dX7_below_1 (Nat.le_of_ble_eq_true rfl) (zrm (by decide)) (tX7_isKind e1) ?_
  refine zs_if_eq 25 dX7_below_4 rfl (fun c15 => ?_) (fun c15 => ?_)
  · replace h := zite_t c15 h
    refine zs_aload_n dX7_below_25 rfl ?_
    refine zs_ldc kX7_44 dX7_below_26 ?_
    obtain ⟨v4, w5, e3, h⟩ := zb2_inv h
    refine zc_V1i moX7_finds mvX7_finds kX7_49 rfl dX7_below_28 za_60 (Nat.le_of_ble_eq_true rfl) (zrm (by decide)) (tX7_finds e3) ?_
    obtain ⟨rfl, rfl⟩ := zpi2 h
    exact zs_iret dX7_below_31 ⟨rfl, rfl⟩
  · replace h := zite_f c15 h
    refine zs_aload_n dX7_below_7 rfl ?_
    refine zs_iload_n dX7_below_8 rfl ?_
    obtain ⟨v7, e6, h⟩ := zbind h
    refine zc_V1i moX7_isVillage mvX7_isVillage kX7_65 rfl dX7_below_9 za_60 (Nat.le_of_ble_eq_true rfl) (zrm (by decide)) (tX7_isVillage e6) ?_
    refine zs_if_eq 25 dX7_below_12 rfl (fun c14 => ?_) (fun c14 => ?_)
    · replace h := zite_t c14 h
      refine zs_aload_n dX7_below_25 rfl ?_
      refine zs_ldc kX7_44 dX7_below_26 ?_
      obtain ⟨v9, w10, e8, h⟩ := zb2_inv h
      refine zc_V1i moX7_finds mvX7_finds kX7_49 rfl dX7_below_28 za_60 (Nat.le_of_ble_eq_true rfl) (zrm (by decide)) (tX7_finds e8) ?_
      obtain ⟨rfl, rfl⟩ := zpi2 h
      exact zs_iret dX7_below_31 ⟨rfl, rfl⟩
    · replace h := zite_f c14 h
      refine zs_aload_n dX7_below_15 rfl ?_
      refine zs_iload_n dX7_below_16 rfl ?_
      refine zs_iload_n dX7_below_17 rfl ?_
      refine zs_iconst (0 : Int32) dX7_below_18 ziconst_0 ?_
      obtain ⟨v12, w13, e11, h⟩ := zb2_inv h
      refine zc_V3i moX7_reachOf mvX7_reachOf kX7_139 rfl dX7_below_19 za_60 (Nat.le_of_ble_eq_true rfl) (zrm (by decide)) (tX7_reachOf e11) ?_
      refine zs_goto 31 dX7_below_22 rfl ?_
      obtain ⟨rfl, rfl⟩ := zpi2 h
      exact zs_iret dX7_below_31 ⟨rfl, rfl⟩
def fX7_isPart (w : zW) (p1 : Int32) (p2 : Int32) (p3 : Int32) : Option Int32 := (if p2 < 0 then (some (0 : Int32)) else ((if p3 < 0 then (some (0 : Int32)) else (Option.bind (zrd w 67 4 p1) fun v1 => (if v1 < p3 then (some (0 : Int32)) else (Option.bind (zrd w 67 4 p1) fun v3 => (if (v3 - p3) < p2 then (some (0 : Int32)) else (some (1 : Int32)))))))))
set_option maxRecDepth 100000 in
theorem tX7_isPart {w : zW} {p1 : Int32} {p2 : Int32} {p3 : Int32}  {r : Int32} (h : fX7_isPart w p1 p2 p3 = some r) : zRun yX7_isPart cX7_isPart 4 (some .boolean) 0 [.ref 60, .int p1, .int p2, .int p3] w (zI r w) := by
  refine zRun.of (k := 0) rfl rfl rfl ?_
  show zWP RX7 cX7_isPart (zMB 4 (some .boolean) 0 (zI r w)) 0 [some (.ref 60), some (.int p1), some (.int p2), some (.int p3)] [] w
  unfold fX7_isPart at h
  refine zs_iload_n dX7_isPart_0 rfl ?_
  refine zs_if_lt 34 dX7_isPart_1 rfl (fun c8 => ?_) (fun c8 => ?_)
  · replace h := zite_t c8 h
    refine zs_iconst (0 : Int32) dX7_isPart_34 ziconst_0 ?_
    obtain rfl := Option.some.inj h
    exact zs_bret dX7_isPart_35 (Or.inl rfl) ⟨rfl, rfl⟩
  · replace h := zite_f c8 h
    refine zs_iload_n dX7_isPart_4 rfl ?_
    refine zs_if_lt 34 dX7_isPart_5 rfl (fun c7 => ?_) (fun c7 => ?_)
    · replace h := zite_t c7 h
      refine zs_iconst (0 : Int32) dX7_isPart_34 ziconst_0 ?_
      obtain rfl := Option.some.inj h
      exact zs_bret dX7_isPart_35 (Or.inl rfl) ⟨rfl, rfl⟩
    · replace h := zite_f c7 h
      refine zs_iload_n dX7_isPart_8 rfl ?_
      refine zs_aload_n dX7_isPart_9 rfl ?_
      refine gX7_28 dX7_isPart_10 ?_
      refine zs_iload_n dX7_isPart_13 rfl ?_
      obtain ⟨v1, e2, h⟩ := zbind h
      refine zs_iald dX7_isPart_14 za_67 e2 ?_
      refine zs_icmp_gt 34 dX7_isPart_15 rfl (fun c6 => ?_) (fun c6 => ?_)
      · replace h := zite_t c6 h
        refine zs_iconst (0 : Int32) dX7_isPart_34 ziconst_0 ?_
        obtain rfl := Option.some.inj h
        exact zs_bret dX7_isPart_35 (Or.inl rfl) ⟨rfl, rfl⟩
      · replace h := zite_f c6 h
        refine zs_iload_n dX7_isPart_18 rfl ?_
        refine zs_aload_n dX7_isPart_19 rfl ?_
        refine gX7_28 dX7_isPart_20 ?_
        refine zs_iload_n dX7_isPart_23 rfl ?_
        obtain ⟨v3, e4, h⟩ := zbind h
        refine zs_iald dX7_isPart_24 za_67 e4 ?_
        refine zs_iload_n dX7_isPart_25 rfl ?_
        refine zs_isub dX7_isPart_26 ?_
        refine zs_icmp_gt 34 dX7_isPart_27 rfl (fun c5 => ?_) (fun c5 => ?_)
        · replace h := zite_t c5 h
          refine zs_iconst (0 : Int32) dX7_isPart_34 ziconst_0 ?_
          obtain rfl := Option.some.inj h
          exact zs_bret dX7_isPart_35 (Or.inl rfl) ⟨rfl, rfl⟩
        · replace h := zite_f c5 h
          refine zs_iconst (1 : Int32) dX7_isPart_30 ziconst_1 ?_
          refine zs_goto 35 dX7_isPart_31 rfl ?_
          obtain rfl := Option.some.inj h
          exact zs_bret dX7_isPart_35 (Or.inr rfl) ⟨rfl, rfl⟩
def fX7_isSheet (w : zW) (p0 : Int32) : Option Int32 := Option.bind (fX7_in w p0 (0 : Int32) (3 : Int32)) fun v2 => Option.bind (zgb v2) fun b3 => some b3
set_option maxRecDepth 100000 in
theorem tX7_isSheet {w : zW} {p0 : Int32}  {r : Int32} (h : fX7_isSheet w p0 = some r) : zRun yX7_isSheet cX7_isSheet 1 (some .boolean) 1 [.int p0] w (zI r w) := by
  refine zRun.of (k := 0) rfl rfl rfl ?_
  show zWP RX7 cX7_isSheet (zMB 1 (some .boolean) 1 (zI r w)) 0 [some (.int p0)] [] w
  unfold fX7_isSheet at h
  refine zs_iload_n dX7_isSheet_0 rfl ?_
  refine zs_iconst (0 : Int32) dX7_isSheet_1 ziconst_0 ?_
  refine zs_iconst (3 : Int32) dX7_isSheet_2 ziconst_3 ?_
  obtain ⟨v2, e1, h⟩ := zbind h
  refine zc_S3i moX7_in mvX7_in kX7_45 dX7_isSheet_3 (Nat.le_of_ble_eq_true rfl) (zrm (by decide)) (tX7_in e1) ?_
  obtain ⟨b3, e4, h⟩ := zbind h
  refine zs_nmi (zgb_inv e4).2 ?_
  obtain rfl := Option.some.inj h
  exact zs_bret dX7_isSheet_6 (by have q := zgb_inv e4; exact q.2 ▸ q.1) ⟨rfl, rfl⟩
def lpX7_copy_102 (p1 : Int32) (p2 : Int32) (p3 : Int32) (p4 : Int32) (p5 : Int32) : Nat → zW → Int32 → Option zW
  | 0, _, _ => none
  | n + 1, w27, x26 => (if p5 ≤ x26 then (some w27) else (Option.bind (zrl w27 68 160 ((((40 : Int32) * p1) + p2) + x26)) fun v29 => Option.bind (zwl w27 69 40 x26 v29) fun w31 => lpX7_copy_102 p1 p2 p3 p4 p5 n w31 (x26 + 1)))
def lpX7_copy_139 (p3 : Int32) (p4 : Int32) (p5 : Int32) : Nat → zW → Int32 → Option zW
  | 0, _, _ => none
  | n + 1, w38, x37 => (if p5 ≤ x37 then (some w38) else (Option.bind (zrl w38 69 40 x37) fun v40 => Option.bind (zwl w38 68 160 ((((40 : Int32) * p3) + p4) + x37) v40) fun w42 => lpX7_copy_139 p3 p4 p5 n w42 (x37 + 1)))
def fX7_copy (w : zW) (p1 : Int32) (p2 : Int32) (p3 : Int32) (p4 : Int32) (p5 : Int32) : Option (Int32 × zW) := Option.bind (fX7_isSheet w p1) fun v2 => (if v2 = 0 then (zb2 (fX7_finds w (-1000000001 : Int32)) fun v4 w5 => some (v4, w5)) else (Option.bind (fX7_isSheet w p3) fun v7 => (if v7 = 0 then (zb2 (fX7_finds w (-1000000001 : Int32)) fun v63 w64 => some (v63, w64)) else (Option.bind (zrd w 66 4 p1) fun v8 => (if v8 = 0 then (zb2 (fX7_finds w (-1000000006 : Int32)) fun v11 w12 => some (v11, w12)) else (Option.bind (zrd w 66 4 p3) fun v13 => (if v13 = 0 then (zb2 (fX7_finds w (-1000000006 : Int32)) fun v58 w59 => some (v58, w59)) else (Option.bind (zrd w 66 4 p1) fun v15 => Option.bind (zrd w 66 4 p3) fun v17 => (if v15 = v17 then (Option.bind (fX7_isPart w p1 p2 p5) fun v20 => (if v20 = 0 then (zb2 (fX7_finds w (-1000000001 : Int32)) fun v22 w23 => some (v22, w23)) else (Option.bind (fX7_isPart w p3 p4 p5) fun v25 => (if v25 = 0 then (zb2 (fX7_finds w (-1000000001 : Int32)) fun v49 w50 => some (v49, w50)) else (Option.bind (lpX7_copy_102 p1 p2 p3 p4 p5 zF w (0 : Int32)) fun w36 => Option.bind (lpX7_copy_139 p3 p4 p5 zF w36 (0 : Int32)) fun w47 => some (p5, w47)))))) else (zb2 (fX7_finds w (-1000000003 : Int32)) fun v54 w55 => some (v54, w55)))))))))))
set_option maxRecDepth 100000 in
theorem tlX7_copy_102 {p1 : Int32} {p2 : Int32} {p3 : Int32} {p4 : Int32} {p5 : Int32}  {Q : Option Value → zW → Prop} : ∀ (n : Nat) (w27 : zW) (x26 : Int32) (w28 : zW), lpX7_copy_102 p1 p2 p3 p4 p5 n w27 x26 = some w28 → zWP RX7 cX7_copy (zMB 7 (some .int) 2 Q) 136 [some (.ref 60), none, none, some (.int p3), some (.int p4), some (.int p5), none] [] w28 → zWP RX7 cX7_copy (zMB 7 (some .int) 2 Q) 102 [some (.ref 60), some (.int p1), some (.int p2), some (.int p3), some (.int p4), some (.int p5), some (.int x26)] [] w27 := by
  intro n
  induction n with
  | zero => intro w27 x26 w28 h K; simp [lpX7_copy_102] at h
  | succ n ih =>
    intro w27 x26 w28 h K
    rw [lpX7_copy_102] at h
    refine zs_iload dX7_copy_102 rfl ?_
    refine zs_iload dX7_copy_104 rfl ?_
    refine zs_icmp_ge 136 dX7_copy_106 rfl (fun c33 => ?_) (fun c33 => ?_)
    · replace h := zite_t c33 h
      refine zs_fo [true, false, false, true, true, true, false] rfl ?_
      obtain rfl := Option.some.inj h
      exact K
    · replace h := zite_f c33 h
      refine zs_aload_n dX7_copy_109 rfl ?_
      refine gX7_35 dX7_copy_110 ?_
      refine zs_iload dX7_copy_113 rfl ?_
      refine zs_aload_n dX7_copy_115 rfl ?_
      refine gX7_31 dX7_copy_116 ?_
      refine zs_bipush (40 : Int32) dX7_copy_119 zbipush_40 ?_
      refine zs_iload_n dX7_copy_121 rfl ?_
      refine zs_imul dX7_copy_122 ?_
      refine zs_iload_n dX7_copy_123 rfl ?_
      refine zs_iadd dX7_copy_124 ?_
      refine zs_iload dX7_copy_125 rfl ?_
      refine zs_iadd dX7_copy_127 ?_
      obtain ⟨v29, e30, h⟩ := zbind h
      refine zs_lald dX7_copy_128 za_68 e30 ?_
      obtain ⟨w31, e32, h⟩ := zbind h
      refine zs_last dX7_copy_129 za_69 e32 ?_
      refine zs_iinc (x26 + 1) [some (.ref 60), some (.int p1), some (.int p2), some (.int p3), some (.int p4), some (.int p5), some (.int (x26 + 1))] dX7_copy_130 rfl rfl (Nat.le_of_ble_eq_true rfl) rfl rfl ?_
      refine zs_goto 102 dX7_copy_133 rfl ?_
      exact ih _ _ _ h K
set_option maxRecDepth 100000 in
theorem tlX7_copy_139 {p3 : Int32} {p4 : Int32} {p5 : Int32}  {Q : Option Value → zW → Prop} : ∀ (n : Nat) (w38 : zW) (x37 : Int32) (w39 : zW), lpX7_copy_139 p3 p4 p5 n w38 x37 = some w39 → zWP RX7 cX7_copy (zMB 7 (some .int) 2 Q) 174 [none, none, none, none, none, some (.int p5), none] [] w39 → zWP RX7 cX7_copy (zMB 7 (some .int) 2 Q) 139 [some (.ref 60), none, none, some (.int p3), some (.int p4), some (.int p5), some (.int x37)] [] w38 := by
  intro n
  induction n with
  | zero => intro w38 x37 w39 h K; simp [lpX7_copy_139] at h
  | succ n ih =>
    intro w38 x37 w39 h K
    rw [lpX7_copy_139] at h
    refine zs_iload dX7_copy_139 rfl ?_
    refine zs_iload dX7_copy_141 rfl ?_
    refine zs_icmp_ge 174 dX7_copy_143 rfl (fun c44 => ?_) (fun c44 => ?_)
    · replace h := zite_t c44 h
      refine zs_fo [false, false, false, false, false, true, false] rfl ?_
      obtain rfl := Option.some.inj h
      exact K
    · replace h := zite_f c44 h
      refine zs_aload_n dX7_copy_146 rfl ?_
      refine gX7_31 dX7_copy_147 ?_
      refine zs_bipush (40 : Int32) dX7_copy_150 zbipush_40 ?_
      refine zs_iload_n dX7_copy_152 rfl ?_
      refine zs_imul dX7_copy_153 ?_
      refine zs_iload dX7_copy_154 rfl ?_
      refine zs_iadd dX7_copy_156 ?_
      refine zs_iload dX7_copy_157 rfl ?_
      refine zs_iadd dX7_copy_159 ?_
      refine zs_aload_n dX7_copy_160 rfl ?_
      refine gX7_35 dX7_copy_161 ?_
      refine zs_iload dX7_copy_164 rfl ?_
      obtain ⟨v40, e41, h⟩ := zbind h
      refine zs_lald dX7_copy_166 za_69 e41 ?_
      obtain ⟨w42, e43, h⟩ := zbind h
      refine zs_last dX7_copy_167 za_68 e43 ?_
      refine zs_iinc (x37 + 1) [some (.ref 60), none, none, some (.int p3), some (.int p4), some (.int p5), some (.int (x37 + 1))] dX7_copy_168 rfl rfl (Nat.le_of_ble_eq_true rfl) rfl rfl ?_
      refine zs_goto 139 dX7_copy_171 rfl ?_
      exact ih _ _ _ h K
set_option maxRecDepth 100000 in
theorem tX7_copy {w : zW} {p1 : Int32} {p2 : Int32} {p3 : Int32} {p4 : Int32} {p5 : Int32}  {r : Int32} {w' : zW} (h : fX7_copy w p1 p2 p3 p4 p5 = some (r, w')) : zRun yX7_copy cX7_copy 7 (some .int) 2 [.ref 60, .int p1, .int p2, .int p3, .int p4, .int p5] w (zI r w') := by
  refine zRun.of (k := 1) rfl rfl rfl ?_
  show zWP RX7 cX7_copy (zMB 7 (some .int) 2 (zI r w')) 0 [some (.ref 60), some (.int p1), some (.int p2), some (.int p3), some (.int p4), some (.int p5), none] [] w
  unfold fX7_copy at h
  refine zs_iload_n dX7_copy_0 rfl ?_
  obtain ⟨v2, e1, h⟩ := zbind h
  refine zc_S1i moX7_isSheet mvX7_isSheet kX7_307 dX7_copy_1 (Nat.le_of_ble_eq_true rfl) (zrm (by decide)) (tX7_isSheet e1) ?_
  refine zs_if_eq 14 dX7_copy_4 rfl (fun c66 => ?_) (fun c66 => ?_)
  · replace h := zite_t c66 h
    refine zs_aload_n dX7_copy_14 rfl ?_
    refine zs_ldc kX7_44 dX7_copy_15 ?_
    obtain ⟨v4, w5, e3, h⟩ := zb2_inv h
    refine zc_V1i moX7_finds mvX7_finds kX7_49 rfl dX7_copy_17 za_60 (Nat.le_of_ble_eq_true rfl) (zrm (by decide)) (tX7_finds e3) ?_
    obtain ⟨rfl, rfl⟩ := zpi2 h
    exact zs_iret dX7_copy_20 ⟨rfl, rfl⟩
  · replace h := zite_f c66 h
    refine zs_iload_n dX7_copy_7 rfl ?_
    obtain ⟨v7, e6, h⟩ := zbind h
    refine zc_S1i moX7_isSheet mvX7_isSheet kX7_307 dX7_copy_8 (Nat.le_of_ble_eq_true rfl) (zrm (by decide)) (tX7_isSheet e6) ?_
    refine zs_if_ne 21 dX7_copy_11 rfl (fun c65 => ?_) (fun c65 => ?_)
    · replace h := zite_f c65 h
      refine zs_aload_n dX7_copy_21 rfl ?_
      refine gX7_25 dX7_copy_22 ?_
      refine zs_iload_n dX7_copy_25 rfl ?_
      obtain ⟨v8, e9, h⟩ := zbind h
      refine zs_iald dX7_copy_26 za_66 e9 ?_
      refine zs_if_eq 39 dX7_copy_27 rfl (fun c61 => ?_) (fun c61 => ?_)
      · replace h := zite_t c61 h
        refine zs_aload_n dX7_copy_39 rfl ?_
        refine zs_ldc_w kX7_311 dX7_copy_40 ?_
        obtain ⟨v11, w12, e10, h⟩ := zb2_inv h
        refine zc_V1i moX7_finds mvX7_finds kX7_49 rfl dX7_copy_43 za_60 (Nat.le_of_ble_eq_true rfl) (zrm (by decide)) (tX7_finds e10) ?_
        obtain ⟨rfl, rfl⟩ := zpi2 h
        exact zs_iret dX7_copy_46 ⟨rfl, rfl⟩
      · replace h := zite_f c61 h
        refine zs_aload_n dX7_copy_30 rfl ?_
        refine gX7_25 dX7_copy_31 ?_
        refine zs_iload_n dX7_copy_34 rfl ?_
        obtain ⟨v13, e14, h⟩ := zbind h
        refine zs_iald dX7_copy_35 za_66 e14 ?_
        refine zs_if_ne 47 dX7_copy_36 rfl (fun c60 => ?_) (fun c60 => ?_)
        · replace h := zite_f c60 h
          refine zs_aload_n dX7_copy_47 rfl ?_
          refine gX7_25 dX7_copy_48 ?_
          refine zs_iload_n dX7_copy_51 rfl ?_
          obtain ⟨v15, e16, h⟩ := zbind h
          refine zs_iald dX7_copy_52 za_66 e16 ?_
          refine zs_aload_n dX7_copy_53 rfl ?_
          refine gX7_25 dX7_copy_54 ?_
          refine zs_iload_n dX7_copy_57 rfl ?_
          obtain ⟨v17, e18, h⟩ := zbind h
          refine zs_iald dX7_copy_58 za_66 e18 ?_
          refine zs_icmp_eq 69 dX7_copy_59 rfl (fun c56 => ?_) (fun c56 => ?_)
          · replace h := zite_t c56 h
            refine zs_aload_n dX7_copy_69 rfl ?_
            refine zs_iload_n dX7_copy_70 rfl ?_
            refine zs_iload_n dX7_copy_71 rfl ?_
            refine zs_iload dX7_copy_72 rfl ?_
            obtain ⟨v20, e19, h⟩ := zbind h
            refine zc_V3i moX7_isPart mvX7_isPart kX7_316 rfl dX7_copy_74 za_60 (Nat.le_of_ble_eq_true rfl) (zrm (by decide)) (tX7_isPart e19) ?_
            refine zs_if_eq 92 dX7_copy_77 rfl (fun c52 => ?_) (fun c52 => ?_)
            · replace h := zite_t c52 h
              refine zs_aload_n dX7_copy_92 rfl ?_
              refine zs_ldc kX7_44 dX7_copy_93 ?_
              obtain ⟨v22, w23, e21, h⟩ := zb2_inv h
              refine zc_V1i moX7_finds mvX7_finds kX7_49 rfl dX7_copy_95 za_60 (Nat.le_of_ble_eq_true rfl) (zrm (by decide)) (tX7_finds e21) ?_
              obtain ⟨rfl, rfl⟩ := zpi2 h
              exact zs_iret dX7_copy_98 ⟨rfl, rfl⟩
            · replace h := zite_f c52 h
              refine zs_aload_n dX7_copy_80 rfl ?_
              refine zs_iload_n dX7_copy_81 rfl ?_
              refine zs_iload dX7_copy_82 rfl ?_
              refine zs_iload dX7_copy_84 rfl ?_
              obtain ⟨v25, e24, h⟩ := zbind h
              refine zc_V3i moX7_isPart mvX7_isPart kX7_316 rfl dX7_copy_86 za_60 (Nat.le_of_ble_eq_true rfl) (zrm (by decide)) (tX7_isPart e24) ?_
              refine zs_if_ne 99 dX7_copy_89 rfl (fun c51 => ?_) (fun c51 => ?_)
              · replace h := zite_f c51 h
                refine zs_iconst (0 : Int32) dX7_copy_99 ziconst_0 ?_
                refine zs_istore [some (.ref 60), some (.int p1), some (.int p2), some (.int p3), some (.int p4), some (.int p5), some (.int (0 : Int32))] dX7_copy_100 (Nat.le_of_ble_eq_true rfl) rfl rfl ?_
                obtain ⟨w36, e34, h⟩ := zbind h
                have K35 : zWP RX7 cX7_copy (zMB 7 (some .int) 2 (zI r w')) 136 [some (.ref 60), none, none, some (.int p3), some (.int p4), some (.int p5), none] [] w36 := by
                  refine zs_iconst (0 : Int32) dX7_copy_136 ziconst_0 ?_
                  refine zs_istore [some (.ref 60), none, none, some (.int p3), some (.int p4), some (.int p5), some (.int (0 : Int32))] dX7_copy_137 (Nat.le_of_ble_eq_true rfl) rfl rfl ?_
                  obtain ⟨w47, e45, h⟩ := zbind h
                  have K46 : zWP RX7 cX7_copy (zMB 7 (some .int) 2 (zI r w')) 174 [none, none, none, none, none, some (.int p5), none] [] w47 := by
                    refine zs_iload dX7_copy_174 rfl ?_
                    obtain ⟨rfl, rfl⟩ := zpi2 h
                    exact zs_iret dX7_copy_176 ⟨rfl, rfl⟩
                  exact tlX7_copy_139  zF _ _ _ e45 K46
                exact tlX7_copy_102  zF _ _ _ e34 K35
              · replace h := zite_t c51 h
                refine zs_aload_n dX7_copy_92 rfl ?_
                refine zs_ldc kX7_44 dX7_copy_93 ?_
                obtain ⟨v49, w50, e48, h⟩ := zb2_inv h
                refine zc_V1i moX7_finds mvX7_finds kX7_49 rfl dX7_copy_95 za_60 (Nat.le_of_ble_eq_true rfl) (zrm (by decide)) (tX7_finds e48) ?_
                obtain ⟨rfl, rfl⟩ := zpi2 h
                exact zs_iret dX7_copy_98 ⟨rfl, rfl⟩
          · replace h := zite_f c56 h
            refine zs_aload_n dX7_copy_62 rfl ?_
            refine zs_ldc kX7_172 dX7_copy_63 ?_
            obtain ⟨v54, w55, e53, h⟩ := zb2_inv h
            refine zc_V1i moX7_finds mvX7_finds kX7_49 rfl dX7_copy_65 za_60 (Nat.le_of_ble_eq_true rfl) (zrm (by decide)) (tX7_finds e53) ?_
            obtain ⟨rfl, rfl⟩ := zpi2 h
            exact zs_iret dX7_copy_68 ⟨rfl, rfl⟩
        · replace h := zite_t c60 h
          refine zs_aload_n dX7_copy_39 rfl ?_
          refine zs_ldc_w kX7_311 dX7_copy_40 ?_
          obtain ⟨v58, w59, e57, h⟩ := zb2_inv h
          refine zc_V1i moX7_finds mvX7_finds kX7_49 rfl dX7_copy_43 za_60 (Nat.le_of_ble_eq_true rfl) (zrm (by decide)) (tX7_finds e57) ?_
          obtain ⟨rfl, rfl⟩ := zpi2 h
          exact zs_iret dX7_copy_46 ⟨rfl, rfl⟩
    · replace h := zite_t c65 h
      refine zs_aload_n dX7_copy_14 rfl ?_
      refine zs_ldc kX7_44 dX7_copy_15 ?_
      obtain ⟨v63, w64, e62, h⟩ := zb2_inv h
      refine zc_V1i moX7_finds mvX7_finds kX7_49 rfl dX7_copy_17 za_60 (Nat.le_of_ble_eq_true rfl) (zrm (by decide)) (tX7_finds e62) ?_
      obtain ⟨rfl, rfl⟩ := zpi2 h
      exact zs_iret dX7_copy_20 ⟨rfl, rfl⟩
def lpX7_count_64 (w : zW) : Nat → Int32 → Int32 → Option Int32
  | 0, _, _ => none
  | n + 1, x12, x13 => Option.bind (zrd w 61 151 (0 : Int32)) fun v15 => (if v15 ≤ x13 then (some x12) else (Option.bind (fX7_height w x13) fun v18 => Option.bind (some ((x12 + v18))) fun x19 => lpX7_count_64 w n x19 (x13 + 1)))
def fX7_count (w : zW) (p1 : Int32) : Option (Int32 × zW) := (if p1 = 0 then (Option.bind (zrd w 61 151 (0 : Int32)) fun v6 => some (v6, w)) else (if p1 = 1 then (Option.bind (zrd w 61 151 (1 : Int32)) fun v8 => some (v8, w)) else (if p1 = 2 then (Option.bind (zrd w 61 151 (2 : Int32)) fun v10 => some (v10, w)) else (if p1 = 3 then (some ((w.1 60 7), w)) else (if p1 = 4 then (Option.bind (lpX7_count_64 w zF (0 : Int32) (0 : Int32)) fun y24 => some (y24, w)) else (zb2 (fX7_finds w (-1000000001 : Int32)) fun v26 w27 => some (v26, w27)))))))
set_option maxRecDepth 100000 in
theorem tlX7_count_64 {w : zW}  {Q : Option Value → zW → Prop} : ∀ (n : Nat) (x12 : Int32) (x13 : Int32) (y14 : Int32), lpX7_count_64 w n x12 x13 = some y14 → zWP RX7 cX7_count (zMB 4 (some .int) 1 Q) 88 [none, none, some (.int y14), none] [] w → zWP RX7 cX7_count (zMB 4 (some .int) 1 Q) 64 [some (.ref 60), none, some (.int x12), some (.int x13)] [] w := by
  intro n
  induction n with
  | zero => intro x12 x13 y14 h K; simp [lpX7_count_64] at h
  | succ n ih =>
    intro x12 x13 y14 h K
    rw [lpX7_count_64] at h
    refine zs_iload_n dX7_count_64 rfl ?_
    refine zs_aload_n dX7_count_65 rfl ?_
    refine gX7_7 dX7_count_66 ?_
    refine zs_iconst (0 : Int32) dX7_count_69 ziconst_0 ?_
    obtain ⟨v15, e16, h⟩ := zbind h
    refine zs_iald dX7_count_70 za_61 e16 ?_
    refine zs_icmp_ge 88 dX7_count_71 rfl (fun c21 => ?_) (fun c21 => ?_)
    · replace h := zite_t c21 h
      refine zs_fo [false, false, true, false] rfl ?_
      obtain rfl := Option.some.inj h
      exact K
    · replace h := zite_f c21 h
      refine zs_iload_n dX7_count_74 rfl ?_
      refine zs_aload_n dX7_count_75 rfl ?_
      refine zs_iload_n dX7_count_76 rfl ?_
      obtain ⟨v18, e17, h⟩ := zbind h
      refine zc_V1i moX7_height mvX7_height kX7_69 rfl dX7_count_77 za_60 (Nat.le_of_ble_eq_true rfl) (zrm (by decide)) (tX7_height e17) ?_
      refine zs_iadd dX7_count_80 ?_
      obtain ⟨x19, e20, h⟩ := zbind h
      refine zs_nmi (Option.some.inj e20) ?_
      refine zs_istore_n [some (.ref 60), none, some (.int x19), some (.int x13)] dX7_count_81 (Nat.le_of_ble_eq_true rfl) rfl rfl ?_
      refine zs_iinc (x13 + 1) [some (.ref 60), none, some (.int x19), some (.int (x13 + 1))] dX7_count_82 rfl rfl (Nat.le_of_ble_eq_true rfl) rfl rfl ?_
      refine zs_goto 64 dX7_count_85 rfl ?_
      exact ih _ _ _ h K
set_option maxRecDepth 100000 in
theorem tX7_count {w : zW} {p1 : Int32}  {r : Int32} {w' : zW} (h : fX7_count w p1 = some (r, w')) : zRun yX7_count cX7_count 4 (some .int) 1 [.ref 60, .int p1] w (zI r w') := by
  refine zRun.of (k := 2) rfl rfl rfl ?_
  show zWP RX7 cX7_count (zMB 4 (some .int) 1 (zI r w')) 0 [some (.ref 60), some (.int p1), none, none] [] w
  unfold fX7_count at h
  refine zs_iconst (0 : Int32) dX7_count_0 ziconst_0 ?_
  refine zs_istore_n [some (.ref 60), some (.int p1), some (.int (0 : Int32)), none] dX7_count_1 (Nat.le_of_ble_eq_true rfl) rfl rfl ?_
  refine zs_iload_n dX7_count_2 rfl ?_
  by_cases c1 : p1 = 0
  · replace h := zite_t c1 h
    refine zs_tswIn (0 : Int32) 36 dX7_count_3 c1 (by decide) (by decide) rfl rfl ?_
    refine zs_aload_n dX7_count_36 rfl ?_
    refine gX7_7 dX7_count_37 ?_
    refine zs_iconst (0 : Int32) dX7_count_40 ziconst_0 ?_
    obtain ⟨v6, e7, h⟩ := zbind h
    refine zs_iald dX7_count_41 za_61 e7 ?_
    obtain ⟨rfl, rfl⟩ := zpi2 h
    exact zs_iret dX7_count_42 ⟨rfl, rfl⟩
  · replace h := zite_f c1 h
    by_cases c2 : p1 = 1
    · replace h := zite_t c2 h
      refine zs_tswIn (1 : Int32) 43 dX7_count_3 c2 (by decide) (by decide) rfl rfl ?_
      refine zs_aload_n dX7_count_43 rfl ?_
      refine gX7_7 dX7_count_44 ?_
      refine zs_iconst (1 : Int32) dX7_count_47 ziconst_1 ?_
      obtain ⟨v8, e9, h⟩ := zbind h
      refine zs_iald dX7_count_48 za_61 e9 ?_
      obtain ⟨rfl, rfl⟩ := zpi2 h
      exact zs_iret dX7_count_49 ⟨rfl, rfl⟩
    · replace h := zite_f c2 h
      by_cases c3 : p1 = 2
      · replace h := zite_t c3 h
        refine zs_tswIn (2 : Int32) 50 dX7_count_3 c3 (by decide) (by decide) rfl rfl ?_
        refine zs_aload_n dX7_count_50 rfl ?_
        refine gX7_7 dX7_count_51 ?_
        refine zs_iconst (2 : Int32) dX7_count_54 ziconst_2 ?_
        obtain ⟨v10, e11, h⟩ := zbind h
        refine zs_iald dX7_count_55 za_61 e11 ?_
        obtain ⟨rfl, rfl⟩ := zpi2 h
        exact zs_iret dX7_count_56 ⟨rfl, rfl⟩
      · replace h := zite_f c3 h
        by_cases c4 : p1 = 3
        · replace h := zite_t c4 h
          refine zs_tswIn (3 : Int32) 57 dX7_count_3 c4 (by decide) (by decide) rfl rfl ?_
          refine zs_aload_n dX7_count_57 rfl ?_
          refine gX7_204 dX7_count_58 ?_
          obtain ⟨rfl, rfl⟩ := zpi2 h
          exact zs_iret dX7_count_61 ⟨rfl, rfl⟩
        · replace h := zite_f c4 h
          by_cases c5 : p1 = 4
          · replace h := zite_t c5 h
            refine zs_tswIn (4 : Int32) 62 dX7_count_3 c5 (by decide) (by decide) rfl rfl ?_
            refine zs_iconst (0 : Int32) dX7_count_62 ziconst_0 ?_
            refine zs_istore_n [some (.ref 60), some (.int p1), some (.int (0 : Int32)), some (.int (0 : Int32))] dX7_count_63 (Nat.le_of_ble_eq_true rfl) rfl rfl ?_
            obtain ⟨y24, e22, h⟩ := zbind h
            have K23 : zWP RX7 cX7_count (zMB 4 (some .int) 1 (zI r w')) 88 [none, none, some (.int y24), none] [] w := by
              refine zs_iload_n dX7_count_88 rfl ?_
              obtain ⟨rfl, rfl⟩ := zpi2 h
              exact zs_iret dX7_count_89 ⟨rfl, rfl⟩
            refine zs_fo [true, false, true, true] rfl ?_
            exact tlX7_count_64  zF _ _ _ e22 K23
          · replace h := zite_f c5 h
            refine zs_tswOut 90 dX7_count_3 (by have q := zout (x := p1) (n := 5) (lo := 0) (fun i hi => by match i, hi with | 0, _ => exact c1 | 1, _ => exact c2 | 2, _ => exact c3 | 3, _ => exact c4 | 4, _ => exact c5); omega) rfl ?_
            refine zs_aload_n dX7_count_90 rfl ?_
            refine zs_ldc kX7_44 dX7_count_91 ?_
            obtain ⟨v26, w27, e25, h⟩ := zb2_inv h
            refine zc_V1i moX7_finds mvX7_finds kX7_49 rfl dX7_count_93 za_60 (Nat.le_of_ble_eq_true rfl) (zrm (by decide)) (tX7_finds e25) ?_
            obtain ⟨rfl, rfl⟩ := zpi2 h
            exact zs_iret dX7_count_96 ⟨rfl, rfl⟩
def fX7_day (w : zW) (p1 : Int32) : Option (Int32 × zW) := Option.bind (fX7_in w p1 (0 : Int32) (9999 : Int32)) fun v2 => (if v2 = 0 then (zb2 (fX7_finds w (-1000000001 : Int32)) fun v8 w9 => some (v8, w9)) else (Option.bind (zrd w 61 151 (4 : Int32)) fun v3 => Option.bind (zwr w 61 151 (4 : Int32) p1) fun w5 => some (v3, w5)))
set_option maxRecDepth 100000 in
theorem tX7_day {w : zW} {p1 : Int32}  {r : Int32} {w' : zW} (h : fX7_day w p1 = some (r, w')) : zRun yX7_day cX7_day 3 (some .int) 1 [.ref 60, .int p1] w (zI r w') := by
  refine zRun.of (k := 1) rfl rfl rfl ?_
  show zWP RX7 cX7_day (zMB 3 (some .int) 1 (zI r w')) 0 [some (.ref 60), some (.int p1), none] [] w
  unfold fX7_day at h
  refine zs_iload_n dX7_day_0 rfl ?_
  refine zs_iconst (0 : Int32) dX7_day_1 ziconst_0 ?_
  refine zs_sipush (9999 : Int32) dX7_day_2 zsipush_9999 ?_
  obtain ⟨v2, e1, h⟩ := zbind h
  refine zc_S3i moX7_in mvX7_in kX7_45 dX7_day_5 (Nat.le_of_ble_eq_true rfl) (zrm (by decide)) (tX7_in e1) ?_
  refine zs_if_ne 18 dX7_day_8 rfl (fun c10 => ?_) (fun c10 => ?_)
  · replace h := zite_f c10 h
    refine zs_aload_n dX7_day_18 rfl ?_
    refine gX7_7 dX7_day_19 ?_
    refine zs_iconst (4 : Int32) dX7_day_22 ziconst_4 ?_
    obtain ⟨v3, e4, h⟩ := zbind h
    refine zs_iald dX7_day_23 za_61 e4 ?_
    refine zs_istore_n [some (.ref 60), some (.int p1), some (.int v3)] dX7_day_24 (Nat.le_of_ble_eq_true rfl) rfl rfl ?_
    refine zs_aload_n dX7_day_25 rfl ?_
    refine gX7_7 dX7_day_26 ?_
    refine zs_iconst (4 : Int32) dX7_day_29 ziconst_4 ?_
    refine zs_iload_n dX7_day_30 rfl ?_
    obtain ⟨w5, e6, h⟩ := zbind h
    refine zs_iast dX7_day_31 za_61 e6 ?_
    refine zs_iload_n dX7_day_32 rfl ?_
    obtain ⟨rfl, rfl⟩ := zpi2 h
    exact zs_iret dX7_day_33 ⟨rfl, rfl⟩
  · replace h := zite_t c10 h
    refine zs_aload_n dX7_day_11 rfl ?_
    refine zs_ldc kX7_44 dX7_day_12 ?_
    obtain ⟨v8, w9, e7, h⟩ := zb2_inv h
    refine zc_V1i moX7_finds mvX7_finds kX7_49 rfl dX7_day_14 za_60 (Nat.le_of_ble_eq_true rfl) (zrm (by decide)) (tX7_finds e7) ?_
    obtain ⟨rfl, rfl⟩ := zpi2 h
    exact zs_iret dX7_day_17 ⟨rfl, rfl⟩
def lpX7_ones_4 (w : zW) : Nat → Int32 → Int32 → Option Int32
  | 0, _, _ => none
  | n + 1, x1, x2 => (if x2 = 0 then (some x1) else (Option.bind (some ((x2 &&& (x2 - (1 : Int32))))) fun x4 => lpX7_ones_4 w n (x1 + 1) x4))
def fX7_ones (w : zW) (p0 : Int32) : Option Int32 := Option.bind (lpX7_ones_4 w zF (0 : Int32) p0) fun y9 => some y9
set_option maxRecDepth 100000 in
theorem tlX7_ones_4 {w : zW}  {Q : Option Value → zW → Prop} : ∀ (n : Nat) (x1 : Int32) (x2 : Int32) (y3 : Int32), lpX7_ones_4 w n x1 x2 = some y3 → zWP RX7 cX7_ones (zMB 3 (some .int) 0 Q) 20 [none, some (.int y3), none] [] w → zWP RX7 cX7_ones (zMB 3 (some .int) 0 Q) 4 [none, some (.int x1), some (.int x2)] [] w := by
  intro n
  induction n with
  | zero => intro x1 x2 y3 h K; simp [lpX7_ones_4] at h
  | succ n ih =>
    intro x1 x2 y3 h K
    rw [lpX7_ones_4] at h
    refine zs_iload_n dX7_ones_4 rfl ?_
    refine zs_if_eq 20 dX7_ones_5 rfl (fun c6 => ?_) (fun c6 => ?_)
    · replace h := zite_t c6 h
      refine zs_fo [false, true, false] rfl ?_
      obtain rfl := Option.some.inj h
      exact K
    · replace h := zite_f c6 h
      refine zs_iinc (x1 + 1) [none, some (.int (x1 + 1)), some (.int x2)] dX7_ones_8 rfl rfl (Nat.le_of_ble_eq_true rfl) rfl rfl ?_
      refine zs_iload_n dX7_ones_11 rfl ?_
      refine zs_iload_n dX7_ones_12 rfl ?_
      refine zs_iconst (1 : Int32) dX7_ones_13 ziconst_1 ?_
      refine zs_isub dX7_ones_14 ?_
      refine zs_iand dX7_ones_15 ?_
      obtain ⟨x4, e5, h⟩ := zbind h
      refine zs_nmi (Option.some.inj e5) ?_
      refine zs_istore_n [none, some (.int (x1 + 1)), some (.int x4)] dX7_ones_16 (Nat.le_of_ble_eq_true rfl) rfl rfl ?_
      refine zs_goto 4 dX7_ones_17 rfl ?_
      exact ih _ _ _ h K
set_option maxRecDepth 100000 in
theorem tX7_ones {w : zW} {p0 : Int32}  {r : Int32} (h : fX7_ones w p0 = some r) : zRun yX7_ones cX7_ones 3 (some .int) 0 [.int p0] w (zI r w) := by
  refine zRun.of (k := 2) rfl rfl rfl ?_
  show zWP RX7 cX7_ones (zMB 3 (some .int) 0 (zI r w)) 0 [some (.int p0), none, none] [] w
  unfold fX7_ones at h
  refine zs_iconst (0 : Int32) dX7_ones_0 ziconst_0 ?_
  refine zs_istore_n [some (.int p0), some (.int (0 : Int32)), none] dX7_ones_1 (Nat.le_of_ble_eq_true rfl) rfl rfl ?_
  refine zs_iload_n dX7_ones_2 rfl ?_
  refine zs_istore_n [some (.int p0), some (.int (0 : Int32)), some (.int p0)] dX7_ones_3 (Nat.le_of_ble_eq_true rfl) rfl rfl ?_
  obtain ⟨y9, e7, h⟩ := zbind h
  have K8 : zWP RX7 cX7_ones (zMB 3 (some .int) 0 (zI r w)) 20 [none, some (.int y9), none] [] w := by
    refine zs_iload_n dX7_ones_20 rfl ?_
    obtain rfl := Option.some.inj h
    exact zs_iret dX7_ones_21 ⟨rfl, rfl⟩
  refine zs_fo [false, true, true] rfl ?_
  exact tlX7_ones_4  zF _ _ _ e7 K8
def lpX7_days_46 (p1 : Int32) (v6 : Int32) : Nat → zW → Int32 → Option zW
  | 0, _, _ => none
  | n + 1, w8, x7 => (if p1 ≤ x7 then (some w8) else (Option.bind (fX7_aDay w8) fun w11 => lpX7_days_46 p1 v6 n w11 (x7 + 1)))
def fX7_days (w : zW) (p1 : Int32) : Option (Int32 × zW) := Option.bind (fX7_in w p1 (1 : Int32) (200 : Int32)) fun v2 => (if v2 = 0 then (zb2 (fX7_finds w (-1000000001 : Int32)) fun v25 w26 => some (v25, w26)) else (Option.bind (zrd w 61 151 (4 : Int32)) fun v3 => (if (v3 + p1) ≤ (9999 : Int32) then (Option.bind (fX7_allThere w) fun v6 => Option.bind (lpX7_days_46 p1 v6 zF w (0 : Int32)) fun w15 => Option.bind (fX7_allThere w15) fun v17 => Option.bind (fX7_ones w15 (v17 &&& (v6 ^^^ (-1 : Int32)))) fun v19 => some (v19, w15)) else (zb2 (fX7_finds w (-1000000005 : Int32)) fun v21 w22 => some (v21, w22)))))
set_option maxRecDepth 100000 in
theorem tlX7_days_46 {p1 : Int32} {v6 : Int32}  {Q : Option Value → zW → Prop} : ∀ (n : Nat) (w8 : zW) (x7 : Int32) (w9 : zW), lpX7_days_46 p1 v6 n w8 x7 = some w9 → zWP RX7 cX7_days (zMB 4 (some .int) 9 Q) 61 [some (.ref 60), none, some (.int v6), none] [] w9 → zWP RX7 cX7_days (zMB 4 (some .int) 9 Q) 46 [some (.ref 60), some (.int p1), some (.int v6), some (.int x7)] [] w8 := by
  intro n
  induction n with
  | zero => intro w8 x7 w9 h K; simp [lpX7_days_46] at h
  | succ n ih =>
    intro w8 x7 w9 h K
    rw [lpX7_days_46] at h
    refine zs_iload_n dX7_days_46 rfl ?_
    refine zs_iload_n dX7_days_47 rfl ?_
    refine zs_icmp_ge 61 dX7_days_48 rfl (fun c12 => ?_) (fun c12 => ?_)
    · replace h := zite_t c12 h
      refine zs_fo [true, false, true, false] rfl ?_
      obtain rfl := Option.some.inj h
      exact K
    · replace h := zite_f c12 h
      refine zs_aload_n dX7_days_51 rfl ?_
      obtain ⟨w11, e10, h⟩ := zbind h
      refine zc_V0v moX7_aDay mvX7_aDay kX7_191 rfl dX7_days_52 za_60 (Nat.le_of_ble_eq_true rfl) (zrm (by decide)) (tX7_aDay e10) ?_
      refine zs_iinc (x7 + 1) [some (.ref 60), some (.int p1), some (.int v6), some (.int (x7 + 1))] dX7_days_55 rfl rfl (Nat.le_of_ble_eq_true rfl) rfl rfl ?_
      refine zs_goto 46 dX7_days_58 rfl ?_
      exact ih _ _ _ h K
set_option maxRecDepth 100000 in
theorem tX7_days {w : zW} {p1 : Int32}  {r : Int32} {w' : zW} (h : fX7_days w p1 = some (r, w')) : zRun yX7_days cX7_days 4 (some .int) 9 [.ref 60, .int p1] w (zI r w') := by
  refine zRun.of (k := 2) rfl rfl rfl ?_
  show zWP RX7 cX7_days (zMB 4 (some .int) 9 (zI r w')) 0 [some (.ref 60), some (.int p1), none, none] [] w
  unfold fX7_days at h
  refine zs_iload_n dX7_days_0 rfl ?_
  refine zs_iconst (1 : Int32) dX7_days_1 ziconst_1 ?_
  refine zs_sipush (200 : Int32) dX7_days_2 zsipush_200 ?_
  obtain ⟨v2, e1, h⟩ := zbind h
  refine zc_S3i moX7_in mvX7_in kX7_45 dX7_days_5 (Nat.le_of_ble_eq_true rfl) (zrm (by decide)) (tX7_in e1) ?_
  refine zs_if_ne 18 dX7_days_8 rfl (fun c27 => ?_) (fun c27 => ?_)
  · replace h := zite_f c27 h
    refine zs_aload_n dX7_days_18 rfl ?_
    refine gX7_7 dX7_days_19 ?_
    refine zs_iconst (4 : Int32) dX7_days_22 ziconst_4 ?_
    obtain ⟨v3, e4, h⟩ := zbind h
    refine zs_iald dX7_days_23 za_61 e4 ?_
    refine zs_iload_n dX7_days_24 rfl ?_
    refine zs_iadd dX7_days_25 ?_
    refine zs_sipush (9999 : Int32) dX7_days_26 zsipush_9999 ?_
    refine zs_icmp_le 39 dX7_days_29 rfl (fun c23 => ?_) (fun c23 => ?_)
    · replace h := zite_t c23 h
      refine zs_aload_n dX7_days_39 rfl ?_
      obtain ⟨v6, e5, h⟩ := zbind h
      refine zc_V0i moX7_allThere mvX7_allThere kX7_188 rfl dX7_days_40 za_60 (Nat.le_of_ble_eq_true rfl) (zrm (by decide)) (tX7_allThere e5) ?_
      refine zs_istore_n [some (.ref 60), some (.int p1), some (.int v6), none] dX7_days_43 (Nat.le_of_ble_eq_true rfl) rfl rfl ?_
      refine zs_iconst (0 : Int32) dX7_days_44 ziconst_0 ?_
      refine zs_istore_n [some (.ref 60), some (.int p1), some (.int v6), some (.int (0 : Int32))] dX7_days_45 (Nat.le_of_ble_eq_true rfl) rfl rfl ?_
      obtain ⟨w15, e13, h⟩ := zbind h
      have K14 : zWP RX7 cX7_days (zMB 4 (some .int) 9 (zI r w')) 61 [some (.ref 60), none, some (.int v6), none] [] w15 := by
        refine zs_aload_n dX7_days_61 rfl ?_
        obtain ⟨v17, e16, h⟩ := zbind h
        refine zc_V0i moX7_allThere mvX7_allThere kX7_188 rfl dX7_days_62 za_60 (Nat.le_of_ble_eq_true rfl) (zrm (by decide)) (tX7_allThere e16) ?_
        refine zs_iload_n dX7_days_65 rfl ?_
        refine zs_iconst (-1 : Int32) dX7_days_66 ziconst_m1 ?_
        refine zs_ixor dX7_days_67 ?_
        refine zs_iand dX7_days_68 ?_
        obtain ⟨v19, e18, h⟩ := zbind h
        refine zc_S1i moX7_ones mvX7_ones kX7_151 dX7_days_69 (Nat.le_of_ble_eq_true rfl) (zrm (by decide)) (tX7_ones e18) ?_
        obtain ⟨rfl, rfl⟩ := zpi2 h
        exact zs_iret dX7_days_72 ⟨rfl, rfl⟩
      exact tlX7_days_46  zF _ _ _ e13 K14
    · replace h := zite_f c23 h
      refine zs_aload_n dX7_days_32 rfl ?_
      refine zs_ldc kX7_84 dX7_days_33 ?_
      obtain ⟨v21, w22, e20, h⟩ := zb2_inv h
      refine zc_V1i moX7_finds mvX7_finds kX7_49 rfl dX7_days_35 za_60 (Nat.le_of_ble_eq_true rfl) (zrm (by decide)) (tX7_finds e20) ?_
      obtain ⟨rfl, rfl⟩ := zpi2 h
      exact zs_iret dX7_days_38 ⟨rfl, rfl⟩
  · replace h := zite_t c27 h
    refine zs_aload_n dX7_days_11 rfl ?_
    refine zs_ldc kX7_44 dX7_days_12 ?_
    obtain ⟨v25, w26, e24, h⟩ := zb2_inv h
    refine zc_V1i moX7_finds mvX7_finds kX7_49 rfl dX7_days_14 za_60 (Nat.le_of_ble_eq_true rfl) (zrm (by decide)) (tX7_finds e24) ?_
    obtain ⟨rfl, rfl⟩ := zpi2 h
    exact zs_iret dX7_days_17 ⟨rfl, rfl⟩
def lpX7_moveAll_2 (p1 : Int32) (o2 : Nat) : Nat → zW → Int32 → Option zW
  | 0, _, _ => none
  | n + 1, w2, x1 => (if (151 : Int32) ≤ x1 then (some w2) else (Option.bind (if p1 = 0 then (Option.bind (zrd w2 o2 151 x1) fun v15 => Option.bind (zwr w2 61 151 x1 v15) fun w17 => some w17) else (Option.bind (zrd w2 61 151 x1) fun v19 => Option.bind (zwr w2 o2 151 x1 v19) fun w21 => some w21)) fun w12 => lpX7_moveAll_2 p1 o2 n w12 (x1 + 1)))
def fX7_moveAll (w : zW) (p1 : Int32) (o2 : Nat) : Option zW := Option.bind (lpX7_moveAll_2 p1 o2 zF w (0 : Int32)) fun w27 => some w27
set_option maxRecDepth 100000 in
theorem tlX7_moveAll_2 {p1 : Int32} {o2 : Nat} (ho2 : zAt o2 (1, 151, [])) {Q : Option Value → zW → Prop} : ∀ (n : Nat) (w2 : zW) (x1 : Int32) (w3 : zW), lpX7_moveAll_2 p1 o2 n w2 x1 = some w3 → zWP RX7 cX7_moveAll (zMB 4 none 0 Q) 40 [none, none, none, none] [] w3 → zWP RX7 cX7_moveAll (zMB 4 none 0 Q) 2 [some (.ref 60), some (.int p1), some (.ref o2), some (.int x1)] [] w2 := by
  intro n
  induction n with
  | zero => intro w2 x1 w3 h K; simp [lpX7_moveAll_2] at h
  | succ n ih =>
    intro w2 x1 w3 h K
    rw [lpX7_moveAll_2] at h
    refine zs_iload_n dX7_moveAll_2 rfl ?_
    refine zs_sipush (151 : Int32) dX7_moveAll_3 zsipush_151 ?_
    refine zs_icmp_ge 40 dX7_moveAll_6 rfl (fun c24 => ?_) (fun c24 => ?_)
    · replace h := zite_t c24 h
      refine zs_fo [false, false, false, false] rfl ?_
      obtain rfl := Option.some.inj h
      exact K
    · replace h := zite_f c24 h
      refine zs_iload_n dX7_moveAll_9 rfl ?_
      obtain ⟨w12, m14, h⟩ := zbind h
      have K13 : zWP RX7 cX7_moveAll (zMB 4 none 0 Q) 34 [some (.ref 60), some (.int p1), some (.ref o2), some (.int x1)] [] w12 := by
        refine zs_iinc (x1 + 1) [some (.ref 60), some (.int p1), some (.ref o2), some (.int (x1 + 1))] dX7_moveAll_34 rfl rfl (Nat.le_of_ble_eq_true rfl) rfl rfl ?_
        refine zs_goto 2 dX7_moveAll_37 rfl ?_
        exact ih _ _ _ h K
      refine zs_if_eq 25 dX7_moveAll_10 rfl (fun c23 => ?_) (fun c23 => ?_)
      · replace m14 := zite_t c23 m14
        refine zs_aload_n dX7_moveAll_25 rfl ?_
        refine gX7_7 dX7_moveAll_26 ?_
        refine zs_iload_n dX7_moveAll_29 rfl ?_
        refine zs_aload_n dX7_moveAll_30 rfl ?_
        refine zs_iload_n dX7_moveAll_31 rfl ?_
        obtain ⟨v15, e16, m14⟩ := zbind m14
        refine zs_iald dX7_moveAll_32 ho2 e16 ?_
        obtain ⟨w17, e18, m14⟩ := zbind m14
        refine zs_iast dX7_moveAll_33 za_61 e18 ?_
        obtain rfl := Option.some.inj m14
        exact K13
      · replace m14 := zite_f c23 m14
        refine zs_aload_n dX7_moveAll_13 rfl ?_
        refine zs_iload_n dX7_moveAll_14 rfl ?_
        refine zs_aload_n dX7_moveAll_15 rfl ?_
        refine gX7_7 dX7_moveAll_16 ?_
        refine zs_iload_n dX7_moveAll_19 rfl ?_
        obtain ⟨v19, e20, m14⟩ := zbind m14
        refine zs_iald dX7_moveAll_20 za_61 e20 ?_
        obtain ⟨w21, e22, m14⟩ := zbind m14
        refine zs_iast dX7_moveAll_21 ho2 e22 ?_
        refine zs_goto 34 dX7_moveAll_22 rfl ?_
        obtain rfl := Option.some.inj m14
        exact K13
set_option maxRecDepth 100000 in
theorem tX7_moveAll {w : zW} {p1 : Int32} {o2 : Nat} (ho2 : zAt o2 (1, 151, []))  {w' : zW} (h : fX7_moveAll w p1 o2 = some w') : zRun yX7_moveAll cX7_moveAll 4 none 0 [.ref 60, .int p1, .ref o2] w (zV w') := by
  refine zRun.of (k := 1) rfl rfl rfl ?_
  show zWP RX7 cX7_moveAll (zMB 4 none 0 (zV w')) 0 [some (.ref 60), some (.int p1), some (.ref o2), none] [] w
  unfold fX7_moveAll at h
  refine zs_iconst (0 : Int32) dX7_moveAll_0 ziconst_0 ?_
  refine zs_istore_n [some (.ref 60), some (.int p1), some (.ref o2), some (.int (0 : Int32))] dX7_moveAll_1 (Nat.le_of_ble_eq_true rfl) rfl rfl ?_
  obtain ⟨w27, e25, h⟩ := zbind h
  have K26 : zWP RX7 cX7_moveAll (zMB 4 none 0 (zV w')) 40 [none, none, none, none] [] w27 := by
    obtain rfl := Option.some.inj h
    exact zs_vret dX7_moveAll_40 ⟨rfl, rfl⟩
  exact tlX7_moveAll_2 ho2 zF _ _ _ e25 K26
def lpX7_daysTill_11 (p1 : Int32) : Nat → zW → Int32 → Option (Int32 × zW)
  | 0, _, _ => none
  | n + 1, w4, x3 => (if (200 : Int32) ≤ x3 then (some (x3, w4)) else (Option.bind (fX7_isThere w4 p1) fun v8 => (if v8 = 0 then (Option.bind (fX7_aDay w4) fun w10 => lpX7_daysTill_11 p1 n w10 (x3 + 1)) else (some (x3, w4)))))
def fX7_daysTill (w : zW) (p1 : Int32) : Option (Int32 × zW) := Option.bind (fX7_moveAll w (1 : Int32) 64) fun w2 => zb2 (lpX7_daysTill_11 p1 zF w2 (0 : Int32)) fun y15 w16 => Option.bind (fX7_isThere w16 p1) fun v18 => Option.bind (if v18 = 0 then (some (-1 : Int32)) else (some y15)) fun x19 => Option.bind (fX7_moveAll w16 (0 : Int32) 64) fun w23 => some (x19, w23)
set_option maxRecDepth 100000 in
theorem tlX7_daysTill_11 {p1 : Int32}  {Q : Option Value → zW → Prop} : ∀ (n : Nat) (w4 : zW) (x3 : Int32) (y5 : Int32) (w6 : zW), lpX7_daysTill_11 p1 n w4 x3 = some (y5, w6) → zWP RX7 cX7_daysTill (zMB 4 (some .int) 9 Q) 36 [some (.ref 60), some (.int p1), some (.int y5), none] [] w6 → zWP RX7 cX7_daysTill (zMB 4 (some .int) 9 Q) 11 [some (.ref 60), some (.int p1), some (.int x3), none] [] w4 := by
  intro n
  induction n with
  | zero => intro w4 x3 y5 w6 h K; simp [lpX7_daysTill_11] at h
  | succ n ih =>
    intro w4 x3 y5 w6 h K
    rw [lpX7_daysTill_11] at h
    refine zs_iload_n dX7_daysTill_11 rfl ?_
    refine zs_sipush (200 : Int32) dX7_daysTill_12 zsipush_200 ?_
    refine zs_icmp_ge 36 dX7_daysTill_15 rfl (fun c12 => ?_) (fun c12 => ?_)
    · replace h := zite_t c12 h
      obtain ⟨rfl, rfl⟩ := zpi2 h
      exact K
    · replace h := zite_f c12 h
      refine zs_aload_n dX7_daysTill_18 rfl ?_
      refine zs_iload_n dX7_daysTill_19 rfl ?_
      obtain ⟨v8, e7, h⟩ := zbind h
      refine zc_V1i moX7_isThere mvX7_isThere kX7_166 rfl dX7_daysTill_20 za_60 (Nat.le_of_ble_eq_true rfl) (zrm (by decide)) (tX7_isThere e7) ?_
      refine zs_if_ne 36 dX7_daysTill_23 rfl (fun c11 => ?_) (fun c11 => ?_)
      · replace h := zite_f c11 h
        obtain ⟨rfl, rfl⟩ := zpi2 h
        exact K
      · replace h := zite_t c11 h
        refine zs_aload_n dX7_daysTill_26 rfl ?_
        obtain ⟨w10, e9, h⟩ := zbind h
        refine zc_V0v moX7_aDay mvX7_aDay kX7_191 rfl dX7_daysTill_27 za_60 (Nat.le_of_ble_eq_true rfl) (zrm (by decide)) (tX7_aDay e9) ?_
        refine zs_iinc (x3 + 1) [some (.ref 60), some (.int p1), some (.int (x3 + 1)), none] dX7_daysTill_30 rfl rfl (Nat.le_of_ble_eq_true rfl) rfl rfl ?_
        refine zs_goto 11 dX7_daysTill_33 rfl ?_
        exact ih _ _ _ _ h K
set_option maxRecDepth 100000 in
theorem tX7_daysTill {w : zW} {p1 : Int32}  {r : Int32} {w' : zW} (h : fX7_daysTill w p1 = some (r, w')) : zRun yX7_daysTill cX7_daysTill 4 (some .int) 9 [.ref 60, .int p1] w (zI r w') := by
  refine zRun.of (k := 2) rfl rfl rfl ?_
  show zWP RX7 cX7_daysTill (zMB 4 (some .int) 9 (zI r w')) 0 [some (.ref 60), some (.int p1), none, none] [] w
  unfold fX7_daysTill at h
  refine zs_aload_n dX7_daysTill_0 rfl ?_
  refine zs_iconst (1 : Int32) dX7_daysTill_1 ziconst_1 ?_
  refine zs_aload_n dX7_daysTill_2 rfl ?_
  refine gX7_19 dX7_daysTill_3 ?_
  obtain ⟨w2, e1, h⟩ := zbind h
  refine zc_V2v moX7_moveAll mvX7_moveAll kX7_197 rfl dX7_daysTill_6 za_60 (Nat.le_of_ble_eq_true rfl) (zrm (by decide)) (tX7_moveAll za_64 e1) ?_
  refine zs_iconst (0 : Int32) dX7_daysTill_9 ziconst_0 ?_
  refine zs_istore_n [some (.ref 60), some (.int p1), some (.int (0 : Int32)), none] dX7_daysTill_10 (Nat.le_of_ble_eq_true rfl) rfl rfl ?_
  obtain ⟨y15, w16, e13, h⟩ := zb2_inv h
  have K14 : zWP RX7 cX7_daysTill (zMB 4 (some .int) 9 (zI r w')) 36 [some (.ref 60), some (.int p1), some (.int y15), none] [] w16 := by
    refine zs_aload_n dX7_daysTill_36 rfl ?_
    refine zs_iload_n dX7_daysTill_37 rfl ?_
    obtain ⟨v18, e17, h⟩ := zbind h
    refine zc_V1i moX7_isThere mvX7_isThere kX7_166 rfl dX7_daysTill_38 za_60 (Nat.le_of_ble_eq_true rfl) (zrm (by decide)) (tX7_isThere e17) ?_
    obtain ⟨x19, m21, h⟩ := zbind h
    have K20 : zWP RX7 cX7_daysTill (zMB 4 (some .int) 9 (zI r w')) 49 [some (.ref 60), none, none, none] [.int x19] w16 := by
      refine zs_istore_n [some (.ref 60), none, none, some (.int x19)] dX7_daysTill_49 (Nat.le_of_ble_eq_true rfl) rfl rfl ?_
      refine zs_aload_n dX7_daysTill_50 rfl ?_
      refine zs_iconst (0 : Int32) dX7_daysTill_51 ziconst_0 ?_
      refine zs_aload_n dX7_daysTill_52 rfl ?_
      refine gX7_19 dX7_daysTill_53 ?_
      obtain ⟨w23, e22, h⟩ := zbind h
      refine zc_V2v moX7_moveAll mvX7_moveAll kX7_197 rfl dX7_daysTill_56 za_60 (Nat.le_of_ble_eq_true rfl) (zrm (by decide)) (tX7_moveAll za_64 e22) ?_
      refine zs_iload_n dX7_daysTill_59 rfl ?_
      obtain ⟨rfl, rfl⟩ := zpi2 h
      exact zs_iret dX7_daysTill_60 ⟨rfl, rfl⟩
    refine zs_if_eq 48 dX7_daysTill_41 rfl (fun c24 => ?_) (fun c24 => ?_)
    · replace m21 := zite_t c24 m21
      refine zs_iconst (-1 : Int32) dX7_daysTill_48 ziconst_m1 ?_
      refine zs_fo [true, false, false, false] rfl ?_
      obtain rfl := Option.some.inj m21
      exact K20
    · replace m21 := zite_f c24 m21
      refine zs_iload_n dX7_daysTill_44 rfl ?_
      refine zs_goto 49 dX7_daysTill_45 rfl ?_
      refine zs_fo [true, false, false, false] rfl ?_
      obtain rfl := Option.some.inj m21
      exact K20
  exact tlX7_daysTill_11  zF _ _ _ _ e13 K14
def lpX7_reachWith_23 (p1 : Int32) (p2 : Int32) (p3 : Int32) : Nat → zW → Int32 → Option zW
  | 0, _, _ => none
  | n + 1, w9, x8 => (if x8 = 0 then (some w9) else (Option.bind (fX7_flies w9 p1) fun v12 => zb2 (fX7_goesOn w9 p1 v12) fun v14 w15 => zb2 (fX7_takesRoad w15 p1 p2 p3 (1 : Int32)) fun v17 w18 => zb2 (fX7_takesRoad w18 p1 p3 p2 (1 : Int32)) fun v20 w21 => Option.bind (if v14 = 0 then ((if v17 = 0 then ((if v20 = 0 then (some (0 : Int32)) else (some (1 : Int32)))) else (some (1 : Int32)))) else (some (1 : Int32))) fun x24 => lpX7_reachWith_23 p1 p2 p3 n w21 x24))
def fX7_reachWith (w : zW) (p1 : Int32) (p2 : Int32) (p3 : Int32) : Option (Int32 × zW) := Option.bind (zrd w 61 151 (4 : Int32)) fun v1 => Option.bind (fX7_find w p1 p2 v1 (1 : Int32)) fun w4 => zb2 (fX7_takesRoad w4 p1 p2 p3 (1 : Int32)) fun v6 w7 => Option.bind (lpX7_reachWith_23 p1 p2 p3 zF w7 v6) fun w33 => Option.bind (fX7_reached w33) fun v35 => some (v35, w33)
set_option maxRecDepth 100000 in
theorem tlX7_reachWith_23 {p1 : Int32} {p2 : Int32} {p3 : Int32}  {Q : Option Value → zW → Prop} : ∀ (n : Nat) (w9 : zW) (x8 : Int32) (w10 : zW), lpX7_reachWith_23 p1 p2 p3 n w9 x8 = some w10 → zWP RX7 cX7_reachWith (zMB 8 (some .int) 5 Q) 85 [some (.ref 60), none, none, none, none, none, none, none] [] w10 → zWP RX7 cX7_reachWith (zMB 8 (some .int) 5 Q) 23 [some (.ref 60), some (.int p1), some (.int p2), some (.int p3), some (.int x8), none, none, none] [] w9 := by
  intro n
  induction n with
  | zero => intro w9 x8 w10 h K; simp [lpX7_reachWith_23] at h
  | succ n ih =>
    intro w9 x8 w10 h K
    rw [lpX7_reachWith_23] at h
    refine zs_iload dX7_reachWith_23 rfl ?_
    refine zs_if_eq 85 dX7_reachWith_25 rfl (fun c30 => ?_) (fun c30 => ?_)
    · replace h := zite_t c30 h
      refine zs_fo [true, false, false, false, false, false, false, false] rfl ?_
      obtain rfl := Option.some.inj h
      exact K
    · replace h := zite_f c30 h
      refine zs_aload_n dX7_reachWith_28 rfl ?_
      refine zs_iload_n dX7_reachWith_29 rfl ?_
      refine zs_aload_n dX7_reachWith_30 rfl ?_
      refine zs_iload_n dX7_reachWith_31 rfl ?_
      obtain ⟨v12, e11, h⟩ := zbind h
      refine zc_V1i moX7_flies mvX7_flies kX7_118 rfl dX7_reachWith_32 za_60 (Nat.le_of_ble_eq_true rfl) (zrm (by decide)) (tX7_flies e11) ?_
      obtain ⟨v14, w15, e13, h⟩ := zb2_inv h
      refine zc_V2i moX7_goesOn mvX7_goesOn kX7_121 rfl dX7_reachWith_35 za_60 (Nat.le_of_ble_eq_true rfl) (zrm (by decide)) (tX7_goesOn e13) ?_
      refine zs_istore [some (.ref 60), some (.int p1), some (.int p2), some (.int p3), some (.int x8), some (.int v14), none, none] dX7_reachWith_38 (Nat.le_of_ble_eq_true rfl) rfl rfl ?_
      refine zs_aload_n dX7_reachWith_40 rfl ?_
      refine zs_iload_n dX7_reachWith_41 rfl ?_
      refine zs_iload_n dX7_reachWith_42 rfl ?_
      refine zs_iload_n dX7_reachWith_43 rfl ?_
      refine zs_iconst (1 : Int32) dX7_reachWith_44 ziconst_1 ?_
      obtain ⟨v17, w18, e16, h⟩ := zb2_inv h
      refine zc_V4i moX7_takesRoad mvX7_takesRoad kX7_110 rfl dX7_reachWith_45 za_60 (Nat.le_of_ble_eq_true rfl) (zrm (by decide)) (tX7_takesRoad e16) ?_
      refine zs_istore [some (.ref 60), some (.int p1), some (.int p2), some (.int p3), some (.int x8), some (.int v14), some (.int v17), none] dX7_reachWith_48 (Nat.le_of_ble_eq_true rfl) rfl rfl ?_
      refine zs_aload_n dX7_reachWith_50 rfl ?_
      refine zs_iload_n dX7_reachWith_51 rfl ?_
      refine zs_iload_n dX7_reachWith_52 rfl ?_
      refine zs_iload_n dX7_reachWith_53 rfl ?_
      refine zs_iconst (1 : Int32) dX7_reachWith_54 ziconst_1 ?_
      obtain ⟨v20, w21, e19, h⟩ := zb2_inv h
      refine zc_V4i moX7_takesRoad mvX7_takesRoad kX7_110 rfl dX7_reachWith_55 za_60 (Nat.le_of_ble_eq_true rfl) (zrm (by decide)) (tX7_takesRoad e19) ?_
      refine zs_istore [some (.ref 60), some (.int p1), some (.int p2), some (.int p3), some (.int x8), some (.int v14), some (.int v17), some (.int v20)] dX7_reachWith_58 (Nat.le_of_ble_eq_true rfl) rfl rfl ?_
      refine zs_iload dX7_reachWith_60 rfl ?_
      obtain ⟨x24, m26, h⟩ := zbind h
      have K25 : zWP RX7 cX7_reachWith (zMB 8 (some .int) 5 Q) 80 [some (.ref 60), some (.int p1), some (.int p2), some (.int p3), none, none, none, none] [.int x24] w21 := by
        refine zs_istore [some (.ref 60), some (.int p1), some (.int p2), some (.int p3), some (.int x24), none, none, none] dX7_reachWith_80 (Nat.le_of_ble_eq_true rfl) rfl rfl ?_
        refine zs_goto 23 dX7_reachWith_82 rfl ?_
        exact ih _ _ _ h K
      refine zs_if_ne 75 dX7_reachWith_62 rfl (fun c29 => ?_) (fun c29 => ?_)
      · replace m26 := zite_f c29 m26
        refine zs_iconst (1 : Int32) dX7_reachWith_75 ziconst_1 ?_
        refine zs_goto 80 dX7_reachWith_76 rfl ?_
        refine zs_fo [true, true, true, true, false, false, false, false] rfl ?_
        obtain rfl := Option.some.inj m26
        exact K25
      · replace m26 := zite_t c29 m26
        refine zs_iload dX7_reachWith_65 rfl ?_
        refine zs_if_ne 75 dX7_reachWith_67 rfl (fun c28 => ?_) (fun c28 => ?_)
        · replace m26 := zite_f c28 m26
          refine zs_iconst (1 : Int32) dX7_reachWith_75 ziconst_1 ?_
          refine zs_goto 80 dX7_reachWith_76 rfl ?_
          refine zs_fo [true, true, true, true, false, false, false, false] rfl ?_
          obtain rfl := Option.some.inj m26
          exact K25
        · replace m26 := zite_t c28 m26
          refine zs_iload dX7_reachWith_70 rfl ?_
          refine zs_if_eq 79 dX7_reachWith_72 rfl (fun c27 => ?_) (fun c27 => ?_)
          · replace m26 := zite_t c27 m26
            refine zs_iconst (0 : Int32) dX7_reachWith_79 ziconst_0 ?_
            refine zs_fo [true, true, true, true, false, false, false, false] rfl ?_
            obtain rfl := Option.some.inj m26
            exact K25
          · replace m26 := zite_f c27 m26
            refine zs_iconst (1 : Int32) dX7_reachWith_75 ziconst_1 ?_
            refine zs_goto 80 dX7_reachWith_76 rfl ?_
            refine zs_fo [true, true, true, true, false, false, false, false] rfl ?_
            obtain rfl := Option.some.inj m26
            exact K25
set_option maxRecDepth 100000 in
theorem tX7_reachWith {w : zW} {p1 : Int32} {p2 : Int32} {p3 : Int32}  {r : Int32} {w' : zW} (h : fX7_reachWith w p1 p2 p3 = some (r, w')) : zRun yX7_reachWith cX7_reachWith 8 (some .int) 5 [.ref 60, .int p1, .int p2, .int p3] w (zI r w') := by
  refine zRun.of (k := 4) rfl rfl rfl ?_
  show zWP RX7 cX7_reachWith (zMB 8 (some .int) 5 (zI r w')) 0 [some (.ref 60), some (.int p1), some (.int p2), some (.int p3), none, none, none, none] [] w
  unfold fX7_reachWith at h
  refine zs_aload_n dX7_reachWith_0 rfl ?_
  refine zs_iload_n dX7_reachWith_1 rfl ?_
  refine zs_iload_n dX7_reachWith_2 rfl ?_
  refine zs_aload_n dX7_reachWith_3 rfl ?_
  refine gX7_7 dX7_reachWith_4 ?_
  refine zs_iconst (4 : Int32) dX7_reachWith_7 ziconst_4 ?_
  obtain ⟨v1, e2, h⟩ := zbind h
  refine zs_iald dX7_reachWith_8 za_61 e2 ?_
  refine zs_iconst (1 : Int32) dX7_reachWith_9 ziconst_1 ?_
  obtain ⟨w4, e3, h⟩ := zbind h
  refine zc_V4v moX7_find mvX7_find kX7_125 rfl dX7_reachWith_10 za_60 (Nat.le_of_ble_eq_true rfl) (zrm (by decide)) (tX7_find e3) ?_
  refine zs_aload_n dX7_reachWith_13 rfl ?_
  refine zs_iload_n dX7_reachWith_14 rfl ?_
  refine zs_iload_n dX7_reachWith_15 rfl ?_
  refine zs_iload_n dX7_reachWith_16 rfl ?_
  refine zs_iconst (1 : Int32) dX7_reachWith_17 ziconst_1 ?_
  obtain ⟨v6, w7, e5, h⟩ := zb2_inv h
  refine zc_V4i moX7_takesRoad mvX7_takesRoad kX7_110 rfl dX7_reachWith_18 za_60 (Nat.le_of_ble_eq_true rfl) (zrm (by decide)) (tX7_takesRoad e5) ?_
  refine zs_istore [some (.ref 60), some (.int p1), some (.int p2), some (.int p3), some (.int v6), none, none, none] dX7_reachWith_21 (Nat.le_of_ble_eq_true rfl) rfl rfl ?_
  obtain ⟨w33, e31, h⟩ := zbind h
  have K32 : zWP RX7 cX7_reachWith (zMB 8 (some .int) 5 (zI r w')) 85 [some (.ref 60), none, none, none, none, none, none, none] [] w33 := by
    refine zs_aload_n dX7_reachWith_85 rfl ?_
    obtain ⟨v35, e34, h⟩ := zbind h
    refine zc_V0i moX7_reached mvX7_reached kX7_136 rfl dX7_reachWith_86 za_60 (Nat.le_of_ble_eq_true rfl) (zrm (by decide)) (tX7_reached e34) ?_
    obtain ⟨rfl, rfl⟩ := zpi2 h
    exact zs_iret dX7_reachWith_89 ⟨rfl, rfl⟩
  exact tlX7_reachWith_23  zF _ _ _ e31 K32
def lpX7_dig_39 (p1 : Int32) (p2 : Int32) : Nat → zW → Int32 → Int32 → Int32 → Option (Int32 × zW)
  | 0, _, _, _, _ => none
  | n + 1, w16, x13, x14, x15 => Option.bind (zrd w16 61 151 (0 : Int32)) fun v19 => (if v19 ≤ x15 then (some (x14, w16)) else (zb2 (if x15 = p2 then (some ((0 : Int32), w16)) else (zb2 (fX7_reachWith w16 p1 p2 x15) fun v31 w32 => Option.bind (fX7_ones w32 v31) fun v34 => some (v34, w32))) fun x26 w27 => Option.bind (if x26 ≤ x13 then (some x14) else (some x15)) fun x35 => Option.bind (if x26 ≤ x13 then (some x13) else (some x26)) fun x38 => lpX7_dig_39 p1 p2 n w27 x38 x35 (x15 + 1)))
def fX7_dig (w : zW) (p1 : Int32) (p2 : Int32) : Option (Int32 × zW) := Option.bind (fX7_isKind w p1) fun v2 => (if v2 = 0 then (zb2 (fX7_finds w (-1000000001 : Int32)) fun v4 w5 => some (v4, w5)) else (Option.bind (fX7_isVillage w p2) fun v7 => (if v7 = 0 then (zb2 (fX7_finds w (-1000000001 : Int32)) fun v54 w55 => some (v54, w55)) else (zb2 (fX7_reachOf w p1 p2 (1 : Int32)) fun v9 w10 => Option.bind (fX7_ones w10 v9) fun v12 => zb2 (lpX7_dig_39 p1 p2 zF w10 v12 (-1 : Int32) (0 : Int32)) fun y47 w48 => (if 0 ≤ y47 then (some (y47, w48)) else (zb2 (fX7_finds w48 (-1000000004 : Int32)) fun v50 w51 => some (v50, w51)))))))
set_option maxRecDepth 100000 in
theorem tlX7_dig_39 {p1 : Int32} {p2 : Int32}  {Q : Option Value → zW → Prop} : ∀ (n : Nat) (w16 : zW) (x13 : Int32) (x14 : Int32) (x15 : Int32) (y17 : Int32) (w18 : zW), lpX7_dig_39 p1 p2 n w16 x13 x14 x15 = some (y17, w18) → zWP RX7 cX7_dig (zMB 7 (some .int) 6 Q) 107 [some (.ref 60), none, none, none, some (.int y17), none, none] [] w18 → zWP RX7 cX7_dig (zMB 7 (some .int) 6 Q) 39 [some (.ref 60), some (.int p1), some (.int p2), some (.int x13), some (.int x14), some (.int x15), none] [] w16 := by
  intro n
  induction n with
  | zero => intro w16 x13 x14 x15 y17 w18 h K; simp [lpX7_dig_39] at h
  | succ n ih =>
    intro w16 x13 x14 x15 y17 w18 h K
    rw [lpX7_dig_39] at h
    refine zs_iload dX7_dig_39 rfl ?_
    refine zs_aload_n dX7_dig_41 rfl ?_
    refine gX7_7 dX7_dig_42 ?_
    refine zs_iconst (0 : Int32) dX7_dig_45 ziconst_0 ?_
    obtain ⟨v19, e20, h⟩ := zbind h
    refine zs_iald dX7_dig_46 za_61 e20 ?_
    refine zs_icmp_ge 107 dX7_dig_47 rfl (fun c44 => ?_) (fun c44 => ?_)
    · replace h := zite_t c44 h
      refine zs_fo [true, false, false, false, true, false, false] rfl ?_
      obtain ⟨rfl, rfl⟩ := zpi2 h
      exact K
    · replace h := zite_f c44 h
      refine zs_iload dX7_dig_50 rfl ?_
      refine zs_iload_n dX7_dig_52 rfl ?_
      obtain ⟨x26, w27, m29, h⟩ := zb2_inv h
      have K28 : zWP RX7 cX7_dig (zMB 7 (some .int) 6 Q) 71 [some (.ref 60), some (.int p1), some (.int p2), some (.int x13), some (.int x14), some (.int x15), none] [.int x26] w27 := by
        refine zs_istore [some (.ref 60), some (.int p1), some (.int p2), some (.int x13), some (.int x14), some (.int x15), some (.int x26)] dX7_dig_71 (Nat.le_of_ble_eq_true rfl) rfl rfl ?_
        refine zs_iload dX7_dig_73 rfl ?_
        refine zs_iload_n dX7_dig_75 rfl ?_
        obtain ⟨x35, m37, h⟩ := zbind h
        have K36 : zWP RX7 cX7_dig (zMB 7 (some .int) 6 Q) 86 [some (.ref 60), some (.int p1), some (.int p2), some (.int x13), none, some (.int x15), some (.int x26)] [.int x35] w27 := by
          refine zs_istore [some (.ref 60), some (.int p1), some (.int p2), some (.int x13), some (.int x35), some (.int x15), some (.int x26)] dX7_dig_86 (Nat.le_of_ble_eq_true rfl) rfl rfl ?_
          refine zs_iload dX7_dig_88 rfl ?_
          refine zs_iload_n dX7_dig_90 rfl ?_
          obtain ⟨x38, m40, h⟩ := zbind h
          have K39 : zWP RX7 cX7_dig (zMB 7 (some .int) 6 Q) 100 [some (.ref 60), some (.int p1), some (.int p2), none, some (.int x35), some (.int x15), none] [.int x38] w27 := by
            refine zs_istore_n [some (.ref 60), some (.int p1), some (.int p2), some (.int x38), some (.int x35), some (.int x15), none] dX7_dig_100 (Nat.le_of_ble_eq_true rfl) rfl rfl ?_
            refine zs_iinc (x15 + 1) [some (.ref 60), some (.int p1), some (.int p2), some (.int x38), some (.int x35), some (.int (x15 + 1)), none] dX7_dig_101 rfl rfl (Nat.le_of_ble_eq_true rfl) rfl rfl ?_
            refine zs_goto 39 dX7_dig_104 rfl ?_
            exact ih _ _ _ _ _ _ h K
          refine zs_icmp_le 99 dX7_dig_91 rfl (fun c41 => ?_) (fun c41 => ?_)
          · replace m40 := zite_t c41 m40
            refine zs_iload_n dX7_dig_99 rfl ?_
            refine zs_fo [true, true, true, false, true, true, false] rfl ?_
            obtain rfl := Option.some.inj m40
            exact K39
          · replace m40 := zite_f c41 m40
            refine zs_iload dX7_dig_94 rfl ?_
            refine zs_goto 100 dX7_dig_96 rfl ?_
            refine zs_fo [true, true, true, false, true, true, false] rfl ?_
            obtain rfl := Option.some.inj m40
            exact K39
        refine zs_icmp_le 84 dX7_dig_76 rfl (fun c42 => ?_) (fun c42 => ?_)
        · replace m37 := zite_t c42 m37
          refine zs_iload dX7_dig_84 rfl ?_
          refine zs_fo [true, true, true, true, false, true, true] rfl ?_
          obtain rfl := Option.some.inj m37
          exact K36
        · replace m37 := zite_f c42 m37
          refine zs_iload dX7_dig_79 rfl ?_
          refine zs_goto 86 dX7_dig_81 rfl ?_
          refine zs_fo [true, true, true, true, false, true, true] rfl ?_
          obtain rfl := Option.some.inj m37
          exact K36
      refine zs_icmp_ne 60 dX7_dig_53 rfl (fun c43 => ?_) (fun c43 => ?_)
      · replace m29 := zite_f c43 m29
        refine zs_aload_n dX7_dig_60 rfl ?_
        refine zs_iload_n dX7_dig_61 rfl ?_
        refine zs_iload_n dX7_dig_62 rfl ?_
        refine zs_iload dX7_dig_63 rfl ?_
        obtain ⟨v31, w32, e30, m29⟩ := zb2_inv m29
        refine zc_V3i moX7_reachWith mvX7_reachWith kX7_154 rfl dX7_dig_65 za_60 (Nat.le_of_ble_eq_true rfl) (zrm (by decide)) (tX7_reachWith e30) ?_
        obtain ⟨v34, e33, m29⟩ := zbind m29
        refine zc_S1i moX7_ones mvX7_ones kX7_151 dX7_dig_68 (Nat.le_of_ble_eq_true rfl) (zrm (by decide)) (tX7_ones e33) ?_
        obtain ⟨rfl, rfl⟩ := zpi2 m29
        exact K28
      · replace m29 := zite_t c43 m29
        refine zs_iconst (0 : Int32) dX7_dig_56 ziconst_0 ?_
        refine zs_goto 71 dX7_dig_57 rfl ?_
        obtain ⟨rfl, rfl⟩ := zpi2 m29
        exact K28
set_option maxRecDepth 100000 in
theorem tX7_dig {w : zW} {p1 : Int32} {p2 : Int32}  {r : Int32} {w' : zW} (h : fX7_dig w p1 p2 = some (r, w')) : zRun yX7_dig cX7_dig 7 (some .int) 6 [.ref 60, .int p1, .int p2] w (zI r w') := by
  refine zRun.of (k := 4) rfl rfl rfl ?_
  show zWP RX7 cX7_dig (zMB 7 (some .int) 6 (zI r w')) 0 [some (.ref 60), some (.int p1), some (.int p2), none, none, none, none] [] w
  unfold fX7_dig at h
  refine zs_iload_n dX7_dig_0 rfl ?_
  obtain ⟨v2, e1, h⟩ := zbind h
  refine zc_S1i moX7_isKind mvX7_isKind kX7_100 dX7_dig_1 (Nat.le_of_ble_eq_true rfl) (zrm (by decide)) (tX7_isKind e1) ?_
  refine zs_if_eq 15 dX7_dig_4 rfl (fun c57 => ?_) (fun c57 => ?_)
  · replace h := zite_t c57 h
    refine zs_aload_n dX7_dig_15 rfl ?_
    refine zs_ldc kX7_44 dX7_dig_16 ?_
    obtain ⟨v4, w5, e3, h⟩ := zb2_inv h
    refine zc_V1i moX7_finds mvX7_finds kX7_49 rfl dX7_dig_18 za_60 (Nat.le_of_ble_eq_true rfl) (zrm (by decide)) (tX7_finds e3) ?_
    obtain ⟨rfl, rfl⟩ := zpi2 h
    exact zs_iret dX7_dig_21 ⟨rfl, rfl⟩
  · replace h := zite_f c57 h
    refine zs_aload_n dX7_dig_7 rfl ?_
    refine zs_iload_n dX7_dig_8 rfl ?_
    obtain ⟨v7, e6, h⟩ := zbind h
    refine zc_V1i moX7_isVillage mvX7_isVillage kX7_65 rfl dX7_dig_9 za_60 (Nat.le_of_ble_eq_true rfl) (zrm (by decide)) (tX7_isVillage e6) ?_
    refine zs_if_ne 22 dX7_dig_12 rfl (fun c56 => ?_) (fun c56 => ?_)
    · replace h := zite_f c56 h
      refine zs_aload_n dX7_dig_22 rfl ?_
      refine zs_iload_n dX7_dig_23 rfl ?_
      refine zs_iload_n dX7_dig_24 rfl ?_
      refine zs_iconst (1 : Int32) dX7_dig_25 ziconst_1 ?_
      obtain ⟨v9, w10, e8, h⟩ := zb2_inv h
      refine zc_V3i moX7_reachOf mvX7_reachOf kX7_139 rfl dX7_dig_26 za_60 (Nat.le_of_ble_eq_true rfl) (zrm (by decide)) (tX7_reachOf e8) ?_
      obtain ⟨v12, e11, h⟩ := zbind h
      refine zc_S1i moX7_ones mvX7_ones kX7_151 dX7_dig_29 (Nat.le_of_ble_eq_true rfl) (zrm (by decide)) (tX7_ones e11) ?_
      refine zs_istore_n [some (.ref 60), some (.int p1), some (.int p2), some (.int v12), none, none, none] dX7_dig_32 (Nat.le_of_ble_eq_true rfl) rfl rfl ?_
      refine zs_iconst (-1 : Int32) dX7_dig_33 ziconst_m1 ?_
      refine zs_istore [some (.ref 60), some (.int p1), some (.int p2), some (.int v12), some (.int (-1 : Int32)), none, none] dX7_dig_34 (Nat.le_of_ble_eq_true rfl) rfl rfl ?_
      refine zs_iconst (0 : Int32) dX7_dig_36 ziconst_0 ?_
      refine zs_istore [some (.ref 60), some (.int p1), some (.int p2), some (.int v12), some (.int (-1 : Int32)), some (.int (0 : Int32)), none] dX7_dig_37 (Nat.le_of_ble_eq_true rfl) rfl rfl ?_
      obtain ⟨y47, w48, e45, h⟩ := zb2_inv h
      have K46 : zWP RX7 cX7_dig (zMB 7 (some .int) 6 (zI r w')) 107 [some (.ref 60), none, none, none, some (.int y47), none, none] [] w48 := by
        refine zs_iload dX7_dig_107 rfl ?_
        refine zs_if_ge 121 dX7_dig_109 rfl (fun c52 => ?_) (fun c52 => ?_)
        · replace h := zite_t c52 h
          refine zs_iload dX7_dig_121 rfl ?_
          obtain ⟨rfl, rfl⟩ := zpi2 h
          exact zs_iret dX7_dig_123 ⟨rfl, rfl⟩
        · replace h := zite_f c52 h
          refine zs_aload_n dX7_dig_112 rfl ?_
          refine zs_ldc kX7_92 dX7_dig_113 ?_
          obtain ⟨v50, w51, e49, h⟩ := zb2_inv h
          refine zc_V1i moX7_finds mvX7_finds kX7_49 rfl dX7_dig_115 za_60 (Nat.le_of_ble_eq_true rfl) (zrm (by decide)) (tX7_finds e49) ?_
          refine zs_goto 123 dX7_dig_118 rfl ?_
          obtain ⟨rfl, rfl⟩ := zpi2 h
          exact zs_iret dX7_dig_123 ⟨rfl, rfl⟩
      exact tlX7_dig_39  zF _ _ _ _ _ _ e45 K46
    · replace h := zite_t c56 h
      refine zs_aload_n dX7_dig_15 rfl ?_
      refine zs_ldc kX7_44 dX7_dig_16 ?_
      obtain ⟨v54, w55, e53, h⟩ := zb2_inv h
      refine zc_V1i moX7_finds mvX7_finds kX7_49 rfl dX7_dig_18 za_60 (Nat.le_of_ble_eq_true rfl) (zrm (by decide)) (tX7_finds e53) ?_
      obtain ⟨rfl, rfl⟩ := zpi2 h
      exact zs_iret dX7_dig_21 ⟨rfl, rfl⟩
def fX7_every (w : zW) (p1 : Int32) : Option (Int32 × zW) := Option.bind (fX7_in w p1 (1 : Int32) (99 : Int32)) fun v2 => (if v2 = 0 then (zb2 (fX7_finds w (-1000000001 : Int32)) fun v8 w9 => some (v8, w9)) else (Option.bind (zrd w 61 151 (3 : Int32)) fun v3 => Option.bind (zwr w 61 151 (3 : Int32) p1) fun w5 => some (v3, w5)))
set_option maxRecDepth 100000 in
theorem tX7_every {w : zW} {p1 : Int32}  {r : Int32} {w' : zW} (h : fX7_every w p1 = some (r, w')) : zRun yX7_every cX7_every 3 (some .int) 1 [.ref 60, .int p1] w (zI r w') := by
  refine zRun.of (k := 1) rfl rfl rfl ?_
  show zWP RX7 cX7_every (zMB 3 (some .int) 1 (zI r w')) 0 [some (.ref 60), some (.int p1), none] [] w
  unfold fX7_every at h
  refine zs_iload_n dX7_every_0 rfl ?_
  refine zs_iconst (1 : Int32) dX7_every_1 ziconst_1 ?_
  refine zs_bipush (99 : Int32) dX7_every_2 zbipush_99 ?_
  obtain ⟨v2, e1, h⟩ := zbind h
  refine zc_S3i moX7_in mvX7_in kX7_45 dX7_every_4 (Nat.le_of_ble_eq_true rfl) (zrm (by decide)) (tX7_in e1) ?_
  refine zs_if_ne 17 dX7_every_7 rfl (fun c10 => ?_) (fun c10 => ?_)
  · replace h := zite_f c10 h
    refine zs_aload_n dX7_every_17 rfl ?_
    refine gX7_7 dX7_every_18 ?_
    refine zs_iconst (3 : Int32) dX7_every_21 ziconst_3 ?_
    obtain ⟨v3, e4, h⟩ := zbind h
    refine zs_iald dX7_every_22 za_61 e4 ?_
    refine zs_istore_n [some (.ref 60), some (.int p1), some (.int v3)] dX7_every_23 (Nat.le_of_ble_eq_true rfl) rfl rfl ?_
    refine zs_aload_n dX7_every_24 rfl ?_
    refine gX7_7 dX7_every_25 ?_
    refine zs_iconst (3 : Int32) dX7_every_28 ziconst_3 ?_
    refine zs_iload_n dX7_every_29 rfl ?_
    obtain ⟨w5, e6, h⟩ := zbind h
    refine zs_iast dX7_every_30 za_61 e6 ?_
    refine zs_iload_n dX7_every_31 rfl ?_
    obtain ⟨rfl, rfl⟩ := zpi2 h
    exact zs_iret dX7_every_32 ⟨rfl, rfl⟩
  · replace h := zite_t c10 h
    refine zs_aload_n dX7_every_10 rfl ?_
    refine zs_ldc kX7_44 dX7_every_11 ?_
    obtain ⟨v8, w9, e7, h⟩ := zb2_inv h
    refine zc_V1i moX7_finds mvX7_finds kX7_49 rfl dX7_every_13 za_60 (Nat.le_of_ble_eq_true rfl) (zrm (by decide)) (tX7_finds e7) ?_
    obtain ⟨rfl, rfl⟩ := zpi2 h
    exact zs_iret dX7_every_16 ⟨rfl, rfl⟩
def fX7_has (w : zW) (p0 : Int32) (p1 : Int32) : Option Int32 := (if ((p0 >>> (p1 &&& 31)) &&& (1 : Int32)) = (1 : Int32) then (some (1 : Int32)) else (some (0 : Int32)))
set_option maxRecDepth 100000 in
theorem tX7_has {w : zW} {p0 : Int32} {p1 : Int32}  {r : Int32} (h : fX7_has w p0 p1 = some r) : zRun yX7_has cX7_has 2 (some .boolean) 0 [.int p0, .int p1] w (zI r w) := by
  refine zRun.of (k := 0) rfl rfl rfl ?_
  show zWP RX7 cX7_has (zMB 2 (some .boolean) 0 (zI r w)) 0 [some (.int p0), some (.int p1)] [] w
  unfold fX7_has at h
  refine zs_iload_n dX7_has_0 rfl ?_
  refine zs_iload_n dX7_has_1 rfl ?_
  refine zs_ishr dX7_has_2 ?_
  refine zs_iconst (1 : Int32) dX7_has_3 ziconst_1 ?_
  refine zs_iand dX7_has_4 ?_
  refine zs_iconst (1 : Int32) dX7_has_5 ziconst_1 ?_
  refine zs_icmp_ne 13 dX7_has_6 rfl (fun c1 => ?_) (fun c1 => ?_)
  · replace h := zite_f c1 h
    refine zs_iconst (0 : Int32) dX7_has_13 ziconst_0 ?_
    obtain rfl := Option.some.inj h
    exact zs_bret dX7_has_14 (Or.inl rfl) ⟨rfl, rfl⟩
  · replace h := zite_t c1 h
    refine zs_iconst (1 : Int32) dX7_has_9 ziconst_1 ?_
    refine zs_goto 14 dX7_has_10 rfl ?_
    obtain rfl := Option.some.inj h
    exact zs_bret dX7_has_14 (Or.inr rfl) ⟨rfl, rfl⟩
def fX7_isAsked (w : zW) (p1 : Int32) (p2 : Int32) (p3 : Int32) : Option Int32 := Option.bind (fX7_isKind w p1) fun v2 => (if v2 = 0 then (some (0 : Int32)) else (Option.bind (fX7_isVillage w p2) fun v4 => (if v4 = 0 then (some (0 : Int32)) else (Option.bind (fX7_isVillage w p3) fun v6 => (if v6 = 0 then (some (0 : Int32)) else (some (1 : Int32)))))))
set_option maxRecDepth 100000 in
theorem tX7_isAsked {w : zW} {p1 : Int32} {p2 : Int32} {p3 : Int32}  {r : Int32} (h : fX7_isAsked w p1 p2 p3 = some r) : zRun yX7_isAsked cX7_isAsked 4 (some .boolean) 2 [.ref 60, .int p1, .int p2, .int p3] w (zI r w) := by
  refine zRun.of (k := 0) rfl rfl rfl ?_
  show zWP RX7 cX7_isAsked (zMB 4 (some .boolean) 2 (zI r w)) 0 [some (.ref 60), some (.int p1), some (.int p2), some (.int p3)] [] w
  unfold fX7_isAsked at h
  refine zs_iload_n dX7_isAsked_0 rfl ?_
  obtain ⟨v2, e1, h⟩ := zbind h
  refine zc_S1i moX7_isKind mvX7_isKind kX7_100 dX7_isAsked_1 (Nat.le_of_ble_eq_true rfl) (zrm (by decide)) (tX7_isKind e1) ?_
  refine zs_if_eq 27 dX7_isAsked_4 rfl (fun c9 => ?_) (fun c9 => ?_)
  · replace h := zite_t c9 h
    refine zs_iconst (0 : Int32) dX7_isAsked_27 ziconst_0 ?_
    obtain rfl := Option.some.inj h
    exact zs_bret dX7_isAsked_28 (Or.inl rfl) ⟨rfl, rfl⟩
  · replace h := zite_f c9 h
    refine zs_aload_n dX7_isAsked_7 rfl ?_
    refine zs_iload_n dX7_isAsked_8 rfl ?_
    obtain ⟨v4, e3, h⟩ := zbind h
    refine zc_V1i moX7_isVillage mvX7_isVillage kX7_65 rfl dX7_isAsked_9 za_60 (Nat.le_of_ble_eq_true rfl) (zrm (by decide)) (tX7_isVillage e3) ?_
    refine zs_if_eq 27 dX7_isAsked_12 rfl (fun c8 => ?_) (fun c8 => ?_)
    · replace h := zite_t c8 h
      refine zs_iconst (0 : Int32) dX7_isAsked_27 ziconst_0 ?_
      obtain rfl := Option.some.inj h
      exact zs_bret dX7_isAsked_28 (Or.inl rfl) ⟨rfl, rfl⟩
    · replace h := zite_f c8 h
      refine zs_aload_n dX7_isAsked_15 rfl ?_
      refine zs_iload_n dX7_isAsked_16 rfl ?_
      obtain ⟨v6, e5, h⟩ := zbind h
      refine zc_V1i moX7_isVillage mvX7_isVillage kX7_65 rfl dX7_isAsked_17 za_60 (Nat.le_of_ble_eq_true rfl) (zrm (by decide)) (tX7_isVillage e5) ?_
      refine zs_if_eq 27 dX7_isAsked_20 rfl (fun c7 => ?_) (fun c7 => ?_)
      · replace h := zite_t c7 h
        refine zs_iconst (0 : Int32) dX7_isAsked_27 ziconst_0 ?_
        obtain rfl := Option.some.inj h
        exact zs_bret dX7_isAsked_28 (Or.inl rfl) ⟨rfl, rfl⟩
      · replace h := zite_f c7 h
        refine zs_iconst (1 : Int32) dX7_isAsked_23 ziconst_1 ?_
        refine zs_goto 28 dX7_isAsked_24 rfl ?_
        obtain rfl := Option.some.inj h
        exact zs_bret dX7_isAsked_28 (Or.inr rfl) ⟨rfl, rfl⟩
def fX7_fall (w : zW) (p1 : Int32) (p2 : Int32) (p3 : Int32) : Option (Int32 × zW) := Option.bind (fX7_isAsked w p1 p2 p3) fun v2 => (if v2 = 0 then (zb2 (fX7_finds w (-1000000001 : Int32)) fun v17 w18 => some (v17, w18)) else (zb2 (fX7_reachOf w p1 p2 (0 : Int32)) fun v4 w5 => Option.bind (fX7_has w5 v4 p3) fun v7 => (if v7 = 0 then (zb2 (fX7_finds w5 (-1000000004 : Int32)) fun v9 w10 => some (v9, w10)) else (Option.bind (fX7_height w5 p2) fun v12 => Option.bind (fX7_height w5 p3) fun v14 => some ((v12 - v14), w5)))))
set_option maxRecDepth 100000 in
theorem tX7_fall {w : zW} {p1 : Int32} {p2 : Int32} {p3 : Int32}  {r : Int32} {w' : zW} (h : fX7_fall w p1 p2 p3 = some (r, w')) : zRun yX7_fall cX7_fall 4 (some .int) 6 [.ref 60, .int p1, .int p2, .int p3] w (zI r w') := by
  refine zRun.of (k := 0) rfl rfl rfl ?_
  show zWP RX7 cX7_fall (zMB 4 (some .int) 6 (zI r w')) 0 [some (.ref 60), some (.int p1), some (.int p2), some (.int p3)] [] w
  unfold fX7_fall at h
  refine zs_aload_n dX7_fall_0 rfl ?_
  refine zs_iload_n dX7_fall_1 rfl ?_
  refine zs_iload_n dX7_fall_2 rfl ?_
  refine zs_iload_n dX7_fall_3 rfl ?_
  obtain ⟨v2, e1, h⟩ := zbind h
  refine zc_V3i moX7_isAsked mvX7_isAsked kX7_129 rfl dX7_fall_4 za_60 (Nat.le_of_ble_eq_true rfl) (zrm (by decide)) (tX7_isAsked e1) ?_
  refine zs_if_ne 17 dX7_fall_7 rfl (fun c19 => ?_) (fun c19 => ?_)
  · replace h := zite_f c19 h
    refine zs_aload_n dX7_fall_17 rfl ?_
    refine zs_iload_n dX7_fall_18 rfl ?_
    refine zs_iload_n dX7_fall_19 rfl ?_
    refine zs_iconst (0 : Int32) dX7_fall_20 ziconst_0 ?_
    obtain ⟨v4, w5, e3, h⟩ := zb2_inv h
    refine zc_V3i moX7_reachOf mvX7_reachOf kX7_139 rfl dX7_fall_21 za_60 (Nat.le_of_ble_eq_true rfl) (zrm (by decide)) (tX7_reachOf e3) ?_
    refine zs_iload_n dX7_fall_24 rfl ?_
    obtain ⟨v7, e6, h⟩ := zbind h
    refine zc_S2i moX7_has mvX7_has kX7_143 dX7_fall_25 (Nat.le_of_ble_eq_true rfl) (zrm (by decide)) (tX7_has e6) ?_
    refine zs_if_eq 45 dX7_fall_28 rfl (fun c15 => ?_) (fun c15 => ?_)
    · replace h := zite_t c15 h
      refine zs_aload_n dX7_fall_45 rfl ?_
      refine zs_ldc kX7_92 dX7_fall_46 ?_
      obtain ⟨v9, w10, e8, h⟩ := zb2_inv h
      refine zc_V1i moX7_finds mvX7_finds kX7_49 rfl dX7_fall_48 za_60 (Nat.le_of_ble_eq_true rfl) (zrm (by decide)) (tX7_finds e8) ?_
      obtain ⟨rfl, rfl⟩ := zpi2 h
      exact zs_iret dX7_fall_51 ⟨rfl, rfl⟩
    · replace h := zite_f c15 h
      refine zs_aload_n dX7_fall_31 rfl ?_
      refine zs_iload_n dX7_fall_32 rfl ?_
      obtain ⟨v12, e11, h⟩ := zbind h
      refine zc_V1i moX7_height mvX7_height kX7_69 rfl dX7_fall_33 za_60 (Nat.le_of_ble_eq_true rfl) (zrm (by decide)) (tX7_height e11) ?_
      refine zs_aload_n dX7_fall_36 rfl ?_
      refine zs_iload_n dX7_fall_37 rfl ?_
      obtain ⟨v14, e13, h⟩ := zbind h
      refine zc_V1i moX7_height mvX7_height kX7_69 rfl dX7_fall_38 za_60 (Nat.le_of_ble_eq_true rfl) (zrm (by decide)) (tX7_height e13) ?_
      refine zs_isub dX7_fall_41 ?_
      refine zs_goto 51 dX7_fall_42 rfl ?_
      obtain ⟨rfl, rfl⟩ := zpi2 h
      exact zs_iret dX7_fall_51 ⟨rfl, rfl⟩
  · replace h := zite_t c19 h
    refine zs_aload_n dX7_fall_10 rfl ?_
    refine zs_ldc kX7_44 dX7_fall_11 ?_
    obtain ⟨v17, w18, e16, h⟩ := zb2_inv h
    refine zc_V1i moX7_finds mvX7_finds kX7_49 rfl dX7_fall_13 za_60 (Nat.le_of_ble_eq_true rfl) (zrm (by decide)) (tX7_finds e16) ?_
    obtain ⟨rfl, rfl⟩ := zpi2 h
    exact zs_iret dX7_fall_16 ⟨rfl, rfl⟩
def lpX7_feed_38 (p1 : Int32) : Nat → zW → Int32 → Option zW
  | 0, _, _ => none
  | n + 1, w6, x5 => (if x5 < 0 then (some w6) else (Option.bind (zwr w6 65 120 (w6.1 60 7) ((p1 >>> (((8 : Int32) * x5) &&& 31)) &&& (255 : Int32))) fun w8 => Option.bind (some (zsf w8 60 7 ((w8.1 60 7) + (1 : Int32)))) fun w10 => lpX7_feed_38 p1 n w10 (x5 + (-1))))
def fX7_feed (w : zW) (p1 : Int32) (p2 : Int32) : Option (Int32 × zW) := Option.bind (fX7_in w p2 (1 : Int32) (4 : Int32)) fun v2 => (if v2 = 0 then (zb2 (fX7_finds w (-1000000001 : Int32)) fun v21 w22 => some (v21, w22)) else ((if ((w.1 60 7) + p2) ≤ (120 : Int32) then (Option.bind (some ((p2 - (1 : Int32)))) fun x3 => Option.bind (lpX7_feed_38 p1 zF w x3) fun w15 => some ((w15.1 60 7), w15)) else (zb2 (fX7_finds w (-1000000002 : Int32)) fun v17 w18 => some (v17, w18)))))
set_option maxRecDepth 100000 in
theorem tlX7_feed_38 {p1 : Int32}  {Q : Option Value → zW → Prop} : ∀ (n : Nat) (w6 : zW) (x5 : Int32) (w7 : zW), lpX7_feed_38 p1 n w6 x5 = some w7 → zWP RX7 cX7_feed (zMB 4 (some .int) 1 Q) 77 [some (.ref 60), none, none, none] [] w7 → zWP RX7 cX7_feed (zMB 4 (some .int) 1 Q) 38 [some (.ref 60), some (.int p1), none, some (.int x5)] [] w6 := by
  intro n
  induction n with
  | zero => intro w6 x5 w7 h K; simp [lpX7_feed_38] at h
  | succ n ih =>
    intro w6 x5 w7 h K
    rw [lpX7_feed_38] at h
    refine zs_iload_n dX7_feed_38 rfl ?_
    refine zs_if_lt 77 dX7_feed_39 rfl (fun c12 => ?_) (fun c12 => ?_)
    · replace h := zite_t c12 h
      refine zs_fo [true, false, false, false] rfl ?_
      obtain rfl := Option.some.inj h
      exact K
    · replace h := zite_f c12 h
      refine zs_aload_n dX7_feed_42 rfl ?_
      refine gX7_22 dX7_feed_43 ?_
      refine zs_aload_n dX7_feed_46 rfl ?_
      refine gX7_204 dX7_feed_47 ?_
      refine zs_iload_n dX7_feed_50 rfl ?_
      refine zs_bipush (8 : Int32) dX7_feed_51 zbipush_8 ?_
      refine zs_iload_n dX7_feed_53 rfl ?_
      refine zs_imul dX7_feed_54 ?_
      refine zs_ishr dX7_feed_55 ?_
      refine zs_sipush (255 : Int32) dX7_feed_56 zsipush_255 ?_
      refine zs_iand dX7_feed_59 ?_
      obtain ⟨w8, e9, h⟩ := zbind h
      refine zs_iast dX7_feed_60 za_65 e9 ?_
      refine zs_aload_n dX7_feed_61 rfl ?_
      refine zs_dup dX7_feed_62 rfl ?_
      refine gX7_204 dX7_feed_63 ?_
      refine zs_iconst (1 : Int32) dX7_feed_66 ziconst_1 ?_
      refine zs_iadd dX7_feed_67 ?_
      obtain ⟨w10, e11, h⟩ := zbind h
      refine pX7_204 dX7_feed_68 ?_
      refine zs_nmw (Option.some.inj e11) ?_
      refine zs_iinc (x5 + (-1)) [some (.ref 60), some (.int p1), none, some (.int (x5 + (-1)))] dX7_feed_71 rfl rfl (Nat.le_of_ble_eq_true rfl) rfl rfl ?_
      refine zs_goto 38 dX7_feed_74 rfl ?_
      exact ih _ _ _ h K
set_option maxRecDepth 100000 in
theorem tX7_feed {w : zW} {p1 : Int32} {p2 : Int32}  {r : Int32} {w' : zW} (h : fX7_feed w p1 p2 = some (r, w')) : zRun yX7_feed cX7_feed 4 (some .int) 1 [.ref 60, .int p1, .int p2] w (zI r w') := by
  refine zRun.of (k := 1) rfl rfl rfl ?_
  show zWP RX7 cX7_feed (zMB 4 (some .int) 1 (zI r w')) 0 [some (.ref 60), some (.int p1), some (.int p2), none] [] w
  unfold fX7_feed at h
  refine zs_iload_n dX7_feed_0 rfl ?_
  refine zs_iconst (1 : Int32) dX7_feed_1 ziconst_1 ?_
  refine zs_iconst (4 : Int32) dX7_feed_2 ziconst_4 ?_
  obtain ⟨v2, e1, h⟩ := zbind h
  refine zc_S3i moX7_in mvX7_in kX7_45 dX7_feed_3 (Nat.le_of_ble_eq_true rfl) (zrm (by decide)) (tX7_in e1) ?_
  refine zs_if_ne 16 dX7_feed_6 rfl (fun c23 => ?_) (fun c23 => ?_)
  · replace h := zite_f c23 h
    refine zs_aload_n dX7_feed_16 rfl ?_
    refine gX7_204 dX7_feed_17 ?_
    refine zs_iload_n dX7_feed_20 rfl ?_
    refine zs_iadd dX7_feed_21 ?_
    refine zs_bipush (120 : Int32) dX7_feed_22 zbipush_120 ?_
    refine zs_icmp_le 34 dX7_feed_24 rfl (fun c19 => ?_) (fun c19 => ?_)
    · replace h := zite_t c19 h
      refine zs_iload_n dX7_feed_34 rfl ?_
      refine zs_iconst (1 : Int32) dX7_feed_35 ziconst_1 ?_
      refine zs_isub dX7_feed_36 ?_
      obtain ⟨x3, e4, h⟩ := zbind h
      refine zs_nmi (Option.some.inj e4) ?_
      refine zs_istore_n [some (.ref 60), some (.int p1), some (.int p2), some (.int x3)] dX7_feed_37 (Nat.le_of_ble_eq_true rfl) rfl rfl ?_
      obtain ⟨w15, e13, h⟩ := zbind h
      have K14 : zWP RX7 cX7_feed (zMB 4 (some .int) 1 (zI r w')) 77 [some (.ref 60), none, none, none] [] w15 := by
        refine zs_aload_n dX7_feed_77 rfl ?_
        refine gX7_204 dX7_feed_78 ?_
        obtain ⟨rfl, rfl⟩ := zpi2 h
        exact zs_iret dX7_feed_81 ⟨rfl, rfl⟩
      refine zs_fo [true, true, false, true] rfl ?_
      exact tlX7_feed_38  zF _ _ _ e13 K14
    · replace h := zite_f c19 h
      refine zs_aload_n dX7_feed_27 rfl ?_
      refine zs_ldc kX7_53 dX7_feed_28 ?_
      obtain ⟨v17, w18, e16, h⟩ := zb2_inv h
      refine zc_V1i moX7_finds mvX7_finds kX7_49 rfl dX7_feed_30 za_60 (Nat.le_of_ble_eq_true rfl) (zrm (by decide)) (tX7_finds e16) ?_
      obtain ⟨rfl, rfl⟩ := zpi2 h
      exact zs_iret dX7_feed_33 ⟨rfl, rfl⟩
  · replace h := zite_t c23 h
    refine zs_aload_n dX7_feed_9 rfl ?_
    refine zs_ldc kX7_44 dX7_feed_10 ?_
    obtain ⟨v21, w22, e20, h⟩ := zb2_inv h
    refine zc_V1i moX7_finds mvX7_finds kX7_49 rfl dX7_feed_12 za_60 (Nat.le_of_ble_eq_true rfl) (zrm (by decide)) (tX7_finds e20) ?_
    obtain ⟨rfl, rfl⟩ := zpi2 h
    exact zs_iret dX7_feed_15 ⟨rfl, rfl⟩
def fX7_first (w : zW) (p1 : Int32) (p2 : Int32) : Option (Int32 × zW) := Option.bind (fX7_isPost w p1) fun v2 => (if v2 = 0 then (zb2 (fX7_finds w (-1000000001 : Int32)) fun v4 w5 => some (v4, w5)) else (Option.bind (fX7_isPost w p2) fun v7 => (if v7 = 0 then (zb2 (fX7_finds w (-1000000001 : Int32)) fun v9 w10 => some (v9, w10)) else ((if p1 = p2 then (zb2 (fX7_finds w (-1000000001 : Int32)) fun v37 w38 => some (v37, w38)) else (Option.bind (zrd w 61 151 (4 : Int32)) fun v11 => (if v11 ≤ (9799 : Int32) then (zb2 (fX7_daysTill w p1) fun v14 w15 => zb2 (fX7_daysTill w15 p2) fun v17 w18 => (if 0 ≤ v14 then ((if v14 = v17 then (some ((0 : Int32), w18)) else ((if v17 < 0 then (some ((1 : Int32), w18)) else ((if v14 < 0 then (some ((2 : Int32), w18)) else ((if v17 ≤ v14 then (some ((2 : Int32), w18)) else (some ((1 : Int32), w18)))))))))) else ((if 0 ≤ v17 then ((if v14 = v17 then (some ((0 : Int32), w18)) else ((if v17 < 0 then (some ((1 : Int32), w18)) else ((if v14 < 0 then (some ((2 : Int32), w18)) else ((if v17 ≤ v14 then (some ((2 : Int32), w18)) else (some ((1 : Int32), w18)))))))))) else (zb2 (fX7_finds w18 (-1000000004 : Int32)) fun v28 w29 => some (v28, w29)))))) else (zb2 (fX7_finds w (-1000000005 : Int32)) fun v33 w34 => some (v33, w34)))))))))
set_option maxRecDepth 100000 in
theorem tX7_first {w : zW} {p1 : Int32} {p2 : Int32}  {r : Int32} {w' : zW} (h : fX7_first w p1 p2 = some (r, w')) : zRun yX7_first cX7_first 5 (some .int) 10 [.ref 60, .int p1, .int p2] w (zI r w') := by
  refine zRun.of (k := 2) rfl rfl rfl ?_
  show zWP RX7 cX7_first (zMB 5 (some .int) 10 (zI r w')) 0 [some (.ref 60), some (.int p1), some (.int p2), none, none] [] w
  unfold fX7_first at h
  refine zs_aload_n dX7_first_0 rfl ?_
  refine zs_iload_n dX7_first_1 rfl ?_
  obtain ⟨v2, e1, h⟩ := zbind h
  refine zc_V1i moX7_isPost mvX7_isPost kX7_163 rfl dX7_first_2 za_60 (Nat.le_of_ble_eq_true rfl) (zrm (by decide)) (tX7_isPost e1) ?_
  refine zs_if_eq 21 dX7_first_5 rfl (fun c41 => ?_) (fun c41 => ?_)
  · replace h := zite_t c41 h
    refine zs_aload_n dX7_first_21 rfl ?_
    refine zs_ldc kX7_44 dX7_first_22 ?_
    obtain ⟨v4, w5, e3, h⟩ := zb2_inv h
    refine zc_V1i moX7_finds mvX7_finds kX7_49 rfl dX7_first_24 za_60 (Nat.le_of_ble_eq_true rfl) (zrm (by decide)) (tX7_finds e3) ?_
    obtain ⟨rfl, rfl⟩ := zpi2 h
    exact zs_iret dX7_first_27 ⟨rfl, rfl⟩
  · replace h := zite_f c41 h
    refine zs_aload_n dX7_first_8 rfl ?_
    refine zs_iload_n dX7_first_9 rfl ?_
    obtain ⟨v7, e6, h⟩ := zbind h
    refine zc_V1i moX7_isPost mvX7_isPost kX7_163 rfl dX7_first_10 za_60 (Nat.le_of_ble_eq_true rfl) (zrm (by decide)) (tX7_isPost e6) ?_
    refine zs_if_eq 21 dX7_first_13 rfl (fun c40 => ?_) (fun c40 => ?_)
    · replace h := zite_t c40 h
      refine zs_aload_n dX7_first_21 rfl ?_
      refine zs_ldc kX7_44 dX7_first_22 ?_
      obtain ⟨v9, w10, e8, h⟩ := zb2_inv h
      refine zc_V1i moX7_finds mvX7_finds kX7_49 rfl dX7_first_24 za_60 (Nat.le_of_ble_eq_true rfl) (zrm (by decide)) (tX7_finds e8) ?_
      obtain ⟨rfl, rfl⟩ := zpi2 h
      exact zs_iret dX7_first_27 ⟨rfl, rfl⟩
    · replace h := zite_f c40 h
      refine zs_iload_n dX7_first_16 rfl ?_
      refine zs_iload_n dX7_first_17 rfl ?_
      refine zs_icmp_ne 28 dX7_first_18 rfl (fun c39 => ?_) (fun c39 => ?_)
      · replace h := zite_f c39 h
        refine zs_aload_n dX7_first_28 rfl ?_
        refine gX7_7 dX7_first_29 ?_
        refine zs_iconst (4 : Int32) dX7_first_32 ziconst_4 ?_
        obtain ⟨v11, e12, h⟩ := zbind h
        refine zs_iald dX7_first_33 za_61 e12 ?_
        refine zs_sipush (9799 : Int32) dX7_first_34 zsipush_9799 ?_
        refine zs_icmp_le 47 dX7_first_37 rfl (fun c35 => ?_) (fun c35 => ?_)
        · replace h := zite_t c35 h
          refine zs_aload_n dX7_first_47 rfl ?_
          refine zs_iload_n dX7_first_48 rfl ?_
          obtain ⟨v14, w15, e13, h⟩ := zb2_inv h
          refine zc_V1i moX7_daysTill mvX7_daysTill kX7_201 rfl dX7_first_49 za_60 (Nat.le_of_ble_eq_true rfl) (zrm (by decide)) (tX7_daysTill e13) ?_
          refine zs_istore_n [some (.ref 60), some (.int p1), some (.int p2), some (.int v14), none] dX7_first_52 (Nat.le_of_ble_eq_true rfl) rfl rfl ?_
          refine zs_aload_n dX7_first_53 rfl ?_
          refine zs_iload_n dX7_first_54 rfl ?_
          obtain ⟨v17, w18, e16, h⟩ := zb2_inv h
          refine zc_V1i moX7_daysTill mvX7_daysTill kX7_201 rfl dX7_first_55 za_60 (Nat.le_of_ble_eq_true rfl) (zrm (by decide)) (tX7_daysTill e16) ?_
          refine zs_istore [some (.ref 60), some (.int p1), some (.int p2), some (.int v14), some (.int v17)] dX7_first_58 (Nat.le_of_ble_eq_true rfl) rfl rfl ?_
          refine zs_iload_n dX7_first_60 rfl ?_
          refine zs_if_ge 76 dX7_first_61 rfl (fun c31 => ?_) (fun c31 => ?_)
          · replace h := zite_t c31 h
            refine zs_iload_n dX7_first_76 rfl ?_
            refine zs_iload dX7_first_77 rfl ?_
            refine zs_icmp_ne 86 dX7_first_79 rfl (fun c22 => ?_) (fun c22 => ?_)
            · replace h := zite_f c22 h
              refine zs_iload dX7_first_86 rfl ?_
              refine zs_if_lt 101 dX7_first_88 rfl (fun c21 => ?_) (fun c21 => ?_)
              · replace h := zite_t c21 h
                refine zs_iconst (1 : Int32) dX7_first_101 ziconst_1 ?_
                refine zs_goto 106 dX7_first_102 rfl ?_
                obtain ⟨rfl, rfl⟩ := zpi2 h
                exact zs_iret dX7_first_106 ⟨rfl, rfl⟩
              · replace h := zite_f c21 h
                refine zs_iload_n dX7_first_91 rfl ?_
                refine zs_if_lt 105 dX7_first_92 rfl (fun c20 => ?_) (fun c20 => ?_)
                · replace h := zite_t c20 h
                  refine zs_iconst (2 : Int32) dX7_first_105 ziconst_2 ?_
                  obtain ⟨rfl, rfl⟩ := zpi2 h
                  exact zs_iret dX7_first_106 ⟨rfl, rfl⟩
                · replace h := zite_f c20 h
                  refine zs_iload_n dX7_first_95 rfl ?_
                  refine zs_iload dX7_first_96 rfl ?_
                  refine zs_icmp_ge 105 dX7_first_98 rfl (fun c19 => ?_) (fun c19 => ?_)
                  · replace h := zite_t c19 h
                    refine zs_iconst (2 : Int32) dX7_first_105 ziconst_2 ?_
                    obtain ⟨rfl, rfl⟩ := zpi2 h
                    exact zs_iret dX7_first_106 ⟨rfl, rfl⟩
                  · replace h := zite_f c19 h
                    refine zs_iconst (1 : Int32) dX7_first_101 ziconst_1 ?_
                    refine zs_goto 106 dX7_first_102 rfl ?_
                    obtain ⟨rfl, rfl⟩ := zpi2 h
                    exact zs_iret dX7_first_106 ⟨rfl, rfl⟩
            · replace h := zite_t c22 h
              refine zs_iconst (0 : Int32) dX7_first_82 ziconst_0 ?_
              refine zs_goto 106 dX7_first_83 rfl ?_
              obtain ⟨rfl, rfl⟩ := zpi2 h
              exact zs_iret dX7_first_106 ⟨rfl, rfl⟩
          · replace h := zite_f c31 h
            refine zs_iload dX7_first_64 rfl ?_
            refine zs_if_ge 76 dX7_first_66 rfl (fun c30 => ?_) (fun c30 => ?_)
            · replace h := zite_t c30 h
              refine zs_iload_n dX7_first_76 rfl ?_
              refine zs_iload dX7_first_77 rfl ?_
              refine zs_icmp_ne 86 dX7_first_79 rfl (fun c26 => ?_) (fun c26 => ?_)
              · replace h := zite_f c26 h
                refine zs_iload dX7_first_86 rfl ?_
                refine zs_if_lt 101 dX7_first_88 rfl (fun c25 => ?_) (fun c25 => ?_)
                · replace h := zite_t c25 h
                  refine zs_iconst (1 : Int32) dX7_first_101 ziconst_1 ?_
                  refine zs_goto 106 dX7_first_102 rfl ?_
                  obtain ⟨rfl, rfl⟩ := zpi2 h
                  exact zs_iret dX7_first_106 ⟨rfl, rfl⟩
                · replace h := zite_f c25 h
                  refine zs_iload_n dX7_first_91 rfl ?_
                  refine zs_if_lt 105 dX7_first_92 rfl (fun c24 => ?_) (fun c24 => ?_)
                  · replace h := zite_t c24 h
                    refine zs_iconst (2 : Int32) dX7_first_105 ziconst_2 ?_
                    obtain ⟨rfl, rfl⟩ := zpi2 h
                    exact zs_iret dX7_first_106 ⟨rfl, rfl⟩
                  · replace h := zite_f c24 h
                    refine zs_iload_n dX7_first_95 rfl ?_
                    refine zs_iload dX7_first_96 rfl ?_
                    refine zs_icmp_ge 105 dX7_first_98 rfl (fun c23 => ?_) (fun c23 => ?_)
                    · replace h := zite_t c23 h
                      refine zs_iconst (2 : Int32) dX7_first_105 ziconst_2 ?_
                      obtain ⟨rfl, rfl⟩ := zpi2 h
                      exact zs_iret dX7_first_106 ⟨rfl, rfl⟩
                    · replace h := zite_f c23 h
                      refine zs_iconst (1 : Int32) dX7_first_101 ziconst_1 ?_
                      refine zs_goto 106 dX7_first_102 rfl ?_
                      obtain ⟨rfl, rfl⟩ := zpi2 h
                      exact zs_iret dX7_first_106 ⟨rfl, rfl⟩
              · replace h := zite_t c26 h
                refine zs_iconst (0 : Int32) dX7_first_82 ziconst_0 ?_
                refine zs_goto 106 dX7_first_83 rfl ?_
                obtain ⟨rfl, rfl⟩ := zpi2 h
                exact zs_iret dX7_first_106 ⟨rfl, rfl⟩
            · replace h := zite_f c30 h
              refine zs_aload_n dX7_first_69 rfl ?_
              refine zs_ldc kX7_92 dX7_first_70 ?_
              obtain ⟨v28, w29, e27, h⟩ := zb2_inv h
              refine zc_V1i moX7_finds mvX7_finds kX7_49 rfl dX7_first_72 za_60 (Nat.le_of_ble_eq_true rfl) (zrm (by decide)) (tX7_finds e27) ?_
              obtain ⟨rfl, rfl⟩ := zpi2 h
              exact zs_iret dX7_first_75 ⟨rfl, rfl⟩
        · replace h := zite_f c35 h
          refine zs_aload_n dX7_first_40 rfl ?_
          refine zs_ldc kX7_84 dX7_first_41 ?_
          obtain ⟨v33, w34, e32, h⟩ := zb2_inv h
          refine zc_V1i moX7_finds mvX7_finds kX7_49 rfl dX7_first_43 za_60 (Nat.le_of_ble_eq_true rfl) (zrm (by decide)) (tX7_finds e32) ?_
          obtain ⟨rfl, rfl⟩ := zpi2 h
          exact zs_iret dX7_first_46 ⟨rfl, rfl⟩
      · replace h := zite_t c39 h
        refine zs_aload_n dX7_first_21 rfl ?_
        refine zs_ldc kX7_44 dX7_first_22 ?_
        obtain ⟨v37, w38, e36, h⟩ := zb2_inv h
        refine zc_V1i moX7_finds mvX7_finds kX7_49 rfl dX7_first_24 za_60 (Nat.le_of_ble_eq_true rfl) (zrm (by decide)) (tX7_finds e36) ?_
        obtain ⟨rfl, rfl⟩ := zpi2 h
        exact zs_iret dX7_first_27 ⟨rfl, rfl⟩
def fX7_isRoad (w : zW) (p1 : Int32) : Option Int32 := Option.bind (zrd w 61 151 (1 : Int32)) fun v1 => Option.bind (fX7_in w p1 (0 : Int32) (v1 - (1 : Int32))) fun v4 => Option.bind (zgb v4) fun b5 => some b5
set_option maxRecDepth 100000 in
theorem tX7_isRoad {w : zW} {p1 : Int32}  {r : Int32} (h : fX7_isRoad w p1 = some r) : zRun yX7_isRoad cX7_isRoad 2 (some .boolean) 1 [.ref 60, .int p1] w (zI r w) := by
  refine zRun.of (k := 0) rfl rfl rfl ?_
  show zWP RX7 cX7_isRoad (zMB 2 (some .boolean) 1 (zI r w)) 0 [some (.ref 60), some (.int p1)] [] w
  unfold fX7_isRoad at h
  refine zs_iload_n dX7_isRoad_0 rfl ?_
  refine zs_iconst (0 : Int32) dX7_isRoad_1 ziconst_0 ?_
  refine zs_aload_n dX7_isRoad_2 rfl ?_
  refine gX7_7 dX7_isRoad_3 ?_
  refine zs_iconst (1 : Int32) dX7_isRoad_6 ziconst_1 ?_
  obtain ⟨v1, e2, h⟩ := zbind h
  refine zs_iald dX7_isRoad_7 za_61 e2 ?_
  refine zs_iconst (1 : Int32) dX7_isRoad_8 ziconst_1 ?_
  refine zs_isub dX7_isRoad_9 ?_
  obtain ⟨v4, e3, h⟩ := zbind h
  refine zc_S3i moX7_in mvX7_in kX7_45 dX7_isRoad_10 (Nat.le_of_ble_eq_true rfl) (zrm (by decide)) (tX7_in e3) ?_
  obtain ⟨b5, e6, h⟩ := zbind h
  refine zs_nmi (zgb_inv e6).2 ?_
  obtain rfl := Option.some.inj h
  exact zs_bret dX7_isRoad_13 (by have q := zgb_inv e6; exact q.2 ▸ q.1) ⟨rfl, rfl⟩
def fX7_goes (w : zW) (p1 : Int32) (p2 : Int32) (p3 : Int32) : Option (Int32 × zW) := Option.bind (fX7_isKind w p1) fun v2 => (if v2 = 0 then (zb2 (fX7_finds w (-1000000001 : Int32)) fun v4 w5 => some (v4, w5)) else (Option.bind (fX7_isRoad w p2) fun v7 => (if v7 = 0 then (zb2 (fX7_finds w (-1000000001 : Int32)) fun v24 w25 => some (v24, w25)) else (Option.bind (if p3 = 0 then (some (0 : Int32)) else (some (1 : Int32))) fun x8 => Option.bind (fX7_end w p2 x8) fun v12 => Option.bind (if p3 = 0 then (some (1 : Int32)) else (some (0 : Int32))) fun x13 => Option.bind (fX7_end w p2 x13) fun v17 => Option.bind (fX7_goesDown w p1 v12 v17) fun v19 => (if v19 = 0 then (some ((0 : Int32), w)) else (some ((1 : Int32), w)))))))
set_option maxRecDepth 100000 in
theorem tX7_goes {w : zW} {p1 : Int32} {p2 : Int32} {p3 : Int32}  {r : Int32} {w' : zW} (h : fX7_goes w p1 p2 p3 = some (r, w')) : zRun yX7_goes cX7_goes 4 (some .int) 2 [.ref 60, .int p1, .int p2, .int p3] w (zI r w') := by
  refine zRun.of (k := 0) rfl rfl rfl ?_
  show zWP RX7 cX7_goes (zMB 4 (some .int) 2 (zI r w')) 0 [some (.ref 60), some (.int p1), some (.int p2), some (.int p3)] [] w
  unfold fX7_goes at h
  refine zs_iload_n dX7_goes_0 rfl ?_
  obtain ⟨v2, e1, h⟩ := zbind h
  refine zc_S1i moX7_isKind mvX7_isKind kX7_100 dX7_goes_1 (Nat.le_of_ble_eq_true rfl) (zrm (by decide)) (tX7_isKind e1) ?_
  refine zs_if_eq 15 dX7_goes_4 rfl (fun c27 => ?_) (fun c27 => ?_)
  · replace h := zite_t c27 h
    refine zs_aload_n dX7_goes_15 rfl ?_
    refine zs_ldc kX7_44 dX7_goes_16 ?_
    obtain ⟨v4, w5, e3, h⟩ := zb2_inv h
    refine zc_V1i moX7_finds mvX7_finds kX7_49 rfl dX7_goes_18 za_60 (Nat.le_of_ble_eq_true rfl) (zrm (by decide)) (tX7_finds e3) ?_
    obtain ⟨rfl, rfl⟩ := zpi2 h
    exact zs_iret dX7_goes_21 ⟨rfl, rfl⟩
  · replace h := zite_f c27 h
    refine zs_aload_n dX7_goes_7 rfl ?_
    refine zs_iload_n dX7_goes_8 rfl ?_
    obtain ⟨v7, e6, h⟩ := zbind h
    refine zc_V1i moX7_isRoad mvX7_isRoad kX7_89 rfl dX7_goes_9 za_60 (Nat.le_of_ble_eq_true rfl) (zrm (by decide)) (tX7_isRoad e6) ?_
    refine zs_if_ne 22 dX7_goes_12 rfl (fun c26 => ?_) (fun c26 => ?_)
    · replace h := zite_f c26 h
      refine zs_aload_n dX7_goes_22 rfl ?_
      refine zs_iload_n dX7_goes_23 rfl ?_
      refine zs_aload_n dX7_goes_24 rfl ?_
      refine zs_iload_n dX7_goes_25 rfl ?_
      refine zs_iload_n dX7_goes_26 rfl ?_
      obtain ⟨x8, m10, h⟩ := zbind h
      have K9 : zWP RX7 cX7_goes (zMB 4 (some .int) 2 (zI r w')) 35 [some (.ref 60), none, some (.int p2), some (.int p3)] [.int x8, .int p2, .ref 60, .int p1, .ref 60] w := by
        obtain ⟨v12, e11, h⟩ := zbind h
        refine zc_V2i moX7_end mvX7_end kX7_58 rfl dX7_goes_35 za_60 (Nat.le_of_ble_eq_true rfl) (zrm (by decide)) (tX7_end e11) ?_
        refine zs_aload_n dX7_goes_38 rfl ?_
        refine zs_iload_n dX7_goes_39 rfl ?_
        refine zs_iload_n dX7_goes_40 rfl ?_
        obtain ⟨x13, m15, h⟩ := zbind h
        have K14 : zWP RX7 cX7_goes (zMB 4 (some .int) 2 (zI r w')) 49 [none, none, none, none] [.int x13, .int p2, .ref 60, .int v12, .int p1, .ref 60] w := by
          obtain ⟨v17, e16, h⟩ := zbind h
          refine zc_V2i moX7_end mvX7_end kX7_58 rfl dX7_goes_49 za_60 (Nat.le_of_ble_eq_true rfl) (zrm (by decide)) (tX7_end e16) ?_
          obtain ⟨v19, e18, h⟩ := zbind h
          refine zc_V3i moX7_goesDown mvX7_goesDown kX7_106 rfl dX7_goes_52 za_60 (Nat.le_of_ble_eq_true rfl) (zrm (by decide)) (tX7_goesDown e18) ?_
          refine zs_if_eq 62 dX7_goes_55 rfl (fun c20 => ?_) (fun c20 => ?_)
          · replace h := zite_t c20 h
            refine zs_iconst (0 : Int32) dX7_goes_62 ziconst_0 ?_
            obtain ⟨rfl, rfl⟩ := zpi2 h
            exact zs_iret dX7_goes_63 ⟨rfl, rfl⟩
          · replace h := zite_f c20 h
            refine zs_iconst (1 : Int32) dX7_goes_58 ziconst_1 ?_
            refine zs_goto 63 dX7_goes_59 rfl ?_
            obtain ⟨rfl, rfl⟩ := zpi2 h
            exact zs_iret dX7_goes_63 ⟨rfl, rfl⟩
        refine zs_if_eq 48 dX7_goes_41 rfl (fun c21 => ?_) (fun c21 => ?_)
        · replace m15 := zite_t c21 m15
          refine zs_iconst (1 : Int32) dX7_goes_48 ziconst_1 ?_
          refine zs_fo [false, false, false, false] rfl ?_
          obtain rfl := Option.some.inj m15
          exact K14
        · replace m15 := zite_f c21 m15
          refine zs_iconst (0 : Int32) dX7_goes_44 ziconst_0 ?_
          refine zs_goto 49 dX7_goes_45 rfl ?_
          refine zs_fo [false, false, false, false] rfl ?_
          obtain rfl := Option.some.inj m15
          exact K14
      refine zs_if_eq 34 dX7_goes_27 rfl (fun c22 => ?_) (fun c22 => ?_)
      · replace m10 := zite_t c22 m10
        refine zs_iconst (0 : Int32) dX7_goes_34 ziconst_0 ?_
        refine zs_fo [true, false, true, true] rfl ?_
        obtain rfl := Option.some.inj m10
        exact K9
      · replace m10 := zite_f c22 m10
        refine zs_iconst (1 : Int32) dX7_goes_30 ziconst_1 ?_
        refine zs_goto 35 dX7_goes_31 rfl ?_
        refine zs_fo [true, false, true, true] rfl ?_
        obtain rfl := Option.some.inj m10
        exact K9
    · replace h := zite_t c26 h
      refine zs_aload_n dX7_goes_15 rfl ?_
      refine zs_ldc kX7_44 dX7_goes_16 ?_
      obtain ⟨v24, w25, e23, h⟩ := zb2_inv h
      refine zc_V1i moX7_finds mvX7_finds kX7_49 rfl dX7_goes_18 za_60 (Nat.le_of_ble_eq_true rfl) (zrm (by decide)) (tX7_finds e23) ?_
      obtain ⟨rfl, rfl⟩ := zpi2 h
      exact zs_iret dX7_goes_21 ⟨rfl, rfl⟩
def fX7_hermit (w : zW) (p1 : Int32) (p2 : Int32) : Option (Int32 × zW) := Option.bind (fX7_isVillage w p1) fun v2 => (if v2 = 0 then (zb2 (fX7_finds w (-1000000001 : Int32)) fun v13 w14 => some (v13, w14)) else (Option.bind (fX7_isHermits w p1) fun v4 => Option.bind (if p2 = 0 then (some (0 : Int32)) else (some (1 : Int32))) fun x5 => Option.bind (zwr w 61 151 (((5 : Int32) + ((2 : Int32) * p1)) + (1 : Int32)) x5) fun w8 => (if v4 = p2 then (some ((0 : Int32), w8)) else (some ((1 : Int32), w8)))))
set_option maxRecDepth 100000 in
theorem tX7_hermit {w : zW} {p1 : Int32} {p2 : Int32}  {r : Int32} {w' : zW} (h : fX7_hermit w p1 p2 = some (r, w')) : zRun yX7_hermit cX7_hermit 4 (some .int) 2 [.ref 60, .int p1, .int p2] w (zI r w') := by
  refine zRun.of (k := 1) rfl rfl rfl ?_
  show zWP RX7 cX7_hermit (zMB 4 (some .int) 2 (zI r w')) 0 [some (.ref 60), some (.int p1), some (.int p2), none] [] w
  unfold fX7_hermit at h
  refine zs_aload_n dX7_hermit_0 rfl ?_
  refine zs_iload_n dX7_hermit_1 rfl ?_
  obtain ⟨v2, e1, h⟩ := zbind h
  refine zc_V1i moX7_isVillage mvX7_isVillage kX7_65 rfl dX7_hermit_2 za_60 (Nat.le_of_ble_eq_true rfl) (zrm (by decide)) (tX7_isVillage e1) ?_
  refine zs_if_ne 15 dX7_hermit_5 rfl (fun c15 => ?_) (fun c15 => ?_)
  · replace h := zite_f c15 h
    refine zs_aload_n dX7_hermit_15 rfl ?_
    refine zs_iload_n dX7_hermit_16 rfl ?_
    obtain ⟨v4, e3, h⟩ := zbind h
    refine zc_V1i moX7_isHermits mvX7_isHermits kX7_78 rfl dX7_hermit_17 za_60 (Nat.le_of_ble_eq_true rfl) (zrm (by decide)) (tX7_isHermits e3) ?_
    refine zs_istore_n [some (.ref 60), some (.int p1), some (.int p2), some (.int v4)] dX7_hermit_20 (Nat.le_of_ble_eq_true rfl) rfl rfl ?_
    refine zs_aload_n dX7_hermit_21 rfl ?_
    refine gX7_7 dX7_hermit_22 ?_
    refine zs_iconst (5 : Int32) dX7_hermit_25 ziconst_5 ?_
    refine zs_iconst (2 : Int32) dX7_hermit_26 ziconst_2 ?_
    refine zs_iload_n dX7_hermit_27 rfl ?_
    refine zs_imul dX7_hermit_28 ?_
    refine zs_iadd dX7_hermit_29 ?_
    refine zs_iconst (1 : Int32) dX7_hermit_30 ziconst_1 ?_
    refine zs_iadd dX7_hermit_31 ?_
    refine zs_iload_n dX7_hermit_32 rfl ?_
    obtain ⟨x5, m7, h⟩ := zbind h
    have K6 : zWP RX7 cX7_hermit (zMB 4 (some .int) 2 (zI r w')) 41 [none, none, some (.int p2), some (.int v4)] [.int x5, .int (((5 : Int32) + ((2 : Int32) * p1)) + (1 : Int32)), .ref 61] w := by
      obtain ⟨w8, e9, h⟩ := zbind h
      refine zs_iast dX7_hermit_41 za_61 e9 ?_
      refine zs_iload_n dX7_hermit_42 rfl ?_
      refine zs_iload_n dX7_hermit_43 rfl ?_
      refine zs_icmp_ne 51 dX7_hermit_44 rfl (fun c10 => ?_) (fun c10 => ?_)
      · replace h := zite_f c10 h
        refine zs_iconst (1 : Int32) dX7_hermit_51 ziconst_1 ?_
        obtain ⟨rfl, rfl⟩ := zpi2 h
        exact zs_iret dX7_hermit_52 ⟨rfl, rfl⟩
      · replace h := zite_t c10 h
        refine zs_iconst (0 : Int32) dX7_hermit_47 ziconst_0 ?_
        refine zs_goto 52 dX7_hermit_48 rfl ?_
        obtain ⟨rfl, rfl⟩ := zpi2 h
        exact zs_iret dX7_hermit_52 ⟨rfl, rfl⟩
    refine zs_if_eq 40 dX7_hermit_33 rfl (fun c11 => ?_) (fun c11 => ?_)
    · replace m7 := zite_t c11 m7
      refine zs_iconst (0 : Int32) dX7_hermit_40 ziconst_0 ?_
      refine zs_fo [false, false, true, true] rfl ?_
      obtain rfl := Option.some.inj m7
      exact K6
    · replace m7 := zite_f c11 m7
      refine zs_iconst (1 : Int32) dX7_hermit_36 ziconst_1 ?_
      refine zs_goto 41 dX7_hermit_37 rfl ?_
      refine zs_fo [false, false, true, true] rfl ?_
      obtain rfl := Option.some.inj m7
      exact K6
  · replace h := zite_t c15 h
    refine zs_aload_n dX7_hermit_8 rfl ?_
    refine zs_ldc kX7_44 dX7_hermit_9 ?_
    obtain ⟨v13, w14, e12, h⟩ := zb2_inv h
    refine zc_V1i moX7_finds mvX7_finds kX7_49 rfl dX7_hermit_11 za_60 (Nat.le_of_ble_eq_true rfl) (zrm (by decide)) (tX7_finds e12) ?_
    obtain ⟨rfl, rfl⟩ := zpi2 h
    exact zs_iret dX7_hermit_14 ⟨rfl, rfl⟩
def fX7_image (w : zW)  : Option (Int32 × zW) := Option.bind (fX7_moveAll w (1 : Int32) 70) fun w2 => Option.bind (some (zsf w2 60 20 (1 : Int32))) fun w3 => some ((1 : Int32), w3)
set_option maxRecDepth 100000 in
theorem tX7_image {w : zW}   {r : Int32} {w' : zW} (h : fX7_image w  = some (r, w')) : zRun yX7_image cX7_image 1 (some .int) 1 [.ref 60] w (zI r w') := by
  refine zRun.of (k := 0) rfl rfl rfl ?_
  show zWP RX7 cX7_image (zMB 1 (some .int) 1 (zI r w')) 0 [some (.ref 60)] [] w
  unfold fX7_image at h
  refine zs_aload_n dX7_image_0 rfl ?_
  refine zs_iconst (1 : Int32) dX7_image_1 ziconst_1 ?_
  refine zs_aload_n dX7_image_2 rfl ?_
  refine gX7_38 dX7_image_3 ?_
  obtain ⟨w2, e1, h⟩ := zbind h
  refine zc_V2v moX7_moveAll mvX7_moveAll kX7_197 rfl dX7_image_6 za_60 (Nat.le_of_ble_eq_true rfl) (zrm (by decide)) (tX7_moveAll za_70 e1) ?_
  refine zs_aload_n dX7_image_9 rfl ?_
  refine zs_iconst (1 : Int32) dX7_image_10 ziconst_1 ?_
  obtain ⟨w3, e4, h⟩ := zbind h
  refine pX7_321 (Or.inr rfl) dX7_image_11 ?_
  refine zs_nmw (Option.some.inj e4) ?_
  refine zs_iconst (1 : Int32) dX7_image_14 ziconst_1 ?_
  obtain ⟨rfl, rfl⟩ := zpi2 h
  exact zs_iret dX7_image_15 ⟨rfl, rfl⟩
def fX7_isWord (w : zW) (p1 : Int64) : Option Int32 := (if (w.1 60 8) = (1 : Int32) then ((if (lg_cmp (w.2 60 11) p1) = 0 then (some (1 : Int32)) else (some (0 : Int32)))) else (some (0 : Int32)))
set_option maxRecDepth 100000 in
theorem tX7_isWord {w : zW} {p1 : Int64}  {r : Int32} (h : fX7_isWord w p1 = some r) : zRun yX7_isWord cX7_isWord 3 (some .boolean) 0 [.ref 60, .long p1] w (zI r w) := by
  refine zRun.of (k := 0) rfl rfl rfl ?_
  show zWP RX7 cX7_isWord (zMB 3 (some .boolean) 0 (zI r w)) 0 [some (.ref 60), some (.long p1), none] [] w
  unfold fX7_isWord at h
  refine zs_aload_n dX7_isWord_0 rfl ?_
  refine gX7_222 dX7_isWord_1 ?_
  refine zs_iconst (1 : Int32) dX7_isWord_4 ziconst_1 ?_
  refine zs_icmp_ne 21 dX7_isWord_5 rfl (fun c2 => ?_) (fun c2 => ?_)
  · replace h := zite_f c2 h
    refine zs_iconst (0 : Int32) dX7_isWord_21 ziconst_0 ?_
    obtain rfl := Option.some.inj h
    exact zs_bret dX7_isWord_22 (Or.inl rfl) ⟨rfl, rfl⟩
  · replace h := zite_t c2 h
    refine zs_aload_n dX7_isWord_8 rfl ?_
    refine gX7_225 dX7_isWord_9 ?_
    refine zs_lload_n dX7_isWord_12 rfl ?_
    refine zs_lcmp dX7_isWord_13 ?_
    refine zs_if_ne 21 dX7_isWord_14 rfl (fun c1 => ?_) (fun c1 => ?_)
    · replace h := zite_f c1 h
      refine zs_iconst (0 : Int32) dX7_isWord_21 ziconst_0 ?_
      obtain rfl := Option.some.inj h
      exact zs_bret dX7_isWord_22 (Or.inl rfl) ⟨rfl, rfl⟩
    · replace h := zite_t c1 h
      refine zs_iconst (1 : Int32) dX7_isWord_17 ziconst_1 ?_
      refine zs_goto 22 dX7_isWord_18 rfl ?_
      obtain rfl := Option.some.inj h
      exact zs_bret dX7_isWord_22 (Or.inr rfl) ⟨rfl, rfl⟩
def lpX7_kind_32 (p1 : Int32) (p2 : Int32) : Nat → zW → Int32 → Int32 → Int32 → Option (Int32 × zW)
  | 0, _, _, _, _ => none
  | n + 1, w11, x8, x9, x10 => (if (5 : Int32) < x10 then (some (x8, w11)) else (Option.bind (zrd w11 61 151 (4 : Int32)) fun v14 => zb2 (fX7_earliest w11 x10 p1 p2 v14) fun v17 w18 => Option.bind (if x9 ≤ v17 then (some x8) else (some x10)) fun x19 => Option.bind (if x9 ≤ v17 then (some x9) else (some v17)) fun x22 => lpX7_kind_32 p1 p2 n w18 x19 x22 (x10 + 1)))
def fX7_kind (w : zW) (p1 : Int32) (p2 : Int32) : Option (Int32 × zW) := Option.bind (fX7_isVillage w p1) fun v2 => (if v2 = 0 then (zb2 (fX7_finds w (-1000000001 : Int32)) fun v4 w5 => some (v4, w5)) else (Option.bind (fX7_isVillage w p2) fun v7 => (if v7 = 0 then (zb2 (fX7_finds w (-1000000001 : Int32)) fun v37 w38 => some (v37, w38)) else (zb2 (lpX7_kind_32 p1 p2 zF w (-1 : Int32) (1000000000 : Int32) (0 : Int32)) fun y30 w31 => (if 0 ≤ y30 then (some (y30, w31)) else (zb2 (fX7_finds w31 (-1000000004 : Int32)) fun v33 w34 => some (v33, w34)))))))
set_option maxRecDepth 100000 in
theorem tlX7_kind_32 {p1 : Int32} {p2 : Int32}  {Q : Option Value → zW → Prop} : ∀ (n : Nat) (w11 : zW) (x8 : Int32) (x9 : Int32) (x10 : Int32) (y12 : Int32) (w13 : zW), lpX7_kind_32 p1 p2 n w11 x8 x9 x10 = some (y12, w13) → zWP RX7 cX7_kind (zMB 7 (some .int) 6 Q) 90 [some (.ref 60), none, none, some (.int y12), none, none, none] [] w13 → zWP RX7 cX7_kind (zMB 7 (some .int) 6 Q) 32 [some (.ref 60), some (.int p1), some (.int p2), some (.int x8), some (.int x9), some (.int x10), none] [] w11 := by
  intro n
  induction n with
  | zero => intro w11 x8 x9 x10 y12 w13 h K; simp [lpX7_kind_32] at h
  | succ n ih =>
    intro w11 x8 x9 x10 y12 w13 h K
    rw [lpX7_kind_32] at h
    refine zs_iload dX7_kind_32 rfl ?_
    refine zs_iconst (5 : Int32) dX7_kind_34 ziconst_5 ?_
    refine zs_icmp_gt 90 dX7_kind_35 rfl (fun c27 => ?_) (fun c27 => ?_)
    · replace h := zite_t c27 h
      refine zs_fo [true, false, false, true, false, false, false] rfl ?_
      obtain ⟨rfl, rfl⟩ := zpi2 h
      exact K
    · replace h := zite_f c27 h
      refine zs_aload_n dX7_kind_38 rfl ?_
      refine zs_iload dX7_kind_39 rfl ?_
      refine zs_iload_n dX7_kind_41 rfl ?_
      refine zs_iload_n dX7_kind_42 rfl ?_
      refine zs_aload_n dX7_kind_43 rfl ?_
      refine gX7_7 dX7_kind_44 ?_
      refine zs_iconst (4 : Int32) dX7_kind_47 ziconst_4 ?_
      obtain ⟨v14, e15, h⟩ := zbind h
      refine zs_iald dX7_kind_48 za_61 e15 ?_
      obtain ⟨v17, w18, e16, h⟩ := zb2_inv h
      refine zc_V4i moX7_earliest mvX7_earliest kX7_132 rfl dX7_kind_49 za_60 (Nat.le_of_ble_eq_true rfl) (zrm (by decide)) (tX7_earliest e16) ?_
      refine zs_istore [some (.ref 60), some (.int p1), some (.int p2), some (.int x8), some (.int x9), some (.int x10), some (.int v17)] dX7_kind_52 (Nat.le_of_ble_eq_true rfl) rfl rfl ?_
      refine zs_iload dX7_kind_54 rfl ?_
      refine zs_iload dX7_kind_56 rfl ?_
      obtain ⟨x19, m21, h⟩ := zbind h
      have K20 : zWP RX7 cX7_kind (zMB 7 (some .int) 6 Q) 67 [some (.ref 60), some (.int p1), some (.int p2), none, some (.int x9), some (.int x10), some (.int v17)] [.int x19] w18 := by
        refine zs_istore_n [some (.ref 60), some (.int p1), some (.int p2), some (.int x19), some (.int x9), some (.int x10), some (.int v17)] dX7_kind_67 (Nat.le_of_ble_eq_true rfl) rfl rfl ?_
        refine zs_iload dX7_kind_68 rfl ?_
        refine zs_iload dX7_kind_70 rfl ?_
        obtain ⟨x22, m24, h⟩ := zbind h
        have K23 : zWP RX7 cX7_kind (zMB 7 (some .int) 6 Q) 82 [some (.ref 60), some (.int p1), some (.int p2), some (.int x19), none, some (.int x10), none] [.int x22] w18 := by
          refine zs_istore [some (.ref 60), some (.int p1), some (.int p2), some (.int x19), some (.int x22), some (.int x10), none] dX7_kind_82 (Nat.le_of_ble_eq_true rfl) rfl rfl ?_
          refine zs_iinc (x10 + 1) [some (.ref 60), some (.int p1), some (.int p2), some (.int x19), some (.int x22), some (.int (x10 + 1)), none] dX7_kind_84 rfl rfl (Nat.le_of_ble_eq_true rfl) rfl rfl ?_
          refine zs_goto 32 dX7_kind_87 rfl ?_
          exact ih _ _ _ _ _ _ h K
        refine zs_icmp_ge 80 dX7_kind_72 rfl (fun c25 => ?_) (fun c25 => ?_)
        · replace m24 := zite_t c25 m24
          refine zs_iload dX7_kind_80 rfl ?_
          refine zs_fo [true, true, true, true, false, true, false] rfl ?_
          obtain rfl := Option.some.inj m24
          exact K23
        · replace m24 := zite_f c25 m24
          refine zs_iload dX7_kind_75 rfl ?_
          refine zs_goto 82 dX7_kind_77 rfl ?_
          refine zs_fo [true, true, true, true, false, true, false] rfl ?_
          obtain rfl := Option.some.inj m24
          exact K23
      refine zs_icmp_ge 66 dX7_kind_58 rfl (fun c26 => ?_) (fun c26 => ?_)
      · replace m21 := zite_t c26 m21
        refine zs_iload_n dX7_kind_66 rfl ?_
        refine zs_fo [true, true, true, false, true, true, true] rfl ?_
        obtain rfl := Option.some.inj m21
        exact K20
      · replace m21 := zite_f c26 m21
        refine zs_iload dX7_kind_61 rfl ?_
        refine zs_goto 67 dX7_kind_63 rfl ?_
        refine zs_fo [true, true, true, false, true, true, true] rfl ?_
        obtain rfl := Option.some.inj m21
        exact K20
set_option maxRecDepth 100000 in
theorem tX7_kind {w : zW} {p1 : Int32} {p2 : Int32}  {r : Int32} {w' : zW} (h : fX7_kind w p1 p2 = some (r, w')) : zRun yX7_kind cX7_kind 7 (some .int) 6 [.ref 60, .int p1, .int p2] w (zI r w') := by
  refine zRun.of (k := 4) rfl rfl rfl ?_
  show zWP RX7 cX7_kind (zMB 7 (some .int) 6 (zI r w')) 0 [some (.ref 60), some (.int p1), some (.int p2), none, none, none, none] [] w
  unfold fX7_kind at h
  refine zs_aload_n dX7_kind_0 rfl ?_
  refine zs_iload_n dX7_kind_1 rfl ?_
  obtain ⟨v2, e1, h⟩ := zbind h
  refine zc_V1i moX7_isVillage mvX7_isVillage kX7_65 rfl dX7_kind_2 za_60 (Nat.le_of_ble_eq_true rfl) (zrm (by decide)) (tX7_isVillage e1) ?_
  refine zs_if_eq 16 dX7_kind_5 rfl (fun c40 => ?_) (fun c40 => ?_)
  · replace h := zite_t c40 h
    refine zs_aload_n dX7_kind_16 rfl ?_
    refine zs_ldc kX7_44 dX7_kind_17 ?_
    obtain ⟨v4, w5, e3, h⟩ := zb2_inv h
    refine zc_V1i moX7_finds mvX7_finds kX7_49 rfl dX7_kind_19 za_60 (Nat.le_of_ble_eq_true rfl) (zrm (by decide)) (tX7_finds e3) ?_
    obtain ⟨rfl, rfl⟩ := zpi2 h
    exact zs_iret dX7_kind_22 ⟨rfl, rfl⟩
  · replace h := zite_f c40 h
    refine zs_aload_n dX7_kind_8 rfl ?_
    refine zs_iload_n dX7_kind_9 rfl ?_
    obtain ⟨v7, e6, h⟩ := zbind h
    refine zc_V1i moX7_isVillage mvX7_isVillage kX7_65 rfl dX7_kind_10 za_60 (Nat.le_of_ble_eq_true rfl) (zrm (by decide)) (tX7_isVillage e6) ?_
    refine zs_if_ne 23 dX7_kind_13 rfl (fun c39 => ?_) (fun c39 => ?_)
    · replace h := zite_f c39 h
      refine zs_iconst (-1 : Int32) dX7_kind_23 ziconst_m1 ?_
      refine zs_istore_n [some (.ref 60), some (.int p1), some (.int p2), some (.int (-1 : Int32)), none, none, none] dX7_kind_24 (Nat.le_of_ble_eq_true rfl) rfl rfl ?_
      refine zs_ldc kX7_109 dX7_kind_25 ?_
      refine zs_istore [some (.ref 60), some (.int p1), some (.int p2), some (.int (-1 : Int32)), some (.int (1000000000 : Int32)), none, none] dX7_kind_27 (Nat.le_of_ble_eq_true rfl) rfl rfl ?_
      refine zs_iconst (0 : Int32) dX7_kind_29 ziconst_0 ?_
      refine zs_istore [some (.ref 60), some (.int p1), some (.int p2), some (.int (-1 : Int32)), some (.int (1000000000 : Int32)), some (.int (0 : Int32)), none] dX7_kind_30 (Nat.le_of_ble_eq_true rfl) rfl rfl ?_
      obtain ⟨y30, w31, e28, h⟩ := zb2_inv h
      have K29 : zWP RX7 cX7_kind (zMB 7 (some .int) 6 (zI r w')) 90 [some (.ref 60), none, none, some (.int y30), none, none, none] [] w31 := by
        refine zs_iload_n dX7_kind_90 rfl ?_
        refine zs_if_ge 103 dX7_kind_91 rfl (fun c35 => ?_) (fun c35 => ?_)
        · replace h := zite_t c35 h
          refine zs_iload_n dX7_kind_103 rfl ?_
          obtain ⟨rfl, rfl⟩ := zpi2 h
          exact zs_iret dX7_kind_104 ⟨rfl, rfl⟩
        · replace h := zite_f c35 h
          refine zs_aload_n dX7_kind_94 rfl ?_
          refine zs_ldc kX7_92 dX7_kind_95 ?_
          obtain ⟨v33, w34, e32, h⟩ := zb2_inv h
          refine zc_V1i moX7_finds mvX7_finds kX7_49 rfl dX7_kind_97 za_60 (Nat.le_of_ble_eq_true rfl) (zrm (by decide)) (tX7_finds e32) ?_
          refine zs_goto 104 dX7_kind_100 rfl ?_
          obtain ⟨rfl, rfl⟩ := zpi2 h
          exact zs_iret dX7_kind_104 ⟨rfl, rfl⟩
      exact tlX7_kind_32  zF _ _ _ _ _ _ e28 K29
    · replace h := zite_t c39 h
      refine zs_aload_n dX7_kind_16 rfl ?_
      refine zs_ldc kX7_44 dX7_kind_17 ?_
      obtain ⟨v37, w38, e36, h⟩ := zb2_inv h
      refine zc_V1i moX7_finds mvX7_finds kX7_49 rfl dX7_kind_19 za_60 (Nat.le_of_ble_eq_true rfl) (zrm (by decide)) (tX7_finds e36) ?_
      obtain ⟨rfl, rfl⟩ := zpi2 h
      exact zs_iret dX7_kind_22 ⟨rfl, rfl⟩
def fX7_kindHere (w : zW)  : Option Int32 := Option.bind (fX7_isWord w (175252482 : Int64)) fun v2 => (if v2 = 0 then (Option.bind (fX7_isWord w (9454493 : Int64)) fun v4 => (if v4 = 0 then (Option.bind (fX7_isWord w (4351291 : Int64)) fun v6 => (if v6 = 0 then (Option.bind (fX7_isWord w (2397198555 : Int64)) fun v8 => (if v8 = 0 then (Option.bind (fX7_isWord w (46263 : Int64)) fun v10 => (if v10 = 0 then (Option.bind (fX7_isWord w (275358764 : Int64)) fun v12 => (if v12 = 0 then (some (-1 : Int32)) else (some (5 : Int32)))) else (some (4 : Int32)))) else (some (3 : Int32)))) else (some (2 : Int32)))) else (some (1 : Int32)))) else (some (0 : Int32)))
set_option maxRecDepth 100000 in
theorem tX7_kindHere {w : zW}   {r : Int32} (h : fX7_kindHere w  = some r) : zRun yX7_kindHere cX7_kindHere 1 (some .int) 1 [.ref 60] w (zI r w) := by
  refine zRun.of (k := 0) rfl rfl rfl ?_
  show zWP RX7 cX7_kindHere (zMB 1 (some .int) 1 (zI r w)) 0 [some (.ref 60)] [] w
  unfold fX7_kindHere at h
  refine zs_aload_n dX7_kindHere_0 rfl ?_
  refine zs_ldc2_w kX7_238 dX7_kindHere_1 ?_
  obtain ⟨v2, e1, h⟩ := zbind h
  refine zc_V1i moX7_isWord mvX7_isWord kX7_240 rfl dX7_kindHere_4 za_60 (Nat.le_of_ble_eq_true rfl) (zrm (by decide)) (tX7_isWord e1) ?_
  refine zs_if_eq 14 dX7_kindHere_7 rfl (fun c18 => ?_) (fun c18 => ?_)
  · replace h := zite_t c18 h
    refine zs_aload_n dX7_kindHere_14 rfl ?_
    refine zs_ldc2_w kX7_244 dX7_kindHere_15 ?_
    obtain ⟨v4, e3, h⟩ := zbind h
    refine zc_V1i moX7_isWord mvX7_isWord kX7_240 rfl dX7_kindHere_18 za_60 (Nat.le_of_ble_eq_true rfl) (zrm (by decide)) (tX7_isWord e3) ?_
    refine zs_if_eq 28 dX7_kindHere_21 rfl (fun c17 => ?_) (fun c17 => ?_)
    · replace h := zite_t c17 h
      refine zs_aload_n dX7_kindHere_28 rfl ?_
      refine zs_ldc2_w kX7_246 dX7_kindHere_29 ?_
      obtain ⟨v6, e5, h⟩ := zbind h
      refine zc_V1i moX7_isWord mvX7_isWord kX7_240 rfl dX7_kindHere_32 za_60 (Nat.le_of_ble_eq_true rfl) (zrm (by decide)) (tX7_isWord e5) ?_
      refine zs_if_eq 42 dX7_kindHere_35 rfl (fun c16 => ?_) (fun c16 => ?_)
      · replace h := zite_t c16 h
        refine zs_aload_n dX7_kindHere_42 rfl ?_
        refine zs_ldc2_w kX7_248 dX7_kindHere_43 ?_
        obtain ⟨v8, e7, h⟩ := zbind h
        refine zc_V1i moX7_isWord mvX7_isWord kX7_240 rfl dX7_kindHere_46 za_60 (Nat.le_of_ble_eq_true rfl) (zrm (by decide)) (tX7_isWord e7) ?_
        refine zs_if_eq 56 dX7_kindHere_49 rfl (fun c15 => ?_) (fun c15 => ?_)
        · replace h := zite_t c15 h
          refine zs_aload_n dX7_kindHere_56 rfl ?_
          refine zs_ldc2_w kX7_250 dX7_kindHere_57 ?_
          obtain ⟨v10, e9, h⟩ := zbind h
          refine zc_V1i moX7_isWord mvX7_isWord kX7_240 rfl dX7_kindHere_60 za_60 (Nat.le_of_ble_eq_true rfl) (zrm (by decide)) (tX7_isWord e9) ?_
          refine zs_if_eq 70 dX7_kindHere_63 rfl (fun c14 => ?_) (fun c14 => ?_)
          · replace h := zite_t c14 h
            refine zs_aload_n dX7_kindHere_70 rfl ?_
            refine zs_ldc2_w kX7_252 dX7_kindHere_71 ?_
            obtain ⟨v12, e11, h⟩ := zbind h
            refine zc_V1i moX7_isWord mvX7_isWord kX7_240 rfl dX7_kindHere_74 za_60 (Nat.le_of_ble_eq_true rfl) (zrm (by decide)) (tX7_isWord e11) ?_
            refine zs_if_eq 84 dX7_kindHere_77 rfl (fun c13 => ?_) (fun c13 => ?_)
            · replace h := zite_t c13 h
              refine zs_iconst (-1 : Int32) dX7_kindHere_84 ziconst_m1 ?_
              obtain rfl := Option.some.inj h
              exact zs_iret dX7_kindHere_85 ⟨rfl, rfl⟩
            · replace h := zite_f c13 h
              refine zs_iconst (5 : Int32) dX7_kindHere_80 ziconst_5 ?_
              refine zs_goto 85 dX7_kindHere_81 rfl ?_
              obtain rfl := Option.some.inj h
              exact zs_iret dX7_kindHere_85 ⟨rfl, rfl⟩
          · replace h := zite_f c14 h
            refine zs_iconst (4 : Int32) dX7_kindHere_66 ziconst_4 ?_
            refine zs_goto 85 dX7_kindHere_67 rfl ?_
            obtain rfl := Option.some.inj h
            exact zs_iret dX7_kindHere_85 ⟨rfl, rfl⟩
        · replace h := zite_f c15 h
          refine zs_iconst (3 : Int32) dX7_kindHere_52 ziconst_3 ?_
          refine zs_goto 85 dX7_kindHere_53 rfl ?_
          obtain rfl := Option.some.inj h
          exact zs_iret dX7_kindHere_85 ⟨rfl, rfl⟩
      · replace h := zite_f c16 h
        refine zs_iconst (2 : Int32) dX7_kindHere_38 ziconst_2 ?_
        refine zs_goto 85 dX7_kindHere_39 rfl ?_
        obtain rfl := Option.some.inj h
        exact zs_iret dX7_kindHere_85 ⟨rfl, rfl⟩
    · replace h := zite_f c17 h
      refine zs_iconst (1 : Int32) dX7_kindHere_24 ziconst_1 ?_
      refine zs_goto 85 dX7_kindHere_25 rfl ?_
      obtain rfl := Option.some.inj h
      exact zs_iret dX7_kindHere_85 ⟨rfl, rfl⟩
  · replace h := zite_f c18 h
    refine zs_iconst (0 : Int32) dX7_kindHere_10 ziconst_0 ?_
    refine zs_goto 85 dX7_kindHere_11 rfl ?_
    obtain rfl := Option.some.inj h
    exact zs_iret dX7_kindHere_85 ⟨rfl, rfl⟩
def lpX7_lays_35 (p1 : Int32) : Nat → zW → Int32 → Int32 → Option (Int32 × zW)
  | 0, _, _, _ => none
  | n + 1, w7, x5, x6 => Option.bind (zrd w7 61 151 (0 : Int32)) fun v10 => (if v10 ≤ x6 then (some (x5, w7)) else (Option.bind (zrd w7 67 4 p1) fun v12 => (if v12 ≤ x6 then (some (x5, w7)) else (Option.bind (zrl w7 68 160 (((40 : Int32) * p1) + x6)) fun v14 => zb2 (if (lg_cmp v14 (0 : Int64)) < 0 then (some (x5, w7)) else ((if 0 < (lg_cmp v14 (9999 : Int64)) then (some (x5, w7)) else (Option.bind (zwr w7 61 151 ((5 : Int32) + ((2 : Int32) * x6)) ((v14).toInt32)) fun w23 => some ((x5 + 1), w23))))) fun x19 w20 => lpX7_lays_35 p1 n w20 x19 (x6 + 1)))))
def fX7_lays (w : zW) (p1 : Int32) : Option (Int32 × zW) := Option.bind (fX7_isSheet w p1) fun v2 => (if v2 = 0 then (zb2 (fX7_finds w (-1000000001 : Int32)) fun v38 w39 => some (v38, w39)) else (Option.bind (zrd w 66 4 p1) fun v3 => (if v3 = 0 then (zb2 (fX7_finds w (-1000000006 : Int32)) fun v34 w35 => some (v34, w35)) else (zb2 (lpX7_lays_35 p1 zF w (0 : Int32) (0 : Int32)) fun y31 w32 => some (y31, w32)))))
set_option maxRecDepth 100000 in
theorem tlX7_lays_35 {p1 : Int32}  {Q : Option Value → zW → Prop} : ∀ (n : Nat) (w7 : zW) (x5 : Int32) (x6 : Int32) (y8 : Int32) (w9 : zW), lpX7_lays_35 p1 n w7 x5 x6 = some (y8, w9) → zWP RX7 cX7_lays (zMB 6 (some .int) 2 Q) 106 [none, none, some (.int y8), none, none, none] [] w9 → zWP RX7 cX7_lays (zMB 6 (some .int) 2 Q) 35 [some (.ref 60), some (.int p1), some (.int x5), some (.int x6), none, none] [] w7 := by
  intro n
  induction n with
  | zero => intro w7 x5 x6 y8 w9 h K; simp [lpX7_lays_35] at h
  | succ n ih =>
    intro w7 x5 x6 y8 w9 h K
    rw [lpX7_lays_35] at h
    refine zs_iload_n dX7_lays_35 rfl ?_
    refine zs_aload_n dX7_lays_36 rfl ?_
    refine gX7_7 dX7_lays_37 ?_
    refine zs_iconst (0 : Int32) dX7_lays_40 ziconst_0 ?_
    obtain ⟨v10, e11, h⟩ := zbind h
    refine zs_iald dX7_lays_41 za_61 e11 ?_
    refine zs_icmp_ge 106 dX7_lays_42 rfl (fun c28 => ?_) (fun c28 => ?_)
    · replace h := zite_t c28 h
      refine zs_fo [false, false, true, false, false, false] rfl ?_
      obtain ⟨rfl, rfl⟩ := zpi2 h
      exact K
    · replace h := zite_f c28 h
      refine zs_iload_n dX7_lays_45 rfl ?_
      refine zs_aload_n dX7_lays_46 rfl ?_
      refine gX7_28 dX7_lays_47 ?_
      refine zs_iload_n dX7_lays_50 rfl ?_
      obtain ⟨v12, e13, h⟩ := zbind h
      refine zs_iald dX7_lays_51 za_67 e13 ?_
      refine zs_icmp_ge 106 dX7_lays_52 rfl (fun c27 => ?_) (fun c27 => ?_)
      · replace h := zite_t c27 h
        refine zs_fo [false, false, true, false, false, false] rfl ?_
        obtain ⟨rfl, rfl⟩ := zpi2 h
        exact K
      · replace h := zite_f c27 h
        refine zs_aload_n dX7_lays_55 rfl ?_
        refine gX7_31 dX7_lays_56 ?_
        refine zs_bipush (40 : Int32) dX7_lays_59 zbipush_40 ?_
        refine zs_iload_n dX7_lays_61 rfl ?_
        refine zs_imul dX7_lays_62 ?_
        refine zs_iload_n dX7_lays_63 rfl ?_
        refine zs_iadd dX7_lays_64 ?_
        obtain ⟨v14, e15, h⟩ := zbind h
        refine zs_lald dX7_lays_65 za_68 e15 ?_
        refine zs_lstore [some (.ref 60), some (.int p1), some (.int x5), some (.int x6), some (.long v14), none] dX7_lays_66 (Nat.le_of_ble_eq_true rfl) rfl rfl ?_
        refine zs_lload dX7_lays_68 rfl ?_
        refine zs_lconst (0 : Int64) dX7_lays_70 rfl ?_
        refine zs_lcmp dX7_lays_71 ?_
        obtain ⟨x19, w20, m22, h⟩ := zb2_inv h
        have K21 : zWP RX7 cX7_lays (zMB 6 (some .int) 2 Q) 100 [some (.ref 60), some (.int p1), some (.int x19), some (.int x6), none, none] [] w20 := by
          refine zs_iinc (x6 + 1) [some (.ref 60), some (.int p1), some (.int x19), some (.int (x6 + 1)), none, none] dX7_lays_100 rfl rfl (Nat.le_of_ble_eq_true rfl) rfl rfl ?_
          refine zs_goto 35 dX7_lays_103 rfl ?_
          exact ih _ _ _ _ _ h K
        refine zs_if_lt 100 dX7_lays_72 rfl (fun c26 => ?_) (fun c26 => ?_)
        · replace m22 := zite_t c26 m22
          refine zs_fo [true, true, true, true, false, false] rfl ?_
          obtain ⟨rfl, rfl⟩ := zpi2 m22
          exact K21
        · replace m22 := zite_f c26 m22
          refine zs_lload dX7_lays_75 rfl ?_
          refine zs_ldc2_w kX7_319 dX7_lays_77 ?_
          refine zs_lcmp dX7_lays_80 ?_
          refine zs_if_gt 100 dX7_lays_81 rfl (fun c25 => ?_) (fun c25 => ?_)
          · replace m22 := zite_t c25 m22
            refine zs_fo [true, true, true, true, false, false] rfl ?_
            obtain ⟨rfl, rfl⟩ := zpi2 m22
            exact K21
          · replace m22 := zite_f c25 m22
            refine zs_aload_n dX7_lays_84 rfl ?_
            refine gX7_7 dX7_lays_85 ?_
            refine zs_iconst (5 : Int32) dX7_lays_88 ziconst_5 ?_
            refine zs_iconst (2 : Int32) dX7_lays_89 ziconst_2 ?_
            refine zs_iload_n dX7_lays_90 rfl ?_
            refine zs_imul dX7_lays_91 ?_
            refine zs_iadd dX7_lays_92 ?_
            refine zs_lload dX7_lays_93 rfl ?_
            refine zs_l2i dX7_lays_95 ?_
            obtain ⟨w23, e24, m22⟩ := zbind m22
            refine zs_iast dX7_lays_96 za_61 e24 ?_
            refine zs_iinc (x5 + 1) [some (.ref 60), some (.int p1), some (.int (x5 + 1)), some (.int x6), some (.long v14), none] dX7_lays_97 rfl rfl (Nat.le_of_ble_eq_true rfl) rfl rfl ?_
            refine zs_fo [true, true, true, true, false, false] rfl ?_
            obtain ⟨rfl, rfl⟩ := zpi2 m22
            exact K21
set_option maxRecDepth 100000 in
theorem tX7_lays {w : zW} {p1 : Int32}  {r : Int32} {w' : zW} (h : fX7_lays w p1 = some (r, w')) : zRun yX7_lays cX7_lays 6 (some .int) 2 [.ref 60, .int p1] w (zI r w') := by
  refine zRun.of (k := 4) rfl rfl rfl ?_
  show zWP RX7 cX7_lays (zMB 6 (some .int) 2 (zI r w')) 0 [some (.ref 60), some (.int p1), none, none, none, none] [] w
  unfold fX7_lays at h
  refine zs_iload_n dX7_lays_0 rfl ?_
  obtain ⟨v2, e1, h⟩ := zbind h
  refine zc_S1i moX7_isSheet mvX7_isSheet kX7_307 dX7_lays_1 (Nat.le_of_ble_eq_true rfl) (zrm (by decide)) (tX7_isSheet e1) ?_
  refine zs_if_ne 14 dX7_lays_4 rfl (fun c40 => ?_) (fun c40 => ?_)
  · replace h := zite_f c40 h
    refine zs_aload_n dX7_lays_14 rfl ?_
    refine gX7_25 dX7_lays_15 ?_
    refine zs_iload_n dX7_lays_18 rfl ?_
    obtain ⟨v3, e4, h⟩ := zbind h
    refine zs_iald dX7_lays_19 za_66 e4 ?_
    refine zs_if_ne 31 dX7_lays_20 rfl (fun c36 => ?_) (fun c36 => ?_)
    · replace h := zite_f c36 h
      refine zs_iconst (0 : Int32) dX7_lays_31 ziconst_0 ?_
      refine zs_istore_n [some (.ref 60), some (.int p1), some (.int (0 : Int32)), none, none, none] dX7_lays_32 (Nat.le_of_ble_eq_true rfl) rfl rfl ?_
      refine zs_iconst (0 : Int32) dX7_lays_33 ziconst_0 ?_
      refine zs_istore_n [some (.ref 60), some (.int p1), some (.int (0 : Int32)), some (.int (0 : Int32)), none, none] dX7_lays_34 (Nat.le_of_ble_eq_true rfl) rfl rfl ?_
      obtain ⟨y31, w32, e29, h⟩ := zb2_inv h
      have K30 : zWP RX7 cX7_lays (zMB 6 (some .int) 2 (zI r w')) 106 [none, none, some (.int y31), none, none, none] [] w32 := by
        refine zs_iload_n dX7_lays_106 rfl ?_
        obtain ⟨rfl, rfl⟩ := zpi2 h
        exact zs_iret dX7_lays_107 ⟨rfl, rfl⟩
      exact tlX7_lays_35  zF _ _ _ _ _ e29 K30
    · replace h := zite_t c36 h
      refine zs_aload_n dX7_lays_23 rfl ?_
      refine zs_ldc_w kX7_311 dX7_lays_24 ?_
      obtain ⟨v34, w35, e33, h⟩ := zb2_inv h
      refine zc_V1i moX7_finds mvX7_finds kX7_49 rfl dX7_lays_27 za_60 (Nat.le_of_ble_eq_true rfl) (zrm (by decide)) (tX7_finds e33) ?_
      obtain ⟨rfl, rfl⟩ := zpi2 h
      exact zs_iret dX7_lays_30 ⟨rfl, rfl⟩
  · replace h := zite_t c40 h
    refine zs_aload_n dX7_lays_7 rfl ?_
    refine zs_ldc kX7_44 dX7_lays_8 ?_
    obtain ⟨v38, w39, e37, h⟩ := zb2_inv h
    refine zc_V1i moX7_finds mvX7_finds kX7_49 rfl dX7_lays_10 za_60 (Nat.le_of_ble_eq_true rfl) (zrm (by decide)) (tX7_finds e37) ?_
    obtain ⟨rfl, rfl⟩ := zpi2 h
    exact zs_iret dX7_lays_13 ⟨rfl, rfl⟩
def fX7_least (w : zW) (p1 : Int32) (p2 : Int32) (p3 : Int32) : Option (Int32 × zW) := Option.bind (fX7_isAsked w p1 p2 p3) fun v2 => (if v2 = 0 then (zb2 (fX7_finds w (-1000000001 : Int32)) fun v15 w16 => some (v15, w16)) else (Option.bind (zrd w 61 151 (4 : Int32)) fun v3 => zb2 (fX7_earliest w p1 p2 p3 v3) fun v6 w7 => (if v6 = (1000000000 : Int32) then (zb2 (fX7_finds w7 (-1000000004 : Int32)) fun v11 w12 => some (v11, w12)) else (Option.bind (zrd w7 61 151 (4 : Int32)) fun v8 => some ((v6 - v8), w7)))))
set_option maxRecDepth 100000 in
theorem tX7_least {w : zW} {p1 : Int32} {p2 : Int32} {p3 : Int32}  {r : Int32} {w' : zW} (h : fX7_least w p1 p2 p3 = some (r, w')) : zRun yX7_least cX7_least 5 (some .int) 6 [.ref 60, .int p1, .int p2, .int p3] w (zI r w') := by
  refine zRun.of (k := 1) rfl rfl rfl ?_
  show zWP RX7 cX7_least (zMB 5 (some .int) 6 (zI r w')) 0 [some (.ref 60), some (.int p1), some (.int p2), some (.int p3), none] [] w
  unfold fX7_least at h
  refine zs_aload_n dX7_least_0 rfl ?_
  refine zs_iload_n dX7_least_1 rfl ?_
  refine zs_iload_n dX7_least_2 rfl ?_
  refine zs_iload_n dX7_least_3 rfl ?_
  obtain ⟨v2, e1, h⟩ := zbind h
  refine zc_V3i moX7_isAsked mvX7_isAsked kX7_129 rfl dX7_least_4 za_60 (Nat.le_of_ble_eq_true rfl) (zrm (by decide)) (tX7_isAsked e1) ?_
  refine zs_if_ne 17 dX7_least_7 rfl (fun c17 => ?_) (fun c17 => ?_)
  · replace h := zite_f c17 h
    refine zs_aload_n dX7_least_17 rfl ?_
    refine zs_iload_n dX7_least_18 rfl ?_
    refine zs_iload_n dX7_least_19 rfl ?_
    refine zs_iload_n dX7_least_20 rfl ?_
    refine zs_aload_n dX7_least_21 rfl ?_
    refine gX7_7 dX7_least_22 ?_
    refine zs_iconst (4 : Int32) dX7_least_25 ziconst_4 ?_
    obtain ⟨v3, e4, h⟩ := zbind h
    refine zs_iald dX7_least_26 za_61 e4 ?_
    obtain ⟨v6, w7, e5, h⟩ := zb2_inv h
    refine zc_V4i moX7_earliest mvX7_earliest kX7_132 rfl dX7_least_27 za_60 (Nat.le_of_ble_eq_true rfl) (zrm (by decide)) (tX7_earliest e5) ?_
    refine zs_istore [some (.ref 60), some (.int p1), some (.int p2), some (.int p3), some (.int v6)] dX7_least_30 (Nat.le_of_ble_eq_true rfl) rfl rfl ?_
    refine zs_iload dX7_least_32 rfl ?_
    refine zs_ldc kX7_109 dX7_least_34 ?_
    refine zs_icmp_ne 48 dX7_least_36 rfl (fun c13 => ?_) (fun c13 => ?_)
    · replace h := zite_f c13 h
      refine zs_iload dX7_least_48 rfl ?_
      refine zs_aload_n dX7_least_50 rfl ?_
      refine gX7_7 dX7_least_51 ?_
      refine zs_iconst (4 : Int32) dX7_least_54 ziconst_4 ?_
      obtain ⟨v8, e9, h⟩ := zbind h
      refine zs_iald dX7_least_55 za_61 e9 ?_
      refine zs_isub dX7_least_56 ?_
      obtain ⟨rfl, rfl⟩ := zpi2 h
      exact zs_iret dX7_least_57 ⟨rfl, rfl⟩
    · replace h := zite_t c13 h
      refine zs_aload_n dX7_least_39 rfl ?_
      refine zs_ldc kX7_92 dX7_least_40 ?_
      obtain ⟨v11, w12, e10, h⟩ := zb2_inv h
      refine zc_V1i moX7_finds mvX7_finds kX7_49 rfl dX7_least_42 za_60 (Nat.le_of_ble_eq_true rfl) (zrm (by decide)) (tX7_finds e10) ?_
      refine zs_goto 57 dX7_least_45 rfl ?_
      obtain ⟨rfl, rfl⟩ := zpi2 h
      exact zs_iret dX7_least_57 ⟨rfl, rfl⟩
  · replace h := zite_t c17 h
    refine zs_aload_n dX7_least_10 rfl ?_
    refine zs_ldc kX7_44 dX7_least_11 ?_
    obtain ⟨v15, w16, e14, h⟩ := zb2_inv h
    refine zc_V1i moX7_finds mvX7_finds kX7_49 rfl dX7_least_13 za_60 (Nat.le_of_ble_eq_true rfl) (zrm (by decide)) (tX7_finds e14) ?_
    obtain ⟨rfl, rfl⟩ := zpi2 h
    exact zs_iret dX7_least_16 ⟨rfl, rfl⟩
def lpX7_lettersAt_4 (w : zW) (p1 : Int32) : Nat → Int32 → Int32 → Option Int32
  | 0, _, _ => none
  | n + 1, x1, x2 => Option.bind (zrd w 61 151 (2 : Int32)) fun v4 => (if v4 ≤ x2 then (some x1) else (Option.bind (fX7_its w x2 (1 : Int32)) fun v7 => Option.bind (if v7 = p1 then (Option.bind (fX7_its w x2 (4 : Int32)) fun v15 => (if v15 = 0 then (some ((1 : Int32) <<< (x2 &&& 31))) else (some (0 : Int32)))) else (some (0 : Int32))) fun x11 => Option.bind (some ((x1 ||| x11))) fun x17 => lpX7_lettersAt_4 w p1 n x17 (x2 + 1)))
def fX7_lettersAt (w : zW) (p1 : Int32) : Option Int32 := Option.bind (lpX7_lettersAt_4 w p1 zF (0 : Int32) (0 : Int32)) fun y23 => some y23
set_option maxRecDepth 100000 in
theorem tlX7_lettersAt_4 {w : zW} {p1 : Int32}  {Q : Option Value → zW → Prop} : ∀ (n : Nat) (x1 : Int32) (x2 : Int32) (y3 : Int32), lpX7_lettersAt_4 w p1 n x1 x2 = some y3 → zWP RX7 cX7_lettersAt (zMB 4 (some .int) 1 Q) 49 [none, none, some (.int y3), none] [] w → zWP RX7 cX7_lettersAt (zMB 4 (some .int) 1 Q) 4 [some (.ref 60), some (.int p1), some (.int x1), some (.int x2)] [] w := by
  intro n
  induction n with
  | zero => intro x1 x2 y3 h K; simp [lpX7_lettersAt_4] at h
  | succ n ih =>
    intro x1 x2 y3 h K
    rw [lpX7_lettersAt_4] at h
    refine zs_iload_n dX7_lettersAt_4 rfl ?_
    refine zs_aload_n dX7_lettersAt_5 rfl ?_
    refine gX7_7 dX7_lettersAt_6 ?_
    refine zs_iconst (2 : Int32) dX7_lettersAt_9 ziconst_2 ?_
    obtain ⟨v4, e5, h⟩ := zbind h
    refine zs_iald dX7_lettersAt_10 za_61 e5 ?_
    refine zs_icmp_ge 49 dX7_lettersAt_11 rfl (fun c20 => ?_) (fun c20 => ?_)
    · replace h := zite_t c20 h
      refine zs_fo [false, false, true, false] rfl ?_
      obtain rfl := Option.some.inj h
      exact K
    · replace h := zite_f c20 h
      refine zs_iload_n dX7_lettersAt_14 rfl ?_
      refine zs_aload_n dX7_lettersAt_15 rfl ?_
      refine zs_iload_n dX7_lettersAt_16 rfl ?_
      refine zs_iconst (1 : Int32) dX7_lettersAt_17 ziconst_1 ?_
      obtain ⟨v7, e6, h⟩ := zbind h
      refine zc_V2i moX7_its mvX7_its kX7_62 rfl dX7_lettersAt_18 za_60 (Nat.le_of_ble_eq_true rfl) (zrm (by decide)) (tX7_its e6) ?_
      refine zs_iload_n dX7_lettersAt_21 rfl ?_
      obtain ⟨x11, m13, h⟩ := zbind h
      have K12 : zWP RX7 cX7_lettersAt (zMB 4 (some .int) 1 Q) 41 [some (.ref 60), some (.int p1), none, some (.int x2)] [.int x11, .int x1] w := by
        refine zs_ior dX7_lettersAt_41 ?_
        obtain ⟨x17, e18, h⟩ := zbind h
        refine zs_nmi (Option.some.inj e18) ?_
        refine zs_istore_n [some (.ref 60), some (.int p1), some (.int x17), some (.int x2)] dX7_lettersAt_42 (Nat.le_of_ble_eq_true rfl) rfl rfl ?_
        refine zs_iinc (x2 + 1) [some (.ref 60), some (.int p1), some (.int x17), some (.int (x2 + 1))] dX7_lettersAt_43 rfl rfl (Nat.le_of_ble_eq_true rfl) rfl rfl ?_
        refine zs_goto 4 dX7_lettersAt_46 rfl ?_
        exact ih _ _ _ h K
      refine zs_icmp_ne 40 dX7_lettersAt_22 rfl (fun c19 => ?_) (fun c19 => ?_)
      · replace m13 := zite_f c19 m13
        refine zs_iconst (0 : Int32) dX7_lettersAt_40 ziconst_0 ?_
        refine zs_fo [true, true, false, true] rfl ?_
        obtain rfl := Option.some.inj m13
        exact K12
      · replace m13 := zite_t c19 m13
        refine zs_aload_n dX7_lettersAt_25 rfl ?_
        refine zs_iload_n dX7_lettersAt_26 rfl ?_
        refine zs_iconst (4 : Int32) dX7_lettersAt_27 ziconst_4 ?_
        obtain ⟨v15, e14, m13⟩ := zbind m13
        refine zc_V2i moX7_its mvX7_its kX7_62 rfl dX7_lettersAt_28 za_60 (Nat.le_of_ble_eq_true rfl) (zrm (by decide)) (tX7_its e14) ?_
        refine zs_if_ne 40 dX7_lettersAt_31 rfl (fun c16 => ?_) (fun c16 => ?_)
        · replace m13 := zite_f c16 m13
          refine zs_iconst (0 : Int32) dX7_lettersAt_40 ziconst_0 ?_
          refine zs_fo [true, true, false, true] rfl ?_
          obtain rfl := Option.some.inj m13
          exact K12
        · replace m13 := zite_t c16 m13
          refine zs_iconst (1 : Int32) dX7_lettersAt_34 ziconst_1 ?_
          refine zs_iload_n dX7_lettersAt_35 rfl ?_
          refine zs_ishl dX7_lettersAt_36 ?_
          refine zs_goto 41 dX7_lettersAt_37 rfl ?_
          refine zs_fo [true, true, false, true] rfl ?_
          obtain rfl := Option.some.inj m13
          exact K12
set_option maxRecDepth 100000 in
theorem tX7_lettersAt {w : zW} {p1 : Int32}  {r : Int32} (h : fX7_lettersAt w p1 = some r) : zRun yX7_lettersAt cX7_lettersAt 4 (some .int) 1 [.ref 60, .int p1] w (zI r w) := by
  refine zRun.of (k := 2) rfl rfl rfl ?_
  show zWP RX7 cX7_lettersAt (zMB 4 (some .int) 1 (zI r w)) 0 [some (.ref 60), some (.int p1), none, none] [] w
  unfold fX7_lettersAt at h
  refine zs_iconst (0 : Int32) dX7_lettersAt_0 ziconst_0 ?_
  refine zs_istore_n [some (.ref 60), some (.int p1), some (.int (0 : Int32)), none] dX7_lettersAt_1 (Nat.le_of_ble_eq_true rfl) rfl rfl ?_
  refine zs_iconst (0 : Int32) dX7_lettersAt_2 ziconst_0 ?_
  refine zs_istore_n [some (.ref 60), some (.int p1), some (.int (0 : Int32)), some (.int (0 : Int32))] dX7_lettersAt_3 (Nat.le_of_ble_eq_true rfl) rfl rfl ?_
  obtain ⟨y23, e21, h⟩ := zbind h
  have K22 : zWP RX7 cX7_lettersAt (zMB 4 (some .int) 1 (zI r w)) 49 [none, none, some (.int y23), none] [] w := by
    refine zs_iload_n dX7_lettersAt_49 rfl ?_
    obtain rfl := Option.some.inj h
    exact zs_iret dX7_lettersAt_50 ⟨rfl, rfl⟩
  exact tlX7_lettersAt_4  zF _ _ _ e21 K22
def lpX7_live_58 (p1 : Int32) (p2 : Int32) (x10 : Int32) (x11 : Int32) (x12 : Int32) : Nat → zW → Int32 → Int32 → Option (Int32 × zW)
  | 0, _, _, _ => none
  | n + 1, w20, x18, x19 => Option.bind (zrd w20 61 151 (0 : Int32)) fun v23 => (if v23 ≤ x19 then (some (x18, w20)) else (Option.bind (fX7_has w20 p2 x19) fun v26 => zb2 (if v26 = 0 then (some ((0 : Int32), w20)) else ((if (1000000000 : Int32) ≤ x18 then (some ((0 : Int32), w20)) else (zb2 (fX7_back w20 p1 x12 x19) fun v36 w37 => some (v36, w37))))) fun x31 w32 => Option.bind (if x31 ≤ x18 then (some x18) else (some x31)) fun x39 => lpX7_live_58 p1 p2 x10 x11 x12 n w32 x39 (x19 + 1)))
def lpX7_live_41 (p1 : Int32) (p2 : Int32) : Nat → zW → Int32 → Int32 → Int32 → Option (Int32 × zW)
  | 0, _, _, _, _ => none
  | n + 1, w13, x10, x11, x12 => Option.bind (zrd w13 61 151 (0 : Int32)) fun v16 => (if v16 ≤ x12 then (some (x10, w13)) else (zb2 (lpX7_live_58 p1 p2 x10 x11 x12 zF w13 (0 : Int32) (0 : Int32)) fun y47 w48 => Option.bind (if x11 ≤ y47 then (some x10) else (some x12)) fun x49 => Option.bind (if x11 ≤ y47 then (some x11) else (some y47)) fun x52 => lpX7_live_41 p1 p2 n w48 x49 x52 (x12 + 1)))
def fX7_live (w : zW) (p1 : Int32) (p2 : Int32) : Option (Int32 × zW) := Option.bind (fX7_isKind w p1) fun v2 => (if v2 = 0 then (zb2 (fX7_finds w (-1000000001 : Int32)) fun v4 w5 => some (v4, w5)) else (Option.bind (zrd w 61 151 (0 : Int32)) fun v6 => Option.bind (fX7_in w p2 (1 : Int32) (((1 : Int32) <<< (v6 &&& 31)) - (1 : Int32))) fun v9 => (if v9 = 0 then (zb2 (fX7_finds w (-1000000001 : Int32)) fun v67 w68 => some (v67, w68)) else (zb2 (lpX7_live_41 p1 p2 zF w (-1 : Int32) (1000000000 : Int32) (0 : Int32)) fun y60 w61 => (if 0 ≤ y60 then (some (y60, w61)) else (zb2 (fX7_finds w61 (-1000000004 : Int32)) fun v63 w64 => some (v63, w64)))))))
set_option maxRecDepth 100000 in
theorem tlX7_live_58 {p1 : Int32} {p2 : Int32} {x10 : Int32} {x11 : Int32} {x12 : Int32}  {Q : Option Value → zW → Prop} : ∀ (n : Nat) (w20 : zW) (x18 : Int32) (x19 : Int32) (y21 : Int32) (w22 : zW), lpX7_live_58 p1 p2 x10 x11 x12 n w20 x18 x19 = some (y21, w22) → zWP RX7 cX7_live (zMB 9 (some .int) 7 Q) 122 [some (.ref 60), some (.int p1), some (.int p2), some (.int x10), some (.int x11), some (.int x12), some (.int y21), none, none] [] w22 → zWP RX7 cX7_live (zMB 9 (some .int) 7 Q) 58 [some (.ref 60), some (.int p1), some (.int p2), some (.int x10), some (.int x11), some (.int x12), some (.int x18), some (.int x19), none] [] w20 := by
  intro n
  induction n with
  | zero => intro w20 x18 x19 y21 w22 h K; simp [lpX7_live_58] at h
  | succ n ih =>
    intro w20 x18 x19 y21 w22 h K
    rw [lpX7_live_58] at h
    refine zs_iload dX7_live_58 rfl ?_
    refine zs_aload_n dX7_live_60 rfl ?_
    refine gX7_7 dX7_live_61 ?_
    refine zs_iconst (0 : Int32) dX7_live_64 ziconst_0 ?_
    obtain ⟨v23, e24, h⟩ := zbind h
    refine zs_iald dX7_live_65 za_61 e24 ?_
    refine zs_icmp_ge 122 dX7_live_66 rfl (fun c44 => ?_) (fun c44 => ?_)
    · replace h := zite_t c44 h
      refine zs_fo [true, true, true, true, true, true, true, false, false] rfl ?_
      obtain ⟨rfl, rfl⟩ := zpi2 h
      exact K
    · replace h := zite_f c44 h
      refine zs_iload_n dX7_live_69 rfl ?_
      refine zs_iload dX7_live_70 rfl ?_
      obtain ⟨v26, e25, h⟩ := zbind h
      refine zc_S2i moX7_has mvX7_has kX7_143 dX7_live_72 (Nat.le_of_ble_eq_true rfl) (zrm (by decide)) (tX7_has e25) ?_
      obtain ⟨x31, w32, m34, h⟩ := zb2_inv h
      have K33 : zWP RX7 cX7_live (zMB 9 (some .int) 7 Q) 98 [some (.ref 60), some (.int p1), some (.int p2), some (.int x10), some (.int x11), some (.int x12), some (.int x18), some (.int x19), none] [.int x31] w32 := by
        refine zs_istore [some (.ref 60), some (.int p1), some (.int p2), some (.int x10), some (.int x11), some (.int x12), some (.int x18), some (.int x19), some (.int x31)] dX7_live_98 (Nat.le_of_ble_eq_true rfl) rfl rfl ?_
        refine zs_iload dX7_live_100 rfl ?_
        refine zs_iload dX7_live_102 rfl ?_
        obtain ⟨x39, m41, h⟩ := zbind h
        have K40 : zWP RX7 cX7_live (zMB 9 (some .int) 7 Q) 114 [some (.ref 60), some (.int p1), some (.int p2), some (.int x10), some (.int x11), some (.int x12), none, some (.int x19), none] [.int x39] w32 := by
          refine zs_istore [some (.ref 60), some (.int p1), some (.int p2), some (.int x10), some (.int x11), some (.int x12), some (.int x39), some (.int x19), none] dX7_live_114 (Nat.le_of_ble_eq_true rfl) rfl rfl ?_
          refine zs_iinc (x19 + 1) [some (.ref 60), some (.int p1), some (.int p2), some (.int x10), some (.int x11), some (.int x12), some (.int x39), some (.int (x19 + 1)), none] dX7_live_116 rfl rfl (Nat.le_of_ble_eq_true rfl) rfl rfl ?_
          refine zs_goto 58 dX7_live_119 rfl ?_
          exact ih _ _ _ _ _ h K
        refine zs_icmp_le 112 dX7_live_104 rfl (fun c42 => ?_) (fun c42 => ?_)
        · replace m41 := zite_t c42 m41
          refine zs_iload dX7_live_112 rfl ?_
          refine zs_fo [true, true, true, true, true, true, false, true, false] rfl ?_
          obtain rfl := Option.some.inj m41
          exact K40
        · replace m41 := zite_f c42 m41
          refine zs_iload dX7_live_107 rfl ?_
          refine zs_goto 114 dX7_live_109 rfl ?_
          refine zs_fo [true, true, true, true, true, true, false, true, false] rfl ?_
          obtain rfl := Option.some.inj m41
          exact K40
      refine zs_if_eq 97 dX7_live_75 rfl (fun c43 => ?_) (fun c43 => ?_)
      · replace m34 := zite_t c43 m34
        refine zs_iconst (0 : Int32) dX7_live_97 ziconst_0 ?_
        obtain ⟨rfl, rfl⟩ := zpi2 m34
        exact K33
      · replace m34 := zite_f c43 m34
        refine zs_iload dX7_live_78 rfl ?_
        refine zs_ldc kX7_109 dX7_live_80 ?_
        refine zs_icmp_ge 97 dX7_live_82 rfl (fun c38 => ?_) (fun c38 => ?_)
        · replace m34 := zite_t c38 m34
          refine zs_iconst (0 : Int32) dX7_live_97 ziconst_0 ?_
          obtain ⟨rfl, rfl⟩ := zpi2 m34
          exact K33
        · replace m34 := zite_f c38 m34
          refine zs_aload_n dX7_live_85 rfl ?_
          refine zs_iload_n dX7_live_86 rfl ?_
          refine zs_iload dX7_live_87 rfl ?_
          refine zs_iload dX7_live_89 rfl ?_
          obtain ⟨v36, w37, e35, m34⟩ := zb2_inv m34
          refine zc_V3i moX7_back mvX7_back kX7_147 rfl dX7_live_91 za_60 (Nat.le_of_ble_eq_true rfl) (zrm (by decide)) (tX7_back e35) ?_
          refine zs_goto 98 dX7_live_94 rfl ?_
          obtain ⟨rfl, rfl⟩ := zpi2 m34
          exact K33
set_option maxRecDepth 100000 in
theorem tlX7_live_41 {p1 : Int32} {p2 : Int32}  {Q : Option Value → zW → Prop} : ∀ (n : Nat) (w13 : zW) (x10 : Int32) (x11 : Int32) (x12 : Int32) (y14 : Int32) (w15 : zW), lpX7_live_41 p1 p2 n w13 x10 x11 x12 = some (y14, w15) → zWP RX7 cX7_live (zMB 9 (some .int) 7 Q) 158 [some (.ref 60), none, none, some (.int y14), none, none, none, none, none] [] w15 → zWP RX7 cX7_live (zMB 9 (some .int) 7 Q) 41 [some (.ref 60), some (.int p1), some (.int p2), some (.int x10), some (.int x11), some (.int x12), none, none, none] [] w13 := by
  intro n
  induction n with
  | zero => intro w13 x10 x11 x12 y14 w15 h K; simp [lpX7_live_41] at h
  | succ n ih =>
    intro w13 x10 x11 x12 y14 w15 h K
    rw [lpX7_live_41] at h
    refine zs_iload dX7_live_41 rfl ?_
    refine zs_aload_n dX7_live_43 rfl ?_
    refine gX7_7 dX7_live_44 ?_
    refine zs_iconst (0 : Int32) dX7_live_47 ziconst_0 ?_
    obtain ⟨v16, e17, h⟩ := zbind h
    refine zs_iald dX7_live_48 za_61 e17 ?_
    refine zs_icmp_ge 158 dX7_live_49 rfl (fun c57 => ?_) (fun c57 => ?_)
    · replace h := zite_t c57 h
      refine zs_fo [true, false, false, true, false, false, false, false, false] rfl ?_
      obtain ⟨rfl, rfl⟩ := zpi2 h
      exact K
    · replace h := zite_f c57 h
      refine zs_iconst (0 : Int32) dX7_live_52 ziconst_0 ?_
      refine zs_istore [some (.ref 60), some (.int p1), some (.int p2), some (.int x10), some (.int x11), some (.int x12), some (.int (0 : Int32)), none, none] dX7_live_53 (Nat.le_of_ble_eq_true rfl) rfl rfl ?_
      refine zs_iconst (0 : Int32) dX7_live_55 ziconst_0 ?_
      refine zs_istore [some (.ref 60), some (.int p1), some (.int p2), some (.int x10), some (.int x11), some (.int x12), some (.int (0 : Int32)), some (.int (0 : Int32)), none] dX7_live_56 (Nat.le_of_ble_eq_true rfl) rfl rfl ?_
      obtain ⟨y47, w48, e45, h⟩ := zb2_inv h
      have K46 : zWP RX7 cX7_live (zMB 9 (some .int) 7 Q) 122 [some (.ref 60), some (.int p1), some (.int p2), some (.int x10), some (.int x11), some (.int x12), some (.int y47), none, none] [] w48 := by
        refine zs_iload dX7_live_122 rfl ?_
        refine zs_iload dX7_live_124 rfl ?_
        obtain ⟨x49, m51, h⟩ := zbind h
        have K50 : zWP RX7 cX7_live (zMB 9 (some .int) 7 Q) 135 [some (.ref 60), some (.int p1), some (.int p2), none, some (.int x11), some (.int x12), some (.int y47), none, none] [.int x49] w48 := by
          refine zs_istore_n [some (.ref 60), some (.int p1), some (.int p2), some (.int x49), some (.int x11), some (.int x12), some (.int y47), none, none] dX7_live_135 (Nat.le_of_ble_eq_true rfl) rfl rfl ?_
          refine zs_iload dX7_live_136 rfl ?_
          refine zs_iload dX7_live_138 rfl ?_
          obtain ⟨x52, m54, h⟩ := zbind h
          have K53 : zWP RX7 cX7_live (zMB 9 (some .int) 7 Q) 150 [some (.ref 60), some (.int p1), some (.int p2), some (.int x49), none, some (.int x12), none, none, none] [.int x52] w48 := by
            refine zs_istore [some (.ref 60), some (.int p1), some (.int p2), some (.int x49), some (.int x52), some (.int x12), none, none, none] dX7_live_150 (Nat.le_of_ble_eq_true rfl) rfl rfl ?_
            refine zs_iinc (x12 + 1) [some (.ref 60), some (.int p1), some (.int p2), some (.int x49), some (.int x52), some (.int (x12 + 1)), none, none, none] dX7_live_152 rfl rfl (Nat.le_of_ble_eq_true rfl) rfl rfl ?_
            refine zs_goto 41 dX7_live_155 rfl ?_
            exact ih _ _ _ _ _ _ h K
          refine zs_icmp_ge 148 dX7_live_140 rfl (fun c55 => ?_) (fun c55 => ?_)
          · replace m54 := zite_t c55 m54
            refine zs_iload dX7_live_148 rfl ?_
            refine zs_fo [true, true, true, true, false, true, false, false, false] rfl ?_
            obtain rfl := Option.some.inj m54
            exact K53
          · replace m54 := zite_f c55 m54
            refine zs_iload dX7_live_143 rfl ?_
            refine zs_goto 150 dX7_live_145 rfl ?_
            refine zs_fo [true, true, true, true, false, true, false, false, false] rfl ?_
            obtain rfl := Option.some.inj m54
            exact K53
        refine zs_icmp_ge 134 dX7_live_126 rfl (fun c56 => ?_) (fun c56 => ?_)
        · replace m51 := zite_t c56 m51
          refine zs_iload_n dX7_live_134 rfl ?_
          refine zs_fo [true, true, true, false, true, true, true, false, false] rfl ?_
          obtain rfl := Option.some.inj m51
          exact K50
        · replace m51 := zite_f c56 m51
          refine zs_iload dX7_live_129 rfl ?_
          refine zs_goto 135 dX7_live_131 rfl ?_
          refine zs_fo [true, true, true, false, true, true, true, false, false] rfl ?_
          obtain rfl := Option.some.inj m51
          exact K50
      exact tlX7_live_58  zF _ _ _ _ _ e45 K46
set_option maxRecDepth 100000 in
theorem tX7_live {w : zW} {p1 : Int32} {p2 : Int32}  {r : Int32} {w' : zW} (h : fX7_live w p1 p2 = some (r, w')) : zRun yX7_live cX7_live 9 (some .int) 7 [.ref 60, .int p1, .int p2] w (zI r w') := by
  refine zRun.of (k := 6) rfl rfl rfl ?_
  show zWP RX7 cX7_live (zMB 9 (some .int) 7 (zI r w')) 0 [some (.ref 60), some (.int p1), some (.int p2), none, none, none, none, none, none] [] w
  unfold fX7_live at h
  refine zs_iload_n dX7_live_0 rfl ?_
  obtain ⟨v2, e1, h⟩ := zbind h
  refine zc_S1i moX7_isKind mvX7_isKind kX7_100 dX7_live_1 (Nat.le_of_ble_eq_true rfl) (zrm (by decide)) (tX7_isKind e1) ?_
  refine zs_if_eq 25 dX7_live_4 rfl (fun c70 => ?_) (fun c70 => ?_)
  · replace h := zite_t c70 h
    refine zs_aload_n dX7_live_25 rfl ?_
    refine zs_ldc kX7_44 dX7_live_26 ?_
    obtain ⟨v4, w5, e3, h⟩ := zb2_inv h
    refine zc_V1i moX7_finds mvX7_finds kX7_49 rfl dX7_live_28 za_60 (Nat.le_of_ble_eq_true rfl) (zrm (by decide)) (tX7_finds e3) ?_
    obtain ⟨rfl, rfl⟩ := zpi2 h
    exact zs_iret dX7_live_31 ⟨rfl, rfl⟩
  · replace h := zite_f c70 h
    refine zs_iload_n dX7_live_7 rfl ?_
    refine zs_iconst (1 : Int32) dX7_live_8 ziconst_1 ?_
    refine zs_iconst (1 : Int32) dX7_live_9 ziconst_1 ?_
    refine zs_aload_n dX7_live_10 rfl ?_
    refine gX7_7 dX7_live_11 ?_
    refine zs_iconst (0 : Int32) dX7_live_14 ziconst_0 ?_
    obtain ⟨v6, e7, h⟩ := zbind h
    refine zs_iald dX7_live_15 za_61 e7 ?_
    refine zs_ishl dX7_live_16 ?_
    refine zs_iconst (1 : Int32) dX7_live_17 ziconst_1 ?_
    refine zs_isub dX7_live_18 ?_
    obtain ⟨v9, e8, h⟩ := zbind h
    refine zc_S3i moX7_in mvX7_in kX7_45 dX7_live_19 (Nat.le_of_ble_eq_true rfl) (zrm (by decide)) (tX7_in e8) ?_
    refine zs_if_ne 32 dX7_live_22 rfl (fun c69 => ?_) (fun c69 => ?_)
    · replace h := zite_f c69 h
      refine zs_iconst (-1 : Int32) dX7_live_32 ziconst_m1 ?_
      refine zs_istore_n [some (.ref 60), some (.int p1), some (.int p2), some (.int (-1 : Int32)), none, none, none, none, none] dX7_live_33 (Nat.le_of_ble_eq_true rfl) rfl rfl ?_
      refine zs_ldc kX7_109 dX7_live_34 ?_
      refine zs_istore [some (.ref 60), some (.int p1), some (.int p2), some (.int (-1 : Int32)), some (.int (1000000000 : Int32)), none, none, none, none] dX7_live_36 (Nat.le_of_ble_eq_true rfl) rfl rfl ?_
      refine zs_iconst (0 : Int32) dX7_live_38 ziconst_0 ?_
      refine zs_istore [some (.ref 60), some (.int p1), some (.int p2), some (.int (-1 : Int32)), some (.int (1000000000 : Int32)), some (.int (0 : Int32)), none, none, none] dX7_live_39 (Nat.le_of_ble_eq_true rfl) rfl rfl ?_
      obtain ⟨y60, w61, e58, h⟩ := zb2_inv h
      have K59 : zWP RX7 cX7_live (zMB 9 (some .int) 7 (zI r w')) 158 [some (.ref 60), none, none, some (.int y60), none, none, none, none, none] [] w61 := by
        refine zs_iload_n dX7_live_158 rfl ?_
        refine zs_if_ge 171 dX7_live_159 rfl (fun c65 => ?_) (fun c65 => ?_)
        · replace h := zite_t c65 h
          refine zs_iload_n dX7_live_171 rfl ?_
          obtain ⟨rfl, rfl⟩ := zpi2 h
          exact zs_iret dX7_live_172 ⟨rfl, rfl⟩
        · replace h := zite_f c65 h
          refine zs_aload_n dX7_live_162 rfl ?_
          refine zs_ldc kX7_92 dX7_live_163 ?_
          obtain ⟨v63, w64, e62, h⟩ := zb2_inv h
          refine zc_V1i moX7_finds mvX7_finds kX7_49 rfl dX7_live_165 za_60 (Nat.le_of_ble_eq_true rfl) (zrm (by decide)) (tX7_finds e62) ?_
          refine zs_goto 172 dX7_live_168 rfl ?_
          obtain ⟨rfl, rfl⟩ := zpi2 h
          exact zs_iret dX7_live_172 ⟨rfl, rfl⟩
      exact tlX7_live_41  zF _ _ _ _ _ _ e58 K59
    · replace h := zite_t c69 h
      refine zs_aload_n dX7_live_25 rfl ?_
      refine zs_ldc kX7_44 dX7_live_26 ?_
      obtain ⟨v67, w68, e66, h⟩ := zb2_inv h
      refine zc_V1i moX7_finds mvX7_finds kX7_49 rfl dX7_live_28 za_60 (Nat.le_of_ble_eq_true rfl) (zrm (by decide)) (tX7_finds e66) ?_
      obtain ⟨rfl, rfl⟩ := zpi2 h
      exact zs_iret dX7_live_31 ⟨rfl, rfl⟩
def fX7_wantNumber (w : zW) (p1 : Int32) (p2 : Int32) : Option (Int32 × zW) := Option.bind (some ((w.1 60 12))) fun x1 => Option.bind (if (w.1 60 13) = 0 then (some (0 : Int32)) else ((if (w.1 60 8) = (2 : Int32) then (Option.bind (fX7_in w x1 p1 p2) fun v11 => (if v11 = 0 then (some (0 : Int32)) else (some (1 : Int32)))) else (some (0 : Int32))))) fun x7 => Option.bind (zgb x7) fun b14 => Option.bind (some (zsf w 60 13 b14)) fun w16 => Option.bind (if (w16.1 60 13) = 0 then (some w16) else (Option.bind (fX7_advance w16) fun w24 => some w24)) fun w20 => some (x1, w20)
set_option maxRecDepth 100000 in
theorem tX7_wantNumber {w : zW} {p1 : Int32} {p2 : Int32}  {r : Int32} {w' : zW} (h : fX7_wantNumber w p1 p2 = some (r, w')) : zRun yX7_wantNumber cX7_wantNumber 4 (some .int) 3 [.ref 60, .int p1, .int p2] w (zI r w') := by
  refine zRun.of (k := 1) rfl rfl rfl ?_
  show zWP RX7 cX7_wantNumber (zMB 4 (some .int) 3 (zI r w')) 0 [some (.ref 60), some (.int p1), some (.int p2), none] [] w
  unfold fX7_wantNumber at h
  refine zs_aload_n dX7_wantNumber_0 rfl ?_
  refine gX7_229 dX7_wantNumber_1 ?_
  obtain ⟨x1, e2, h⟩ := zbind h
  refine zs_nmi (Option.some.inj e2) ?_
  refine zs_istore_n [some (.ref 60), some (.int p1), some (.int p2), some (.int x1)] dX7_wantNumber_4 (Nat.le_of_ble_eq_true rfl) rfl rfl ?_
  refine zs_aload_n dX7_wantNumber_5 rfl ?_
  refine zs_aload_n dX7_wantNumber_6 rfl ?_
  refine gX7_254 dX7_wantNumber_7 ?_
  obtain ⟨x7, m9, h⟩ := zbind h
  have K8 : zWP RX7 cX7_wantNumber (zMB 4 (some .int) 3 (zI r w')) 35 [some (.ref 60), none, none, some (.int x1)] [.int x7, .ref 60] w := by
    obtain ⟨b14, e15, h⟩ := zbind h
    refine zs_nmi (zgb_inv e15).2 ?_
    obtain ⟨w16, e17, h⟩ := zbind h
    refine pX7_254 (by have q := zgb_inv e15; exact q.2 ▸ q.1) dX7_wantNumber_35 ?_
    refine zs_nmw (Option.some.inj e17) ?_
    refine zs_aload_n dX7_wantNumber_38 rfl ?_
    refine gX7_254 dX7_wantNumber_39 ?_
    obtain ⟨w20, m22, h⟩ := zbind h
    have K21 : zWP RX7 cX7_wantNumber (zMB 4 (some .int) 3 (zI r w')) 49 [none, none, none, some (.int x1)] [] w20 := by
      refine zs_iload_n dX7_wantNumber_49 rfl ?_
      obtain ⟨rfl, rfl⟩ := zpi2 h
      exact zs_iret dX7_wantNumber_50 ⟨rfl, rfl⟩
    refine zs_if_eq 49 dX7_wantNumber_42 rfl (fun c25 => ?_) (fun c25 => ?_)
    · replace m22 := zite_t c25 m22
      refine zs_fo [false, false, false, true] rfl ?_
      obtain rfl := Option.some.inj m22
      exact K21
    · replace m22 := zite_f c25 m22
      refine zs_aload_n dX7_wantNumber_45 rfl ?_
      obtain ⟨w24, e23, m22⟩ := zbind m22
      refine zc_V0v moX7_advance mvX7_advance kX7_258 rfl dX7_wantNumber_46 za_60 (Nat.le_of_ble_eq_true rfl) (zrm (by decide)) (tX7_advance e23) ?_
      refine zs_fo [false, false, false, true] rfl ?_
      obtain rfl := Option.some.inj m22
      exact K21
  refine zs_if_eq 34 dX7_wantNumber_10 rfl (fun c26 => ?_) (fun c26 => ?_)
  · replace m9 := zite_t c26 m9
    refine zs_iconst (0 : Int32) dX7_wantNumber_34 ziconst_0 ?_
    refine zs_fo [true, false, false, true] rfl ?_
    obtain rfl := Option.some.inj m9
    exact K8
  · replace m9 := zite_f c26 m9
    refine zs_aload_n dX7_wantNumber_13 rfl ?_
    refine gX7_222 dX7_wantNumber_14 ?_
    refine zs_iconst (2 : Int32) dX7_wantNumber_17 ziconst_2 ?_
    refine zs_icmp_ne 34 dX7_wantNumber_18 rfl (fun c13 => ?_) (fun c13 => ?_)
    · replace m9 := zite_f c13 m9
      refine zs_iconst (0 : Int32) dX7_wantNumber_34 ziconst_0 ?_
      refine zs_fo [true, false, false, true] rfl ?_
      obtain rfl := Option.some.inj m9
      exact K8
    · replace m9 := zite_t c13 m9
      refine zs_iload_n dX7_wantNumber_21 rfl ?_
      refine zs_iload_n dX7_wantNumber_22 rfl ?_
      refine zs_iload_n dX7_wantNumber_23 rfl ?_
      obtain ⟨v11, e10, m9⟩ := zbind m9
      refine zc_S3i moX7_in mvX7_in kX7_45 dX7_wantNumber_24 (Nat.le_of_ble_eq_true rfl) (zrm (by decide)) (tX7_in e10) ?_
      refine zs_if_eq 34 dX7_wantNumber_27 rfl (fun c12 => ?_) (fun c12 => ?_)
      · replace m9 := zite_t c12 m9
        refine zs_iconst (0 : Int32) dX7_wantNumber_34 ziconst_0 ?_
        refine zs_fo [true, false, false, true] rfl ?_
        obtain rfl := Option.some.inj m9
        exact K8
      · replace m9 := zite_f c12 m9
        refine zs_iconst (1 : Int32) dX7_wantNumber_30 ziconst_1 ?_
        refine zs_goto 35 dX7_wantNumber_31 rfl ?_
        refine zs_fo [true, false, false, true] rfl ?_
        obtain rfl := Option.some.inj m9
        exact K8
def fX7_mayWant (w : zW) (p1 : Int64) (p3 : Int32) (p4 : Int32) (p5 : Int32) : Option (Int32 × zW) := (if (w.1 60 13) = 0 then (some (p5, w)) else (Option.bind (fX7_isWord w p1) fun v2 => (if v2 = 0 then (some (p5, w)) else (Option.bind (fX7_advance w) fun w4 => zb2 (fX7_wantNumber w4 p3 p4) fun v6 w7 => some (v6, w7)))))
set_option maxRecDepth 100000 in
theorem tX7_mayWant {w : zW} {p1 : Int64} {p3 : Int32} {p4 : Int32} {p5 : Int32}  {r : Int32} {w' : zW} (h : fX7_mayWant w p1 p3 p4 p5 = some (r, w')) : zRun yX7_mayWant cX7_mayWant 6 (some .int) 4 [.ref 60, .long p1, .int p3, .int p4, .int p5] w (zI r w') := by
  refine zRun.of (k := 0) rfl rfl rfl ?_
  show zWP RX7 cX7_mayWant (zMB 6 (some .int) 4 (zI r w')) 0 [some (.ref 60), some (.long p1), none, some (.int p3), some (.int p4), some (.int p5)] [] w
  unfold fX7_mayWant at h
  refine zs_aload_n dX7_mayWant_0 rfl ?_
  refine gX7_254 dX7_mayWant_1 ?_
  refine zs_if_eq 15 dX7_mayWant_4 rfl (fun c9 => ?_) (fun c9 => ?_)
  · replace h := zite_t c9 h
    refine zs_iload dX7_mayWant_15 rfl ?_
    obtain ⟨rfl, rfl⟩ := zpi2 h
    exact zs_iret dX7_mayWant_17 ⟨rfl, rfl⟩
  · replace h := zite_f c9 h
    refine zs_aload_n dX7_mayWant_7 rfl ?_
    refine zs_lload_n dX7_mayWant_8 rfl ?_
    obtain ⟨v2, e1, h⟩ := zbind h
    refine zc_V1i moX7_isWord mvX7_isWord kX7_240 rfl dX7_mayWant_9 za_60 (Nat.le_of_ble_eq_true rfl) (zrm (by decide)) (tX7_isWord e1) ?_
    refine zs_if_ne 18 dX7_mayWant_12 rfl (fun c8 => ?_) (fun c8 => ?_)
    · replace h := zite_f c8 h
      refine zs_aload_n dX7_mayWant_18 rfl ?_
      obtain ⟨w4, e3, h⟩ := zbind h
      refine zc_V0v moX7_advance mvX7_advance kX7_258 rfl dX7_mayWant_19 za_60 (Nat.le_of_ble_eq_true rfl) (zrm (by decide)) (tX7_advance e3) ?_
      refine zs_aload_n dX7_mayWant_22 rfl ?_
      refine zs_iload_n dX7_mayWant_23 rfl ?_
      refine zs_iload dX7_mayWant_24 rfl ?_
      obtain ⟨v6, w7, e5, h⟩ := zb2_inv h
      refine zc_V2i moX7_wantNumber mvX7_wantNumber kX7_261 rfl dX7_mayWant_26 za_60 (Nat.le_of_ble_eq_true rfl) (zrm (by decide)) (tX7_wantNumber e5) ?_
      obtain ⟨rfl, rfl⟩ := zpi2 h
      exact zs_iret dX7_mayWant_29 ⟨rfl, rfl⟩
    · replace h := zite_t c8 h
      refine zs_iload dX7_mayWant_15 rfl ?_
      obtain ⟨rfl, rfl⟩ := zpi2 h
      exact zs_iret dX7_mayWant_17 ⟨rfl, rfl⟩
def fX7_narrow (w : zW) (p0 : Int32) (p1 : Int64) : Option Int64 := (if p0 = (8 : Int32) then (some ((p1 <<< ((56 : Int32).toInt64 &&& 63)) >>> ((56 : Int32).toInt64 &&& 63))) else ((if p0 = (16 : Int32) then (some ((p1 <<< ((48 : Int32).toInt64 &&& 63)) >>> ((48 : Int32).toInt64 &&& 63))) else (some p1))))
set_option maxRecDepth 100000 in
theorem tX7_narrow {w : zW} {p0 : Int32} {p1 : Int64}  {r : Int64} (h : fX7_narrow w p0 p1 = some r) : zRun yX7_narrow cX7_narrow 3 (some .long) 0 [.int p0, .long p1] w (zJ r w) := by
  refine zRun.of (k := 0) rfl rfl rfl ?_
  show zWP RX7 cX7_narrow (zMB 3 (some .long) 0 (zJ r w)) 0 [some (.int p0), some (.long p1), none] [] w
  unfold fX7_narrow at h
  refine zs_iload_n dX7_narrow_0 rfl ?_
  refine zs_bipush (8 : Int32) dX7_narrow_1 zbipush_8 ?_
  refine zs_icmp_ne 16 dX7_narrow_3 rfl (fun c2 => ?_) (fun c2 => ?_)
  · replace h := zite_f c2 h
    refine zs_iload_n dX7_narrow_16 rfl ?_
    refine zs_bipush (16 : Int32) dX7_narrow_17 zbipush_16 ?_
    refine zs_icmp_ne 32 dX7_narrow_19 rfl (fun c1 => ?_) (fun c1 => ?_)
    · replace h := zite_f c1 h
      refine zs_lload_n dX7_narrow_32 rfl ?_
      obtain rfl := Option.some.inj h
      exact zs_lret dX7_narrow_33 ⟨rfl, rfl⟩
    · replace h := zite_t c1 h
      refine zs_lload_n dX7_narrow_22 rfl ?_
      refine zs_bipush (48 : Int32) dX7_narrow_23 zbipush_48 ?_
      refine zs_lshl dX7_narrow_25 ?_
      refine zs_bipush (48 : Int32) dX7_narrow_26 zbipush_48 ?_
      refine zs_lshr dX7_narrow_28 ?_
      refine zs_goto 33 dX7_narrow_29 rfl ?_
      obtain rfl := Option.some.inj h
      exact zs_lret dX7_narrow_33 ⟨rfl, rfl⟩
  · replace h := zite_t c2 h
    refine zs_lload_n dX7_narrow_6 rfl ?_
    refine zs_bipush (56 : Int32) dX7_narrow_7 zbipush_56 ?_
    refine zs_lshl dX7_narrow_9 ?_
    refine zs_bipush (56 : Int32) dX7_narrow_10 zbipush_56 ?_
    refine zs_lshr dX7_narrow_12 ?_
    refine zs_goto 33 dX7_narrow_13 rfl ?_
    obtain rfl := Option.some.inj h
    exact zs_lret dX7_narrow_33 ⟨rfl, rfl⟩
def fX7_needs (w : zW) (p1 : Int32) (p2 : Int32) : Option (Int32 × zW) := Option.bind (fX7_isKind w p1) fun v2 => (if v2 = 0 then (zb2 (fX7_finds w (-1000000001 : Int32)) fun v4 w5 => some (v4, w5)) else (Option.bind (fX7_isRoad w p2) fun v7 => (if v7 = 0 then (zb2 (fX7_finds w (-1000000001 : Int32)) fun v9 w10 => some (v9, w10)) else (Option.bind (fX7_end w p2 (2 : Int32)) fun v12 => Option.bind (fX7_needsOf w p1 v12) fun v14 => some (v14, w)))))
set_option maxRecDepth 100000 in
theorem tX7_needs {w : zW} {p1 : Int32} {p2 : Int32}  {r : Int32} {w' : zW} (h : fX7_needs w p1 p2 = some (r, w')) : zRun yX7_needs cX7_needs 3 (some .int) 2 [.ref 60, .int p1, .int p2] w (zI r w') := by
  refine zRun.of (k := 0) rfl rfl rfl ?_
  show zWP RX7 cX7_needs (zMB 3 (some .int) 2 (zI r w')) 0 [some (.ref 60), some (.int p1), some (.int p2)] [] w
  unfold fX7_needs at h
  refine zs_iload_n dX7_needs_0 rfl ?_
  obtain ⟨v2, e1, h⟩ := zbind h
  refine zc_S1i moX7_isKind mvX7_isKind kX7_100 dX7_needs_1 (Nat.le_of_ble_eq_true rfl) (zrm (by decide)) (tX7_isKind e1) ?_
  refine zs_if_eq 29 dX7_needs_4 rfl (fun c16 => ?_) (fun c16 => ?_)
  · replace h := zite_t c16 h
    refine zs_aload_n dX7_needs_29 rfl ?_
    refine zs_ldc kX7_44 dX7_needs_30 ?_
    obtain ⟨v4, w5, e3, h⟩ := zb2_inv h
    refine zc_V1i moX7_finds mvX7_finds kX7_49 rfl dX7_needs_32 za_60 (Nat.le_of_ble_eq_true rfl) (zrm (by decide)) (tX7_finds e3) ?_
    obtain ⟨rfl, rfl⟩ := zpi2 h
    exact zs_iret dX7_needs_35 ⟨rfl, rfl⟩
  · replace h := zite_f c16 h
    refine zs_aload_n dX7_needs_7 rfl ?_
    refine zs_iload_n dX7_needs_8 rfl ?_
    obtain ⟨v7, e6, h⟩ := zbind h
    refine zc_V1i moX7_isRoad mvX7_isRoad kX7_89 rfl dX7_needs_9 za_60 (Nat.le_of_ble_eq_true rfl) (zrm (by decide)) (tX7_isRoad e6) ?_
    refine zs_if_eq 29 dX7_needs_12 rfl (fun c15 => ?_) (fun c15 => ?_)
    · replace h := zite_t c15 h
      refine zs_aload_n dX7_needs_29 rfl ?_
      refine zs_ldc kX7_44 dX7_needs_30 ?_
      obtain ⟨v9, w10, e8, h⟩ := zb2_inv h
      refine zc_V1i moX7_finds mvX7_finds kX7_49 rfl dX7_needs_32 za_60 (Nat.le_of_ble_eq_true rfl) (zrm (by decide)) (tX7_finds e8) ?_
      obtain ⟨rfl, rfl⟩ := zpi2 h
      exact zs_iret dX7_needs_35 ⟨rfl, rfl⟩
    · replace h := zite_f c15 h
      refine zs_aload_n dX7_needs_15 rfl ?_
      refine zs_iload_n dX7_needs_16 rfl ?_
      refine zs_aload_n dX7_needs_17 rfl ?_
      refine zs_iload_n dX7_needs_18 rfl ?_
      refine zs_iconst (2 : Int32) dX7_needs_19 ziconst_2 ?_
      obtain ⟨v12, e11, h⟩ := zbind h
      refine zc_V2i moX7_end mvX7_end kX7_58 rfl dX7_needs_20 za_60 (Nat.le_of_ble_eq_true rfl) (zrm (by decide)) (tX7_end e11) ?_
      obtain ⟨v14, e13, h⟩ := zbind h
      refine zc_V2i moX7_needsOf mvX7_needsOf kX7_103 rfl dX7_needs_23 za_60 (Nat.le_of_ble_eq_true rfl) (zrm (by decide)) (tX7_needsOf e13) ?_
      refine zs_goto 35 dX7_needs_26 rfl ?_
      obtain ⟨rfl, rfl⟩ := zpi2 h
      exact zs_iret dX7_needs_35 ⟨rfl, rfl⟩
def fX7_next (w : zW) (p1 : Int32) : Option (Int32 × zW) := Option.bind (fX7_isPost w p1) fun v2 => (if v2 = 0 then (zb2 (fX7_finds w (-1000000001 : Int32)) fun v12 w13 => some (v12, w13)) else (Option.bind (fX7_its w p1 (4 : Int32)) fun v4 => (if v4 ≤ 0 then (Option.bind (fX7_findWay w p1) fun w6 => some ((w6.1 60 3), w6)) else (zb2 (fX7_finds w (-1000000005 : Int32)) fun v8 w9 => some (v8, w9)))))
set_option maxRecDepth 100000 in
theorem tX7_next {w : zW} {p1 : Int32}  {r : Int32} {w' : zW} (h : fX7_next w p1 = some (r, w')) : zRun yX7_next cX7_next 2 (some .int) 8 [.ref 60, .int p1] w (zI r w') := by
  refine zRun.of (k := 0) rfl rfl rfl ?_
  show zWP RX7 cX7_next (zMB 2 (some .int) 8 (zI r w')) 0 [some (.ref 60), some (.int p1)] [] w
  unfold fX7_next at h
  refine zs_aload_n dX7_next_0 rfl ?_
  refine zs_iload_n dX7_next_1 rfl ?_
  obtain ⟨v2, e1, h⟩ := zbind h
  refine zc_V1i moX7_isPost mvX7_isPost kX7_163 rfl dX7_next_2 za_60 (Nat.le_of_ble_eq_true rfl) (zrm (by decide)) (tX7_isPost e1) ?_
  refine zs_if_ne 15 dX7_next_5 rfl (fun c14 => ?_) (fun c14 => ?_)
  · replace h := zite_f c14 h
    refine zs_aload_n dX7_next_15 rfl ?_
    refine zs_iload_n dX7_next_16 rfl ?_
    refine zs_iconst (4 : Int32) dX7_next_17 ziconst_4 ?_
    obtain ⟨v4, e3, h⟩ := zbind h
    refine zc_V2i moX7_its mvX7_its kX7_62 rfl dX7_next_18 za_60 (Nat.le_of_ble_eq_true rfl) (zrm (by decide)) (tX7_its e3) ?_
    refine zs_if_le 31 dX7_next_21 rfl (fun c10 => ?_) (fun c10 => ?_)
    · replace h := zite_t c10 h
      refine zs_aload_n dX7_next_31 rfl ?_
      refine zs_iload_n dX7_next_32 rfl ?_
      obtain ⟨w6, e5, h⟩ := zbind h
      refine zc_V1v moX7_findWay mvX7_findWay kX7_184 rfl dX7_next_33 za_60 (Nat.le_of_ble_eq_true rfl) (zrm (by decide)) (tX7_findWay e5) ?_
      refine zs_aload_n dX7_next_36 rfl ?_
      refine gX7_173 dX7_next_37 ?_
      obtain ⟨rfl, rfl⟩ := zpi2 h
      exact zs_iret dX7_next_40 ⟨rfl, rfl⟩
    · replace h := zite_f c10 h
      refine zs_aload_n dX7_next_24 rfl ?_
      refine zs_ldc kX7_84 dX7_next_25 ?_
      obtain ⟨v8, w9, e7, h⟩ := zb2_inv h
      refine zc_V1i moX7_finds mvX7_finds kX7_49 rfl dX7_next_27 za_60 (Nat.le_of_ble_eq_true rfl) (zrm (by decide)) (tX7_finds e7) ?_
      obtain ⟨rfl, rfl⟩ := zpi2 h
      exact zs_iret dX7_next_30 ⟨rfl, rfl⟩
  · replace h := zite_t c14 h
    refine zs_aload_n dX7_next_8 rfl ?_
    refine zs_ldc kX7_44 dX7_next_9 ?_
    obtain ⟨v12, w13, e11, h⟩ := zb2_inv h
    refine zc_V1i moX7_finds mvX7_finds kX7_49 rfl dX7_next_11 za_60 (Nat.le_of_ble_eq_true rfl) (zrm (by decide)) (tX7_finds e11) ?_
    obtain ⟨rfl, rfl⟩ := zpi2 h
    exact zs_iret dX7_next_14 ⟨rfl, rfl⟩
def lpX7_onTheirWay_4 (w : zW) : Nat → Int32 → Int32 → Option Int32
  | 0, _, _ => none
  | n + 1, x1, x2 => Option.bind (zrd w 61 151 (2 : Int32)) fun v4 => (if v4 ≤ x2 then (some x1) else (Option.bind (fX7_its w x2 (4 : Int32)) fun v7 => Option.bind (if v7 ≤ 0 then (some (0 : Int32)) else (some (1 : Int32))) fun x8 => Option.bind (some ((x1 + x8))) fun x11 => lpX7_onTheirWay_4 w n x11 (x2 + 1)))
def fX7_onTheirWay (w : zW)  : Option Int32 := Option.bind (lpX7_onTheirWay_4 w zF (0 : Int32) (0 : Int32)) fun y17 => some y17
set_option maxRecDepth 100000 in
theorem tlX7_onTheirWay_4 {w : zW}  {Q : Option Value → zW → Prop} : ∀ (n : Nat) (x1 : Int32) (x2 : Int32) (y3 : Int32), lpX7_onTheirWay_4 w n x1 x2 = some y3 → zWP RX7 cX7_onTheirWay (zMB 3 (some .int) 1 Q) 37 [none, some (.int y3), none] [] w → zWP RX7 cX7_onTheirWay (zMB 3 (some .int) 1 Q) 4 [some (.ref 60), some (.int x1), some (.int x2)] [] w := by
  intro n
  induction n with
  | zero => intro x1 x2 y3 h K; simp [lpX7_onTheirWay_4] at h
  | succ n ih =>
    intro x1 x2 y3 h K
    rw [lpX7_onTheirWay_4] at h
    refine zs_iload_n dX7_onTheirWay_4 rfl ?_
    refine zs_aload_n dX7_onTheirWay_5 rfl ?_
    refine gX7_7 dX7_onTheirWay_6 ?_
    refine zs_iconst (2 : Int32) dX7_onTheirWay_9 ziconst_2 ?_
    obtain ⟨v4, e5, h⟩ := zbind h
    refine zs_iald dX7_onTheirWay_10 za_61 e5 ?_
    refine zs_icmp_ge 37 dX7_onTheirWay_11 rfl (fun c14 => ?_) (fun c14 => ?_)
    · replace h := zite_t c14 h
      refine zs_fo [false, true, false] rfl ?_
      obtain rfl := Option.some.inj h
      exact K
    · replace h := zite_f c14 h
      refine zs_iload_n dX7_onTheirWay_14 rfl ?_
      refine zs_aload_n dX7_onTheirWay_15 rfl ?_
      refine zs_iload_n dX7_onTheirWay_16 rfl ?_
      refine zs_iconst (4 : Int32) dX7_onTheirWay_17 ziconst_4 ?_
      obtain ⟨v7, e6, h⟩ := zbind h
      refine zc_V2i moX7_its mvX7_its kX7_62 rfl dX7_onTheirWay_18 za_60 (Nat.le_of_ble_eq_true rfl) (zrm (by decide)) (tX7_its e6) ?_
      obtain ⟨x8, m10, h⟩ := zbind h
      have K9 : zWP RX7 cX7_onTheirWay (zMB 3 (some .int) 1 Q) 29 [some (.ref 60), none, some (.int x2)] [.int x8, .int x1] w := by
        refine zs_iadd dX7_onTheirWay_29 ?_
        obtain ⟨x11, e12, h⟩ := zbind h
        refine zs_nmi (Option.some.inj e12) ?_
        refine zs_istore_n [some (.ref 60), some (.int x11), some (.int x2)] dX7_onTheirWay_30 (Nat.le_of_ble_eq_true rfl) rfl rfl ?_
        refine zs_iinc (x2 + 1) [some (.ref 60), some (.int x11), some (.int (x2 + 1))] dX7_onTheirWay_31 rfl rfl (Nat.le_of_ble_eq_true rfl) rfl rfl ?_
        refine zs_goto 4 dX7_onTheirWay_34 rfl ?_
        exact ih _ _ _ h K
      refine zs_if_le 28 dX7_onTheirWay_21 rfl (fun c13 => ?_) (fun c13 => ?_)
      · replace m10 := zite_t c13 m10
        refine zs_iconst (0 : Int32) dX7_onTheirWay_28 ziconst_0 ?_
        refine zs_fo [true, false, true] rfl ?_
        obtain rfl := Option.some.inj m10
        exact K9
      · replace m10 := zite_f c13 m10
        refine zs_iconst (1 : Int32) dX7_onTheirWay_24 ziconst_1 ?_
        refine zs_goto 29 dX7_onTheirWay_25 rfl ?_
        refine zs_fo [true, false, true] rfl ?_
        obtain rfl := Option.some.inj m10
        exact K9
set_option maxRecDepth 100000 in
theorem tX7_onTheirWay {w : zW}   {r : Int32} (h : fX7_onTheirWay w  = some r) : zRun yX7_onTheirWay cX7_onTheirWay 3 (some .int) 1 [.ref 60] w (zI r w) := by
  refine zRun.of (k := 2) rfl rfl rfl ?_
  show zWP RX7 cX7_onTheirWay (zMB 3 (some .int) 1 (zI r w)) 0 [some (.ref 60), none, none] [] w
  unfold fX7_onTheirWay at h
  refine zs_iconst (0 : Int32) dX7_onTheirWay_0 ziconst_0 ?_
  refine zs_istore_n [some (.ref 60), some (.int (0 : Int32)), none] dX7_onTheirWay_1 (Nat.le_of_ble_eq_true rfl) rfl rfl ?_
  refine zs_iconst (0 : Int32) dX7_onTheirWay_2 ziconst_0 ?_
  refine zs_istore_n [some (.ref 60), some (.int (0 : Int32)), some (.int (0 : Int32))] dX7_onTheirWay_3 (Nat.le_of_ble_eq_true rfl) rfl rfl ?_
  obtain ⟨y17, e15, h⟩ := zbind h
  have K16 : zWP RX7 cX7_onTheirWay (zMB 3 (some .int) 1 (zI r w)) 37 [none, some (.int y17), none] [] w := by
    refine zs_iload_n dX7_onTheirWay_37 rfl ?_
    obtain rfl := Option.some.inj h
    exact zs_iret dX7_onTheirWay_38 ⟨rfl, rfl⟩
  exact tlX7_onTheirWay_4  zF _ _ _ e15 K16
def fX7_now (w : zW) (p1 : Int32) : Option (Int32 × zW) := (if p1 = 0 then (Option.bind (zrd w 61 151 (4 : Int32)) fun v6 => some (v6, w)) else (if p1 = 1 then (Option.bind (zrd w 61 151 (3 : Int32)) fun v8 => some (v8, w)) else (if p1 = 2 then (Option.bind (fX7_allThere w) fun v11 => Option.bind (fX7_ones w v11) fun v13 => some (v13, w)) else (if p1 = 3 then (Option.bind (fX7_onTheirWay w) fun v15 => some (v15, w)) else (if p1 = 4 then (Option.bind (zrd w 61 151 (2 : Int32)) fun v16 => Option.bind (fX7_onTheirWay w) fun v19 => Option.bind (fX7_allThere w) fun v21 => Option.bind (fX7_ones w v21) fun v23 => some (((v16 - v19) - v23), w)) else (zb2 (fX7_finds w (-1000000001 : Int32)) fun v25 w26 => some (v25, w26)))))))
set_option maxRecDepth 100000 in
theorem tX7_now {w : zW} {p1 : Int32}  {r : Int32} {w' : zW} (h : fX7_now w p1 = some (r, w')) : zRun yX7_now cX7_now 2 (some .int) 3 [.ref 60, .int p1] w (zI r w') := by
  refine zRun.of (k := 0) rfl rfl rfl ?_
  show zWP RX7 cX7_now (zMB 2 (some .int) 3 (zI r w')) 0 [some (.ref 60), some (.int p1)] [] w
  unfold fX7_now at h
  refine zs_iload_n dX7_now_0 rfl ?_
  by_cases c1 : p1 = 0
  · replace h := zite_t c1 h
    refine zs_tswIn (0 : Int32) 36 dX7_now_1 c1 (by decide) (by decide) rfl rfl ?_
    refine zs_aload_n dX7_now_36 rfl ?_
    refine gX7_7 dX7_now_37 ?_
    refine zs_iconst (4 : Int32) dX7_now_40 ziconst_4 ?_
    obtain ⟨v6, e7, h⟩ := zbind h
    refine zs_iald dX7_now_41 za_61 e7 ?_
    obtain ⟨rfl, rfl⟩ := zpi2 h
    exact zs_iret dX7_now_42 ⟨rfl, rfl⟩
  · replace h := zite_f c1 h
    by_cases c2 : p1 = 1
    · replace h := zite_t c2 h
      refine zs_tswIn (1 : Int32) 43 dX7_now_1 c2 (by decide) (by decide) rfl rfl ?_
      refine zs_aload_n dX7_now_43 rfl ?_
      refine gX7_7 dX7_now_44 ?_
      refine zs_iconst (3 : Int32) dX7_now_47 ziconst_3 ?_
      obtain ⟨v8, e9, h⟩ := zbind h
      refine zs_iald dX7_now_48 za_61 e9 ?_
      obtain ⟨rfl, rfl⟩ := zpi2 h
      exact zs_iret dX7_now_49 ⟨rfl, rfl⟩
    · replace h := zite_f c2 h
      by_cases c3 : p1 = 2
      · replace h := zite_t c3 h
        refine zs_tswIn (2 : Int32) 50 dX7_now_1 c3 (by decide) (by decide) rfl rfl ?_
        refine zs_aload_n dX7_now_50 rfl ?_
        obtain ⟨v11, e10, h⟩ := zbind h
        refine zc_V0i moX7_allThere mvX7_allThere kX7_188 rfl dX7_now_51 za_60 (Nat.le_of_ble_eq_true rfl) (zrm (by decide)) (tX7_allThere e10) ?_
        obtain ⟨v13, e12, h⟩ := zbind h
        refine zc_S1i moX7_ones mvX7_ones kX7_151 dX7_now_54 (Nat.le_of_ble_eq_true rfl) (zrm (by decide)) (tX7_ones e12) ?_
        obtain ⟨rfl, rfl⟩ := zpi2 h
        exact zs_iret dX7_now_57 ⟨rfl, rfl⟩
      · replace h := zite_f c3 h
        by_cases c4 : p1 = 3
        · replace h := zite_t c4 h
          refine zs_tswIn (3 : Int32) 58 dX7_now_1 c4 (by decide) (by decide) rfl rfl ?_
          refine zs_aload_n dX7_now_58 rfl ?_
          obtain ⟨v15, e14, h⟩ := zbind h
          refine zc_V0i moX7_onTheirWay mvX7_onTheirWay kX7_194 rfl dX7_now_59 za_60 (Nat.le_of_ble_eq_true rfl) (zrm (by decide)) (tX7_onTheirWay e14) ?_
          obtain ⟨rfl, rfl⟩ := zpi2 h
          exact zs_iret dX7_now_62 ⟨rfl, rfl⟩
        · replace h := zite_f c4 h
          by_cases c5 : p1 = 4
          · replace h := zite_t c5 h
            refine zs_tswIn (4 : Int32) 63 dX7_now_1 c5 (by decide) (by decide) rfl rfl ?_
            refine zs_aload_n dX7_now_63 rfl ?_
            refine gX7_7 dX7_now_64 ?_
            refine zs_iconst (2 : Int32) dX7_now_67 ziconst_2 ?_
            obtain ⟨v16, e17, h⟩ := zbind h
            refine zs_iald dX7_now_68 za_61 e17 ?_
            refine zs_aload_n dX7_now_69 rfl ?_
            obtain ⟨v19, e18, h⟩ := zbind h
            refine zc_V0i moX7_onTheirWay mvX7_onTheirWay kX7_194 rfl dX7_now_70 za_60 (Nat.le_of_ble_eq_true rfl) (zrm (by decide)) (tX7_onTheirWay e18) ?_
            refine zs_isub dX7_now_73 ?_
            refine zs_aload_n dX7_now_74 rfl ?_
            obtain ⟨v21, e20, h⟩ := zbind h
            refine zc_V0i moX7_allThere mvX7_allThere kX7_188 rfl dX7_now_75 za_60 (Nat.le_of_ble_eq_true rfl) (zrm (by decide)) (tX7_allThere e20) ?_
            obtain ⟨v23, e22, h⟩ := zbind h
            refine zc_S1i moX7_ones mvX7_ones kX7_151 dX7_now_78 (Nat.le_of_ble_eq_true rfl) (zrm (by decide)) (tX7_ones e22) ?_
            refine zs_isub dX7_now_81 ?_
            obtain ⟨rfl, rfl⟩ := zpi2 h
            exact zs_iret dX7_now_82 ⟨rfl, rfl⟩
          · replace h := zite_f c5 h
            refine zs_tswOut 83 dX7_now_1 (by have q := zout (x := p1) (n := 5) (lo := 0) (fun i hi => by match i, hi with | 0, _ => exact c1 | 1, _ => exact c2 | 2, _ => exact c3 | 3, _ => exact c4 | 4, _ => exact c5); omega) rfl ?_
            refine zs_aload_n dX7_now_83 rfl ?_
            refine zs_ldc kX7_44 dX7_now_84 ?_
            obtain ⟨v25, w26, e24, h⟩ := zb2_inv h
            refine zc_V1i moX7_finds mvX7_finds kX7_49 rfl dX7_now_86 za_60 (Nat.le_of_ble_eq_true rfl) (zrm (by decide)) (tX7_finds e24) ?_
            obtain ⟨rfl, rfl⟩ := zpi2 h
            exact zs_iret dX7_now_89 ⟨rfl, rfl⟩
def fX7_of (w : zW) (p1 : Int32) (p2 : Int32) : Option (Int32 × zW) := Option.bind (fX7_isPost w p1) fun v2 => (if v2 = 0 then (zb2 (fX7_finds w (-1000000001 : Int32)) fun v4 w5 => some (v4, w5)) else (Option.bind (fX7_in w p2 (0 : Int32) (5 : Int32)) fun v7 => (if v7 = 0 then (zb2 (fX7_finds w (-1000000001 : Int32)) fun v15 w16 => some (v15, w16)) else ((if (5 : Int32) ≤ p2 then (Option.bind (fX7_isThere w p1) fun v9 => (if v9 = 0 then (some ((0 : Int32), w)) else (some ((1 : Int32), w)))) else (Option.bind (fX7_its w p1 p2) fun v12 => some (v12, w)))))))
set_option maxRecDepth 100000 in
theorem tX7_of {w : zW} {p1 : Int32} {p2 : Int32}  {r : Int32} {w' : zW} (h : fX7_of w p1 p2 = some (r, w')) : zRun yX7_of cX7_of 3 (some .int) 2 [.ref 60, .int p1, .int p2] w (zI r w') := by
  refine zRun.of (k := 0) rfl rfl rfl ?_
  show zWP RX7 cX7_of (zMB 3 (some .int) 2 (zI r w')) 0 [some (.ref 60), some (.int p1), some (.int p2)] [] w
  unfold fX7_of at h
  refine zs_aload_n dX7_of_0 rfl ?_
  refine zs_iload_n dX7_of_1 rfl ?_
  obtain ⟨v2, e1, h⟩ := zbind h
  refine zc_V1i moX7_isPost mvX7_isPost kX7_163 rfl dX7_of_2 za_60 (Nat.le_of_ble_eq_true rfl) (zrm (by decide)) (tX7_isPost e1) ?_
  refine zs_if_eq 17 dX7_of_5 rfl (fun c18 => ?_) (fun c18 => ?_)
  · replace h := zite_t c18 h
    refine zs_aload_n dX7_of_17 rfl ?_
    refine zs_ldc kX7_44 dX7_of_18 ?_
    obtain ⟨v4, w5, e3, h⟩ := zb2_inv h
    refine zc_V1i moX7_finds mvX7_finds kX7_49 rfl dX7_of_20 za_60 (Nat.le_of_ble_eq_true rfl) (zrm (by decide)) (tX7_finds e3) ?_
    obtain ⟨rfl, rfl⟩ := zpi2 h
    exact zs_iret dX7_of_23 ⟨rfl, rfl⟩
  · replace h := zite_f c18 h
    refine zs_iload_n dX7_of_8 rfl ?_
    refine zs_iconst (0 : Int32) dX7_of_9 ziconst_0 ?_
    refine zs_iconst (5 : Int32) dX7_of_10 ziconst_5 ?_
    obtain ⟨v7, e6, h⟩ := zbind h
    refine zc_S3i moX7_in mvX7_in kX7_45 dX7_of_11 (Nat.le_of_ble_eq_true rfl) (zrm (by decide)) (tX7_in e6) ?_
    refine zs_if_ne 24 dX7_of_14 rfl (fun c17 => ?_) (fun c17 => ?_)
    · replace h := zite_f c17 h
      refine zs_iload_n dX7_of_24 rfl ?_
      refine zs_iconst (5 : Int32) dX7_of_25 ziconst_5 ?_
      refine zs_icmp_ge 38 dX7_of_26 rfl (fun c13 => ?_) (fun c13 => ?_)
      · replace h := zite_t c13 h
        refine zs_aload_n dX7_of_38 rfl ?_
        refine zs_iload_n dX7_of_39 rfl ?_
        obtain ⟨v9, e8, h⟩ := zbind h
        refine zc_V1i moX7_isThere mvX7_isThere kX7_166 rfl dX7_of_40 za_60 (Nat.le_of_ble_eq_true rfl) (zrm (by decide)) (tX7_isThere e8) ?_
        refine zs_if_eq 50 dX7_of_43 rfl (fun c10 => ?_) (fun c10 => ?_)
        · replace h := zite_t c10 h
          refine zs_iconst (0 : Int32) dX7_of_50 ziconst_0 ?_
          obtain ⟨rfl, rfl⟩ := zpi2 h
          exact zs_iret dX7_of_51 ⟨rfl, rfl⟩
        · replace h := zite_f c10 h
          refine zs_iconst (1 : Int32) dX7_of_46 ziconst_1 ?_
          refine zs_goto 51 dX7_of_47 rfl ?_
          obtain ⟨rfl, rfl⟩ := zpi2 h
          exact zs_iret dX7_of_51 ⟨rfl, rfl⟩
      · replace h := zite_f c13 h
        refine zs_aload_n dX7_of_29 rfl ?_
        refine zs_iload_n dX7_of_30 rfl ?_
        refine zs_iload_n dX7_of_31 rfl ?_
        obtain ⟨v12, e11, h⟩ := zbind h
        refine zc_V2i moX7_its mvX7_its kX7_62 rfl dX7_of_32 za_60 (Nat.le_of_ble_eq_true rfl) (zrm (by decide)) (tX7_its e11) ?_
        refine zs_goto 51 dX7_of_35 rfl ?_
        obtain ⟨rfl, rfl⟩ := zpi2 h
        exact zs_iret dX7_of_51 ⟨rfl, rfl⟩
    · replace h := zite_t c17 h
      refine zs_aload_n dX7_of_17 rfl ?_
      refine zs_ldc kX7_44 dX7_of_18 ?_
      obtain ⟨v15, w16, e14, h⟩ := zb2_inv h
      refine zc_V1i moX7_finds mvX7_finds kX7_49 rfl dX7_of_20 za_60 (Nat.le_of_ble_eq_true rfl) (zrm (by decide)) (tX7_finds e14) ?_
      obtain ⟨rfl, rfl⟩ := zpi2 h
      exact zs_iret dX7_of_23 ⟨rfl, rfl⟩
def lpX7_on_58 (p1 : Int32) (p2 : Int32) : Nat → zW → Int32 → Option zW
  | 0, _, _ => none
  | n + 1, w13, x12 => (if p2 ≤ x12 then (some w13) else (Option.bind (fX7_aDay w13) fun w16 => lpX7_on_58 p1 p2 n w16 (x12 + 1)))
def fX7_on (w : zW) (p1 : Int32) (p2 : Int32) : Option (Int32 × zW) := Option.bind (fX7_isPost w p1) fun v2 => (if v2 = 0 then (zb2 (fX7_finds w (-1000000001 : Int32)) fun v4 w5 => some (v4, w5)) else (Option.bind (fX7_in w p2 (0 : Int32) (200 : Int32)) fun v7 => (if v7 = 0 then (zb2 (fX7_finds w (-1000000001 : Int32)) fun v30 w31 => some (v30, w31)) else (Option.bind (zrd w 61 151 (4 : Int32)) fun v8 => (if (v8 + p2) ≤ (9999 : Int32) then (Option.bind (fX7_moveAll w (1 : Int32) 64) fun w11 => Option.bind (lpX7_on_58 p1 p2 zF w11 (0 : Int32)) fun w20 => Option.bind (fX7_its w20 p1 (1 : Int32)) fun v22 => Option.bind (fX7_moveAll w20 (0 : Int32) 64) fun w24 => some (v22, w24)) else (zb2 (fX7_finds w (-1000000005 : Int32)) fun v26 w27 => some (v26, w27)))))))
set_option maxRecDepth 100000 in
theorem tlX7_on_58 {p1 : Int32} {p2 : Int32}  {Q : Option Value → zW → Prop} : ∀ (n : Nat) (w13 : zW) (x12 : Int32) (w14 : zW), lpX7_on_58 p1 p2 n w13 x12 = some w14 → zWP RX7 cX7_on (zMB 4 (some .int) 9 Q) 73 [some (.ref 60), some (.int p1), none, none] [] w14 → zWP RX7 cX7_on (zMB 4 (some .int) 9 Q) 58 [some (.ref 60), some (.int p1), some (.int p2), some (.int x12)] [] w13 := by
  intro n
  induction n with
  | zero => intro w13 x12 w14 h K; simp [lpX7_on_58] at h
  | succ n ih =>
    intro w13 x12 w14 h K
    rw [lpX7_on_58] at h
    refine zs_iload_n dX7_on_58 rfl ?_
    refine zs_iload_n dX7_on_59 rfl ?_
    refine zs_icmp_ge 73 dX7_on_60 rfl (fun c17 => ?_) (fun c17 => ?_)
    · replace h := zite_t c17 h
      refine zs_fo [true, true, false, false] rfl ?_
      obtain rfl := Option.some.inj h
      exact K
    · replace h := zite_f c17 h
      refine zs_aload_n dX7_on_63 rfl ?_
      obtain ⟨w16, e15, h⟩ := zbind h
      refine zc_V0v moX7_aDay mvX7_aDay kX7_191 rfl dX7_on_64 za_60 (Nat.le_of_ble_eq_true rfl) (zrm (by decide)) (tX7_aDay e15) ?_
      refine zs_iinc (x12 + 1) [some (.ref 60), some (.int p1), some (.int p2), some (.int (x12 + 1))] dX7_on_67 rfl rfl (Nat.le_of_ble_eq_true rfl) rfl rfl ?_
      refine zs_goto 58 dX7_on_70 rfl ?_
      exact ih _ _ _ h K
set_option maxRecDepth 100000 in
theorem tX7_on {w : zW} {p1 : Int32} {p2 : Int32}  {r : Int32} {w' : zW} (h : fX7_on w p1 p2 = some (r, w')) : zRun yX7_on cX7_on 4 (some .int) 9 [.ref 60, .int p1, .int p2] w (zI r w') := by
  refine zRun.of (k := 1) rfl rfl rfl ?_
  show zWP RX7 cX7_on (zMB 4 (some .int) 9 (zI r w')) 0 [some (.ref 60), some (.int p1), some (.int p2), none] [] w
  unfold fX7_on at h
  refine zs_aload_n dX7_on_0 rfl ?_
  refine zs_iload_n dX7_on_1 rfl ?_
  obtain ⟨v2, e1, h⟩ := zbind h
  refine zc_V1i moX7_isPost mvX7_isPost kX7_163 rfl dX7_on_2 za_60 (Nat.le_of_ble_eq_true rfl) (zrm (by decide)) (tX7_isPost e1) ?_
  refine zs_if_eq 19 dX7_on_5 rfl (fun c33 => ?_) (fun c33 => ?_)
  · replace h := zite_t c33 h
    refine zs_aload_n dX7_on_19 rfl ?_
    refine zs_ldc kX7_44 dX7_on_20 ?_
    obtain ⟨v4, w5, e3, h⟩ := zb2_inv h
    refine zc_V1i moX7_finds mvX7_finds kX7_49 rfl dX7_on_22 za_60 (Nat.le_of_ble_eq_true rfl) (zrm (by decide)) (tX7_finds e3) ?_
    obtain ⟨rfl, rfl⟩ := zpi2 h
    exact zs_iret dX7_on_25 ⟨rfl, rfl⟩
  · replace h := zite_f c33 h
    refine zs_iload_n dX7_on_8 rfl ?_
    refine zs_iconst (0 : Int32) dX7_on_9 ziconst_0 ?_
    refine zs_sipush (200 : Int32) dX7_on_10 zsipush_200 ?_
    obtain ⟨v7, e6, h⟩ := zbind h
    refine zc_S3i moX7_in mvX7_in kX7_45 dX7_on_13 (Nat.le_of_ble_eq_true rfl) (zrm (by decide)) (tX7_in e6) ?_
    refine zs_if_ne 26 dX7_on_16 rfl (fun c32 => ?_) (fun c32 => ?_)
    · replace h := zite_f c32 h
      refine zs_aload_n dX7_on_26 rfl ?_
      refine gX7_7 dX7_on_27 ?_
      refine zs_iconst (4 : Int32) dX7_on_30 ziconst_4 ?_
      obtain ⟨v8, e9, h⟩ := zbind h
      refine zs_iald dX7_on_31 za_61 e9 ?_
      refine zs_iload_n dX7_on_32 rfl ?_
      refine zs_iadd dX7_on_33 ?_
      refine zs_sipush (9999 : Int32) dX7_on_34 zsipush_9999 ?_
      refine zs_icmp_le 47 dX7_on_37 rfl (fun c28 => ?_) (fun c28 => ?_)
      · replace h := zite_t c28 h
        refine zs_aload_n dX7_on_47 rfl ?_
        refine zs_iconst (1 : Int32) dX7_on_48 ziconst_1 ?_
        refine zs_aload_n dX7_on_49 rfl ?_
        refine gX7_19 dX7_on_50 ?_
        obtain ⟨w11, e10, h⟩ := zbind h
        refine zc_V2v moX7_moveAll mvX7_moveAll kX7_197 rfl dX7_on_53 za_60 (Nat.le_of_ble_eq_true rfl) (zrm (by decide)) (tX7_moveAll za_64 e10) ?_
        refine zs_iconst (0 : Int32) dX7_on_56 ziconst_0 ?_
        refine zs_istore_n [some (.ref 60), some (.int p1), some (.int p2), some (.int (0 : Int32))] dX7_on_57 (Nat.le_of_ble_eq_true rfl) rfl rfl ?_
        obtain ⟨w20, e18, h⟩ := zbind h
        have K19 : zWP RX7 cX7_on (zMB 4 (some .int) 9 (zI r w')) 73 [some (.ref 60), some (.int p1), none, none] [] w20 := by
          refine zs_aload_n dX7_on_73 rfl ?_
          refine zs_iload_n dX7_on_74 rfl ?_
          refine zs_iconst (1 : Int32) dX7_on_75 ziconst_1 ?_
          obtain ⟨v22, e21, h⟩ := zbind h
          refine zc_V2i moX7_its mvX7_its kX7_62 rfl dX7_on_76 za_60 (Nat.le_of_ble_eq_true rfl) (zrm (by decide)) (tX7_its e21) ?_
          refine zs_istore_n [some (.ref 60), some (.int p1), none, some (.int v22)] dX7_on_79 (Nat.le_of_ble_eq_true rfl) rfl rfl ?_
          refine zs_aload_n dX7_on_80 rfl ?_
          refine zs_iconst (0 : Int32) dX7_on_81 ziconst_0 ?_
          refine zs_aload_n dX7_on_82 rfl ?_
          refine gX7_19 dX7_on_83 ?_
          obtain ⟨w24, e23, h⟩ := zbind h
          refine zc_V2v moX7_moveAll mvX7_moveAll kX7_197 rfl dX7_on_86 za_60 (Nat.le_of_ble_eq_true rfl) (zrm (by decide)) (tX7_moveAll za_64 e23) ?_
          refine zs_iload_n dX7_on_89 rfl ?_
          obtain ⟨rfl, rfl⟩ := zpi2 h
          exact zs_iret dX7_on_90 ⟨rfl, rfl⟩
        exact tlX7_on_58  zF _ _ _ e18 K19
      · replace h := zite_f c28 h
        refine zs_aload_n dX7_on_40 rfl ?_
        refine zs_ldc kX7_84 dX7_on_41 ?_
        obtain ⟨v26, w27, e25, h⟩ := zb2_inv h
        refine zc_V1i moX7_finds mvX7_finds kX7_49 rfl dX7_on_43 za_60 (Nat.le_of_ble_eq_true rfl) (zrm (by decide)) (tX7_finds e25) ?_
        obtain ⟨rfl, rfl⟩ := zpi2 h
        exact zs_iret dX7_on_46 ⟨rfl, rfl⟩
    · replace h := zite_t c32 h
      refine zs_aload_n dX7_on_19 rfl ?_
      refine zs_ldc kX7_44 dX7_on_20 ?_
      obtain ⟨v30, w31, e29, h⟩ := zb2_inv h
      refine zc_V1i moX7_finds mvX7_finds kX7_49 rfl dX7_on_22 za_60 (Nat.le_of_ble_eq_true rfl) (zrm (by decide)) (tX7_finds e29) ?_
      obtain ⟨rfl, rfl⟩ := zpi2 h
      exact zs_iret dX7_on_25 ⟨rfl, rfl⟩
def fX7_peak (w : zW)  : Option (Int32 × zW) := Option.bind (zrd w 61 151 (0 : Int32)) fun v1 => (if v1 = 0 then (zb2 (fX7_finds w (-1000000004 : Int32)) fun v6 w7 => some (v6, w7)) else (Option.bind (fX7_thePeak w) fun v4 => some (v4, w)))
set_option maxRecDepth 100000 in
theorem tX7_peak {w : zW}   {r : Int32} {w' : zW} (h : fX7_peak w  = some (r, w')) : zRun yX7_peak cX7_peak 1 (some .int) 2 [.ref 60] w (zI r w') := by
  refine zRun.of (k := 0) rfl rfl rfl ?_
  show zWP RX7 cX7_peak (zMB 1 (some .int) 2 (zI r w')) 0 [some (.ref 60)] [] w
  unfold fX7_peak at h
  refine zs_aload_n dX7_peak_0 rfl ?_
  refine gX7_7 dX7_peak_1 ?_
  refine zs_iconst (0 : Int32) dX7_peak_4 ziconst_0 ?_
  obtain ⟨v1, e2, h⟩ := zbind h
  refine zs_iald dX7_peak_5 za_61 e2 ?_
  refine zs_if_ne 18 dX7_peak_6 rfl (fun c8 => ?_) (fun c8 => ?_)
  · replace h := zite_f c8 h
    refine zs_aload_n dX7_peak_18 rfl ?_
    obtain ⟨v4, e3, h⟩ := zbind h
    refine zc_V0i moX7_thePeak mvX7_thePeak kX7_97 rfl dX7_peak_19 za_60 (Nat.le_of_ble_eq_true rfl) (zrm (by decide)) (tX7_thePeak e3) ?_
    obtain ⟨rfl, rfl⟩ := zpi2 h
    exact zs_iret dX7_peak_22 ⟨rfl, rfl⟩
  · replace h := zite_t c8 h
    refine zs_aload_n dX7_peak_9 rfl ?_
    refine zs_ldc kX7_92 dX7_peak_10 ?_
    obtain ⟨v6, w7, e5, h⟩ := zb2_inv h
    refine zc_V1i moX7_finds mvX7_finds kX7_49 rfl dX7_peak_12 za_60 (Nat.le_of_ble_eq_true rfl) (zrm (by decide)) (tX7_finds e5) ?_
    refine zs_goto 22 dX7_peak_15 rfl ?_
    obtain ⟨rfl, rfl⟩ := zpi2 h
    exact zs_iret dX7_peak_22 ⟨rfl, rfl⟩
def lpX7_quiet_40 (p1 : Int32) (x4 : Int32) (v11 : Int32) : Nat → zW → Int32 → Int32 → Option (Int32 × zW)
  | 0, _, _, _ => none
  | n + 1, w15, x13, x14 => Option.bind (zrd w15 61 151 (0 : Int32)) fun v18 => (if v18 ≤ x14 then (some (x13, w15)) else (zb2 (if x14 = x4 then (some ((0 : Int32), w15)) else (Option.bind (fX7_has w15 v11 x14) fun v35 => (if v35 = 0 then (some ((0 : Int32), w15)) else ((if x4 < x14 then (some ((1 : Int32), w15)) else (zb2 (fX7_reachOf w15 p1 x14 (1 : Int32)) fun v37 w38 => Option.bind (fX7_has w38 v37 x4) fun v40 => (if v40 = 0 then (some ((1 : Int32), w38)) else (some ((0 : Int32), w38))))))))) fun x30 w31 => Option.bind (if x30 = 0 then (some (0 : Int32)) else (some (1 : Int32))) fun x44 => Option.bind (some ((x13 + x44))) fun x47 => lpX7_quiet_40 p1 x4 v11 n w31 x47 (x14 + 1)))
def lpX7_quiet_18 (p1 : Int32) : Nat → zW → Int32 → Int32 → Option (Int32 × zW)
  | 0, _, _, _ => none
  | n + 1, w5, x3, x4 => Option.bind (zrd w5 61 151 (0 : Int32)) fun v8 => (if v8 ≤ x4 then (some (x3, w5)) else (zb2 (fX7_reachOf w5 p1 x4 (1 : Int32)) fun v11 w12 => zb2 (lpX7_quiet_40 p1 x4 v11 zF w12 x3 (0 : Int32)) fun y54 w55 => lpX7_quiet_18 p1 n w55 y54 (x4 + 1)))
def fX7_quiet (w : zW) (p1 : Int32) : Option (Int32 × zW) := Option.bind (fX7_isKind w p1) fun v2 => (if v2 = 0 then (zb2 (fX7_finds w (-1000000001 : Int32)) fun v68 w69 => some (v68, w69)) else (zb2 (lpX7_quiet_18 p1 zF w (0 : Int32) (0 : Int32)) fun y59 w60 => Option.bind (zrd w60 61 151 (0 : Int32)) fun v61 => Option.bind (zrd w60 61 151 (0 : Int32)) fun v63 => Option.bind (zdiv (v61 * (v63 - (1 : Int32))) (2 : Int32)) fun v65 => some ((v65 - y59), w60)))
set_option maxRecDepth 100000 in
theorem tlX7_quiet_40 {p1 : Int32} {x4 : Int32} {v11 : Int32}  {Q : Option Value → zW → Prop} : ∀ (n : Nat) (w15 : zW) (x13 : Int32) (x14 : Int32) (y16 : Int32) (w17 : zW), lpX7_quiet_40 p1 x4 v11 n w15 x13 x14 = some (y16, w17) → zWP RX7 cX7_quiet (zMB 7 (some .int) 6 Q) 114 [some (.ref 60), some (.int p1), some (.int y16), some (.int x4), none, none, none] [] w17 → zWP RX7 cX7_quiet (zMB 7 (some .int) 6 Q) 40 [some (.ref 60), some (.int p1), some (.int x13), some (.int x4), some (.int v11), some (.int x14), none] [] w15 := by
  intro n
  induction n with
  | zero => intro w15 x13 x14 y16 w17 h K; simp [lpX7_quiet_40] at h
  | succ n ih =>
    intro w15 x13 x14 y16 w17 h K
    rw [lpX7_quiet_40] at h
    refine zs_iload dX7_quiet_40 rfl ?_
    refine zs_aload_n dX7_quiet_42 rfl ?_
    refine gX7_7 dX7_quiet_43 ?_
    refine zs_iconst (0 : Int32) dX7_quiet_46 ziconst_0 ?_
    obtain ⟨v18, e19, h⟩ := zbind h
    refine zs_iald dX7_quiet_47 za_61 e19 ?_
    refine zs_icmp_ge 114 dX7_quiet_48 rfl (fun c51 => ?_) (fun c51 => ?_)
    · replace h := zite_t c51 h
      refine zs_fo [true, true, true, true, false, false, false] rfl ?_
      obtain ⟨rfl, rfl⟩ := zpi2 h
      exact K
    · replace h := zite_f c51 h
      refine zs_iload dX7_quiet_51 rfl ?_
      refine zs_iload_n dX7_quiet_53 rfl ?_
      obtain ⟨x30, w31, m33, h⟩ := zb2_inv h
      have K32 : zWP RX7 cX7_quiet (zMB 7 (some .int) 6 Q) 93 [some (.ref 60), some (.int p1), some (.int x13), some (.int x4), some (.int v11), some (.int x14), none] [.int x30] w31 := by
        refine zs_istore [some (.ref 60), some (.int p1), some (.int x13), some (.int x4), some (.int v11), some (.int x14), some (.int x30)] dX7_quiet_93 (Nat.le_of_ble_eq_true rfl) rfl rfl ?_
        refine zs_iload_n dX7_quiet_95 rfl ?_
        refine zs_iload dX7_quiet_96 rfl ?_
        obtain ⟨x44, m46, h⟩ := zbind h
        have K45 : zWP RX7 cX7_quiet (zMB 7 (some .int) 6 Q) 106 [some (.ref 60), some (.int p1), none, some (.int x4), some (.int v11), some (.int x14), none] [.int x44, .int x13] w31 := by
          refine zs_iadd dX7_quiet_106 ?_
          obtain ⟨x47, e48, h⟩ := zbind h
          refine zs_nmi (Option.some.inj e48) ?_
          refine zs_istore_n [some (.ref 60), some (.int p1), some (.int x47), some (.int x4), some (.int v11), some (.int x14), none] dX7_quiet_107 (Nat.le_of_ble_eq_true rfl) rfl rfl ?_
          refine zs_iinc (x14 + 1) [some (.ref 60), some (.int p1), some (.int x47), some (.int x4), some (.int v11), some (.int (x14 + 1)), none] dX7_quiet_108 rfl rfl (Nat.le_of_ble_eq_true rfl) rfl rfl ?_
          refine zs_goto 40 dX7_quiet_111 rfl ?_
          exact ih _ _ _ _ _ h K
        refine zs_if_eq 105 dX7_quiet_98 rfl (fun c49 => ?_) (fun c49 => ?_)
        · replace m46 := zite_t c49 m46
          refine zs_iconst (0 : Int32) dX7_quiet_105 ziconst_0 ?_
          refine zs_fo [true, true, false, true, true, true, false] rfl ?_
          obtain rfl := Option.some.inj m46
          exact K45
        · replace m46 := zite_f c49 m46
          refine zs_iconst (1 : Int32) dX7_quiet_101 ziconst_1 ?_
          refine zs_goto 106 dX7_quiet_102 rfl ?_
          refine zs_fo [true, true, false, true, true, true, false] rfl ?_
          obtain rfl := Option.some.inj m46
          exact K45
      refine zs_icmp_eq 92 dX7_quiet_54 rfl (fun c50 => ?_) (fun c50 => ?_)
      · replace m33 := zite_t c50 m33
        refine zs_iconst (0 : Int32) dX7_quiet_92 ziconst_0 ?_
        obtain ⟨rfl, rfl⟩ := zpi2 m33
        exact K32
      · replace m33 := zite_f c50 m33
        refine zs_iload dX7_quiet_57 rfl ?_
        refine zs_iload dX7_quiet_59 rfl ?_
        obtain ⟨v35, e34, m33⟩ := zbind m33
        refine zc_S2i moX7_has mvX7_has kX7_143 dX7_quiet_61 (Nat.le_of_ble_eq_true rfl) (zrm (by decide)) (tX7_has e34) ?_
        refine zs_if_eq 92 dX7_quiet_64 rfl (fun c43 => ?_) (fun c43 => ?_)
        · replace m33 := zite_t c43 m33
          refine zs_iconst (0 : Int32) dX7_quiet_92 ziconst_0 ?_
          obtain ⟨rfl, rfl⟩ := zpi2 m33
          exact K32
        · replace m33 := zite_f c43 m33
          refine zs_iload_n dX7_quiet_67 rfl ?_
          refine zs_iload dX7_quiet_68 rfl ?_
          refine zs_icmp_lt 88 dX7_quiet_70 rfl (fun c42 => ?_) (fun c42 => ?_)
          · replace m33 := zite_t c42 m33
            refine zs_iconst (1 : Int32) dX7_quiet_88 ziconst_1 ?_
            refine zs_goto 93 dX7_quiet_89 rfl ?_
            obtain ⟨rfl, rfl⟩ := zpi2 m33
            exact K32
          · replace m33 := zite_f c42 m33
            refine zs_aload_n dX7_quiet_73 rfl ?_
            refine zs_iload_n dX7_quiet_74 rfl ?_
            refine zs_iload dX7_quiet_75 rfl ?_
            refine zs_iconst (1 : Int32) dX7_quiet_77 ziconst_1 ?_
            obtain ⟨v37, w38, e36, m33⟩ := zb2_inv m33
            refine zc_V3i moX7_reachOf mvX7_reachOf kX7_139 rfl dX7_quiet_78 za_60 (Nat.le_of_ble_eq_true rfl) (zrm (by decide)) (tX7_reachOf e36) ?_
            refine zs_iload_n dX7_quiet_81 rfl ?_
            obtain ⟨v40, e39, m33⟩ := zbind m33
            refine zc_S2i moX7_has mvX7_has kX7_143 dX7_quiet_82 (Nat.le_of_ble_eq_true rfl) (zrm (by decide)) (tX7_has e39) ?_
            refine zs_if_ne 92 dX7_quiet_85 rfl (fun c41 => ?_) (fun c41 => ?_)
            · replace m33 := zite_f c41 m33
              refine zs_iconst (0 : Int32) dX7_quiet_92 ziconst_0 ?_
              obtain ⟨rfl, rfl⟩ := zpi2 m33
              exact K32
            · replace m33 := zite_t c41 m33
              refine zs_iconst (1 : Int32) dX7_quiet_88 ziconst_1 ?_
              refine zs_goto 93 dX7_quiet_89 rfl ?_
              obtain ⟨rfl, rfl⟩ := zpi2 m33
              exact K32
set_option maxRecDepth 100000 in
theorem tlX7_quiet_18 {p1 : Int32}  {Q : Option Value → zW → Prop} : ∀ (n : Nat) (w5 : zW) (x3 : Int32) (x4 : Int32) (y6 : Int32) (w7 : zW), lpX7_quiet_18 p1 n w5 x3 x4 = some (y6, w7) → zWP RX7 cX7_quiet (zMB 7 (some .int) 6 Q) 120 [some (.ref 60), none, some (.int y6), none, none, none, none] [] w7 → zWP RX7 cX7_quiet (zMB 7 (some .int) 6 Q) 18 [some (.ref 60), some (.int p1), some (.int x3), some (.int x4), none, none, none] [] w5 := by
  intro n
  induction n with
  | zero => intro w5 x3 x4 y6 w7 h K; simp [lpX7_quiet_18] at h
  | succ n ih =>
    intro w5 x3 x4 y6 w7 h K
    rw [lpX7_quiet_18] at h
    refine zs_iload_n dX7_quiet_18 rfl ?_
    refine zs_aload_n dX7_quiet_19 rfl ?_
    refine gX7_7 dX7_quiet_20 ?_
    refine zs_iconst (0 : Int32) dX7_quiet_23 ziconst_0 ?_
    obtain ⟨v8, e9, h⟩ := zbind h
    refine zs_iald dX7_quiet_24 za_61 e9 ?_
    refine zs_icmp_ge 120 dX7_quiet_25 rfl (fun c56 => ?_) (fun c56 => ?_)
    · replace h := zite_t c56 h
      refine zs_fo [true, false, true, false, false, false, false] rfl ?_
      obtain ⟨rfl, rfl⟩ := zpi2 h
      exact K
    · replace h := zite_f c56 h
      refine zs_aload_n dX7_quiet_28 rfl ?_
      refine zs_iload_n dX7_quiet_29 rfl ?_
      refine zs_iload_n dX7_quiet_30 rfl ?_
      refine zs_iconst (1 : Int32) dX7_quiet_31 ziconst_1 ?_
      obtain ⟨v11, w12, e10, h⟩ := zb2_inv h
      refine zc_V3i moX7_reachOf mvX7_reachOf kX7_139 rfl dX7_quiet_32 za_60 (Nat.le_of_ble_eq_true rfl) (zrm (by decide)) (tX7_reachOf e10) ?_
      refine zs_istore [some (.ref 60), some (.int p1), some (.int x3), some (.int x4), some (.int v11), none, none] dX7_quiet_35 (Nat.le_of_ble_eq_true rfl) rfl rfl ?_
      refine zs_iconst (0 : Int32) dX7_quiet_37 ziconst_0 ?_
      refine zs_istore [some (.ref 60), some (.int p1), some (.int x3), some (.int x4), some (.int v11), some (.int (0 : Int32)), none] dX7_quiet_38 (Nat.le_of_ble_eq_true rfl) rfl rfl ?_
      obtain ⟨y54, w55, e52, h⟩ := zb2_inv h
      have K53 : zWP RX7 cX7_quiet (zMB 7 (some .int) 6 Q) 114 [some (.ref 60), some (.int p1), some (.int y54), some (.int x4), none, none, none] [] w55 := by
        refine zs_iinc (x4 + 1) [some (.ref 60), some (.int p1), some (.int y54), some (.int (x4 + 1)), none, none, none] dX7_quiet_114 rfl rfl (Nat.le_of_ble_eq_true rfl) rfl rfl ?_
        refine zs_goto 18 dX7_quiet_117 rfl ?_
        exact ih _ _ _ _ _ h K
      exact tlX7_quiet_40  zF _ _ _ _ _ e52 K53
set_option maxRecDepth 100000 in
theorem tX7_quiet {w : zW} {p1 : Int32}  {r : Int32} {w' : zW} (h : fX7_quiet w p1 = some (r, w')) : zRun yX7_quiet cX7_quiet 7 (some .int) 6 [.ref 60, .int p1] w (zI r w') := by
  refine zRun.of (k := 5) rfl rfl rfl ?_
  show zWP RX7 cX7_quiet (zMB 7 (some .int) 6 (zI r w')) 0 [some (.ref 60), some (.int p1), none, none, none, none, none] [] w
  unfold fX7_quiet at h
  refine zs_iload_n dX7_quiet_0 rfl ?_
  obtain ⟨v2, e1, h⟩ := zbind h
  refine zc_S1i moX7_isKind mvX7_isKind kX7_100 dX7_quiet_1 (Nat.le_of_ble_eq_true rfl) (zrm (by decide)) (tX7_isKind e1) ?_
  refine zs_if_ne 14 dX7_quiet_4 rfl (fun c70 => ?_) (fun c70 => ?_)
  · replace h := zite_f c70 h
    refine zs_iconst (0 : Int32) dX7_quiet_14 ziconst_0 ?_
    refine zs_istore_n [some (.ref 60), some (.int p1), some (.int (0 : Int32)), none, none, none, none] dX7_quiet_15 (Nat.le_of_ble_eq_true rfl) rfl rfl ?_
    refine zs_iconst (0 : Int32) dX7_quiet_16 ziconst_0 ?_
    refine zs_istore_n [some (.ref 60), some (.int p1), some (.int (0 : Int32)), some (.int (0 : Int32)), none, none, none] dX7_quiet_17 (Nat.le_of_ble_eq_true rfl) rfl rfl ?_
    obtain ⟨y59, w60, e57, h⟩ := zb2_inv h
    have K58 : zWP RX7 cX7_quiet (zMB 7 (some .int) 6 (zI r w')) 120 [some (.ref 60), none, some (.int y59), none, none, none, none] [] w60 := by
      refine zs_aload_n dX7_quiet_120 rfl ?_
      refine gX7_7 dX7_quiet_121 ?_
      refine zs_iconst (0 : Int32) dX7_quiet_124 ziconst_0 ?_
      obtain ⟨v61, e62, h⟩ := zbind h
      refine zs_iald dX7_quiet_125 za_61 e62 ?_
      refine zs_aload_n dX7_quiet_126 rfl ?_
      refine gX7_7 dX7_quiet_127 ?_
      refine zs_iconst (0 : Int32) dX7_quiet_130 ziconst_0 ?_
      obtain ⟨v63, e64, h⟩ := zbind h
      refine zs_iald dX7_quiet_131 za_61 e64 ?_
      refine zs_iconst (1 : Int32) dX7_quiet_132 ziconst_1 ?_
      refine zs_isub dX7_quiet_133 ?_
      refine zs_imul dX7_quiet_134 ?_
      refine zs_iconst (2 : Int32) dX7_quiet_135 ziconst_2 ?_
      obtain ⟨v65, e66, h⟩ := zbind h
      refine zs_idiv dX7_quiet_136 (zdiv_inv e66).1 ?_
      refine zs_nmi (zdiv_inv e66).2 ?_
      refine zs_iload_n dX7_quiet_137 rfl ?_
      refine zs_isub dX7_quiet_138 ?_
      obtain ⟨rfl, rfl⟩ := zpi2 h
      exact zs_iret dX7_quiet_139 ⟨rfl, rfl⟩
    exact tlX7_quiet_18  zF _ _ _ _ _ e57 K58
  · replace h := zite_t c70 h
    refine zs_aload_n dX7_quiet_7 rfl ?_
    refine zs_ldc kX7_44 dX7_quiet_8 ?_
    obtain ⟨v68, w69, e67, h⟩ := zb2_inv h
    refine zc_V1i moX7_finds mvX7_finds kX7_49 rfl dX7_quiet_10 za_60 (Nat.le_of_ble_eq_true rfl) (zrm (by decide)) (tX7_finds e67) ?_
    obtain ⟨rfl, rfl⟩ := zpi2 h
    exact zs_iret dX7_quiet_13 ⟨rfl, rfl⟩
def fX7_reach (w : zW) (p1 : Int32) (p2 : Int32) : Option (Int32 × zW) := Option.bind (fX7_isKind w p1) fun v2 => (if v2 = 0 then (zb2 (fX7_finds w (-1000000001 : Int32)) fun v4 w5 => some (v4, w5)) else (Option.bind (fX7_isVillage w p2) fun v7 => (if v7 = 0 then (zb2 (fX7_finds w (-1000000001 : Int32)) fun v9 w10 => some (v9, w10)) else (zb2 (fX7_reachOf w p1 p2 (1 : Int32)) fun v12 w13 => some (v12, w13)))))
set_option maxRecDepth 100000 in
theorem tX7_reach {w : zW} {p1 : Int32} {p2 : Int32}  {r : Int32} {w' : zW} (h : fX7_reach w p1 p2 = some (r, w')) : zRun yX7_reach cX7_reach 3 (some .int) 6 [.ref 60, .int p1, .int p2] w (zI r w') := by
  refine zRun.of (k := 0) rfl rfl rfl ?_
  show zWP RX7 cX7_reach (zMB 3 (some .int) 6 (zI r w')) 0 [some (.ref 60), some (.int p1), some (.int p2)] [] w
  unfold fX7_reach at h
  refine zs_iload_n dX7_reach_0 rfl ?_
  obtain ⟨v2, e1, h⟩ := zbind h
  refine zc_S1i moX7_isKind mvX7_isKind kX7_100 dX7_reach_1 (Nat.le_of_ble_eq_true rfl) (zrm (by decide)) (tX7_isKind e1) ?_
  refine zs_if_eq 25 dX7_reach_4 rfl (fun c15 => ?_) (fun c15 => ?_)
  · replace h := zite_t c15 h
    refine zs_aload_n dX7_reach_25 rfl ?_
    refine zs_ldc kX7_44 dX7_reach_26 ?_
    obtain ⟨v4, w5, e3, h⟩ := zb2_inv h
    refine zc_V1i moX7_finds mvX7_finds kX7_49 rfl dX7_reach_28 za_60 (Nat.le_of_ble_eq_true rfl) (zrm (by decide)) (tX7_finds e3) ?_
    obtain ⟨rfl, rfl⟩ := zpi2 h
    exact zs_iret dX7_reach_31 ⟨rfl, rfl⟩
  · replace h := zite_f c15 h
    refine zs_aload_n dX7_reach_7 rfl ?_
    refine zs_iload_n dX7_reach_8 rfl ?_
    obtain ⟨v7, e6, h⟩ := zbind h
    refine zc_V1i moX7_isVillage mvX7_isVillage kX7_65 rfl dX7_reach_9 za_60 (Nat.le_of_ble_eq_true rfl) (zrm (by decide)) (tX7_isVillage e6) ?_
    refine zs_if_eq 25 dX7_reach_12 rfl (fun c14 => ?_) (fun c14 => ?_)
    · replace h := zite_t c14 h
      refine zs_aload_n dX7_reach_25 rfl ?_
      refine zs_ldc kX7_44 dX7_reach_26 ?_
      obtain ⟨v9, w10, e8, h⟩ := zb2_inv h
      refine zc_V1i moX7_finds mvX7_finds kX7_49 rfl dX7_reach_28 za_60 (Nat.le_of_ble_eq_true rfl) (zrm (by decide)) (tX7_finds e8) ?_
      obtain ⟨rfl, rfl⟩ := zpi2 h
      exact zs_iret dX7_reach_31 ⟨rfl, rfl⟩
    · replace h := zite_f c14 h
      refine zs_aload_n dX7_reach_15 rfl ?_
      refine zs_iload_n dX7_reach_16 rfl ?_
      refine zs_iload_n dX7_reach_17 rfl ?_
      refine zs_iconst (1 : Int32) dX7_reach_18 ziconst_1 ?_
      obtain ⟨v12, w13, e11, h⟩ := zb2_inv h
      refine zc_V3i moX7_reachOf mvX7_reachOf kX7_139 rfl dX7_reach_19 za_60 (Nat.le_of_ble_eq_true rfl) (zrm (by decide)) (tX7_reachOf e11) ?_
      refine zs_goto 31 dX7_reach_22 rfl ?_
      obtain ⟨rfl, rfl⟩ := zpi2 h
      exact zs_iret dX7_reach_31 ⟨rfl, rfl⟩
def lpX7_read_60 (w : zW) (p1 : Int32) (p2 : Int32) : Nat → Int32 → Int32 → Int32 → Option Int32
  | 0, _, _, _ => none
  | n + 1, x18, x19, x20 => Option.bind (zrd w 67 4 p1) fun v22 => (if v22 ≤ x20 then (some x18) else ((if x18 = 0 then (Option.bind (zrl w 68 160 (((40 : Int32) * p1) + x20)) fun v24 => Option.bind (if (lg_cmp v24 (0 : Int64)) < 0 then (some (0 : Int32)) else (Option.bind (zrd w 61 151 (0 : Int32)) fun v32 => (if 0 ≤ (lg_cmp v24 ((v32).toInt64)) then (some (0 : Int32)) else (some (1 : Int32))))) fun x29 => Option.bind (if x29 = 0 then (some (0 : Int32)) else (some ((v24).toInt32))) fun x35 => Option.bind (if x29 = 0 then (some (0 : Int32)) else ((if x20 = 0 then (some (1 : Int32)) else (Option.bind (fX7_between w x19 x35) fun v49 => (if v49 < 0 then (some (0 : Int32)) else (Option.bind (fX7_goesDown w p2 x19 x35) fun v51 => (if v51 = 0 then (some (0 : Int32)) else (some (1 : Int32))))))))) fun x45 => Option.bind (if x45 = 0 then (some (x20 + (1 : Int32))) else (some (0 : Int32))) fun x55 => lpX7_read_60 w p1 p2 n x55 x35 (x20 + 1)) else (some x18))))
def fX7_read (w : zW) (p1 : Int32) (p2 : Int32) : Option (Int32 × zW) := Option.bind (fX7_isSheet w p1) fun v2 => Option.bind (if v2 = 0 then (some (-1000000001 : Int32)) else (Option.bind (zrd w 66 4 p1) fun v12 => (if v12 = 0 then (some (-1000000006 : Int32)) else (Option.bind (fX7_isKind w p2) fun v15 => (if v15 = 0 then (some (-1000000001 : Int32)) else (some (0 : Int32))))))) fun x9 => (if x9 = 0 then (Option.bind (lpX7_read_60 w p1 p2 zF (0 : Int32) (-1 : Int32) (0 : Int32)) fun y66 => some (y66, w)) else (zb2 (fX7_finds w x9) fun v68 w69 => some (v68, w69)))
set_option maxRecDepth 100000 in
theorem tlX7_read_60 {w : zW} {p1 : Int32} {p2 : Int32}  {Q : Option Value → zW → Prop} : ∀ (n : Nat) (x18 : Int32) (x19 : Int32) (x20 : Int32) (y21 : Int32), lpX7_read_60 w p1 p2 n x18 x19 x20 = some y21 → zWP RX7 cX7_read (zMB 11 (some .int) 2 Q) 196 [none, none, none, none, some (.int y21), none, none, none, none, none, none] [] w → zWP RX7 cX7_read (zMB 11 (some .int) 2 Q) 60 [some (.ref 60), some (.int p1), some (.int p2), none, some (.int x18), some (.int x19), some (.int x20), none, none, none, none] [] w := by
  intro n
  induction n with
  | zero => intro x18 x19 x20 y21 h K; simp [lpX7_read_60] at h
  | succ n ih =>
    intro x18 x19 x20 y21 h K
    rw [lpX7_read_60] at h
    refine zs_iload dX7_read_60 rfl ?_
    refine zs_aload_n dX7_read_62 rfl ?_
    refine gX7_28 dX7_read_63 ?_
    refine zs_iload_n dX7_read_66 rfl ?_
    obtain ⟨v22, e23, h⟩ := zbind h
    refine zs_iald dX7_read_67 za_67 e23 ?_
    refine zs_icmp_ge 196 dX7_read_68 rfl (fun c63 => ?_) (fun c63 => ?_)
    · replace h := zite_t c63 h
      refine zs_fo [false, false, false, false, true, false, false, false, false, false, false] rfl ?_
      obtain rfl := Option.some.inj h
      exact K
    · replace h := zite_f c63 h
      refine zs_iload dX7_read_71 rfl ?_
      refine zs_if_ne 196 dX7_read_73 rfl (fun c62 => ?_) (fun c62 => ?_)
      · replace h := zite_f c62 h
        refine zs_fo [false, false, false, false, true, false, false, false, false, false, false] rfl ?_
        obtain rfl := Option.some.inj h
        exact K
      · replace h := zite_t c62 h
        refine zs_aload_n dX7_read_76 rfl ?_
        refine gX7_31 dX7_read_77 ?_
        refine zs_bipush (40 : Int32) dX7_read_80 zbipush_40 ?_
        refine zs_iload_n dX7_read_82 rfl ?_
        refine zs_imul dX7_read_83 ?_
        refine zs_iload dX7_read_84 rfl ?_
        refine zs_iadd dX7_read_86 ?_
        obtain ⟨v24, e25, h⟩ := zbind h
        refine zs_lald dX7_read_87 za_68 e25 ?_
        refine zs_lstore [some (.ref 60), some (.int p1), some (.int p2), none, some (.int x18), some (.int x19), some (.int x20), some (.long v24), none, none, none] dX7_read_88 (Nat.le_of_ble_eq_true rfl) rfl rfl ?_
        refine zs_lload dX7_read_90 rfl ?_
        refine zs_lconst (0 : Int64) dX7_read_92 rfl ?_
        refine zs_lcmp dX7_read_93 ?_
        obtain ⟨x29, m31, h⟩ := zbind h
        have K30 : zWP RX7 cX7_read (zMB 11 (some .int) 2 Q) 115 [some (.ref 60), some (.int p1), some (.int p2), none, none, some (.int x19), some (.int x20), some (.long v24), none, none, none] [.int x29] w := by
          refine zs_istore [some (.ref 60), some (.int p1), some (.int p2), none, none, some (.int x19), some (.int x20), some (.long v24), none, some (.int x29), none] dX7_read_115 (Nat.le_of_ble_eq_true rfl) rfl rfl ?_
          refine zs_iload dX7_read_117 rfl ?_
          obtain ⟨x35, m37, h⟩ := zbind h
          have K36 : zWP RX7 cX7_read (zMB 11 (some .int) 2 Q) 129 [some (.ref 60), some (.int p1), some (.int p2), none, none, some (.int x19), some (.int x20), none, none, some (.int x29), none] [.int x35] w := by
            refine zs_istore [some (.ref 60), some (.int p1), some (.int p2), none, none, some (.int x19), some (.int x20), none, none, some (.int x29), some (.int x35)] dX7_read_129 (Nat.le_of_ble_eq_true rfl) rfl rfl ?_
            refine zs_iload dX7_read_131 rfl ?_
            obtain ⟨x45, m47, h⟩ := zbind h
            have K46 : zWP RX7 cX7_read (zMB 11 (some .int) 2 Q) 169 [some (.ref 60), some (.int p1), some (.int p2), none, none, none, some (.int x20), none, none, none, some (.int x35)] [.int x45] w := by
              refine zs_istore [some (.ref 60), some (.int p1), some (.int p2), none, none, none, some (.int x20), none, none, some (.int x45), some (.int x35)] dX7_read_169 (Nat.le_of_ble_eq_true rfl) rfl rfl ?_
              refine zs_iload dX7_read_171 rfl ?_
              obtain ⟨x55, m57, h⟩ := zbind h
              have K56 : zWP RX7 cX7_read (zMB 11 (some .int) 2 Q) 184 [some (.ref 60), some (.int p1), some (.int p2), none, none, none, some (.int x20), none, none, none, some (.int x35)] [.int x55] w := by
                refine zs_istore [some (.ref 60), some (.int p1), some (.int p2), none, some (.int x55), none, some (.int x20), none, none, none, some (.int x35)] dX7_read_184 (Nat.le_of_ble_eq_true rfl) rfl rfl ?_
                refine zs_iload dX7_read_186 rfl ?_
                refine zs_istore [some (.ref 60), some (.int p1), some (.int p2), none, some (.int x55), some (.int x35), some (.int x20), none, none, none, some (.int x35)] dX7_read_188 (Nat.le_of_ble_eq_true rfl) rfl rfl ?_
                refine zs_iinc (x20 + 1) [some (.ref 60), some (.int p1), some (.int p2), none, some (.int x55), some (.int x35), some (.int (x20 + 1)), none, none, none, some (.int x35)] dX7_read_190 rfl rfl (Nat.le_of_ble_eq_true rfl) rfl rfl ?_
                refine zs_goto 60 dX7_read_193 rfl ?_
                refine zs_fo [true, true, true, false, true, true, true, false, false, false, false] rfl ?_
                exact ih _ _ _ _ h K
              refine zs_if_eq 180 dX7_read_173 rfl (fun c58 => ?_) (fun c58 => ?_)
              · replace m57 := zite_t c58 m57
                refine zs_iload dX7_read_180 rfl ?_
                refine zs_iconst (1 : Int32) dX7_read_182 ziconst_1 ?_
                refine zs_iadd dX7_read_183 ?_
                refine zs_fo [true, true, true, false, false, false, true, false, false, false, true] rfl ?_
                obtain rfl := Option.some.inj m57
                exact K56
              · replace m57 := zite_f c58 m57
                refine zs_iconst (0 : Int32) dX7_read_176 ziconst_0 ?_
                refine zs_goto 184 dX7_read_177 rfl ?_
                refine zs_fo [true, true, true, false, false, false, true, false, false, false, true] rfl ?_
                obtain rfl := Option.some.inj m57
                exact K56
            refine zs_if_eq 168 dX7_read_133 rfl (fun c59 => ?_) (fun c59 => ?_)
            · replace m47 := zite_t c59 m47
              refine zs_iconst (0 : Int32) dX7_read_168 ziconst_0 ?_
              refine zs_fo [true, true, true, false, false, false, true, false, false, false, true] rfl ?_
              obtain rfl := Option.some.inj m47
              exact K46
            · replace m47 := zite_f c59 m47
              refine zs_iload dX7_read_136 rfl ?_
              refine zs_if_eq 164 dX7_read_138 rfl (fun c54 => ?_) (fun c54 => ?_)
              · replace m47 := zite_t c54 m47
                refine zs_iconst (1 : Int32) dX7_read_164 ziconst_1 ?_
                refine zs_goto 169 dX7_read_165 rfl ?_
                refine zs_fo [true, true, true, false, false, false, true, false, false, false, true] rfl ?_
                obtain rfl := Option.some.inj m47
                exact K46
              · replace m47 := zite_f c54 m47
                refine zs_aload_n dX7_read_141 rfl ?_
                refine zs_iload dX7_read_142 rfl ?_
                refine zs_iload dX7_read_144 rfl ?_
                obtain ⟨v49, e48, m47⟩ := zbind m47
                refine zc_V2i moX7_between mvX7_between kX7_81 rfl dX7_read_146 za_60 (Nat.le_of_ble_eq_true rfl) (zrm (by decide)) (tX7_between e48) ?_
                refine zs_if_lt 168 dX7_read_149 rfl (fun c53 => ?_) (fun c53 => ?_)
                · replace m47 := zite_t c53 m47
                  refine zs_iconst (0 : Int32) dX7_read_168 ziconst_0 ?_
                  refine zs_fo [true, true, true, false, false, false, true, false, false, false, true] rfl ?_
                  obtain rfl := Option.some.inj m47
                  exact K46
                · replace m47 := zite_f c53 m47
                  refine zs_aload_n dX7_read_152 rfl ?_
                  refine zs_iload_n dX7_read_153 rfl ?_
                  refine zs_iload dX7_read_154 rfl ?_
                  refine zs_iload dX7_read_156 rfl ?_
                  obtain ⟨v51, e50, m47⟩ := zbind m47
                  refine zc_V3i moX7_goesDown mvX7_goesDown kX7_106 rfl dX7_read_158 za_60 (Nat.le_of_ble_eq_true rfl) (zrm (by decide)) (tX7_goesDown e50) ?_
                  refine zs_if_eq 168 dX7_read_161 rfl (fun c52 => ?_) (fun c52 => ?_)
                  · replace m47 := zite_t c52 m47
                    refine zs_iconst (0 : Int32) dX7_read_168 ziconst_0 ?_
                    refine zs_fo [true, true, true, false, false, false, true, false, false, false, true] rfl ?_
                    obtain rfl := Option.some.inj m47
                    exact K46
                  · replace m47 := zite_f c52 m47
                    refine zs_iconst (1 : Int32) dX7_read_164 ziconst_1 ?_
                    refine zs_goto 169 dX7_read_165 rfl ?_
                    refine zs_fo [true, true, true, false, false, false, true, false, false, false, true] rfl ?_
                    obtain rfl := Option.some.inj m47
                    exact K46
          refine zs_if_eq 128 dX7_read_119 rfl (fun c60 => ?_) (fun c60 => ?_)
          · replace m37 := zite_t c60 m37
            refine zs_iconst (0 : Int32) dX7_read_128 ziconst_0 ?_
            refine zs_fo [true, true, true, false, false, true, true, false, false, true, false] rfl ?_
            obtain rfl := Option.some.inj m37
            exact K36
          · replace m37 := zite_f c60 m37
            refine zs_lload dX7_read_122 rfl ?_
            refine zs_l2i dX7_read_124 ?_
            refine zs_goto 129 dX7_read_125 rfl ?_
            refine zs_fo [true, true, true, false, false, true, true, false, false, true, false] rfl ?_
            obtain rfl := Option.some.inj m37
            exact K36
        refine zs_if_lt 114 dX7_read_94 rfl (fun c61 => ?_) (fun c61 => ?_)
        · replace m31 := zite_t c61 m31
          refine zs_iconst (0 : Int32) dX7_read_114 ziconst_0 ?_
          refine zs_fo [true, true, true, false, false, true, true, true, false, false, false] rfl ?_
          obtain rfl := Option.some.inj m31
          exact K30
        · replace m31 := zite_f c61 m31
          refine zs_lload dX7_read_97 rfl ?_
          refine zs_aload_n dX7_read_99 rfl ?_
          refine gX7_7 dX7_read_100 ?_
          refine zs_iconst (0 : Int32) dX7_read_103 ziconst_0 ?_
          obtain ⟨v32, e33, m31⟩ := zbind m31
          refine zs_iald dX7_read_104 za_61 e33 ?_
          refine zs_i2l dX7_read_105 ?_
          refine zs_lcmp dX7_read_106 ?_
          refine zs_if_ge 114 dX7_read_107 rfl (fun c34 => ?_) (fun c34 => ?_)
          · replace m31 := zite_t c34 m31
            refine zs_iconst (0 : Int32) dX7_read_114 ziconst_0 ?_
            refine zs_fo [true, true, true, false, false, true, true, true, false, false, false] rfl ?_
            obtain rfl := Option.some.inj m31
            exact K30
          · replace m31 := zite_f c34 m31
            refine zs_iconst (1 : Int32) dX7_read_110 ziconst_1 ?_
            refine zs_goto 115 dX7_read_111 rfl ?_
            refine zs_fo [true, true, true, false, false, true, true, true, false, false, false] rfl ?_
            obtain rfl := Option.some.inj m31
            exact K30
set_option maxRecDepth 100000 in
theorem tX7_read {w : zW} {p1 : Int32} {p2 : Int32}  {r : Int32} {w' : zW} (h : fX7_read w p1 p2 = some (r, w')) : zRun yX7_read cX7_read 11 (some .int) 2 [.ref 60, .int p1, .int p2] w (zI r w') := by
  refine zRun.of (k := 8) rfl rfl rfl ?_
  show zWP RX7 cX7_read (zMB 11 (some .int) 2 (zI r w')) 0 [some (.ref 60), some (.int p1), some (.int p2), none, none, none, none, none, none, none, none] [] w
  unfold fX7_read at h
  refine zs_iload_n dX7_read_0 rfl ?_
  obtain ⟨v2, e1, h⟩ := zbind h
  refine zc_S1i moX7_isSheet mvX7_isSheet kX7_307 dX7_read_1 (Nat.le_of_ble_eq_true rfl) (zrm (by decide)) (tX7_isSheet e1) ?_
  obtain ⟨x9, m11, h⟩ := zbind h
  have K10 : zWP RX7 cX7_read (zMB 11 (some .int) 2 (zI r w')) 40 [some (.ref 60), some (.int p1), some (.int p2), none, none, none, none, none, none, none, none] [.int x9] w := by
    refine zs_istore_n [some (.ref 60), some (.int p1), some (.int p2), some (.int x9), none, none, none, none, none, none, none] dX7_read_40 (Nat.le_of_ble_eq_true rfl) rfl rfl ?_
    refine zs_iload_n dX7_read_41 rfl ?_
    refine zs_if_eq 51 dX7_read_42 rfl (fun c70 => ?_) (fun c70 => ?_)
    · replace h := zite_t c70 h
      refine zs_iconst (0 : Int32) dX7_read_51 ziconst_0 ?_
      refine zs_istore [some (.ref 60), some (.int p1), some (.int p2), some (.int x9), some (.int (0 : Int32)), none, none, none, none, none, none] dX7_read_52 (Nat.le_of_ble_eq_true rfl) rfl rfl ?_
      refine zs_iconst (-1 : Int32) dX7_read_54 ziconst_m1 ?_
      refine zs_istore [some (.ref 60), some (.int p1), some (.int p2), some (.int x9), some (.int (0 : Int32)), some (.int (-1 : Int32)), none, none, none, none, none] dX7_read_55 (Nat.le_of_ble_eq_true rfl) rfl rfl ?_
      refine zs_iconst (0 : Int32) dX7_read_57 ziconst_0 ?_
      refine zs_istore [some (.ref 60), some (.int p1), some (.int p2), some (.int x9), some (.int (0 : Int32)), some (.int (-1 : Int32)), some (.int (0 : Int32)), none, none, none, none] dX7_read_58 (Nat.le_of_ble_eq_true rfl) rfl rfl ?_
      obtain ⟨y66, e64, h⟩ := zbind h
      have K65 : zWP RX7 cX7_read (zMB 11 (some .int) 2 (zI r w')) 196 [none, none, none, none, some (.int y66), none, none, none, none, none, none] [] w := by
        refine zs_iload dX7_read_196 rfl ?_
        obtain ⟨rfl, rfl⟩ := zpi2 h
        exact zs_iret dX7_read_198 ⟨rfl, rfl⟩
      refine zs_fo [true, true, true, false, true, true, true, false, false, false, false] rfl ?_
      exact tlX7_read_60  zF _ _ _ _ e64 K65
    · replace h := zite_f c70 h
      refine zs_aload_n dX7_read_45 rfl ?_
      refine zs_iload_n dX7_read_46 rfl ?_
      obtain ⟨v68, w69, e67, h⟩ := zb2_inv h
      refine zc_V1i moX7_finds mvX7_finds kX7_49 rfl dX7_read_47 za_60 (Nat.le_of_ble_eq_true rfl) (zrm (by decide)) (tX7_finds e67) ?_
      obtain ⟨rfl, rfl⟩ := zpi2 h
      exact zs_iret dX7_read_50 ⟨rfl, rfl⟩
  refine zs_if_ne 12 dX7_read_4 rfl (fun c71 => ?_) (fun c71 => ?_)
  · replace m11 := zite_f c71 m11
    refine zs_aload_n dX7_read_12 rfl ?_
    refine gX7_25 dX7_read_13 ?_
    refine zs_iload_n dX7_read_16 rfl ?_
    obtain ⟨v12, e13, m11⟩ := zbind m11
    refine zs_iald dX7_read_17 za_66 e13 ?_
    refine zs_if_ne 27 dX7_read_18 rfl (fun c17 => ?_) (fun c17 => ?_)
    · replace m11 := zite_f c17 m11
      refine zs_iload_n dX7_read_27 rfl ?_
      obtain ⟨v15, e14, m11⟩ := zbind m11
      refine zc_S1i moX7_isKind mvX7_isKind kX7_100 dX7_read_28 (Nat.le_of_ble_eq_true rfl) (zrm (by decide)) (tX7_isKind e14) ?_
      refine zs_if_ne 39 dX7_read_31 rfl (fun c16 => ?_) (fun c16 => ?_)
      · replace m11 := zite_f c16 m11
        refine zs_iconst (0 : Int32) dX7_read_39 ziconst_0 ?_
        obtain rfl := Option.some.inj m11
        exact K10
      · replace m11 := zite_t c16 m11
        refine zs_ldc kX7_44 dX7_read_34 ?_
        refine zs_goto 40 dX7_read_36 rfl ?_
        obtain rfl := Option.some.inj m11
        exact K10
    · replace m11 := zite_t c17 m11
      refine zs_ldc_w kX7_311 dX7_read_21 ?_
      refine zs_goto 40 dX7_read_24 rfl ?_
      obtain rfl := Option.some.inj m11
      exact K10
  · replace m11 := zite_t c71 m11
    refine zs_ldc kX7_44 dX7_read_7 ?_
    refine zs_goto 40 dX7_read_9 rfl ?_
    obtain rfl := Option.some.inj m11
    exact K10
def lpX7_rise_37 (p1 : Int32) (p2 : Int32) (p3 : Int32) (v7 : Int32) : Nat → zW → Int32 → Int32 → Option (Int32 × zW)
  | 0, _, _, _ => none
  | n + 1, w10, x8, x9 => Option.bind (zrd w10 61 151 (0 : Int32)) fun v13 => (if (((2 : Int32) * v13) + (1 : Int32)) ≤ x9 then (some (x8, w10)) else (Option.bind (if x9 = 0 then (some v7) else (Option.bind (zdiv x9 (2 : Int32)) fun v29 => (if (v29 * (2 : Int32)) = x9 then (Option.bind (zdiv x9 (2 : Int32)) fun v35 => Option.bind (fX7_height w10 (v35 - (1 : Int32))) fun v38 => some (v38 + (1 : Int32))) else (Option.bind (zdiv x9 (2 : Int32)) fun v31 => Option.bind (fX7_height w10 v31) fun v34 => some v34)))) fun x26 => Option.bind (if x9 ≤ 0 then ((if x9 ≤ 0 then (some x26) else (Option.bind (zdiv x9 (2 : Int32)) fun v66 => Option.bind (if (v66 - (1 : Int32)) = p2 then (some v7) else (some x26)) fun x68 => some x68))) else (Option.bind (zdiv x9 (2 : Int32)) fun v73 => (if (v73 * (2 : Int32)) = x9 then ((if x9 ≤ 0 then (some x26) else (Option.bind (zdiv x9 (2 : Int32)) fun v75 => Option.bind (if (v75 - (1 : Int32)) = p2 then (some v7) else (some x26)) fun x77 => some x77))) else (Option.bind (zdiv x9 (2 : Int32)) fun v82 => Option.bind (if v82 = p2 then (some v7) else (some x26)) fun x84 => some x84)))) fun x63 => zb2 (if x63 < v7 then (some (x8, w10)) else ((if x8 ≤ x63 then (some (x8, w10)) else ((if (9999 : Int32) < x63 then (some (x8, w10)) else (Option.bind (zwr w10 61 151 ((5 : Int32) + ((2 : Int32) * p2)) x63) fun w108 => zb2 (fX7_reachOf w108 p1 p2 (0 : Int32)) fun v111 w112 => Option.bind (fX7_has w112 v111 p3) fun v114 => Option.bind (if v114 = 0 then (some x8) else (some x63)) fun x115 => Option.bind (zwr w112 61 151 ((5 : Int32) + ((2 : Int32) * p2)) v7) fun w118 => some (x115, w118))))))) fun x104 w105 => lpX7_rise_37 p1 p2 p3 v7 n w105 x104 (x9 + 1)))
def fX7_rise (w : zW) (p1 : Int32) (p2 : Int32) (p3 : Int32) : Option (Int32 × zW) := Option.bind (fX7_isAsked w p1 p2 p3) fun v2 => (if v2 = 0 then (zb2 (fX7_finds w (-1000000001 : Int32)) fun v4 w5 => some (v4, w5)) else ((if p2 = p3 then (zb2 (fX7_finds w (-1000000001 : Int32)) fun v136 w137 => some (v136, w137)) else (Option.bind (fX7_height w p2) fun v7 => zb2 (lpX7_rise_37 p1 p2 p3 v7 zF w (10000 : Int32) (0 : Int32)) fun y129 w130 => (if y129 ≤ (9999 : Int32) then (some (y129, w130)) else (zb2 (fX7_finds w130 (-1000000004 : Int32)) fun v132 w133 => some (v132, w133)))))))
set_option maxRecDepth 100000 in
theorem tlX7_rise_37 {p1 : Int32} {p2 : Int32} {p3 : Int32} {v7 : Int32}  {Q : Option Value → zW → Prop} : ∀ (n : Nat) (w10 : zW) (x8 : Int32) (x9 : Int32) (y11 : Int32) (w12 : zW), lpX7_rise_37 p1 p2 p3 v7 n w10 x8 x9 = some (y11, w12) → zWP RX7 cX7_rise (zMB 8 (some .int) 6 Q) 233 [some (.ref 60), none, none, none, none, some (.int y11), none, none] [] w12 → zWP RX7 cX7_rise (zMB 8 (some .int) 6 Q) 37 [some (.ref 60), some (.int p1), some (.int p2), some (.int p3), some (.int v7), some (.int x8), some (.int x9), none] [] w10 := by
  intro n
  induction n with
  | zero => intro w10 x8 x9 y11 w12 h K; simp [lpX7_rise_37] at h
  | succ n ih =>
    intro w10 x8 x9 y11 w12 h K
    rw [lpX7_rise_37] at h
    refine zs_iload dX7_rise_37 rfl ?_
    refine zs_iconst (2 : Int32) dX7_rise_39 ziconst_2 ?_
    refine zs_aload_n dX7_rise_40 rfl ?_
    refine gX7_7 dX7_rise_41 ?_
    refine zs_iconst (0 : Int32) dX7_rise_44 ziconst_0 ?_
    obtain ⟨v13, e14, h⟩ := zbind h
    refine zs_iald dX7_rise_45 za_61 e14 ?_
    refine zs_imul dX7_rise_46 ?_
    refine zs_iconst (1 : Int32) dX7_rise_47 ziconst_1 ?_
    refine zs_iadd dX7_rise_48 ?_
    refine zs_icmp_ge 233 dX7_rise_49 rfl (fun c126 => ?_) (fun c126 => ?_)
    · replace h := zite_t c126 h
      refine zs_fo [true, false, false, false, false, true, false, false] rfl ?_
      obtain ⟨rfl, rfl⟩ := zpi2 h
      exact K
    · replace h := zite_f c126 h
      refine zs_iload dX7_rise_52 rfl ?_
      obtain ⟨x26, m28, h⟩ := zbind h
      have K27 : zWP RX7 cX7_rise (zMB 8 (some .int) 6 Q) 96 [some (.ref 60), some (.int p1), some (.int p2), some (.int p3), some (.int v7), some (.int x8), some (.int x9), none] [.int x26] w10 := by
        refine zs_istore [some (.ref 60), some (.int p1), some (.int p2), some (.int p3), some (.int v7), some (.int x8), some (.int x9), some (.int x26)] dX7_rise_96 (Nat.le_of_ble_eq_true rfl) rfl rfl ?_
        refine zs_iload dX7_rise_98 rfl ?_
        obtain ⟨x63, m65, h⟩ := zbind h
        have K64 : zWP RX7 cX7_rise (zMB 8 (some .int) 6 Q) 158 [some (.ref 60), some (.int p1), some (.int p2), some (.int p3), some (.int v7), some (.int x8), some (.int x9), some (.int x63)] [] w10 := by
          refine zs_iload dX7_rise_158 rfl ?_
          refine zs_iload dX7_rise_160 rfl ?_
          obtain ⟨x104, w105, m107, h⟩ := zb2_inv h
          have K106 : zWP RX7 cX7_rise (zMB 8 (some .int) 6 Q) 227 [some (.ref 60), some (.int p1), some (.int p2), some (.int p3), some (.int v7), some (.int x104), some (.int x9), none] [] w105 := by
            refine zs_iinc (x9 + 1) [some (.ref 60), some (.int p1), some (.int p2), some (.int p3), some (.int v7), some (.int x104), some (.int (x9 + 1)), none] dX7_rise_227 rfl rfl (Nat.le_of_ble_eq_true rfl) rfl rfl ?_
            refine zs_goto 37 dX7_rise_230 rfl ?_
            exact ih _ _ _ _ _ h K
          refine zs_icmp_lt 227 dX7_rise_162 rfl (fun c123 => ?_) (fun c123 => ?_)
          · replace m107 := zite_t c123 m107
            refine zs_fo [true, true, true, true, true, true, true, false] rfl ?_
            obtain ⟨rfl, rfl⟩ := zpi2 m107
            exact K106
          · replace m107 := zite_f c123 m107
            refine zs_iload dX7_rise_165 rfl ?_
            refine zs_iload dX7_rise_167 rfl ?_
            refine zs_icmp_ge 227 dX7_rise_169 rfl (fun c122 => ?_) (fun c122 => ?_)
            · replace m107 := zite_t c122 m107
              refine zs_fo [true, true, true, true, true, true, true, false] rfl ?_
              obtain ⟨rfl, rfl⟩ := zpi2 m107
              exact K106
            · replace m107 := zite_f c122 m107
              refine zs_iload dX7_rise_172 rfl ?_
              refine zs_sipush (9999 : Int32) dX7_rise_174 zsipush_9999 ?_
              refine zs_icmp_gt 227 dX7_rise_177 rfl (fun c121 => ?_) (fun c121 => ?_)
              · replace m107 := zite_t c121 m107
                refine zs_fo [true, true, true, true, true, true, true, false] rfl ?_
                obtain ⟨rfl, rfl⟩ := zpi2 m107
                exact K106
              · replace m107 := zite_f c121 m107
                refine zs_aload_n dX7_rise_180 rfl ?_
                refine gX7_7 dX7_rise_181 ?_
                refine zs_iconst (5 : Int32) dX7_rise_184 ziconst_5 ?_
                refine zs_iconst (2 : Int32) dX7_rise_185 ziconst_2 ?_
                refine zs_iload_n dX7_rise_186 rfl ?_
                refine zs_imul dX7_rise_187 ?_
                refine zs_iadd dX7_rise_188 ?_
                refine zs_iload dX7_rise_189 rfl ?_
                obtain ⟨w108, e109, m107⟩ := zbind m107
                refine zs_iast dX7_rise_191 za_61 e109 ?_
                refine zs_aload_n dX7_rise_192 rfl ?_
                refine zs_iload_n dX7_rise_193 rfl ?_
                refine zs_iload_n dX7_rise_194 rfl ?_
                refine zs_iconst (0 : Int32) dX7_rise_195 ziconst_0 ?_
                obtain ⟨v111, w112, e110, m107⟩ := zb2_inv m107
                refine zc_V3i moX7_reachOf mvX7_reachOf kX7_139 rfl dX7_rise_196 za_60 (Nat.le_of_ble_eq_true rfl) (zrm (by decide)) (tX7_reachOf e110) ?_
                refine zs_iload_n dX7_rise_199 rfl ?_
                obtain ⟨v114, e113, m107⟩ := zbind m107
                refine zc_S2i moX7_has mvX7_has kX7_143 dX7_rise_200 (Nat.le_of_ble_eq_true rfl) (zrm (by decide)) (tX7_has e113) ?_
                obtain ⟨x115, m117, m107⟩ := zbind m107
                have K116 : zWP RX7 cX7_rise (zMB 8 (some .int) 6 Q) 213 [some (.ref 60), some (.int p1), some (.int p2), some (.int p3), some (.int v7), none, some (.int x9), none] [.int x115] w112 := by
                  refine zs_istore [some (.ref 60), some (.int p1), some (.int p2), some (.int p3), some (.int v7), some (.int x115), some (.int x9), none] dX7_rise_213 (Nat.le_of_ble_eq_true rfl) rfl rfl ?_
                  refine zs_aload_n dX7_rise_215 rfl ?_
                  refine gX7_7 dX7_rise_216 ?_
                  refine zs_iconst (5 : Int32) dX7_rise_219 ziconst_5 ?_
                  refine zs_iconst (2 : Int32) dX7_rise_220 ziconst_2 ?_
                  refine zs_iload_n dX7_rise_221 rfl ?_
                  refine zs_imul dX7_rise_222 ?_
                  refine zs_iadd dX7_rise_223 ?_
                  refine zs_iload dX7_rise_224 rfl ?_
                  obtain ⟨w118, e119, m107⟩ := zbind m107
                  refine zs_iast dX7_rise_226 za_61 e119 ?_
                  obtain ⟨rfl, rfl⟩ := zpi2 m107
                  exact K106
                refine zs_if_eq 211 dX7_rise_203 rfl (fun c120 => ?_) (fun c120 => ?_)
                · replace m117 := zite_t c120 m117
                  refine zs_iload dX7_rise_211 rfl ?_
                  refine zs_fo [true, true, true, true, true, false, true, false] rfl ?_
                  obtain rfl := Option.some.inj m117
                  exact K116
                · replace m117 := zite_f c120 m117
                  refine zs_iload dX7_rise_206 rfl ?_
                  refine zs_goto 213 dX7_rise_208 rfl ?_
                  refine zs_fo [true, true, true, true, true, false, true, false] rfl ?_
                  obtain rfl := Option.some.inj m117
                  exact K116
        refine zs_if_le 134 dX7_rise_100 rfl (fun c124 => ?_) (fun c124 => ?_)
        · replace m65 := zite_t c124 m65
          refine zs_iload dX7_rise_134 rfl ?_
          refine zs_if_le 158 dX7_rise_136 rfl (fun c72 => ?_) (fun c72 => ?_)
          · replace m65 := zite_t c72 m65
            obtain rfl := Option.some.inj m65
            exact K64
          · replace m65 := zite_f c72 m65
            refine zs_iload dX7_rise_139 rfl ?_
            refine zs_iconst (2 : Int32) dX7_rise_141 ziconst_2 ?_
            obtain ⟨v66, e67, m65⟩ := zbind m65
            refine zs_idiv dX7_rise_142 (zdiv_inv e67).1 ?_
            refine zs_nmi (zdiv_inv e67).2 ?_
            refine zs_iconst (1 : Int32) dX7_rise_143 ziconst_1 ?_
            refine zs_isub dX7_rise_144 ?_
            refine zs_iload_n dX7_rise_145 rfl ?_
            obtain ⟨x68, m70, m65⟩ := zbind m65
            have K69 : zWP RX7 cX7_rise (zMB 8 (some .int) 6 Q) 156 [some (.ref 60), some (.int p1), some (.int p2), some (.int p3), some (.int v7), some (.int x8), some (.int x9), none] [.int x68] w10 := by
              refine zs_istore [some (.ref 60), some (.int p1), some (.int p2), some (.int p3), some (.int v7), some (.int x8), some (.int x9), some (.int x68)] dX7_rise_156 (Nat.le_of_ble_eq_true rfl) rfl rfl ?_
              obtain rfl := Option.some.inj m65
              exact K64
            refine zs_icmp_ne 154 dX7_rise_146 rfl (fun c71 => ?_) (fun c71 => ?_)
            · replace m70 := zite_f c71 m70
              refine zs_iload dX7_rise_154 rfl ?_
              refine zs_fo [true, true, true, true, true, true, true, false] rfl ?_
              obtain rfl := Option.some.inj m70
              exact K69
            · replace m70 := zite_t c71 m70
              refine zs_iload dX7_rise_149 rfl ?_
              refine zs_goto 156 dX7_rise_151 rfl ?_
              refine zs_fo [true, true, true, true, true, true, true, false] rfl ?_
              obtain rfl := Option.some.inj m70
              exact K69
        · replace m65 := zite_f c124 m65
          refine zs_iload dX7_rise_103 rfl ?_
          refine zs_iconst (2 : Int32) dX7_rise_105 ziconst_2 ?_
          obtain ⟨v73, e74, m65⟩ := zbind m65
          refine zs_idiv dX7_rise_106 (zdiv_inv e74).1 ?_
          refine zs_nmi (zdiv_inv e74).2 ?_
          refine zs_iconst (2 : Int32) dX7_rise_107 ziconst_2 ?_
          refine zs_imul dX7_rise_108 ?_
          refine zs_iload dX7_rise_109 rfl ?_
          refine zs_icmp_eq 134 dX7_rise_111 rfl (fun c88 => ?_) (fun c88 => ?_)
          · replace m65 := zite_t c88 m65
            refine zs_iload dX7_rise_134 rfl ?_
            refine zs_if_le 158 dX7_rise_136 rfl (fun c81 => ?_) (fun c81 => ?_)
            · replace m65 := zite_t c81 m65
              obtain rfl := Option.some.inj m65
              exact K64
            · replace m65 := zite_f c81 m65
              refine zs_iload dX7_rise_139 rfl ?_
              refine zs_iconst (2 : Int32) dX7_rise_141 ziconst_2 ?_
              obtain ⟨v75, e76, m65⟩ := zbind m65
              refine zs_idiv dX7_rise_142 (zdiv_inv e76).1 ?_
              refine zs_nmi (zdiv_inv e76).2 ?_
              refine zs_iconst (1 : Int32) dX7_rise_143 ziconst_1 ?_
              refine zs_isub dX7_rise_144 ?_
              refine zs_iload_n dX7_rise_145 rfl ?_
              obtain ⟨x77, m79, m65⟩ := zbind m65
              have K78 : zWP RX7 cX7_rise (zMB 8 (some .int) 6 Q) 156 [some (.ref 60), some (.int p1), some (.int p2), some (.int p3), some (.int v7), some (.int x8), some (.int x9), none] [.int x77] w10 := by
                refine zs_istore [some (.ref 60), some (.int p1), some (.int p2), some (.int p3), some (.int v7), some (.int x8), some (.int x9), some (.int x77)] dX7_rise_156 (Nat.le_of_ble_eq_true rfl) rfl rfl ?_
                obtain rfl := Option.some.inj m65
                exact K64
              refine zs_icmp_ne 154 dX7_rise_146 rfl (fun c80 => ?_) (fun c80 => ?_)
              · replace m79 := zite_f c80 m79
                refine zs_iload dX7_rise_154 rfl ?_
                refine zs_fo [true, true, true, true, true, true, true, false] rfl ?_
                obtain rfl := Option.some.inj m79
                exact K78
              · replace m79 := zite_t c80 m79
                refine zs_iload dX7_rise_149 rfl ?_
                refine zs_goto 156 dX7_rise_151 rfl ?_
                refine zs_fo [true, true, true, true, true, true, true, false] rfl ?_
                obtain rfl := Option.some.inj m79
                exact K78
          · replace m65 := zite_f c88 m65
            refine zs_iload dX7_rise_114 rfl ?_
            refine zs_iconst (2 : Int32) dX7_rise_116 ziconst_2 ?_
            obtain ⟨v82, e83, m65⟩ := zbind m65
            refine zs_idiv dX7_rise_117 (zdiv_inv e83).1 ?_
            refine zs_nmi (zdiv_inv e83).2 ?_
            refine zs_iload_n dX7_rise_118 rfl ?_
            obtain ⟨x84, m86, m65⟩ := zbind m65
            have K85 : zWP RX7 cX7_rise (zMB 8 (some .int) 6 Q) 129 [some (.ref 60), some (.int p1), some (.int p2), some (.int p3), some (.int v7), some (.int x8), some (.int x9), none] [.int x84] w10 := by
              refine zs_istore [some (.ref 60), some (.int p1), some (.int p2), some (.int p3), some (.int v7), some (.int x8), some (.int x9), some (.int x84)] dX7_rise_129 (Nat.le_of_ble_eq_true rfl) rfl rfl ?_
              refine zs_goto 158 dX7_rise_131 rfl ?_
              obtain rfl := Option.some.inj m65
              exact K64
            refine zs_icmp_ne 127 dX7_rise_119 rfl (fun c87 => ?_) (fun c87 => ?_)
            · replace m86 := zite_f c87 m86
              refine zs_iload dX7_rise_127 rfl ?_
              refine zs_fo [true, true, true, true, true, true, true, false] rfl ?_
              obtain rfl := Option.some.inj m86
              exact K85
            · replace m86 := zite_t c87 m86
              refine zs_iload dX7_rise_122 rfl ?_
              refine zs_goto 129 dX7_rise_124 rfl ?_
              refine zs_fo [true, true, true, true, true, true, true, false] rfl ?_
              obtain rfl := Option.some.inj m86
              exact K85
      refine zs_if_ne 62 dX7_rise_54 rfl (fun c125 => ?_) (fun c125 => ?_)
      · replace m28 := zite_f c125 m28
        refine zs_iload dX7_rise_62 rfl ?_
        refine zs_iconst (2 : Int32) dX7_rise_64 ziconst_2 ?_
        obtain ⟨v29, e30, m28⟩ := zbind m28
        refine zs_idiv dX7_rise_65 (zdiv_inv e30).1 ?_
        refine zs_nmi (zdiv_inv e30).2 ?_
        refine zs_iconst (2 : Int32) dX7_rise_66 ziconst_2 ?_
        refine zs_imul dX7_rise_67 ?_
        refine zs_iload dX7_rise_68 rfl ?_
        refine zs_icmp_ne 88 dX7_rise_70 rfl (fun c39 => ?_) (fun c39 => ?_)
        · replace m28 := zite_f c39 m28
          refine zs_aload_n dX7_rise_88 rfl ?_
          refine zs_iload dX7_rise_89 rfl ?_
          refine zs_iconst (2 : Int32) dX7_rise_91 ziconst_2 ?_
          obtain ⟨v31, e32, m28⟩ := zbind m28
          refine zs_idiv dX7_rise_92 (zdiv_inv e32).1 ?_
          refine zs_nmi (zdiv_inv e32).2 ?_
          obtain ⟨v34, e33, m28⟩ := zbind m28
          refine zc_V1i moX7_height mvX7_height kX7_69 rfl dX7_rise_93 za_60 (Nat.le_of_ble_eq_true rfl) (zrm (by decide)) (tX7_height e33) ?_
          obtain rfl := Option.some.inj m28
          exact K27
        · replace m28 := zite_t c39 m28
          refine zs_aload_n dX7_rise_73 rfl ?_
          refine zs_iload dX7_rise_74 rfl ?_
          refine zs_iconst (2 : Int32) dX7_rise_76 ziconst_2 ?_
          obtain ⟨v35, e36, m28⟩ := zbind m28
          refine zs_idiv dX7_rise_77 (zdiv_inv e36).1 ?_
          refine zs_nmi (zdiv_inv e36).2 ?_
          refine zs_iconst (1 : Int32) dX7_rise_78 ziconst_1 ?_
          refine zs_isub dX7_rise_79 ?_
          obtain ⟨v38, e37, m28⟩ := zbind m28
          refine zc_V1i moX7_height mvX7_height kX7_69 rfl dX7_rise_80 za_60 (Nat.le_of_ble_eq_true rfl) (zrm (by decide)) (tX7_height e37) ?_
          refine zs_iconst (1 : Int32) dX7_rise_83 ziconst_1 ?_
          refine zs_iadd dX7_rise_84 ?_
          refine zs_goto 96 dX7_rise_85 rfl ?_
          obtain rfl := Option.some.inj m28
          exact K27
      · replace m28 := zite_t c125 m28
        refine zs_iload dX7_rise_57 rfl ?_
        refine zs_goto 96 dX7_rise_59 rfl ?_
        obtain rfl := Option.some.inj m28
        exact K27
set_option maxRecDepth 100000 in
theorem tX7_rise {w : zW} {p1 : Int32} {p2 : Int32} {p3 : Int32}  {r : Int32} {w' : zW} (h : fX7_rise w p1 p2 p3 = some (r, w')) : zRun yX7_rise cX7_rise 8 (some .int) 6 [.ref 60, .int p1, .int p2, .int p3] w (zI r w') := by
  refine zRun.of (k := 4) rfl rfl rfl ?_
  show zWP RX7 cX7_rise (zMB 8 (some .int) 6 (zI r w')) 0 [some (.ref 60), some (.int p1), some (.int p2), some (.int p3), none, none, none, none] [] w
  unfold fX7_rise at h
  refine zs_aload_n dX7_rise_0 rfl ?_
  refine zs_iload_n dX7_rise_1 rfl ?_
  refine zs_iload_n dX7_rise_2 rfl ?_
  refine zs_iload_n dX7_rise_3 rfl ?_
  obtain ⟨v2, e1, h⟩ := zbind h
  refine zc_V3i moX7_isAsked mvX7_isAsked kX7_129 rfl dX7_rise_4 za_60 (Nat.le_of_ble_eq_true rfl) (zrm (by decide)) (tX7_isAsked e1) ?_
  refine zs_if_eq 15 dX7_rise_7 rfl (fun c139 => ?_) (fun c139 => ?_)
  · replace h := zite_t c139 h
    refine zs_aload_n dX7_rise_15 rfl ?_
    refine zs_ldc kX7_44 dX7_rise_16 ?_
    obtain ⟨v4, w5, e3, h⟩ := zb2_inv h
    refine zc_V1i moX7_finds mvX7_finds kX7_49 rfl dX7_rise_18 za_60 (Nat.le_of_ble_eq_true rfl) (zrm (by decide)) (tX7_finds e3) ?_
    obtain ⟨rfl, rfl⟩ := zpi2 h
    exact zs_iret dX7_rise_21 ⟨rfl, rfl⟩
  · replace h := zite_f c139 h
    refine zs_iload_n dX7_rise_10 rfl ?_
    refine zs_iload_n dX7_rise_11 rfl ?_
    refine zs_icmp_ne 22 dX7_rise_12 rfl (fun c138 => ?_) (fun c138 => ?_)
    · replace h := zite_f c138 h
      refine zs_aload_n dX7_rise_22 rfl ?_
      refine zs_iload_n dX7_rise_23 rfl ?_
      obtain ⟨v7, e6, h⟩ := zbind h
      refine zc_V1i moX7_height mvX7_height kX7_69 rfl dX7_rise_24 za_60 (Nat.le_of_ble_eq_true rfl) (zrm (by decide)) (tX7_height e6) ?_
      refine zs_istore [some (.ref 60), some (.int p1), some (.int p2), some (.int p3), some (.int v7), none, none, none] dX7_rise_27 (Nat.le_of_ble_eq_true rfl) rfl rfl ?_
      refine zs_sipush (10000 : Int32) dX7_rise_29 zsipush_10000 ?_
      refine zs_istore [some (.ref 60), some (.int p1), some (.int p2), some (.int p3), some (.int v7), some (.int (10000 : Int32)), none, none] dX7_rise_32 (Nat.le_of_ble_eq_true rfl) rfl rfl ?_
      refine zs_iconst (0 : Int32) dX7_rise_34 ziconst_0 ?_
      refine zs_istore [some (.ref 60), some (.int p1), some (.int p2), some (.int p3), some (.int v7), some (.int (10000 : Int32)), some (.int (0 : Int32)), none] dX7_rise_35 (Nat.le_of_ble_eq_true rfl) rfl rfl ?_
      obtain ⟨y129, w130, e127, h⟩ := zb2_inv h
      have K128 : zWP RX7 cX7_rise (zMB 8 (some .int) 6 (zI r w')) 233 [some (.ref 60), none, none, none, none, some (.int y129), none, none] [] w130 := by
        refine zs_iload dX7_rise_233 rfl ?_
        refine zs_sipush (9999 : Int32) dX7_rise_235 zsipush_9999 ?_
        refine zs_icmp_le 250 dX7_rise_238 rfl (fun c134 => ?_) (fun c134 => ?_)
        · replace h := zite_t c134 h
          refine zs_iload dX7_rise_250 rfl ?_
          obtain ⟨rfl, rfl⟩ := zpi2 h
          exact zs_iret dX7_rise_252 ⟨rfl, rfl⟩
        · replace h := zite_f c134 h
          refine zs_aload_n dX7_rise_241 rfl ?_
          refine zs_ldc kX7_92 dX7_rise_242 ?_
          obtain ⟨v132, w133, e131, h⟩ := zb2_inv h
          refine zc_V1i moX7_finds mvX7_finds kX7_49 rfl dX7_rise_244 za_60 (Nat.le_of_ble_eq_true rfl) (zrm (by decide)) (tX7_finds e131) ?_
          refine zs_goto 252 dX7_rise_247 rfl ?_
          obtain ⟨rfl, rfl⟩ := zpi2 h
          exact zs_iret dX7_rise_252 ⟨rfl, rfl⟩
      exact tlX7_rise_37  zF _ _ _ _ _ e127 K128
    · replace h := zite_t c138 h
      refine zs_aload_n dX7_rise_15 rfl ?_
      refine zs_ldc kX7_44 dX7_rise_16 ?_
      obtain ⟨v136, w137, e135, h⟩ := zb2_inv h
      refine zc_V1i moX7_finds mvX7_finds kX7_49 rfl dX7_rise_18 za_60 (Nat.le_of_ble_eq_true rfl) (zrm (by decide)) (tX7_finds e135) ?_
      obtain ⟨rfl, rfl⟩ := zpi2 h
      exact zs_iret dX7_rise_21 ⟨rfl, rfl⟩
def fX7_road (w : zW) (p1 : Int32) (p2 : Int32) (p3 : Int32) : Option (Int32 × zW) := Option.bind (fX7_isVillage w p1) fun v2 => (if v2 = 0 then (zb2 (fX7_finds w (-1000000001 : Int32)) fun v4 w5 => some (v4, w5)) else (Option.bind (fX7_isVillage w p2) fun v7 => (if v7 = 0 then (zb2 (fX7_finds w (-1000000001 : Int32)) fun v9 w10 => some (v9, w10)) else ((if p1 = p2 then (zb2 (fX7_finds w (-1000000001 : Int32)) fun v12 w13 => some (v12, w13)) else (Option.bind (fX7_in w p3 (1 : Int32) (9 : Int32)) fun v15 => (if v15 = 0 then (zb2 (fX7_finds w (-1000000001 : Int32)) fun v33 w34 => some (v33, w34)) else (Option.bind (fX7_between w p1 p2) fun v17 => (if v17 < 0 then (Option.bind (zrd w 61 151 (1 : Int32)) fun v18 => (if v18 = (24 : Int32) then (zb2 (fX7_finds w (-1000000002 : Int32)) fun v25 w26 => some (v25, w26)) else (Option.bind (fX7_addRoad w p1 p2 p3) fun w21 => Option.bind (zrd w21 61 151 (1 : Int32)) fun v22 => some ((v22 - (1 : Int32)), w21)))) else (zb2 (fX7_finds w (-1000000005 : Int32)) fun v29 w30 => some (v29, w30)))))))))))
set_option maxRecDepth 100000 in
theorem tX7_road {w : zW} {p1 : Int32} {p2 : Int32} {p3 : Int32}  {r : Int32} {w' : zW} (h : fX7_road w p1 p2 p3 = some (r, w')) : zRun yX7_road cX7_road 4 (some .int) 2 [.ref 60, .int p1, .int p2, .int p3] w (zI r w') := by
  refine zRun.of (k := 0) rfl rfl rfl ?_
  show zWP RX7 cX7_road (zMB 4 (some .int) 2 (zI r w')) 0 [some (.ref 60), some (.int p1), some (.int p2), some (.int p3)] [] w
  unfold fX7_road at h
  refine zs_aload_n dX7_road_0 rfl ?_
  refine zs_iload_n dX7_road_1 rfl ?_
  obtain ⟨v2, e1, h⟩ := zbind h
  refine zc_V1i moX7_isVillage mvX7_isVillage kX7_65 rfl dX7_road_2 za_60 (Nat.le_of_ble_eq_true rfl) (zrm (by decide)) (tX7_isVillage e1) ?_
  refine zs_if_eq 31 dX7_road_5 rfl (fun c38 => ?_) (fun c38 => ?_)
  · replace h := zite_t c38 h
    refine zs_aload_n dX7_road_31 rfl ?_
    refine zs_ldc kX7_44 dX7_road_32 ?_
    obtain ⟨v4, w5, e3, h⟩ := zb2_inv h
    refine zc_V1i moX7_finds mvX7_finds kX7_49 rfl dX7_road_34 za_60 (Nat.le_of_ble_eq_true rfl) (zrm (by decide)) (tX7_finds e3) ?_
    obtain ⟨rfl, rfl⟩ := zpi2 h
    exact zs_iret dX7_road_37 ⟨rfl, rfl⟩
  · replace h := zite_f c38 h
    refine zs_aload_n dX7_road_8 rfl ?_
    refine zs_iload_n dX7_road_9 rfl ?_
    obtain ⟨v7, e6, h⟩ := zbind h
    refine zc_V1i moX7_isVillage mvX7_isVillage kX7_65 rfl dX7_road_10 za_60 (Nat.le_of_ble_eq_true rfl) (zrm (by decide)) (tX7_isVillage e6) ?_
    refine zs_if_eq 31 dX7_road_13 rfl (fun c37 => ?_) (fun c37 => ?_)
    · replace h := zite_t c37 h
      refine zs_aload_n dX7_road_31 rfl ?_
      refine zs_ldc kX7_44 dX7_road_32 ?_
      obtain ⟨v9, w10, e8, h⟩ := zb2_inv h
      refine zc_V1i moX7_finds mvX7_finds kX7_49 rfl dX7_road_34 za_60 (Nat.le_of_ble_eq_true rfl) (zrm (by decide)) (tX7_finds e8) ?_
      obtain ⟨rfl, rfl⟩ := zpi2 h
      exact zs_iret dX7_road_37 ⟨rfl, rfl⟩
    · replace h := zite_f c37 h
      refine zs_iload_n dX7_road_16 rfl ?_
      refine zs_iload_n dX7_road_17 rfl ?_
      refine zs_icmp_eq 31 dX7_road_18 rfl (fun c36 => ?_) (fun c36 => ?_)
      · replace h := zite_t c36 h
        refine zs_aload_n dX7_road_31 rfl ?_
        refine zs_ldc kX7_44 dX7_road_32 ?_
        obtain ⟨v12, w13, e11, h⟩ := zb2_inv h
        refine zc_V1i moX7_finds mvX7_finds kX7_49 rfl dX7_road_34 za_60 (Nat.le_of_ble_eq_true rfl) (zrm (by decide)) (tX7_finds e11) ?_
        obtain ⟨rfl, rfl⟩ := zpi2 h
        exact zs_iret dX7_road_37 ⟨rfl, rfl⟩
      · replace h := zite_f c36 h
        refine zs_iload_n dX7_road_21 rfl ?_
        refine zs_iconst (1 : Int32) dX7_road_22 ziconst_1 ?_
        refine zs_bipush (9 : Int32) dX7_road_23 zbipush_9 ?_
        obtain ⟨v15, e14, h⟩ := zbind h
        refine zc_S3i moX7_in mvX7_in kX7_45 dX7_road_25 (Nat.le_of_ble_eq_true rfl) (zrm (by decide)) (tX7_in e14) ?_
        refine zs_if_ne 38 dX7_road_28 rfl (fun c35 => ?_) (fun c35 => ?_)
        · replace h := zite_f c35 h
          refine zs_aload_n dX7_road_38 rfl ?_
          refine zs_iload_n dX7_road_39 rfl ?_
          refine zs_iload_n dX7_road_40 rfl ?_
          obtain ⟨v17, e16, h⟩ := zbind h
          refine zc_V2i moX7_between mvX7_between kX7_81 rfl dX7_road_41 za_60 (Nat.le_of_ble_eq_true rfl) (zrm (by decide)) (tX7_between e16) ?_
          refine zs_if_lt 54 dX7_road_44 rfl (fun c31 => ?_) (fun c31 => ?_)
          · replace h := zite_t c31 h
            refine zs_aload_n dX7_road_54 rfl ?_
            refine gX7_7 dX7_road_55 ?_
            refine zs_iconst (1 : Int32) dX7_road_58 ziconst_1 ?_
            obtain ⟨v18, e19, h⟩ := zbind h
            refine zs_iald dX7_road_59 za_61 e19 ?_
            refine zs_bipush (24 : Int32) dX7_road_60 zbipush_24 ?_
            refine zs_icmp_ne 72 dX7_road_62 rfl (fun c27 => ?_) (fun c27 => ?_)
            · replace h := zite_f c27 h
              refine zs_aload_n dX7_road_72 rfl ?_
              refine zs_iload_n dX7_road_73 rfl ?_
              refine zs_iload_n dX7_road_74 rfl ?_
              refine zs_iload_n dX7_road_75 rfl ?_
              obtain ⟨w21, e20, h⟩ := zbind h
              refine zc_V3v moX7_addRoad mvX7_addRoad kX7_85 rfl dX7_road_76 za_60 (Nat.le_of_ble_eq_true rfl) (zrm (by decide)) (tX7_addRoad e20) ?_
              refine zs_aload_n dX7_road_79 rfl ?_
              refine gX7_7 dX7_road_80 ?_
              refine zs_iconst (1 : Int32) dX7_road_83 ziconst_1 ?_
              obtain ⟨v22, e23, h⟩ := zbind h
              refine zs_iald dX7_road_84 za_61 e23 ?_
              refine zs_iconst (1 : Int32) dX7_road_85 ziconst_1 ?_
              refine zs_isub dX7_road_86 ?_
              obtain ⟨rfl, rfl⟩ := zpi2 h
              exact zs_iret dX7_road_87 ⟨rfl, rfl⟩
            · replace h := zite_t c27 h
              refine zs_aload_n dX7_road_65 rfl ?_
              refine zs_ldc kX7_53 dX7_road_66 ?_
              obtain ⟨v25, w26, e24, h⟩ := zb2_inv h
              refine zc_V1i moX7_finds mvX7_finds kX7_49 rfl dX7_road_68 za_60 (Nat.le_of_ble_eq_true rfl) (zrm (by decide)) (tX7_finds e24) ?_
              obtain ⟨rfl, rfl⟩ := zpi2 h
              exact zs_iret dX7_road_71 ⟨rfl, rfl⟩
          · replace h := zite_f c31 h
            refine zs_aload_n dX7_road_47 rfl ?_
            refine zs_ldc kX7_84 dX7_road_48 ?_
            obtain ⟨v29, w30, e28, h⟩ := zb2_inv h
            refine zc_V1i moX7_finds mvX7_finds kX7_49 rfl dX7_road_50 za_60 (Nat.le_of_ble_eq_true rfl) (zrm (by decide)) (tX7_finds e28) ?_
            obtain ⟨rfl, rfl⟩ := zpi2 h
            exact zs_iret dX7_road_53 ⟨rfl, rfl⟩
        · replace h := zite_t c35 h
          refine zs_aload_n dX7_road_31 rfl ?_
          refine zs_ldc kX7_44 dX7_road_32 ?_
          obtain ⟨v33, w34, e32, h⟩ := zb2_inv h
          refine zc_V1i moX7_finds mvX7_finds kX7_49 rfl dX7_road_34 za_60 (Nat.le_of_ble_eq_true rfl) (zrm (by decide)) (tX7_finds e32) ?_
          obtain ⟨rfl, rfl⟩ := zpi2 h
          exact zs_iret dX7_road_37 ⟨rfl, rfl⟩
def fX7_roadOf (w : zW) (p1 : Int32) (p2 : Int32) : Option (Int32 × zW) := Option.bind (fX7_isRoad w p1) fun v2 => (if v2 = 0 then (zb2 (fX7_finds w (-1000000001 : Int32)) fun v4 w5 => some (v4, w5)) else (Option.bind (fX7_in w p2 (0 : Int32) (2 : Int32)) fun v7 => (if v7 = 0 then (zb2 (fX7_finds w (-1000000001 : Int32)) fun v9 w10 => some (v9, w10)) else (Option.bind (fX7_end w p1 p2) fun v12 => some (v12, w)))))
set_option maxRecDepth 100000 in
theorem tX7_roadOf {w : zW} {p1 : Int32} {p2 : Int32}  {r : Int32} {w' : zW} (h : fX7_roadOf w p1 p2 = some (r, w')) : zRun yX7_roadOf cX7_roadOf 3 (some .int) 2 [.ref 60, .int p1, .int p2] w (zI r w') := by
  refine zRun.of (k := 0) rfl rfl rfl ?_
  show zWP RX7 cX7_roadOf (zMB 3 (some .int) 2 (zI r w')) 0 [some (.ref 60), some (.int p1), some (.int p2)] [] w
  unfold fX7_roadOf at h
  refine zs_aload_n dX7_roadOf_0 rfl ?_
  refine zs_iload_n dX7_roadOf_1 rfl ?_
  obtain ⟨v2, e1, h⟩ := zbind h
  refine zc_V1i moX7_isRoad mvX7_isRoad kX7_89 rfl dX7_roadOf_2 za_60 (Nat.le_of_ble_eq_true rfl) (zrm (by decide)) (tX7_isRoad e1) ?_
  refine zs_if_eq 26 dX7_roadOf_5 rfl (fun c14 => ?_) (fun c14 => ?_)
  · replace h := zite_t c14 h
    refine zs_aload_n dX7_roadOf_26 rfl ?_
    refine zs_ldc kX7_44 dX7_roadOf_27 ?_
    obtain ⟨v4, w5, e3, h⟩ := zb2_inv h
    refine zc_V1i moX7_finds mvX7_finds kX7_49 rfl dX7_roadOf_29 za_60 (Nat.le_of_ble_eq_true rfl) (zrm (by decide)) (tX7_finds e3) ?_
    obtain ⟨rfl, rfl⟩ := zpi2 h
    exact zs_iret dX7_roadOf_32 ⟨rfl, rfl⟩
  · replace h := zite_f c14 h
    refine zs_iload_n dX7_roadOf_8 rfl ?_
    refine zs_iconst (0 : Int32) dX7_roadOf_9 ziconst_0 ?_
    refine zs_iconst (2 : Int32) dX7_roadOf_10 ziconst_2 ?_
    obtain ⟨v7, e6, h⟩ := zbind h
    refine zc_S3i moX7_in mvX7_in kX7_45 dX7_roadOf_11 (Nat.le_of_ble_eq_true rfl) (zrm (by decide)) (tX7_in e6) ?_
    refine zs_if_eq 26 dX7_roadOf_14 rfl (fun c13 => ?_) (fun c13 => ?_)
    · replace h := zite_t c13 h
      refine zs_aload_n dX7_roadOf_26 rfl ?_
      refine zs_ldc kX7_44 dX7_roadOf_27 ?_
      obtain ⟨v9, w10, e8, h⟩ := zb2_inv h
      refine zc_V1i moX7_finds mvX7_finds kX7_49 rfl dX7_roadOf_29 za_60 (Nat.le_of_ble_eq_true rfl) (zrm (by decide)) (tX7_finds e8) ?_
      obtain ⟨rfl, rfl⟩ := zpi2 h
      exact zs_iret dX7_roadOf_32 ⟨rfl, rfl⟩
    · replace h := zite_f c13 h
      refine zs_aload_n dX7_roadOf_17 rfl ?_
      refine zs_iload_n dX7_roadOf_18 rfl ?_
      refine zs_iload_n dX7_roadOf_19 rfl ?_
      obtain ⟨v12, e11, h⟩ := zbind h
      refine zc_V2i moX7_end mvX7_end kX7_58 rfl dX7_roadOf_20 za_60 (Nat.le_of_ble_eq_true rfl) (zrm (by decide)) (tX7_end e11) ?_
      refine zs_goto 32 dX7_roadOf_23 rfl ?_
      obtain ⟨rfl, rfl⟩ := zpi2 h
      exact zs_iret dX7_roadOf_32 ⟨rfl, rfl⟩
def lpX7_roadsAt_4 (w : zW) (p1 : Int32) : Nat → Int32 → Int32 → Option Int32
  | 0, _, _ => none
  | n + 1, x1, x2 => Option.bind (zrd w 61 151 (1 : Int32)) fun v4 => (if v4 ≤ x2 then (some x1) else (Option.bind (fX7_end w x2 (0 : Int32)) fun v7 => Option.bind (if v7 = p1 then (some (1 : Int32)) else (Option.bind (fX7_end w x2 (1 : Int32)) fun v15 => (if v15 = p1 then (some (1 : Int32)) else (some (0 : Int32))))) fun x11 => Option.bind (some ((x1 + x11))) fun x17 => lpX7_roadsAt_4 w p1 n x17 (x2 + 1)))
def fX7_roadsAt (w : zW) (p1 : Int32) : Option Int32 := Option.bind (lpX7_roadsAt_4 w p1 zF (0 : Int32) (0 : Int32)) fun y23 => some y23
set_option maxRecDepth 100000 in
theorem tlX7_roadsAt_4 {w : zW} {p1 : Int32}  {Q : Option Value → zW → Prop} : ∀ (n : Nat) (x1 : Int32) (x2 : Int32) (y3 : Int32), lpX7_roadsAt_4 w p1 n x1 x2 = some y3 → zWP RX7 cX7_roadsAt (zMB 4 (some .int) 1 Q) 48 [none, none, some (.int y3), none] [] w → zWP RX7 cX7_roadsAt (zMB 4 (some .int) 1 Q) 4 [some (.ref 60), some (.int p1), some (.int x1), some (.int x2)] [] w := by
  intro n
  induction n with
  | zero => intro x1 x2 y3 h K; simp [lpX7_roadsAt_4] at h
  | succ n ih =>
    intro x1 x2 y3 h K
    rw [lpX7_roadsAt_4] at h
    refine zs_iload_n dX7_roadsAt_4 rfl ?_
    refine zs_aload_n dX7_roadsAt_5 rfl ?_
    refine gX7_7 dX7_roadsAt_6 ?_
    refine zs_iconst (1 : Int32) dX7_roadsAt_9 ziconst_1 ?_
    obtain ⟨v4, e5, h⟩ := zbind h
    refine zs_iald dX7_roadsAt_10 za_61 e5 ?_
    refine zs_icmp_ge 48 dX7_roadsAt_11 rfl (fun c20 => ?_) (fun c20 => ?_)
    · replace h := zite_t c20 h
      refine zs_fo [false, false, true, false] rfl ?_
      obtain rfl := Option.some.inj h
      exact K
    · replace h := zite_f c20 h
      refine zs_iload_n dX7_roadsAt_14 rfl ?_
      refine zs_aload_n dX7_roadsAt_15 rfl ?_
      refine zs_iload_n dX7_roadsAt_16 rfl ?_
      refine zs_iconst (0 : Int32) dX7_roadsAt_17 ziconst_0 ?_
      obtain ⟨v7, e6, h⟩ := zbind h
      refine zc_V2i moX7_end mvX7_end kX7_58 rfl dX7_roadsAt_18 za_60 (Nat.le_of_ble_eq_true rfl) (zrm (by decide)) (tX7_end e6) ?_
      refine zs_iload_n dX7_roadsAt_21 rfl ?_
      obtain ⟨x11, m13, h⟩ := zbind h
      have K12 : zWP RX7 cX7_roadsAt (zMB 4 (some .int) 1 Q) 40 [some (.ref 60), some (.int p1), none, some (.int x2)] [.int x11, .int x1] w := by
        refine zs_iadd dX7_roadsAt_40 ?_
        obtain ⟨x17, e18, h⟩ := zbind h
        refine zs_nmi (Option.some.inj e18) ?_
        refine zs_istore_n [some (.ref 60), some (.int p1), some (.int x17), some (.int x2)] dX7_roadsAt_41 (Nat.le_of_ble_eq_true rfl) rfl rfl ?_
        refine zs_iinc (x2 + 1) [some (.ref 60), some (.int p1), some (.int x17), some (.int (x2 + 1))] dX7_roadsAt_42 rfl rfl (Nat.le_of_ble_eq_true rfl) rfl rfl ?_
        refine zs_goto 4 dX7_roadsAt_45 rfl ?_
        exact ih _ _ _ h K
      refine zs_icmp_eq 35 dX7_roadsAt_22 rfl (fun c19 => ?_) (fun c19 => ?_)
      · replace m13 := zite_t c19 m13
        refine zs_iconst (1 : Int32) dX7_roadsAt_35 ziconst_1 ?_
        refine zs_goto 40 dX7_roadsAt_36 rfl ?_
        refine zs_fo [true, true, false, true] rfl ?_
        obtain rfl := Option.some.inj m13
        exact K12
      · replace m13 := zite_f c19 m13
        refine zs_aload_n dX7_roadsAt_25 rfl ?_
        refine zs_iload_n dX7_roadsAt_26 rfl ?_
        refine zs_iconst (1 : Int32) dX7_roadsAt_27 ziconst_1 ?_
        obtain ⟨v15, e14, m13⟩ := zbind m13
        refine zc_V2i moX7_end mvX7_end kX7_58 rfl dX7_roadsAt_28 za_60 (Nat.le_of_ble_eq_true rfl) (zrm (by decide)) (tX7_end e14) ?_
        refine zs_iload_n dX7_roadsAt_31 rfl ?_
        refine zs_icmp_ne 39 dX7_roadsAt_32 rfl (fun c16 => ?_) (fun c16 => ?_)
        · replace m13 := zite_f c16 m13
          refine zs_iconst (0 : Int32) dX7_roadsAt_39 ziconst_0 ?_
          refine zs_fo [true, true, false, true] rfl ?_
          obtain rfl := Option.some.inj m13
          exact K12
        · replace m13 := zite_t c16 m13
          refine zs_iconst (1 : Int32) dX7_roadsAt_35 ziconst_1 ?_
          refine zs_goto 40 dX7_roadsAt_36 rfl ?_
          refine zs_fo [true, true, false, true] rfl ?_
          obtain rfl := Option.some.inj m13
          exact K12
set_option maxRecDepth 100000 in
theorem tX7_roadsAt {w : zW} {p1 : Int32}  {r : Int32} (h : fX7_roadsAt w p1 = some r) : zRun yX7_roadsAt cX7_roadsAt 4 (some .int) 1 [.ref 60, .int p1] w (zI r w) := by
  refine zRun.of (k := 2) rfl rfl rfl ?_
  show zWP RX7 cX7_roadsAt (zMB 4 (some .int) 1 (zI r w)) 0 [some (.ref 60), some (.int p1), none, none] [] w
  unfold fX7_roadsAt at h
  refine zs_iconst (0 : Int32) dX7_roadsAt_0 ziconst_0 ?_
  refine zs_istore_n [some (.ref 60), some (.int p1), some (.int (0 : Int32)), none] dX7_roadsAt_1 (Nat.le_of_ble_eq_true rfl) rfl rfl ?_
  refine zs_iconst (0 : Int32) dX7_roadsAt_2 ziconst_0 ?_
  refine zs_istore_n [some (.ref 60), some (.int p1), some (.int (0 : Int32)), some (.int (0 : Int32))] dX7_roadsAt_3 (Nat.le_of_ble_eq_true rfl) rfl rfl ?_
  obtain ⟨y23, e21, h⟩ := zbind h
  have K22 : zWP RX7 cX7_roadsAt (zMB 4 (some .int) 1 (zI r w)) 48 [none, none, some (.int y23), none] [] w := by
    refine zs_iload_n dX7_roadsAt_48 rfl ?_
    obtain rfl := Option.some.inj h
    exact zs_iret dX7_roadsAt_49 ⟨rfl, rfl⟩
  exact tlX7_roadsAt_4  zF _ _ _ e21 K22
def fX7_round (w : zW) (p1 : Int32) (p2 : Int32) (p3 : Int32) : Option (Int32 × zW) := Option.bind (fX7_isAsked w p1 p2 p3) fun v2 => (if v2 = 0 then (zb2 (fX7_finds w (-1000000001 : Int32)) fun v13 w14 => some (v13, w14)) else (zb2 (fX7_back w p1 p2 p3) fun v4 w5 => (if v4 = (1000000000 : Int32) then (zb2 (fX7_finds w5 (-1000000004 : Int32)) fun v9 w10 => some (v9, w10)) else (Option.bind (zrd w5 61 151 (4 : Int32)) fun v6 => some ((v4 - v6), w5)))))
set_option maxRecDepth 100000 in
theorem tX7_round {w : zW} {p1 : Int32} {p2 : Int32} {p3 : Int32}  {r : Int32} {w' : zW} (h : fX7_round w p1 p2 p3 = some (r, w')) : zRun yX7_round cX7_round 5 (some .int) 7 [.ref 60, .int p1, .int p2, .int p3] w (zI r w') := by
  refine zRun.of (k := 1) rfl rfl rfl ?_
  show zWP RX7 cX7_round (zMB 5 (some .int) 7 (zI r w')) 0 [some (.ref 60), some (.int p1), some (.int p2), some (.int p3), none] [] w
  unfold fX7_round at h
  refine zs_aload_n dX7_round_0 rfl ?_
  refine zs_iload_n dX7_round_1 rfl ?_
  refine zs_iload_n dX7_round_2 rfl ?_
  refine zs_iload_n dX7_round_3 rfl ?_
  obtain ⟨v2, e1, h⟩ := zbind h
  refine zc_V3i moX7_isAsked mvX7_isAsked kX7_129 rfl dX7_round_4 za_60 (Nat.le_of_ble_eq_true rfl) (zrm (by decide)) (tX7_isAsked e1) ?_
  refine zs_if_ne 17 dX7_round_7 rfl (fun c15 => ?_) (fun c15 => ?_)
  · replace h := zite_f c15 h
    refine zs_aload_n dX7_round_17 rfl ?_
    refine zs_iload_n dX7_round_18 rfl ?_
    refine zs_iload_n dX7_round_19 rfl ?_
    refine zs_iload_n dX7_round_20 rfl ?_
    obtain ⟨v4, w5, e3, h⟩ := zb2_inv h
    refine zc_V3i moX7_back mvX7_back kX7_147 rfl dX7_round_21 za_60 (Nat.le_of_ble_eq_true rfl) (zrm (by decide)) (tX7_back e3) ?_
    refine zs_istore [some (.ref 60), some (.int p1), some (.int p2), some (.int p3), some (.int v4)] dX7_round_24 (Nat.le_of_ble_eq_true rfl) rfl rfl ?_
    refine zs_iload dX7_round_26 rfl ?_
    refine zs_ldc kX7_109 dX7_round_28 ?_
    refine zs_icmp_ne 42 dX7_round_30 rfl (fun c11 => ?_) (fun c11 => ?_)
    · replace h := zite_f c11 h
      refine zs_iload dX7_round_42 rfl ?_
      refine zs_aload_n dX7_round_44 rfl ?_
      refine gX7_7 dX7_round_45 ?_
      refine zs_iconst (4 : Int32) dX7_round_48 ziconst_4 ?_
      obtain ⟨v6, e7, h⟩ := zbind h
      refine zs_iald dX7_round_49 za_61 e7 ?_
      refine zs_isub dX7_round_50 ?_
      obtain ⟨rfl, rfl⟩ := zpi2 h
      exact zs_iret dX7_round_51 ⟨rfl, rfl⟩
    · replace h := zite_t c11 h
      refine zs_aload_n dX7_round_33 rfl ?_
      refine zs_ldc kX7_92 dX7_round_34 ?_
      obtain ⟨v9, w10, e8, h⟩ := zb2_inv h
      refine zc_V1i moX7_finds mvX7_finds kX7_49 rfl dX7_round_36 za_60 (Nat.le_of_ble_eq_true rfl) (zrm (by decide)) (tX7_finds e8) ?_
      refine zs_goto 51 dX7_round_39 rfl ?_
      obtain ⟨rfl, rfl⟩ := zpi2 h
      exact zs_iret dX7_round_51 ⟨rfl, rfl⟩
  · replace h := zite_t c15 h
    refine zs_aload_n dX7_round_10 rfl ?_
    refine zs_ldc kX7_44 dX7_round_11 ?_
    obtain ⟨v13, w14, e12, h⟩ := zb2_inv h
    refine zc_V1i moX7_finds mvX7_finds kX7_49 rfl dX7_round_13 za_60 (Nat.le_of_ble_eq_true rfl) (zrm (by decide)) (tX7_finds e12) ?_
    obtain ⟨rfl, rfl⟩ := zpi2 h
    exact zs_iret dX7_round_16 ⟨rfl, rfl⟩
def fX7_sea (w : zW)  : Option (Int32 × zW) := Option.bind (zrd w 61 151 (0 : Int32)) fun v1 => (if v1 = 0 then (zb2 (fX7_finds w (-1000000004 : Int32)) fun v6 w7 => some (v6, w7)) else (Option.bind (fX7_theSea w) fun v4 => some (v4, w)))
set_option maxRecDepth 100000 in
theorem tX7_sea {w : zW}   {r : Int32} {w' : zW} (h : fX7_sea w  = some (r, w')) : zRun yX7_sea cX7_sea 1 (some .int) 2 [.ref 60] w (zI r w') := by
  refine zRun.of (k := 0) rfl rfl rfl ?_
  show zWP RX7 cX7_sea (zMB 1 (some .int) 2 (zI r w')) 0 [some (.ref 60)] [] w
  unfold fX7_sea at h
  refine zs_aload_n dX7_sea_0 rfl ?_
  refine gX7_7 dX7_sea_1 ?_
  refine zs_iconst (0 : Int32) dX7_sea_4 ziconst_0 ?_
  obtain ⟨v1, e2, h⟩ := zbind h
  refine zs_iald dX7_sea_5 za_61 e2 ?_
  refine zs_if_ne 18 dX7_sea_6 rfl (fun c8 => ?_) (fun c8 => ?_)
  · replace h := zite_f c8 h
    refine zs_aload_n dX7_sea_18 rfl ?_
    obtain ⟨v4, e3, h⟩ := zbind h
    refine zc_V0i moX7_theSea mvX7_theSea kX7_93 rfl dX7_sea_19 za_60 (Nat.le_of_ble_eq_true rfl) (zrm (by decide)) (tX7_theSea e3) ?_
    obtain ⟨rfl, rfl⟩ := zpi2 h
    exact zs_iret dX7_sea_22 ⟨rfl, rfl⟩
  · replace h := zite_t c8 h
    refine zs_aload_n dX7_sea_9 rfl ?_
    refine zs_ldc kX7_92 dX7_sea_10 ?_
    obtain ⟨v6, w7, e5, h⟩ := zb2_inv h
    refine zc_V1i moX7_finds mvX7_finds kX7_49 rfl dX7_sea_12 za_60 (Nat.le_of_ble_eq_true rfl) (zrm (by decide)) (tX7_finds e5) ?_
    refine zs_goto 22 dX7_sea_15 rfl ?_
    obtain ⟨rfl, rfl⟩ := zpi2 h
    exact zs_iret dX7_sea_22 ⟨rfl, rfl⟩
def fX7_send (w : zW) (p1 : Int32) (p2 : Int32) (p3 : Int32) : Option (Int32 × zW) := Option.bind (fX7_isAsked w p1 p2 p3) fun v2 => (if v2 = 0 then (zb2 (fX7_finds w (-1000000001 : Int32)) fun v14 w15 => some (v14, w15)) else (Option.bind (zrd w 61 151 (2 : Int32)) fun v3 => (if v3 = (10 : Int32) then (zb2 (fX7_finds w (-1000000002 : Int32)) fun v10 w11 => some (v10, w11)) else (Option.bind (fX7_addLetter w p1 p2 p3) fun w6 => Option.bind (zrd w6 61 151 (2 : Int32)) fun v7 => some ((v7 - (1 : Int32)), w6)))))
set_option maxRecDepth 100000 in
theorem tX7_send {w : zW} {p1 : Int32} {p2 : Int32} {p3 : Int32}  {r : Int32} {w' : zW} (h : fX7_send w p1 p2 p3 = some (r, w')) : zRun yX7_send cX7_send 4 (some .int) 3 [.ref 60, .int p1, .int p2, .int p3] w (zI r w') := by
  refine zRun.of (k := 0) rfl rfl rfl ?_
  show zWP RX7 cX7_send (zMB 4 (some .int) 3 (zI r w')) 0 [some (.ref 60), some (.int p1), some (.int p2), some (.int p3)] [] w
  unfold fX7_send at h
  refine zs_aload_n dX7_send_0 rfl ?_
  refine zs_iload_n dX7_send_1 rfl ?_
  refine zs_iload_n dX7_send_2 rfl ?_
  refine zs_iload_n dX7_send_3 rfl ?_
  obtain ⟨v2, e1, h⟩ := zbind h
  refine zc_V3i moX7_isAsked mvX7_isAsked kX7_129 rfl dX7_send_4 za_60 (Nat.le_of_ble_eq_true rfl) (zrm (by decide)) (tX7_isAsked e1) ?_
  refine zs_if_ne 17 dX7_send_7 rfl (fun c16 => ?_) (fun c16 => ?_)
  · replace h := zite_f c16 h
    refine zs_aload_n dX7_send_17 rfl ?_
    refine gX7_7 dX7_send_18 ?_
    refine zs_iconst (2 : Int32) dX7_send_21 ziconst_2 ?_
    obtain ⟨v3, e4, h⟩ := zbind h
    refine zs_iald dX7_send_22 za_61 e4 ?_
    refine zs_bipush (10 : Int32) dX7_send_23 zbipush_10 ?_
    refine zs_icmp_ne 35 dX7_send_25 rfl (fun c12 => ?_) (fun c12 => ?_)
    · replace h := zite_f c12 h
      refine zs_aload_n dX7_send_35 rfl ?_
      refine zs_iload_n dX7_send_36 rfl ?_
      refine zs_iload_n dX7_send_37 rfl ?_
      refine zs_iload_n dX7_send_38 rfl ?_
      obtain ⟨w6, e5, h⟩ := zbind h
      refine zc_V3v moX7_addLetter mvX7_addLetter kX7_160 rfl dX7_send_39 za_60 (Nat.le_of_ble_eq_true rfl) (zrm (by decide)) (tX7_addLetter e5) ?_
      refine zs_aload_n dX7_send_42 rfl ?_
      refine gX7_7 dX7_send_43 ?_
      refine zs_iconst (2 : Int32) dX7_send_46 ziconst_2 ?_
      obtain ⟨v7, e8, h⟩ := zbind h
      refine zs_iald dX7_send_47 za_61 e8 ?_
      refine zs_iconst (1 : Int32) dX7_send_48 ziconst_1 ?_
      refine zs_isub dX7_send_49 ?_
      obtain ⟨rfl, rfl⟩ := zpi2 h
      exact zs_iret dX7_send_50 ⟨rfl, rfl⟩
    · replace h := zite_t c12 h
      refine zs_aload_n dX7_send_28 rfl ?_
      refine zs_ldc kX7_53 dX7_send_29 ?_
      obtain ⟨v10, w11, e9, h⟩ := zb2_inv h
      refine zc_V1i moX7_finds mvX7_finds kX7_49 rfl dX7_send_31 za_60 (Nat.le_of_ble_eq_true rfl) (zrm (by decide)) (tX7_finds e9) ?_
      obtain ⟨rfl, rfl⟩ := zpi2 h
      exact zs_iret dX7_send_34 ⟨rfl, rfl⟩
  · replace h := zite_t c16 h
    refine zs_aload_n dX7_send_10 rfl ?_
    refine zs_ldc kX7_44 dX7_send_11 ?_
    obtain ⟨v14, w15, e13, h⟩ := zb2_inv h
    refine zc_V1i moX7_finds mvX7_finds kX7_49 rfl dX7_send_13 za_60 (Nat.le_of_ble_eq_true rfl) (zrm (by decide)) (tX7_finds e13) ?_
    obtain ⟨rfl, rfl⟩ := zpi2 h
    exact zs_iret dX7_send_16 ⟨rfl, rfl⟩
def lpX7_sheet_86 (p1 : Int32) : Nat → zW → Int32 → Option zW
  | 0, _, _ => none
  | n + 1, w14, x13 => (if (40 : Int32) ≤ x13 then (some w14) else (Option.bind (zwl w14 68 160 (((40 : Int32) * p1) + x13) (0 : Int64)) fun w16 => lpX7_sheet_86 p1 n w16 (x13 + 1)))
def fX7_sheet (w : zW) (p1 : Int32) (p2 : Int32) (p3 : Int32) : Option (Int32 × zW) := Option.bind (fX7_isSheet w p1) fun v2 => (if v2 = 0 then (zb2 (fX7_finds w (-1000000001 : Int32)) fun v4 w5 => some (v4, w5)) else ((if p2 = 0 then ((if 0 ≤ p3 then ((if p3 ≤ (40 : Int32) then (Option.bind (zwr w 66 4 p1 p2) fun w6 => Option.bind (if p2 = 0 then (some (0 : Int32)) else (some p3)) fun x8 => Option.bind (zwr w6 67 4 p1 x8) fun w11 => Option.bind (lpX7_sheet_86 p1 zF w11 (0 : Int32)) fun w21 => Option.bind (zrd w21 67 4 p1) fun v22 => some (v22, w21)) else (zb2 (fX7_finds w (-1000000001 : Int32)) fun v26 w27 => some (v26, w27)))) else (zb2 (fX7_finds w (-1000000007 : Int32)) fun v30 w31 => some (v30, w31)))) else ((if p2 = (8 : Int32) then ((if 0 ≤ p3 then ((if p3 ≤ (40 : Int32) then (Option.bind (zwr w 66 4 p1 p2) fun w33 => Option.bind (if p2 = 0 then (some (0 : Int32)) else (some p3)) fun x35 => Option.bind (zwr w33 67 4 p1 x35) fun w38 => Option.bind (lpX7_sheet_86 p1 zF w38 (0 : Int32)) fun w48 => Option.bind (zrd w48 67 4 p1) fun v49 => some (v49, w48)) else (zb2 (fX7_finds w (-1000000001 : Int32)) fun v53 w54 => some (v53, w54)))) else (zb2 (fX7_finds w (-1000000007 : Int32)) fun v57 w58 => some (v57, w58)))) else ((if p2 = (16 : Int32) then ((if 0 ≤ p3 then ((if p3 ≤ (40 : Int32) then (Option.bind (zwr w 66 4 p1 p2) fun w60 => Option.bind (if p2 = 0 then (some (0 : Int32)) else (some p3)) fun x62 => Option.bind (zwr w60 67 4 p1 x62) fun w65 => Option.bind (lpX7_sheet_86 p1 zF w65 (0 : Int32)) fun w75 => Option.bind (zrd w75 67 4 p1) fun v76 => some (v76, w75)) else (zb2 (fX7_finds w (-1000000001 : Int32)) fun v80 w81 => some (v80, w81)))) else (zb2 (fX7_finds w (-1000000007 : Int32)) fun v84 w85 => some (v84, w85)))) else ((if p2 = (64 : Int32) then ((if 0 ≤ p3 then ((if p3 ≤ (40 : Int32) then (Option.bind (zwr w 66 4 p1 p2) fun w87 => Option.bind (if p2 = 0 then (some (0 : Int32)) else (some p3)) fun x89 => Option.bind (zwr w87 67 4 p1 x89) fun w92 => Option.bind (lpX7_sheet_86 p1 zF w92 (0 : Int32)) fun w102 => Option.bind (zrd w102 67 4 p1) fun v103 => some (v103, w102)) else (zb2 (fX7_finds w (-1000000001 : Int32)) fun v107 w108 => some (v107, w108)))) else (zb2 (fX7_finds w (-1000000007 : Int32)) fun v111 w112 => some (v111, w112)))) else (zb2 (fX7_finds w (-1000000001 : Int32)) fun v115 w116 => some (v115, w116)))))))))))
set_option maxRecDepth 100000 in
theorem tlX7_sheet_86 {p1 : Int32}  {Q : Option Value → zW → Prop} : ∀ (n : Nat) (w14 : zW) (x13 : Int32) (w15 : zW), lpX7_sheet_86 p1 n w14 x13 = some w15 → zWP RX7 cX7_sheet (zMB 5 (some .int) 2 Q) 112 [some (.ref 60), some (.int p1), none, none, none] [] w15 → zWP RX7 cX7_sheet (zMB 5 (some .int) 2 Q) 86 [some (.ref 60), some (.int p1), none, none, some (.int x13)] [] w14 := by
  intro n
  induction n with
  | zero => intro w14 x13 w15 h K; simp [lpX7_sheet_86] at h
  | succ n ih =>
    intro w14 x13 w15 h K
    rw [lpX7_sheet_86] at h
    refine zs_iload dX7_sheet_86 rfl ?_
    refine zs_bipush (40 : Int32) dX7_sheet_88 zbipush_40 ?_
    refine zs_icmp_ge 112 dX7_sheet_90 rfl (fun c18 => ?_) (fun c18 => ?_)
    · replace h := zite_t c18 h
      refine zs_fo [true, true, false, false, false] rfl ?_
      obtain rfl := Option.some.inj h
      exact K
    · replace h := zite_f c18 h
      refine zs_aload_n dX7_sheet_93 rfl ?_
      refine gX7_31 dX7_sheet_94 ?_
      refine zs_bipush (40 : Int32) dX7_sheet_97 zbipush_40 ?_
      refine zs_iload_n dX7_sheet_99 rfl ?_
      refine zs_imul dX7_sheet_100 ?_
      refine zs_iload dX7_sheet_101 rfl ?_
      refine zs_iadd dX7_sheet_103 ?_
      refine zs_lconst (0 : Int64) dX7_sheet_104 rfl ?_
      obtain ⟨w16, e17, h⟩ := zbind h
      refine zs_last dX7_sheet_105 za_68 e17 ?_
      refine zs_iinc (x13 + 1) [some (.ref 60), some (.int p1), none, none, some (.int (x13 + 1))] dX7_sheet_106 rfl rfl (Nat.le_of_ble_eq_true rfl) rfl rfl ?_
      refine zs_goto 86 dX7_sheet_109 rfl ?_
      exact ih _ _ _ h K
set_option maxRecDepth 100000 in
theorem tX7_sheet {w : zW} {p1 : Int32} {p2 : Int32} {p3 : Int32}  {r : Int32} {w' : zW} (h : fX7_sheet w p1 p2 p3 = some (r, w')) : zRun yX7_sheet cX7_sheet 5 (some .int) 2 [.ref 60, .int p1, .int p2, .int p3] w (zI r w') := by
  refine zRun.of (k := 1) rfl rfl rfl ?_
  show zWP RX7 cX7_sheet (zMB 5 (some .int) 2 (zI r w')) 0 [some (.ref 60), some (.int p1), some (.int p2), some (.int p3), none] [] w
  unfold fX7_sheet at h
  refine zs_iload_n dX7_sheet_0 rfl ?_
  obtain ⟨v2, e1, h⟩ := zbind h
  refine zc_S1i moX7_isSheet mvX7_isSheet kX7_307 dX7_sheet_1 (Nat.le_of_ble_eq_true rfl) (zrm (by decide)) (tX7_isSheet e1) ?_
  refine zs_if_eq 29 dX7_sheet_4 rfl (fun c121 => ?_) (fun c121 => ?_)
  · replace h := zite_t c121 h
    refine zs_aload_n dX7_sheet_29 rfl ?_
    refine zs_ldc kX7_44 dX7_sheet_30 ?_
    obtain ⟨v4, w5, e3, h⟩ := zb2_inv h
    refine zc_V1i moX7_finds mvX7_finds kX7_49 rfl dX7_sheet_32 za_60 (Nat.le_of_ble_eq_true rfl) (zrm (by decide)) (tX7_finds e3) ?_
    obtain ⟨rfl, rfl⟩ := zpi2 h
    exact zs_iret dX7_sheet_35 ⟨rfl, rfl⟩
  · replace h := zite_f c121 h
    refine zs_iload_n dX7_sheet_7 rfl ?_
    refine zs_if_eq 36 dX7_sheet_8 rfl (fun c120 => ?_) (fun c120 => ?_)
    · replace h := zite_t c120 h
      refine zs_iload_n dX7_sheet_36 rfl ?_
      refine zs_if_ge 48 dX7_sheet_37 rfl (fun c32 => ?_) (fun c32 => ?_)
      · replace h := zite_t c32 h
        refine zs_iload_n dX7_sheet_48 rfl ?_
        refine zs_bipush (40 : Int32) dX7_sheet_49 zbipush_40 ?_
        refine zs_icmp_le 61 dX7_sheet_51 rfl (fun c28 => ?_) (fun c28 => ?_)
        · replace h := zite_t c28 h
          refine zs_aload_n dX7_sheet_61 rfl ?_
          refine gX7_25 dX7_sheet_62 ?_
          refine zs_iload_n dX7_sheet_65 rfl ?_
          refine zs_iload_n dX7_sheet_66 rfl ?_
          obtain ⟨w6, e7, h⟩ := zbind h
          refine zs_iast dX7_sheet_67 za_66 e7 ?_
          refine zs_aload_n dX7_sheet_68 rfl ?_
          refine gX7_28 dX7_sheet_69 ?_
          refine zs_iload_n dX7_sheet_72 rfl ?_
          refine zs_iload_n dX7_sheet_73 rfl ?_
          obtain ⟨x8, m10, h⟩ := zbind h
          have K9 : zWP RX7 cX7_sheet (zMB 5 (some .int) 2 (zI r w')) 82 [some (.ref 60), some (.int p1), none, none, none] [.int x8, .int p1, .ref 67] w6 := by
            obtain ⟨w11, e12, h⟩ := zbind h
            refine zs_iast dX7_sheet_82 za_67 e12 ?_
            refine zs_iconst (0 : Int32) dX7_sheet_83 ziconst_0 ?_
            refine zs_istore [some (.ref 60), some (.int p1), none, none, some (.int (0 : Int32))] dX7_sheet_84 (Nat.le_of_ble_eq_true rfl) rfl rfl ?_
            obtain ⟨w21, e19, h⟩ := zbind h
            have K20 : zWP RX7 cX7_sheet (zMB 5 (some .int) 2 (zI r w')) 112 [some (.ref 60), some (.int p1), none, none, none] [] w21 := by
              refine zs_aload_n dX7_sheet_112 rfl ?_
              refine gX7_28 dX7_sheet_113 ?_
              refine zs_iload_n dX7_sheet_116 rfl ?_
              obtain ⟨v22, e23, h⟩ := zbind h
              refine zs_iald dX7_sheet_117 za_67 e23 ?_
              obtain ⟨rfl, rfl⟩ := zpi2 h
              exact zs_iret dX7_sheet_118 ⟨rfl, rfl⟩
            exact tlX7_sheet_86  zF _ _ _ e19 K20
          refine zs_if_ne 81 dX7_sheet_74 rfl (fun c24 => ?_) (fun c24 => ?_)
          · replace m10 := zite_f c24 m10
            refine zs_iload_n dX7_sheet_81 rfl ?_
            refine zs_fo [true, true, false, false, false] rfl ?_
            obtain rfl := Option.some.inj m10
            exact K9
          · replace m10 := zite_t c24 m10
            refine zs_iconst (0 : Int32) dX7_sheet_77 ziconst_0 ?_
            refine zs_goto 82 dX7_sheet_78 rfl ?_
            refine zs_fo [true, true, false, false, false] rfl ?_
            obtain rfl := Option.some.inj m10
            exact K9
        · replace h := zite_f c28 h
          refine zs_aload_n dX7_sheet_54 rfl ?_
          refine zs_ldc kX7_44 dX7_sheet_55 ?_
          obtain ⟨v26, w27, e25, h⟩ := zb2_inv h
          refine zc_V1i moX7_finds mvX7_finds kX7_49 rfl dX7_sheet_57 za_60 (Nat.le_of_ble_eq_true rfl) (zrm (by decide)) (tX7_finds e25) ?_
          obtain ⟨rfl, rfl⟩ := zpi2 h
          exact zs_iret dX7_sheet_60 ⟨rfl, rfl⟩
      · replace h := zite_f c32 h
        refine zs_aload_n dX7_sheet_40 rfl ?_
        refine zs_ldc_w kX7_310 dX7_sheet_41 ?_
        obtain ⟨v30, w31, e29, h⟩ := zb2_inv h
        refine zc_V1i moX7_finds mvX7_finds kX7_49 rfl dX7_sheet_44 za_60 (Nat.le_of_ble_eq_true rfl) (zrm (by decide)) (tX7_finds e29) ?_
        obtain ⟨rfl, rfl⟩ := zpi2 h
        exact zs_iret dX7_sheet_47 ⟨rfl, rfl⟩
    · replace h := zite_f c120 h
      refine zs_iload_n dX7_sheet_11 rfl ?_
      refine zs_bipush (8 : Int32) dX7_sheet_12 zbipush_8 ?_
      refine zs_icmp_eq 36 dX7_sheet_14 rfl (fun c119 => ?_) (fun c119 => ?_)
      · replace h := zite_t c119 h
        refine zs_iload_n dX7_sheet_36 rfl ?_
        refine zs_if_ge 48 dX7_sheet_37 rfl (fun c59 => ?_) (fun c59 => ?_)
        · replace h := zite_t c59 h
          refine zs_iload_n dX7_sheet_48 rfl ?_
          refine zs_bipush (40 : Int32) dX7_sheet_49 zbipush_40 ?_
          refine zs_icmp_le 61 dX7_sheet_51 rfl (fun c55 => ?_) (fun c55 => ?_)
          · replace h := zite_t c55 h
            refine zs_aload_n dX7_sheet_61 rfl ?_
            refine gX7_25 dX7_sheet_62 ?_
            refine zs_iload_n dX7_sheet_65 rfl ?_
            refine zs_iload_n dX7_sheet_66 rfl ?_
            obtain ⟨w33, e34, h⟩ := zbind h
            refine zs_iast dX7_sheet_67 za_66 e34 ?_
            refine zs_aload_n dX7_sheet_68 rfl ?_
            refine gX7_28 dX7_sheet_69 ?_
            refine zs_iload_n dX7_sheet_72 rfl ?_
            refine zs_iload_n dX7_sheet_73 rfl ?_
            obtain ⟨x35, m37, h⟩ := zbind h
            have K36 : zWP RX7 cX7_sheet (zMB 5 (some .int) 2 (zI r w')) 82 [some (.ref 60), some (.int p1), none, none, none] [.int x35, .int p1, .ref 67] w33 := by
              obtain ⟨w38, e39, h⟩ := zbind h
              refine zs_iast dX7_sheet_82 za_67 e39 ?_
              refine zs_iconst (0 : Int32) dX7_sheet_83 ziconst_0 ?_
              refine zs_istore [some (.ref 60), some (.int p1), none, none, some (.int (0 : Int32))] dX7_sheet_84 (Nat.le_of_ble_eq_true rfl) rfl rfl ?_
              obtain ⟨w48, e46, h⟩ := zbind h
              have K47 : zWP RX7 cX7_sheet (zMB 5 (some .int) 2 (zI r w')) 112 [some (.ref 60), some (.int p1), none, none, none] [] w48 := by
                refine zs_aload_n dX7_sheet_112 rfl ?_
                refine gX7_28 dX7_sheet_113 ?_
                refine zs_iload_n dX7_sheet_116 rfl ?_
                obtain ⟨v49, e50, h⟩ := zbind h
                refine zs_iald dX7_sheet_117 za_67 e50 ?_
                obtain ⟨rfl, rfl⟩ := zpi2 h
                exact zs_iret dX7_sheet_118 ⟨rfl, rfl⟩
              exact tlX7_sheet_86  zF _ _ _ e46 K47
            refine zs_if_ne 81 dX7_sheet_74 rfl (fun c51 => ?_) (fun c51 => ?_)
            · replace m37 := zite_f c51 m37
              refine zs_iload_n dX7_sheet_81 rfl ?_
              refine zs_fo [true, true, false, false, false] rfl ?_
              obtain rfl := Option.some.inj m37
              exact K36
            · replace m37 := zite_t c51 m37
              refine zs_iconst (0 : Int32) dX7_sheet_77 ziconst_0 ?_
              refine zs_goto 82 dX7_sheet_78 rfl ?_
              refine zs_fo [true, true, false, false, false] rfl ?_
              obtain rfl := Option.some.inj m37
              exact K36
          · replace h := zite_f c55 h
            refine zs_aload_n dX7_sheet_54 rfl ?_
            refine zs_ldc kX7_44 dX7_sheet_55 ?_
            obtain ⟨v53, w54, e52, h⟩ := zb2_inv h
            refine zc_V1i moX7_finds mvX7_finds kX7_49 rfl dX7_sheet_57 za_60 (Nat.le_of_ble_eq_true rfl) (zrm (by decide)) (tX7_finds e52) ?_
            obtain ⟨rfl, rfl⟩ := zpi2 h
            exact zs_iret dX7_sheet_60 ⟨rfl, rfl⟩
        · replace h := zite_f c59 h
          refine zs_aload_n dX7_sheet_40 rfl ?_
          refine zs_ldc_w kX7_310 dX7_sheet_41 ?_
          obtain ⟨v57, w58, e56, h⟩ := zb2_inv h
          refine zc_V1i moX7_finds mvX7_finds kX7_49 rfl dX7_sheet_44 za_60 (Nat.le_of_ble_eq_true rfl) (zrm (by decide)) (tX7_finds e56) ?_
          obtain ⟨rfl, rfl⟩ := zpi2 h
          exact zs_iret dX7_sheet_47 ⟨rfl, rfl⟩
      · replace h := zite_f c119 h
        refine zs_iload_n dX7_sheet_17 rfl ?_
        refine zs_bipush (16 : Int32) dX7_sheet_18 zbipush_16 ?_
        refine zs_icmp_eq 36 dX7_sheet_20 rfl (fun c118 => ?_) (fun c118 => ?_)
        · replace h := zite_t c118 h
          refine zs_iload_n dX7_sheet_36 rfl ?_
          refine zs_if_ge 48 dX7_sheet_37 rfl (fun c86 => ?_) (fun c86 => ?_)
          · replace h := zite_t c86 h
            refine zs_iload_n dX7_sheet_48 rfl ?_
            refine zs_bipush (40 : Int32) dX7_sheet_49 zbipush_40 ?_
            refine zs_icmp_le 61 dX7_sheet_51 rfl (fun c82 => ?_) (fun c82 => ?_)
            · replace h := zite_t c82 h
              refine zs_aload_n dX7_sheet_61 rfl ?_
              refine gX7_25 dX7_sheet_62 ?_
              refine zs_iload_n dX7_sheet_65 rfl ?_
              refine zs_iload_n dX7_sheet_66 rfl ?_
              obtain ⟨w60, e61, h⟩ := zbind h
              refine zs_iast dX7_sheet_67 za_66 e61 ?_
              refine zs_aload_n dX7_sheet_68 rfl ?_
              refine gX7_28 dX7_sheet_69 ?_
              refine zs_iload_n dX7_sheet_72 rfl ?_
              refine zs_iload_n dX7_sheet_73 rfl ?_
              obtain ⟨x62, m64, h⟩ := zbind h
              have K63 : zWP RX7 cX7_sheet (zMB 5 (some .int) 2 (zI r w')) 82 [some (.ref 60), some (.int p1), none, none, none] [.int x62, .int p1, .ref 67] w60 := by
                obtain ⟨w65, e66, h⟩ := zbind h
                refine zs_iast dX7_sheet_82 za_67 e66 ?_
                refine zs_iconst (0 : Int32) dX7_sheet_83 ziconst_0 ?_
                refine zs_istore [some (.ref 60), some (.int p1), none, none, some (.int (0 : Int32))] dX7_sheet_84 (Nat.le_of_ble_eq_true rfl) rfl rfl ?_
                obtain ⟨w75, e73, h⟩ := zbind h
                have K74 : zWP RX7 cX7_sheet (zMB 5 (some .int) 2 (zI r w')) 112 [some (.ref 60), some (.int p1), none, none, none] [] w75 := by
                  refine zs_aload_n dX7_sheet_112 rfl ?_
                  refine gX7_28 dX7_sheet_113 ?_
                  refine zs_iload_n dX7_sheet_116 rfl ?_
                  obtain ⟨v76, e77, h⟩ := zbind h
                  refine zs_iald dX7_sheet_117 za_67 e77 ?_
                  obtain ⟨rfl, rfl⟩ := zpi2 h
                  exact zs_iret dX7_sheet_118 ⟨rfl, rfl⟩
                exact tlX7_sheet_86  zF _ _ _ e73 K74
              refine zs_if_ne 81 dX7_sheet_74 rfl (fun c78 => ?_) (fun c78 => ?_)
              · replace m64 := zite_f c78 m64
                refine zs_iload_n dX7_sheet_81 rfl ?_
                refine zs_fo [true, true, false, false, false] rfl ?_
                obtain rfl := Option.some.inj m64
                exact K63
              · replace m64 := zite_t c78 m64
                refine zs_iconst (0 : Int32) dX7_sheet_77 ziconst_0 ?_
                refine zs_goto 82 dX7_sheet_78 rfl ?_
                refine zs_fo [true, true, false, false, false] rfl ?_
                obtain rfl := Option.some.inj m64
                exact K63
            · replace h := zite_f c82 h
              refine zs_aload_n dX7_sheet_54 rfl ?_
              refine zs_ldc kX7_44 dX7_sheet_55 ?_
              obtain ⟨v80, w81, e79, h⟩ := zb2_inv h
              refine zc_V1i moX7_finds mvX7_finds kX7_49 rfl dX7_sheet_57 za_60 (Nat.le_of_ble_eq_true rfl) (zrm (by decide)) (tX7_finds e79) ?_
              obtain ⟨rfl, rfl⟩ := zpi2 h
              exact zs_iret dX7_sheet_60 ⟨rfl, rfl⟩
          · replace h := zite_f c86 h
            refine zs_aload_n dX7_sheet_40 rfl ?_
            refine zs_ldc_w kX7_310 dX7_sheet_41 ?_
            obtain ⟨v84, w85, e83, h⟩ := zb2_inv h
            refine zc_V1i moX7_finds mvX7_finds kX7_49 rfl dX7_sheet_44 za_60 (Nat.le_of_ble_eq_true rfl) (zrm (by decide)) (tX7_finds e83) ?_
            obtain ⟨rfl, rfl⟩ := zpi2 h
            exact zs_iret dX7_sheet_47 ⟨rfl, rfl⟩
        · replace h := zite_f c118 h
          refine zs_iload_n dX7_sheet_23 rfl ?_
          refine zs_bipush (64 : Int32) dX7_sheet_24 zbipush_64 ?_
          refine zs_icmp_eq 36 dX7_sheet_26 rfl (fun c117 => ?_) (fun c117 => ?_)
          · replace h := zite_t c117 h
            refine zs_iload_n dX7_sheet_36 rfl ?_
            refine zs_if_ge 48 dX7_sheet_37 rfl (fun c113 => ?_) (fun c113 => ?_)
            · replace h := zite_t c113 h
              refine zs_iload_n dX7_sheet_48 rfl ?_
              refine zs_bipush (40 : Int32) dX7_sheet_49 zbipush_40 ?_
              refine zs_icmp_le 61 dX7_sheet_51 rfl (fun c109 => ?_) (fun c109 => ?_)
              · replace h := zite_t c109 h
                refine zs_aload_n dX7_sheet_61 rfl ?_
                refine gX7_25 dX7_sheet_62 ?_
                refine zs_iload_n dX7_sheet_65 rfl ?_
                refine zs_iload_n dX7_sheet_66 rfl ?_
                obtain ⟨w87, e88, h⟩ := zbind h
                refine zs_iast dX7_sheet_67 za_66 e88 ?_
                refine zs_aload_n dX7_sheet_68 rfl ?_
                refine gX7_28 dX7_sheet_69 ?_
                refine zs_iload_n dX7_sheet_72 rfl ?_
                refine zs_iload_n dX7_sheet_73 rfl ?_
                obtain ⟨x89, m91, h⟩ := zbind h
                have K90 : zWP RX7 cX7_sheet (zMB 5 (some .int) 2 (zI r w')) 82 [some (.ref 60), some (.int p1), none, none, none] [.int x89, .int p1, .ref 67] w87 := by
                  obtain ⟨w92, e93, h⟩ := zbind h
                  refine zs_iast dX7_sheet_82 za_67 e93 ?_
                  refine zs_iconst (0 : Int32) dX7_sheet_83 ziconst_0 ?_
                  refine zs_istore [some (.ref 60), some (.int p1), none, none, some (.int (0 : Int32))] dX7_sheet_84 (Nat.le_of_ble_eq_true rfl) rfl rfl ?_
                  obtain ⟨w102, e100, h⟩ := zbind h
                  have K101 : zWP RX7 cX7_sheet (zMB 5 (some .int) 2 (zI r w')) 112 [some (.ref 60), some (.int p1), none, none, none] [] w102 := by
                    refine zs_aload_n dX7_sheet_112 rfl ?_
                    refine gX7_28 dX7_sheet_113 ?_
                    refine zs_iload_n dX7_sheet_116 rfl ?_
                    obtain ⟨v103, e104, h⟩ := zbind h
                    refine zs_iald dX7_sheet_117 za_67 e104 ?_
                    obtain ⟨rfl, rfl⟩ := zpi2 h
                    exact zs_iret dX7_sheet_118 ⟨rfl, rfl⟩
                  exact tlX7_sheet_86  zF _ _ _ e100 K101
                refine zs_if_ne 81 dX7_sheet_74 rfl (fun c105 => ?_) (fun c105 => ?_)
                · replace m91 := zite_f c105 m91
                  refine zs_iload_n dX7_sheet_81 rfl ?_
                  refine zs_fo [true, true, false, false, false] rfl ?_
                  obtain rfl := Option.some.inj m91
                  exact K90
                · replace m91 := zite_t c105 m91
                  refine zs_iconst (0 : Int32) dX7_sheet_77 ziconst_0 ?_
                  refine zs_goto 82 dX7_sheet_78 rfl ?_
                  refine zs_fo [true, true, false, false, false] rfl ?_
                  obtain rfl := Option.some.inj m91
                  exact K90
              · replace h := zite_f c109 h
                refine zs_aload_n dX7_sheet_54 rfl ?_
                refine zs_ldc kX7_44 dX7_sheet_55 ?_
                obtain ⟨v107, w108, e106, h⟩ := zb2_inv h
                refine zc_V1i moX7_finds mvX7_finds kX7_49 rfl dX7_sheet_57 za_60 (Nat.le_of_ble_eq_true rfl) (zrm (by decide)) (tX7_finds e106) ?_
                obtain ⟨rfl, rfl⟩ := zpi2 h
                exact zs_iret dX7_sheet_60 ⟨rfl, rfl⟩
            · replace h := zite_f c113 h
              refine zs_aload_n dX7_sheet_40 rfl ?_
              refine zs_ldc_w kX7_310 dX7_sheet_41 ?_
              obtain ⟨v111, w112, e110, h⟩ := zb2_inv h
              refine zc_V1i moX7_finds mvX7_finds kX7_49 rfl dX7_sheet_44 za_60 (Nat.le_of_ble_eq_true rfl) (zrm (by decide)) (tX7_finds e110) ?_
              obtain ⟨rfl, rfl⟩ := zpi2 h
              exact zs_iret dX7_sheet_47 ⟨rfl, rfl⟩
          · replace h := zite_f c117 h
            refine zs_aload_n dX7_sheet_29 rfl ?_
            refine zs_ldc kX7_44 dX7_sheet_30 ?_
            obtain ⟨v115, w116, e114, h⟩ := zb2_inv h
            refine zc_V1i moX7_finds mvX7_finds kX7_49 rfl dX7_sheet_32 za_60 (Nat.le_of_ble_eq_true rfl) (zrm (by decide)) (tX7_finds e114) ?_
            obtain ⟨rfl, rfl⟩ := zpi2 h
            exact zs_iret dX7_sheet_35 ⟨rfl, rfl⟩
def fX7_slide (w : zW) (p1 : Int32) (p2 : Int32) : Option (Int32 × zW) := Option.bind (fX7_isVillage w p1) fun v2 => (if v2 = 0 then (zb2 (fX7_finds w (-1000000001 : Int32)) fun v4 w5 => some (v4, w5)) else (Option.bind (fX7_in w p2 (0 : Int32) (9999 : Int32)) fun v7 => (if v7 = 0 then (zb2 (fX7_finds w (-1000000001 : Int32)) fun v13 w14 => some (v13, w14)) else (Option.bind (fX7_height w p1) fun v9 => Option.bind (zwr w 61 151 ((5 : Int32) + ((2 : Int32) * p1)) p2) fun w10 => some (v9, w10)))))
set_option maxRecDepth 100000 in
theorem tX7_slide {w : zW} {p1 : Int32} {p2 : Int32}  {r : Int32} {w' : zW} (h : fX7_slide w p1 p2 = some (r, w')) : zRun yX7_slide cX7_slide 4 (some .int) 2 [.ref 60, .int p1, .int p2] w (zI r w') := by
  refine zRun.of (k := 1) rfl rfl rfl ?_
  show zWP RX7 cX7_slide (zMB 4 (some .int) 2 (zI r w')) 0 [some (.ref 60), some (.int p1), some (.int p2), none] [] w
  unfold fX7_slide at h
  refine zs_aload_n dX7_slide_0 rfl ?_
  refine zs_iload_n dX7_slide_1 rfl ?_
  obtain ⟨v2, e1, h⟩ := zbind h
  refine zc_V1i moX7_isVillage mvX7_isVillage kX7_65 rfl dX7_slide_2 za_60 (Nat.le_of_ble_eq_true rfl) (zrm (by decide)) (tX7_isVillage e1) ?_
  refine zs_if_eq 19 dX7_slide_5 rfl (fun c16 => ?_) (fun c16 => ?_)
  · replace h := zite_t c16 h
    refine zs_aload_n dX7_slide_19 rfl ?_
    refine zs_ldc kX7_44 dX7_slide_20 ?_
    obtain ⟨v4, w5, e3, h⟩ := zb2_inv h
    refine zc_V1i moX7_finds mvX7_finds kX7_49 rfl dX7_slide_22 za_60 (Nat.le_of_ble_eq_true rfl) (zrm (by decide)) (tX7_finds e3) ?_
    obtain ⟨rfl, rfl⟩ := zpi2 h
    exact zs_iret dX7_slide_25 ⟨rfl, rfl⟩
  · replace h := zite_f c16 h
    refine zs_iload_n dX7_slide_8 rfl ?_
    refine zs_iconst (0 : Int32) dX7_slide_9 ziconst_0 ?_
    refine zs_sipush (9999 : Int32) dX7_slide_10 zsipush_9999 ?_
    obtain ⟨v7, e6, h⟩ := zbind h
    refine zc_S3i moX7_in mvX7_in kX7_45 dX7_slide_13 (Nat.le_of_ble_eq_true rfl) (zrm (by decide)) (tX7_in e6) ?_
    refine zs_if_ne 26 dX7_slide_16 rfl (fun c15 => ?_) (fun c15 => ?_)
    · replace h := zite_f c15 h
      refine zs_aload_n dX7_slide_26 rfl ?_
      refine zs_iload_n dX7_slide_27 rfl ?_
      obtain ⟨v9, e8, h⟩ := zbind h
      refine zc_V1i moX7_height mvX7_height kX7_69 rfl dX7_slide_28 za_60 (Nat.le_of_ble_eq_true rfl) (zrm (by decide)) (tX7_height e8) ?_
      refine zs_istore_n [some (.ref 60), some (.int p1), some (.int p2), some (.int v9)] dX7_slide_31 (Nat.le_of_ble_eq_true rfl) rfl rfl ?_
      refine zs_aload_n dX7_slide_32 rfl ?_
      refine gX7_7 dX7_slide_33 ?_
      refine zs_iconst (5 : Int32) dX7_slide_36 ziconst_5 ?_
      refine zs_iconst (2 : Int32) dX7_slide_37 ziconst_2 ?_
      refine zs_iload_n dX7_slide_38 rfl ?_
      refine zs_imul dX7_slide_39 ?_
      refine zs_iadd dX7_slide_40 ?_
      refine zs_iload_n dX7_slide_41 rfl ?_
      obtain ⟨w10, e11, h⟩ := zbind h
      refine zs_iast dX7_slide_42 za_61 e11 ?_
      refine zs_iload_n dX7_slide_43 rfl ?_
      obtain ⟨rfl, rfl⟩ := zpi2 h
      exact zs_iret dX7_slide_44 ⟨rfl, rfl⟩
    · replace h := zite_t c15 h
      refine zs_aload_n dX7_slide_19 rfl ?_
      refine zs_ldc kX7_44 dX7_slide_20 ?_
      obtain ⟨v13, w14, e12, h⟩ := zb2_inv h
      refine zc_V1i moX7_finds mvX7_finds kX7_49 rfl dX7_slide_22 za_60 (Nat.le_of_ble_eq_true rfl) (zrm (by decide)) (tX7_finds e12) ?_
      obtain ⟨rfl, rfl⟩ := zpi2 h
      exact zs_iret dX7_slide_25 ⟨rfl, rfl⟩
def lpX7_status_21 (w : zW) (p1 : Int32) : Nat → Int32 → Int32 → Option Int32
  | 0, _, _ => none
  | n + 1, x3, x4 => (if (7 : Int32) ≤ x4 then (some x3) else (Option.bind (zrd w 62 7 x4) fun v6 => Option.bind (some ((x3 + v6))) fun x8 => lpX7_status_21 w p1 n x8 (x4 + 1)))
def fX7_status (w : zW) (p1 : Int32) : Option (Int32 × zW) := Option.bind (fX7_in w p1 (-1 : Int32) (6 : Int32)) fun v2 => (if v2 = 0 then (zb2 (fX7_finds w (-1000000001 : Int32)) fun v22 w23 => some (v22, w23)) else (Option.bind (lpX7_status_21 w p1 zF (0 : Int32) (0 : Int32)) fun y13 => (if 0 ≤ p1 then (Option.bind (if 0 ≤ p1 then (some p1) else (some (0 : Int32))) fun x14 => Option.bind (zrd w 62 7 x14) fun v17 => some (v17, w)) else (some (y13, w)))))
set_option maxRecDepth 100000 in
theorem tlX7_status_21 {w : zW} {p1 : Int32}  {Q : Option Value → zW → Prop} : ∀ (n : Nat) (x3 : Int32) (x4 : Int32) (y5 : Int32), lpX7_status_21 w p1 n x3 x4 = some y5 → zWP RX7 cX7_status (zMB 4 (some .int) 1 Q) 42 [some (.ref 60), some (.int p1), some (.int y5), none] [] w → zWP RX7 cX7_status (zMB 4 (some .int) 1 Q) 21 [some (.ref 60), some (.int p1), some (.int x3), some (.int x4)] [] w := by
  intro n
  induction n with
  | zero => intro x3 x4 y5 h K; simp [lpX7_status_21] at h
  | succ n ih =>
    intro x3 x4 y5 h K
    rw [lpX7_status_21] at h
    refine zs_iload_n dX7_status_21 rfl ?_
    refine zs_bipush (7 : Int32) dX7_status_22 zbipush_7 ?_
    refine zs_icmp_ge 42 dX7_status_24 rfl (fun c10 => ?_) (fun c10 => ?_)
    · replace h := zite_t c10 h
      refine zs_fo [true, true, true, false] rfl ?_
      obtain rfl := Option.some.inj h
      exact K
    · replace h := zite_f c10 h
      refine zs_iload_n dX7_status_27 rfl ?_
      refine zs_aload_n dX7_status_28 rfl ?_
      refine gX7_13 dX7_status_29 ?_
      refine zs_iload_n dX7_status_32 rfl ?_
      obtain ⟨v6, e7, h⟩ := zbind h
      refine zs_iald dX7_status_33 za_62 e7 ?_
      refine zs_iadd dX7_status_34 ?_
      obtain ⟨x8, e9, h⟩ := zbind h
      refine zs_nmi (Option.some.inj e9) ?_
      refine zs_istore_n [some (.ref 60), some (.int p1), some (.int x8), some (.int x4)] dX7_status_35 (Nat.le_of_ble_eq_true rfl) rfl rfl ?_
      refine zs_iinc (x4 + 1) [some (.ref 60), some (.int p1), some (.int x8), some (.int (x4 + 1))] dX7_status_36 rfl rfl (Nat.le_of_ble_eq_true rfl) rfl rfl ?_
      refine zs_goto 21 dX7_status_39 rfl ?_
      exact ih _ _ _ h K
set_option maxRecDepth 100000 in
theorem tX7_status {w : zW} {p1 : Int32}  {r : Int32} {w' : zW} (h : fX7_status w p1 = some (r, w')) : zRun yX7_status cX7_status 4 (some .int) 1 [.ref 60, .int p1] w (zI r w') := by
  refine zRun.of (k := 2) rfl rfl rfl ?_
  show zWP RX7 cX7_status (zMB 4 (some .int) 1 (zI r w')) 0 [some (.ref 60), some (.int p1), none, none] [] w
  unfold fX7_status at h
  refine zs_iload_n dX7_status_0 rfl ?_
  refine zs_iconst (-1 : Int32) dX7_status_1 ziconst_m1 ?_
  refine zs_bipush (6 : Int32) dX7_status_2 zbipush_6 ?_
  obtain ⟨v2, e1, h⟩ := zbind h
  refine zc_S3i moX7_in mvX7_in kX7_45 dX7_status_4 (Nat.le_of_ble_eq_true rfl) (zrm (by decide)) (tX7_in e1) ?_
  refine zs_if_ne 17 dX7_status_7 rfl (fun c24 => ?_) (fun c24 => ?_)
  · replace h := zite_f c24 h
    refine zs_iconst (0 : Int32) dX7_status_17 ziconst_0 ?_
    refine zs_istore_n [some (.ref 60), some (.int p1), some (.int (0 : Int32)), none] dX7_status_18 (Nat.le_of_ble_eq_true rfl) rfl rfl ?_
    refine zs_iconst (0 : Int32) dX7_status_19 ziconst_0 ?_
    refine zs_istore_n [some (.ref 60), some (.int p1), some (.int (0 : Int32)), some (.int (0 : Int32))] dX7_status_20 (Nat.le_of_ble_eq_true rfl) rfl rfl ?_
    obtain ⟨y13, e11, h⟩ := zbind h
    have K12 : zWP RX7 cX7_status (zMB 4 (some .int) 1 (zI r w')) 42 [some (.ref 60), some (.int p1), some (.int y13), none] [] w := by
      refine zs_iload_n dX7_status_42 rfl ?_
      refine zs_if_ge 50 dX7_status_43 rfl (fun c20 => ?_) (fun c20 => ?_)
      · replace h := zite_t c20 h
        refine zs_aload_n dX7_status_50 rfl ?_
        refine gX7_13 dX7_status_51 ?_
        refine zs_iload_n dX7_status_54 rfl ?_
        obtain ⟨x14, m16, h⟩ := zbind h
        have K15 : zWP RX7 cX7_status (zMB 4 (some .int) 1 (zI r w')) 63 [none, none, none, none] [.int x14, .ref 62] w := by
          obtain ⟨v17, e18, h⟩ := zbind h
          refine zs_iald dX7_status_63 za_62 e18 ?_
          obtain ⟨rfl, rfl⟩ := zpi2 h
          exact zs_iret dX7_status_64 ⟨rfl, rfl⟩
        refine zs_if_ge 62 dX7_status_55 rfl (fun c19 => ?_) (fun c19 => ?_)
        · replace m16 := zite_t c19 m16
          refine zs_iload_n dX7_status_62 rfl ?_
          refine zs_fo [false, false, false, false] rfl ?_
          obtain rfl := Option.some.inj m16
          exact K15
        · replace m16 := zite_f c19 m16
          refine zs_iconst (0 : Int32) dX7_status_58 ziconst_0 ?_
          refine zs_goto 63 dX7_status_59 rfl ?_
          refine zs_fo [false, false, false, false] rfl ?_
          obtain rfl := Option.some.inj m16
          exact K15
      · replace h := zite_f c20 h
        refine zs_iload_n dX7_status_46 rfl ?_
        refine zs_goto 64 dX7_status_47 rfl ?_
        obtain ⟨rfl, rfl⟩ := zpi2 h
        exact zs_iret dX7_status_64 ⟨rfl, rfl⟩
    exact tlX7_status_21  zF _ _ _ e11 K12
  · replace h := zite_t c24 h
    refine zs_aload_n dX7_status_10 rfl ?_
    refine zs_ldc kX7_44 dX7_status_11 ?_
    obtain ⟨v22, w23, e21, h⟩ := zb2_inv h
    refine zc_V1i moX7_finds mvX7_finds kX7_49 rfl dX7_status_13 za_60 (Nat.le_of_ble_eq_true rfl) (zrm (by decide)) (tX7_finds e21) ?_
    obtain ⟨rfl, rfl⟩ := zpi2 h
    exact zs_iret dX7_status_16 ⟨rfl, rfl⟩
def lpX7_table_78 (p1 : Int32) : Nat → zW → Int32 → Option (Int32 × zW)
  | 0, _, _ => none
  | n + 1, w29, x28 => Option.bind (zrd w29 61 151 (0 : Int32)) fun v32 => (if v32 ≤ x28 then (some (x28, w29)) else (Option.bind (zrd w29 67 4 p1) fun v34 => (if v34 ≤ x28 then (some (x28, w29)) else (Option.bind (zrd w29 66 4 p1) fun v36 => Option.bind (zrd w29 63 12 x28) fun v38 => Option.bind (if v38 = (1000000000 : Int32) then (some (-1 : Int64)) else (Option.bind (zrd w29 63 12 x28) fun v47 => Option.bind (zrd w29 61 151 (4 : Int32)) fun v49 => some (((v47 - v49)).toInt64))) fun x44 => Option.bind (fX7_narrow w29 v36 x44) fun v52 => Option.bind (zwl w29 68 160 (((40 : Int32) * p1) + x28) v52) fun w53 => lpX7_table_78 p1 n w53 (x28 + 1)))))
def fX7_table (w : zW) (p1 : Int32) (p2 : Int32) (p3 : Int32) : Option (Int32 × zW) := Option.bind (fX7_isSheet w p1) fun v2 => Option.bind (if v2 = 0 then (some (-1000000001 : Int32)) else (Option.bind (zrd w 66 4 p1) fun v15 => (if v15 = 0 then (some (-1000000006 : Int32)) else (Option.bind (fX7_isKind w p2) fun v18 => (if v18 = 0 then (some (-1000000001 : Int32)) else (Option.bind (fX7_isVillage w p3) fun v20 => (if v20 = 0 then (some (-1000000001 : Int32)) else (some (0 : Int32))))))))) fun x12 => (if x12 = 0 then (Option.bind (zrd w 61 151 (4 : Int32)) fun v24 => Option.bind (fX7_find w p2 p3 v24 (1 : Int32)) fun w27 => zb2 (lpX7_table_78 p1 zF w27 (0 : Int32)) fun y60 w61 => some (y60, w61)) else (zb2 (fX7_finds w x12) fun v63 w64 => some (v63, w64)))
set_option maxRecDepth 100000 in
theorem tlX7_table_78 {p1 : Int32}  {Q : Option Value → zW → Prop} : ∀ (n : Nat) (w29 : zW) (x28 : Int32) (y30 : Int32) (w31 : zW), lpX7_table_78 p1 n w29 x28 = some (y30, w31) → zWP RX7 cX7_table (zMB 6 (some .int) 5 Q) 160 [none, none, none, none, none, some (.int y30)] [] w31 → zWP RX7 cX7_table (zMB 6 (some .int) 5 Q) 78 [some (.ref 60), some (.int p1), none, none, none, some (.int x28)] [] w29 := by
  intro n
  induction n with
  | zero => intro w29 x28 y30 w31 h K; simp [lpX7_table_78] at h
  | succ n ih =>
    intro w29 x28 y30 w31 h K
    rw [lpX7_table_78] at h
    refine zs_iload dX7_table_78 rfl ?_
    refine zs_aload_n dX7_table_80 rfl ?_
    refine gX7_7 dX7_table_81 ?_
    refine zs_iconst (0 : Int32) dX7_table_84 ziconst_0 ?_
    obtain ⟨v32, e33, h⟩ := zbind h
    refine zs_iald dX7_table_85 za_61 e33 ?_
    refine zs_icmp_ge 160 dX7_table_86 rfl (fun c57 => ?_) (fun c57 => ?_)
    · replace h := zite_t c57 h
      refine zs_fo [false, false, false, false, false, true] rfl ?_
      obtain ⟨rfl, rfl⟩ := zpi2 h
      exact K
    · replace h := zite_f c57 h
      refine zs_iload dX7_table_89 rfl ?_
      refine zs_aload_n dX7_table_91 rfl ?_
      refine gX7_28 dX7_table_92 ?_
      refine zs_iload_n dX7_table_95 rfl ?_
      obtain ⟨v34, e35, h⟩ := zbind h
      refine zs_iald dX7_table_96 za_67 e35 ?_
      refine zs_icmp_ge 160 dX7_table_97 rfl (fun c56 => ?_) (fun c56 => ?_)
      · replace h := zite_t c56 h
        refine zs_fo [false, false, false, false, false, true] rfl ?_
        obtain ⟨rfl, rfl⟩ := zpi2 h
        exact K
      · replace h := zite_f c56 h
        refine zs_aload_n dX7_table_100 rfl ?_
        refine gX7_31 dX7_table_101 ?_
        refine zs_bipush (40 : Int32) dX7_table_104 zbipush_40 ?_
        refine zs_iload_n dX7_table_106 rfl ?_
        refine zs_imul dX7_table_107 ?_
        refine zs_iload dX7_table_108 rfl ?_
        refine zs_iadd dX7_table_110 ?_
        refine zs_aload_n dX7_table_111 rfl ?_
        refine gX7_25 dX7_table_112 ?_
        refine zs_iload_n dX7_table_115 rfl ?_
        obtain ⟨v36, e37, h⟩ := zbind h
        refine zs_iald dX7_table_116 za_66 e37 ?_
        refine zs_aload_n dX7_table_117 rfl ?_
        refine gX7_16 dX7_table_118 ?_
        refine zs_iload dX7_table_121 rfl ?_
        obtain ⟨v38, e39, h⟩ := zbind h
        refine zs_iald dX7_table_123 za_63 e39 ?_
        refine zs_ldc kX7_109 dX7_table_124 ?_
        obtain ⟨x44, m46, h⟩ := zbind h
        have K45 : zWP RX7 cX7_table (zMB 6 (some .int) 5 Q) 150 [some (.ref 60), some (.int p1), none, none, none, some (.int x28)] [.long x44, .int v36, .int (((40 : Int32) * p1) + x28), .ref 68] w29 := by
          obtain ⟨v52, e51, h⟩ := zbind h
          refine zc_S2j moX7_narrow mvX7_narrow kX7_312 dX7_table_150 (Nat.le_of_ble_eq_true rfl) (zrm (by decide)) (tX7_narrow e51) ?_
          obtain ⟨w53, e54, h⟩ := zbind h
          refine zs_last dX7_table_153 za_68 e54 ?_
          refine zs_iinc (x28 + 1) [some (.ref 60), some (.int p1), none, none, none, some (.int (x28 + 1))] dX7_table_154 rfl rfl (Nat.le_of_ble_eq_true rfl) rfl rfl ?_
          refine zs_goto 78 dX7_table_157 rfl ?_
          exact ih _ _ _ _ h K
        refine zs_icmp_ne 135 dX7_table_126 rfl (fun c55 => ?_) (fun c55 => ?_)
        · replace m46 := zite_f c55 m46
          refine zs_aload_n dX7_table_135 rfl ?_
          refine gX7_16 dX7_table_136 ?_
          refine zs_iload dX7_table_139 rfl ?_
          obtain ⟨v47, e48, m46⟩ := zbind m46
          refine zs_iald dX7_table_141 za_63 e48 ?_
          refine zs_aload_n dX7_table_142 rfl ?_
          refine gX7_7 dX7_table_143 ?_
          refine zs_iconst (4 : Int32) dX7_table_146 ziconst_4 ?_
          obtain ⟨v49, e50, m46⟩ := zbind m46
          refine zs_iald dX7_table_147 za_61 e50 ?_
          refine zs_isub dX7_table_148 ?_
          refine zs_i2l dX7_table_149 ?_
          obtain rfl := Option.some.inj m46
          exact K45
        · replace m46 := zite_t c55 m46
          refine zs_ldc2_w kX7_236 dX7_table_129 ?_
          refine zs_goto 150 dX7_table_132 rfl ?_
          obtain rfl := Option.some.inj m46
          exact K45
set_option maxRecDepth 100000 in
theorem tX7_table {w : zW} {p1 : Int32} {p2 : Int32} {p3 : Int32}  {r : Int32} {w' : zW} (h : fX7_table w p1 p2 p3 = some (r, w')) : zRun yX7_table cX7_table 6 (some .int) 5 [.ref 60, .int p1, .int p2, .int p3] w (zI r w') := by
  refine zRun.of (k := 2) rfl rfl rfl ?_
  show zWP RX7 cX7_table (zMB 6 (some .int) 5 (zI r w')) 0 [some (.ref 60), some (.int p1), some (.int p2), some (.int p3), none, none] [] w
  unfold fX7_table at h
  refine zs_iload_n dX7_table_0 rfl ?_
  obtain ⟨v2, e1, h⟩ := zbind h
  refine zc_S1i moX7_isSheet mvX7_isSheet kX7_307 dX7_table_1 (Nat.le_of_ble_eq_true rfl) (zrm (by decide)) (tX7_isSheet e1) ?_
  obtain ⟨x12, m14, h⟩ := zbind h
  have K13 : zWP RX7 cX7_table (zMB 6 (some .int) 5 (zI r w')) 48 [some (.ref 60), some (.int p1), some (.int p2), some (.int p3), none, none] [.int x12] w := by
    refine zs_istore [some (.ref 60), some (.int p1), some (.int p2), some (.int p3), some (.int x12), none] dX7_table_48 (Nat.le_of_ble_eq_true rfl) rfl rfl ?_
    refine zs_iload dX7_table_50 rfl ?_
    refine zs_if_eq 62 dX7_table_52 rfl (fun c65 => ?_) (fun c65 => ?_)
    · replace h := zite_t c65 h
      refine zs_aload_n dX7_table_62 rfl ?_
      refine zs_iload_n dX7_table_63 rfl ?_
      refine zs_iload_n dX7_table_64 rfl ?_
      refine zs_aload_n dX7_table_65 rfl ?_
      refine gX7_7 dX7_table_66 ?_
      refine zs_iconst (4 : Int32) dX7_table_69 ziconst_4 ?_
      obtain ⟨v24, e25, h⟩ := zbind h
      refine zs_iald dX7_table_70 za_61 e25 ?_
      refine zs_iconst (1 : Int32) dX7_table_71 ziconst_1 ?_
      obtain ⟨w27, e26, h⟩ := zbind h
      refine zc_V4v moX7_find mvX7_find kX7_125 rfl dX7_table_72 za_60 (Nat.le_of_ble_eq_true rfl) (zrm (by decide)) (tX7_find e26) ?_
      refine zs_iconst (0 : Int32) dX7_table_75 ziconst_0 ?_
      refine zs_istore [some (.ref 60), some (.int p1), some (.int p2), some (.int p3), some (.int x12), some (.int (0 : Int32))] dX7_table_76 (Nat.le_of_ble_eq_true rfl) rfl rfl ?_
      obtain ⟨y60, w61, e58, h⟩ := zb2_inv h
      have K59 : zWP RX7 cX7_table (zMB 6 (some .int) 5 (zI r w')) 160 [none, none, none, none, none, some (.int y60)] [] w61 := by
        refine zs_iload dX7_table_160 rfl ?_
        obtain ⟨rfl, rfl⟩ := zpi2 h
        exact zs_iret dX7_table_162 ⟨rfl, rfl⟩
      refine zs_fo [true, true, false, false, false, true] rfl ?_
      exact tlX7_table_78  zF _ _ _ _ e58 K59
    · replace h := zite_f c65 h
      refine zs_aload_n dX7_table_55 rfl ?_
      refine zs_iload dX7_table_56 rfl ?_
      obtain ⟨v63, w64, e62, h⟩ := zb2_inv h
      refine zc_V1i moX7_finds mvX7_finds kX7_49 rfl dX7_table_58 za_60 (Nat.le_of_ble_eq_true rfl) (zrm (by decide)) (tX7_finds e62) ?_
      obtain ⟨rfl, rfl⟩ := zpi2 h
      exact zs_iret dX7_table_61 ⟨rfl, rfl⟩
  refine zs_if_ne 12 dX7_table_4 rfl (fun c66 => ?_) (fun c66 => ?_)
  · replace m14 := zite_f c66 m14
    refine zs_aload_n dX7_table_12 rfl ?_
    refine gX7_25 dX7_table_13 ?_
    refine zs_iload_n dX7_table_16 rfl ?_
    obtain ⟨v15, e16, m14⟩ := zbind m14
    refine zs_iald dX7_table_17 za_66 e16 ?_
    refine zs_if_ne 27 dX7_table_18 rfl (fun c23 => ?_) (fun c23 => ?_)
    · replace m14 := zite_f c23 m14
      refine zs_iload_n dX7_table_27 rfl ?_
      obtain ⟨v18, e17, m14⟩ := zbind m14
      refine zc_S1i moX7_isKind mvX7_isKind kX7_100 dX7_table_28 (Nat.le_of_ble_eq_true rfl) (zrm (by decide)) (tX7_isKind e17) ?_
      refine zs_if_eq 42 dX7_table_31 rfl (fun c22 => ?_) (fun c22 => ?_)
      · replace m14 := zite_t c22 m14
        refine zs_ldc kX7_44 dX7_table_42 ?_
        refine zs_goto 48 dX7_table_44 rfl ?_
        obtain rfl := Option.some.inj m14
        exact K13
      · replace m14 := zite_f c22 m14
        refine zs_aload_n dX7_table_34 rfl ?_
        refine zs_iload_n dX7_table_35 rfl ?_
        obtain ⟨v20, e19, m14⟩ := zbind m14
        refine zc_V1i moX7_isVillage mvX7_isVillage kX7_65 rfl dX7_table_36 za_60 (Nat.le_of_ble_eq_true rfl) (zrm (by decide)) (tX7_isVillage e19) ?_
        refine zs_if_ne 47 dX7_table_39 rfl (fun c21 => ?_) (fun c21 => ?_)
        · replace m14 := zite_f c21 m14
          refine zs_iconst (0 : Int32) dX7_table_47 ziconst_0 ?_
          obtain rfl := Option.some.inj m14
          exact K13
        · replace m14 := zite_t c21 m14
          refine zs_ldc kX7_44 dX7_table_42 ?_
          refine zs_goto 48 dX7_table_44 rfl ?_
          obtain rfl := Option.some.inj m14
          exact K13
    · replace m14 := zite_t c23 m14
      refine zs_ldc_w kX7_311 dX7_table_21 ?_
      refine zs_goto 48 dX7_table_24 rfl ?_
      obtain rfl := Option.some.inj m14
      exact K13
  · replace m14 := zite_t c66 m14
    refine zs_ldc kX7_44 dX7_table_7 ?_
    refine zs_goto 48 dX7_table_9 rfl ?_
    obtain rfl := Option.some.inj m14
    exact K13
def fX7_tear (w : zW)  : Option (Int32 × zW) := Option.bind (if (w.1 60 20) = 0 then (some (0 : Int32)) else (some (1 : Int32))) fun x1 => Option.bind (some (zsf w 60 20 (0 : Int32))) fun w4 => some (x1, w4)
set_option maxRecDepth 100000 in
theorem tX7_tear {w : zW}   {r : Int32} {w' : zW} (h : fX7_tear w  = some (r, w')) : zRun yX7_tear cX7_tear 2 (some .int) 0 [.ref 60] w (zI r w') := by
  refine zRun.of (k := 1) rfl rfl rfl ?_
  show zWP RX7 cX7_tear (zMB 2 (some .int) 0 (zI r w')) 0 [some (.ref 60), none] [] w
  unfold fX7_tear at h
  refine zs_aload_n dX7_tear_0 rfl ?_
  refine gX7_321 dX7_tear_1 ?_
  obtain ⟨x1, m3, h⟩ := zbind h
  have K2 : zWP RX7 cX7_tear (zMB 2 (some .int) 0 (zI r w')) 12 [some (.ref 60), none] [.int x1] w := by
    refine zs_istore_n [some (.ref 60), some (.int x1)] dX7_tear_12 (Nat.le_of_ble_eq_true rfl) rfl rfl ?_
    refine zs_aload_n dX7_tear_13 rfl ?_
    refine zs_iconst (0 : Int32) dX7_tear_14 ziconst_0 ?_
    obtain ⟨w4, e5, h⟩ := zbind h
    refine pX7_321 (Or.inl rfl) dX7_tear_15 ?_
    refine zs_nmw (Option.some.inj e5) ?_
    refine zs_iload_n dX7_tear_18 rfl ?_
    obtain ⟨rfl, rfl⟩ := zpi2 h
    exact zs_iret dX7_tear_19 ⟨rfl, rfl⟩
  refine zs_if_eq 11 dX7_tear_4 rfl (fun c6 => ?_) (fun c6 => ?_)
  · replace m3 := zite_t c6 m3
    refine zs_iconst (0 : Int32) dX7_tear_11 ziconst_0 ?_
    obtain rfl := Option.some.inj m3
    exact K2
  · replace m3 := zite_f c6 m3
    refine zs_iconst (1 : Int32) dX7_tear_7 ziconst_1 ?_
    refine zs_goto 12 dX7_tear_8 rfl ?_
    obtain rfl := Option.some.inj m3
    exact K2
def fX7_wantEvery (w : zW)  : Option zW := Option.bind (fX7_advance w) fun w2 => zb2 (fX7_wantNumber w2 (1 : Int32) (99 : Int32)) fun v4 w5 => (if (w5.1 60 13) = 0 then (some w5) else (Option.bind (zwr w5 61 151 (3 : Int32) v4) fun w6 => some w6))
set_option maxRecDepth 100000 in
theorem tX7_wantEvery {w : zW}    {w' : zW} (h : fX7_wantEvery w  = some w') : zRun yX7_wantEvery cX7_wantEvery 2 none 4 [.ref 60] w (zV w') := by
  refine zRun.of (k := 1) rfl rfl rfl ?_
  show zWP RX7 cX7_wantEvery (zMB 2 none 4 (zV w')) 0 [some (.ref 60), none] [] w
  unfold fX7_wantEvery at h
  refine zs_aload_n dX7_wantEvery_0 rfl ?_
  obtain ⟨w2, e1, h⟩ := zbind h
  refine zc_V0v moX7_advance mvX7_advance kX7_258 rfl dX7_wantEvery_1 za_60 (Nat.le_of_ble_eq_true rfl) (zrm (by decide)) (tX7_advance e1) ?_
  refine zs_aload_n dX7_wantEvery_4 rfl ?_
  refine zs_iconst (1 : Int32) dX7_wantEvery_5 ziconst_1 ?_
  refine zs_bipush (99 : Int32) dX7_wantEvery_6 zbipush_99 ?_
  obtain ⟨v4, w5, e3, h⟩ := zb2_inv h
  refine zc_V2i moX7_wantNumber mvX7_wantNumber kX7_261 rfl dX7_wantEvery_8 za_60 (Nat.le_of_ble_eq_true rfl) (zrm (by decide)) (tX7_wantNumber e3) ?_
  refine zs_istore_n [some (.ref 60), some (.int v4)] dX7_wantEvery_11 (Nat.le_of_ble_eq_true rfl) rfl rfl ?_
  refine zs_aload_n dX7_wantEvery_12 rfl ?_
  refine gX7_254 dX7_wantEvery_13 ?_
  refine zs_if_eq 26 dX7_wantEvery_16 rfl (fun c8 => ?_) (fun c8 => ?_)
  · replace h := zite_t c8 h
    obtain rfl := Option.some.inj h
    exact zs_vret dX7_wantEvery_26 ⟨rfl, rfl⟩
  · replace h := zite_f c8 h
    refine zs_aload_n dX7_wantEvery_19 rfl ?_
    refine gX7_7 dX7_wantEvery_20 ?_
    refine zs_iconst (3 : Int32) dX7_wantEvery_23 ziconst_3 ?_
    refine zs_iload_n dX7_wantEvery_24 rfl ?_
    obtain ⟨w6, e7, h⟩ := zbind h
    refine zs_iast dX7_wantEvery_25 za_61 e7 ?_
    obtain rfl := Option.some.inj h
    exact zs_vret dX7_wantEvery_26 ⟨rfl, rfl⟩
def fX7_wantWord (w : zW) (p1 : Int64) : Option zW := Option.bind (if (w.1 60 13) = 0 then (some (0 : Int32)) else (Option.bind (fX7_isWord w p1) fun v8 => (if v8 = 0 then (some (0 : Int32)) else (some (1 : Int32))))) fun x4 => Option.bind (zgb x4) fun b10 => Option.bind (some (zsf w 60 13 b10)) fun w12 => (if (w12.1 60 13) = 0 then (some w12) else (Option.bind (fX7_advance w12) fun w15 => some w15))
set_option maxRecDepth 100000 in
theorem tX7_wantWord {w : zW} {p1 : Int64}   {w' : zW} (h : fX7_wantWord w p1 = some w') : zRun yX7_wantWord cX7_wantWord 3 none 3 [.ref 60, .long p1] w (zV w') := by
  refine zRun.of (k := 0) rfl rfl rfl ?_
  show zWP RX7 cX7_wantWord (zMB 3 none 3 (zV w')) 0 [some (.ref 60), some (.long p1), none] [] w
  unfold fX7_wantWord at h
  refine zs_aload_n dX7_wantWord_0 rfl ?_
  refine zs_aload_n dX7_wantWord_1 rfl ?_
  refine gX7_254 dX7_wantWord_2 ?_
  obtain ⟨x4, m6, h⟩ := zbind h
  have K5 : zWP RX7 cX7_wantWord (zMB 3 none 3 (zV w')) 21 [some (.ref 60), none, none] [.int x4, .ref 60] w := by
    obtain ⟨b10, e11, h⟩ := zbind h
    refine zs_nmi (zgb_inv e11).2 ?_
    obtain ⟨w12, e13, h⟩ := zbind h
    refine pX7_254 (by have q := zgb_inv e11; exact q.2 ▸ q.1) dX7_wantWord_21 ?_
    refine zs_nmw (Option.some.inj e13) ?_
    refine zs_aload_n dX7_wantWord_24 rfl ?_
    refine gX7_254 dX7_wantWord_25 ?_
    refine zs_if_eq 35 dX7_wantWord_28 rfl (fun c16 => ?_) (fun c16 => ?_)
    · replace h := zite_t c16 h
      obtain rfl := Option.some.inj h
      exact zs_vret dX7_wantWord_35 ⟨rfl, rfl⟩
    · replace h := zite_f c16 h
      refine zs_aload_n dX7_wantWord_31 rfl ?_
      obtain ⟨w15, e14, h⟩ := zbind h
      refine zc_V0v moX7_advance mvX7_advance kX7_258 rfl dX7_wantWord_32 za_60 (Nat.le_of_ble_eq_true rfl) (zrm (by decide)) (tX7_advance e14) ?_
      obtain rfl := Option.some.inj h
      exact zs_vret dX7_wantWord_35 ⟨rfl, rfl⟩
  refine zs_if_eq 20 dX7_wantWord_5 rfl (fun c17 => ?_) (fun c17 => ?_)
  · replace m6 := zite_t c17 m6
    refine zs_iconst (0 : Int32) dX7_wantWord_20 ziconst_0 ?_
    refine zs_fo [true, false, false] rfl ?_
    obtain rfl := Option.some.inj m6
    exact K5
  · replace m6 := zite_f c17 m6
    refine zs_aload_n dX7_wantWord_8 rfl ?_
    refine zs_lload_n dX7_wantWord_9 rfl ?_
    obtain ⟨v8, e7, m6⟩ := zbind m6
    refine zc_V1i moX7_isWord mvX7_isWord kX7_240 rfl dX7_wantWord_10 za_60 (Nat.le_of_ble_eq_true rfl) (zrm (by decide)) (tX7_isWord e7) ?_
    refine zs_if_eq 20 dX7_wantWord_13 rfl (fun c9 => ?_) (fun c9 => ?_)
    · replace m6 := zite_t c9 m6
      refine zs_iconst (0 : Int32) dX7_wantWord_20 ziconst_0 ?_
      refine zs_fo [true, false, false] rfl ?_
      obtain rfl := Option.some.inj m6
      exact K5
    · replace m6 := zite_f c9 m6
      refine zs_iconst (1 : Int32) dX7_wantWord_16 ziconst_1 ?_
      refine zs_goto 21 dX7_wantWord_17 rfl ?_
      refine zs_fo [true, false, false] rfl ?_
      obtain rfl := Option.some.inj m6
      exact K5
def fX7_wantLetter (w : zW) (p1 : Int32) : Option zW := Option.bind (zrd w 61 151 (2 : Int32)) fun v1 => Option.bind (if (10 : Int32) ≤ v1 then (some (0 : Int32)) else (some (1 : Int32))) fun x3 => Option.bind (zgb x3) fun b6 => Option.bind (some (zsf w 60 13 b6)) fun w8 => (if (w8.1 60 13) = 0 then (some w8) else (Option.bind (fX7_advance w8) fun w11 => Option.bind (zrd w11 61 151 (0 : Int32)) fun v12 => zb2 (fX7_wantNumber w11 (0 : Int32) (v12 - (1 : Int32))) fun v15 w16 => Option.bind (fX7_wantWord w16 (555 : Int64)) fun w18 => Option.bind (zrd w18 61 151 (0 : Int32)) fun v19 => zb2 (fX7_wantNumber w18 (0 : Int32) (v19 - (1 : Int32))) fun v22 w23 => (if (w23.1 60 13) = 0 then (some w23) else (Option.bind (fX7_addLetter w23 p1 v15 v22) fun w25 => some w25))))
set_option maxRecDepth 100000 in
theorem tX7_wantLetter {w : zW} {p1 : Int32}   {w' : zW} (h : fX7_wantLetter w p1 = some w') : zRun yX7_wantLetter cX7_wantLetter 4 none 4 [.ref 60, .int p1] w (zV w') := by
  refine zRun.of (k := 2) rfl rfl rfl ?_
  show zWP RX7 cX7_wantLetter (zMB 4 none 4 (zV w')) 0 [some (.ref 60), some (.int p1), none, none] [] w
  unfold fX7_wantLetter at h
  refine zs_aload_n dX7_wantLetter_0 rfl ?_
  refine zs_aload_n dX7_wantLetter_1 rfl ?_
  refine gX7_7 dX7_wantLetter_2 ?_
  refine zs_iconst (2 : Int32) dX7_wantLetter_5 ziconst_2 ?_
  obtain ⟨v1, e2, h⟩ := zbind h
  refine zs_iald dX7_wantLetter_6 za_61 e2 ?_
  refine zs_bipush (10 : Int32) dX7_wantLetter_7 zbipush_10 ?_
  obtain ⟨x3, m5, h⟩ := zbind h
  have K4 : zWP RX7 cX7_wantLetter (zMB 4 none 4 (zV w')) 17 [some (.ref 60), some (.int p1), none, none] [.int x3, .ref 60] w := by
    obtain ⟨b6, e7, h⟩ := zbind h
    refine zs_nmi (zgb_inv e7).2 ?_
    obtain ⟨w8, e9, h⟩ := zbind h
    refine pX7_254 (by have q := zgb_inv e7; exact q.2 ▸ q.1) dX7_wantLetter_17 ?_
    refine zs_nmw (Option.some.inj e9) ?_
    refine zs_aload_n dX7_wantLetter_20 rfl ?_
    refine gX7_254 dX7_wantLetter_21 ?_
    refine zs_if_ne 28 dX7_wantLetter_24 rfl (fun c27 => ?_) (fun c27 => ?_)
    · replace h := zite_f c27 h
      refine zs_aload_n dX7_wantLetter_28 rfl ?_
      obtain ⟨w11, e10, h⟩ := zbind h
      refine zc_V0v moX7_advance mvX7_advance kX7_258 rfl dX7_wantLetter_29 za_60 (Nat.le_of_ble_eq_true rfl) (zrm (by decide)) (tX7_advance e10) ?_
      refine zs_aload_n dX7_wantLetter_32 rfl ?_
      refine zs_iconst (0 : Int32) dX7_wantLetter_33 ziconst_0 ?_
      refine zs_aload_n dX7_wantLetter_34 rfl ?_
      refine gX7_7 dX7_wantLetter_35 ?_
      refine zs_iconst (0 : Int32) dX7_wantLetter_38 ziconst_0 ?_
      obtain ⟨v12, e13, h⟩ := zbind h
      refine zs_iald dX7_wantLetter_39 za_61 e13 ?_
      refine zs_iconst (1 : Int32) dX7_wantLetter_40 ziconst_1 ?_
      refine zs_isub dX7_wantLetter_41 ?_
      obtain ⟨v15, w16, e14, h⟩ := zb2_inv h
      refine zc_V2i moX7_wantNumber mvX7_wantNumber kX7_261 rfl dX7_wantLetter_42 za_60 (Nat.le_of_ble_eq_true rfl) (zrm (by decide)) (tX7_wantNumber e14) ?_
      refine zs_istore_n [some (.ref 60), some (.int p1), some (.int v15), none] dX7_wantLetter_45 (Nat.le_of_ble_eq_true rfl) rfl rfl ?_
      refine zs_aload_n dX7_wantLetter_46 rfl ?_
      refine zs_ldc2_w kX7_266 dX7_wantLetter_47 ?_
      obtain ⟨w18, e17, h⟩ := zbind h
      refine zc_V1v moX7_wantWord mvX7_wantWord kX7_268 rfl dX7_wantLetter_50 za_60 (Nat.le_of_ble_eq_true rfl) (zrm (by decide)) (tX7_wantWord e17) ?_
      refine zs_aload_n dX7_wantLetter_53 rfl ?_
      refine zs_iconst (0 : Int32) dX7_wantLetter_54 ziconst_0 ?_
      refine zs_aload_n dX7_wantLetter_55 rfl ?_
      refine gX7_7 dX7_wantLetter_56 ?_
      refine zs_iconst (0 : Int32) dX7_wantLetter_59 ziconst_0 ?_
      obtain ⟨v19, e20, h⟩ := zbind h
      refine zs_iald dX7_wantLetter_60 za_61 e20 ?_
      refine zs_iconst (1 : Int32) dX7_wantLetter_61 ziconst_1 ?_
      refine zs_isub dX7_wantLetter_62 ?_
      obtain ⟨v22, w23, e21, h⟩ := zb2_inv h
      refine zc_V2i moX7_wantNumber mvX7_wantNumber kX7_261 rfl dX7_wantLetter_63 za_60 (Nat.le_of_ble_eq_true rfl) (zrm (by decide)) (tX7_wantNumber e21) ?_
      refine zs_istore_n [some (.ref 60), some (.int p1), some (.int v15), some (.int v22)] dX7_wantLetter_66 (Nat.le_of_ble_eq_true rfl) rfl rfl ?_
      refine zs_aload_n dX7_wantLetter_67 rfl ?_
      refine gX7_254 dX7_wantLetter_68 ?_
      refine zs_if_eq 81 dX7_wantLetter_71 rfl (fun c26 => ?_) (fun c26 => ?_)
      · replace h := zite_t c26 h
        obtain rfl := Option.some.inj h
        exact zs_vret dX7_wantLetter_81 ⟨rfl, rfl⟩
      · replace h := zite_f c26 h
        refine zs_aload_n dX7_wantLetter_74 rfl ?_
        refine zs_iload_n dX7_wantLetter_75 rfl ?_
        refine zs_iload_n dX7_wantLetter_76 rfl ?_
        refine zs_iload_n dX7_wantLetter_77 rfl ?_
        obtain ⟨w25, e24, h⟩ := zbind h
        refine zc_V3v moX7_addLetter mvX7_addLetter kX7_160 rfl dX7_wantLetter_78 za_60 (Nat.le_of_ble_eq_true rfl) (zrm (by decide)) (tX7_addLetter e24) ?_
        obtain rfl := Option.some.inj h
        exact zs_vret dX7_wantLetter_81 ⟨rfl, rfl⟩
    · replace h := zite_t c27 h
      obtain rfl := Option.some.inj h
      exact zs_vret dX7_wantLetter_27 ⟨rfl, rfl⟩
  refine zs_icmp_ge 16 dX7_wantLetter_9 rfl (fun c28 => ?_) (fun c28 => ?_)
  · replace m5 := zite_t c28 m5
    refine zs_iconst (0 : Int32) dX7_wantLetter_16 ziconst_0 ?_
    obtain rfl := Option.some.inj m5
    exact K4
  · replace m5 := zite_f c28 m5
    refine zs_iconst (1 : Int32) dX7_wantLetter_12 ziconst_1 ?_
    refine zs_goto 17 dX7_wantLetter_13 rfl ?_
    obtain rfl := Option.some.inj m5
    exact K4
def fX7_wantRoad (w : zW)  : Option zW := Option.bind (zrd w 61 151 (1 : Int32)) fun v1 => Option.bind (if (24 : Int32) ≤ v1 then (some (0 : Int32)) else (some (1 : Int32))) fun x3 => Option.bind (zgb x3) fun b6 => Option.bind (some (zsf w 60 13 b6)) fun w8 => (if (w8.1 60 13) = 0 then (some w8) else (Option.bind (fX7_advance w8) fun w11 => Option.bind (zrd w11 61 151 (0 : Int32)) fun v12 => zb2 (fX7_wantNumber w11 (0 : Int32) (v12 - (1 : Int32))) fun v15 w16 => Option.bind (fX7_wantWord w16 (555 : Int64)) fun w18 => Option.bind (if (w18.1 60 13) = 0 then (some (0 : Int32)) else ((if (w18.1 60 8) = (2 : Int32) then (Option.bind (fX7_isVillage w18 (w18.1 60 12)) fun v31 => (if v31 = 0 then (some (0 : Int32)) else ((if (w18.1 60 12) = v15 then (some (0 : Int32)) else (Option.bind (fX7_between w18 v15 (w18.1 60 12)) fun v33 => (if 0 ≤ v33 then (some (0 : Int32)) else (some (1 : Int32)))))))) else (some (0 : Int32))))) fun x27 => Option.bind (zgb x27) fun b38 => Option.bind (some (zsf w18 60 13 b38)) fun w40 => Option.bind (zrd w40 61 151 (0 : Int32)) fun v42 => zb2 (fX7_wantNumber w40 (0 : Int32) (v42 - (1 : Int32))) fun v45 w46 => zb2 (fX7_mayWant w46 (80155 : Int64) (1 : Int32) (9 : Int32) (1 : Int32)) fun v48 w49 => (if (w49.1 60 13) = 0 then (some w49) else (Option.bind (fX7_addRoad w49 v15 v45 v48) fun w51 => some w51))))
set_option maxRecDepth 100000 in
theorem tX7_wantRoad {w : zW}    {w' : zW} (h : fX7_wantRoad w  = some w') : zRun yX7_wantRoad cX7_wantRoad 4 none 5 [.ref 60] w (zV w') := by
  refine zRun.of (k := 3) rfl rfl rfl ?_
  show zWP RX7 cX7_wantRoad (zMB 4 none 5 (zV w')) 0 [some (.ref 60), none, none, none] [] w
  unfold fX7_wantRoad at h
  refine zs_aload_n dX7_wantRoad_0 rfl ?_
  refine zs_aload_n dX7_wantRoad_1 rfl ?_
  refine gX7_7 dX7_wantRoad_2 ?_
  refine zs_iconst (1 : Int32) dX7_wantRoad_5 ziconst_1 ?_
  obtain ⟨v1, e2, h⟩ := zbind h
  refine zs_iald dX7_wantRoad_6 za_61 e2 ?_
  refine zs_bipush (24 : Int32) dX7_wantRoad_7 zbipush_24 ?_
  obtain ⟨x3, m5, h⟩ := zbind h
  have K4 : zWP RX7 cX7_wantRoad (zMB 4 none 5 (zV w')) 17 [some (.ref 60), none, none, none] [.int x3, .ref 60] w := by
    obtain ⟨b6, e7, h⟩ := zbind h
    refine zs_nmi (zgb_inv e7).2 ?_
    obtain ⟨w8, e9, h⟩ := zbind h
    refine pX7_254 (by have q := zgb_inv e7; exact q.2 ▸ q.1) dX7_wantRoad_17 ?_
    refine zs_nmw (Option.some.inj e9) ?_
    refine zs_aload_n dX7_wantRoad_20 rfl ?_
    refine gX7_254 dX7_wantRoad_21 ?_
    refine zs_if_ne 28 dX7_wantRoad_24 rfl (fun c54 => ?_) (fun c54 => ?_)
    · replace h := zite_f c54 h
      refine zs_aload_n dX7_wantRoad_28 rfl ?_
      obtain ⟨w11, e10, h⟩ := zbind h
      refine zc_V0v moX7_advance mvX7_advance kX7_258 rfl dX7_wantRoad_29 za_60 (Nat.le_of_ble_eq_true rfl) (zrm (by decide)) (tX7_advance e10) ?_
      refine zs_aload_n dX7_wantRoad_32 rfl ?_
      refine zs_iconst (0 : Int32) dX7_wantRoad_33 ziconst_0 ?_
      refine zs_aload_n dX7_wantRoad_34 rfl ?_
      refine gX7_7 dX7_wantRoad_35 ?_
      refine zs_iconst (0 : Int32) dX7_wantRoad_38 ziconst_0 ?_
      obtain ⟨v12, e13, h⟩ := zbind h
      refine zs_iald dX7_wantRoad_39 za_61 e13 ?_
      refine zs_iconst (1 : Int32) dX7_wantRoad_40 ziconst_1 ?_
      refine zs_isub dX7_wantRoad_41 ?_
      obtain ⟨v15, w16, e14, h⟩ := zb2_inv h
      refine zc_V2i moX7_wantNumber mvX7_wantNumber kX7_261 rfl dX7_wantRoad_42 za_60 (Nat.le_of_ble_eq_true rfl) (zrm (by decide)) (tX7_wantNumber e14) ?_
      refine zs_istore_n [some (.ref 60), some (.int v15), none, none] dX7_wantRoad_45 (Nat.le_of_ble_eq_true rfl) rfl rfl ?_
      refine zs_aload_n dX7_wantRoad_46 rfl ?_
      refine zs_ldc2_w kX7_266 dX7_wantRoad_47 ?_
      obtain ⟨w18, e17, h⟩ := zbind h
      refine zc_V1v moX7_wantWord mvX7_wantWord kX7_268 rfl dX7_wantRoad_50 za_60 (Nat.le_of_ble_eq_true rfl) (zrm (by decide)) (tX7_wantWord e17) ?_
      refine zs_aload_n dX7_wantRoad_53 rfl ?_
      refine zs_aload_n dX7_wantRoad_54 rfl ?_
      refine gX7_254 dX7_wantRoad_55 ?_
      obtain ⟨x27, m29, h⟩ := zbind h
      have K28 : zWP RX7 cX7_wantRoad (zMB 4 none 5 (zV w')) 105 [some (.ref 60), some (.int v15), none, none] [.int x27, .ref 60] w18 := by
        obtain ⟨b38, e39, h⟩ := zbind h
        refine zs_nmi (zgb_inv e39).2 ?_
        obtain ⟨w40, e41, h⟩ := zbind h
        refine pX7_254 (by have q := zgb_inv e39; exact q.2 ▸ q.1) dX7_wantRoad_105 ?_
        refine zs_nmw (Option.some.inj e41) ?_
        refine zs_aload_n dX7_wantRoad_108 rfl ?_
        refine zs_iconst (0 : Int32) dX7_wantRoad_109 ziconst_0 ?_
        refine zs_aload_n dX7_wantRoad_110 rfl ?_
        refine gX7_7 dX7_wantRoad_111 ?_
        refine zs_iconst (0 : Int32) dX7_wantRoad_114 ziconst_0 ?_
        obtain ⟨v42, e43, h⟩ := zbind h
        refine zs_iald dX7_wantRoad_115 za_61 e43 ?_
        refine zs_iconst (1 : Int32) dX7_wantRoad_116 ziconst_1 ?_
        refine zs_isub dX7_wantRoad_117 ?_
        obtain ⟨v45, w46, e44, h⟩ := zb2_inv h
        refine zc_V2i moX7_wantNumber mvX7_wantNumber kX7_261 rfl dX7_wantRoad_118 za_60 (Nat.le_of_ble_eq_true rfl) (zrm (by decide)) (tX7_wantNumber e44) ?_
        refine zs_istore_n [some (.ref 60), some (.int v15), some (.int v45), none] dX7_wantRoad_121 (Nat.le_of_ble_eq_true rfl) rfl rfl ?_
        refine zs_aload_n dX7_wantRoad_122 rfl ?_
        refine zs_ldc2_w kX7_272 dX7_wantRoad_123 ?_
        refine zs_iconst (1 : Int32) dX7_wantRoad_126 ziconst_1 ?_
        refine zs_bipush (9 : Int32) dX7_wantRoad_127 zbipush_9 ?_
        refine zs_iconst (1 : Int32) dX7_wantRoad_129 ziconst_1 ?_
        obtain ⟨v48, w49, e47, h⟩ := zb2_inv h
        refine zc_V4i moX7_mayWant mvX7_mayWant kX7_274 rfl dX7_wantRoad_130 za_60 (Nat.le_of_ble_eq_true rfl) (zrm (by decide)) (tX7_mayWant e47) ?_
        refine zs_istore_n [some (.ref 60), some (.int v15), some (.int v45), some (.int v48)] dX7_wantRoad_133 (Nat.le_of_ble_eq_true rfl) rfl rfl ?_
        refine zs_aload_n dX7_wantRoad_134 rfl ?_
        refine gX7_254 dX7_wantRoad_135 ?_
        refine zs_if_eq 148 dX7_wantRoad_138 rfl (fun c52 => ?_) (fun c52 => ?_)
        · replace h := zite_t c52 h
          obtain rfl := Option.some.inj h
          exact zs_vret dX7_wantRoad_148 ⟨rfl, rfl⟩
        · replace h := zite_f c52 h
          refine zs_aload_n dX7_wantRoad_141 rfl ?_
          refine zs_iload_n dX7_wantRoad_142 rfl ?_
          refine zs_iload_n dX7_wantRoad_143 rfl ?_
          refine zs_iload_n dX7_wantRoad_144 rfl ?_
          obtain ⟨w51, e50, h⟩ := zbind h
          refine zc_V3v moX7_addRoad mvX7_addRoad kX7_85 rfl dX7_wantRoad_145 za_60 (Nat.le_of_ble_eq_true rfl) (zrm (by decide)) (tX7_addRoad e50) ?_
          obtain rfl := Option.some.inj h
          exact zs_vret dX7_wantRoad_148 ⟨rfl, rfl⟩
      refine zs_if_eq 104 dX7_wantRoad_58 rfl (fun c53 => ?_) (fun c53 => ?_)
      · replace m29 := zite_t c53 m29
        refine zs_iconst (0 : Int32) dX7_wantRoad_104 ziconst_0 ?_
        obtain rfl := Option.some.inj m29
        exact K28
      · replace m29 := zite_f c53 m29
        refine zs_aload_n dX7_wantRoad_61 rfl ?_
        refine gX7_222 dX7_wantRoad_62 ?_
        refine zs_iconst (2 : Int32) dX7_wantRoad_65 ziconst_2 ?_
        refine zs_icmp_ne 104 dX7_wantRoad_66 rfl (fun c37 => ?_) (fun c37 => ?_)
        · replace m29 := zite_f c37 m29
          refine zs_iconst (0 : Int32) dX7_wantRoad_104 ziconst_0 ?_
          obtain rfl := Option.some.inj m29
          exact K28
        · replace m29 := zite_t c37 m29
          refine zs_aload_n dX7_wantRoad_69 rfl ?_
          refine zs_aload_n dX7_wantRoad_70 rfl ?_
          refine gX7_229 dX7_wantRoad_71 ?_
          obtain ⟨v31, e30, m29⟩ := zbind m29
          refine zc_V1i moX7_isVillage mvX7_isVillage kX7_65 rfl dX7_wantRoad_74 za_60 (Nat.le_of_ble_eq_true rfl) (zrm (by decide)) (tX7_isVillage e30) ?_
          refine zs_if_eq 104 dX7_wantRoad_77 rfl (fun c36 => ?_) (fun c36 => ?_)
          · replace m29 := zite_t c36 m29
            refine zs_iconst (0 : Int32) dX7_wantRoad_104 ziconst_0 ?_
            obtain rfl := Option.some.inj m29
            exact K28
          · replace m29 := zite_f c36 m29
            refine zs_aload_n dX7_wantRoad_80 rfl ?_
            refine gX7_229 dX7_wantRoad_81 ?_
            refine zs_iload_n dX7_wantRoad_84 rfl ?_
            refine zs_icmp_eq 104 dX7_wantRoad_85 rfl (fun c35 => ?_) (fun c35 => ?_)
            · replace m29 := zite_t c35 m29
              refine zs_iconst (0 : Int32) dX7_wantRoad_104 ziconst_0 ?_
              obtain rfl := Option.some.inj m29
              exact K28
            · replace m29 := zite_f c35 m29
              refine zs_aload_n dX7_wantRoad_88 rfl ?_
              refine zs_iload_n dX7_wantRoad_89 rfl ?_
              refine zs_aload_n dX7_wantRoad_90 rfl ?_
              refine gX7_229 dX7_wantRoad_91 ?_
              obtain ⟨v33, e32, m29⟩ := zbind m29
              refine zc_V2i moX7_between mvX7_between kX7_81 rfl dX7_wantRoad_94 za_60 (Nat.le_of_ble_eq_true rfl) (zrm (by decide)) (tX7_between e32) ?_
              refine zs_if_ge 104 dX7_wantRoad_97 rfl (fun c34 => ?_) (fun c34 => ?_)
              · replace m29 := zite_t c34 m29
                refine zs_iconst (0 : Int32) dX7_wantRoad_104 ziconst_0 ?_
                obtain rfl := Option.some.inj m29
                exact K28
              · replace m29 := zite_f c34 m29
                refine zs_iconst (1 : Int32) dX7_wantRoad_100 ziconst_1 ?_
                refine zs_goto 105 dX7_wantRoad_101 rfl ?_
                obtain rfl := Option.some.inj m29
                exact K28
    · replace h := zite_t c54 h
      obtain rfl := Option.some.inj h
      exact zs_vret dX7_wantRoad_27 ⟨rfl, rfl⟩
  refine zs_icmp_ge 16 dX7_wantRoad_9 rfl (fun c55 => ?_) (fun c55 => ?_)
  · replace m5 := zite_t c55 m5
    refine zs_iconst (0 : Int32) dX7_wantRoad_16 ziconst_0 ?_
    obtain rfl := Option.some.inj m5
    exact K4
  · replace m5 := zite_f c55 m5
    refine zs_iconst (1 : Int32) dX7_wantRoad_12 ziconst_1 ?_
    refine zs_goto 17 dX7_wantRoad_13 rfl ?_
    obtain rfl := Option.some.inj m5
    exact K4
def fX7_wantSlide (w : zW)  : Option zW := Option.bind (fX7_advance w) fun w2 => Option.bind (zrd w2 61 151 (0 : Int32)) fun v3 => zb2 (fX7_wantNumber w2 (0 : Int32) (v3 - (1 : Int32))) fun v6 w7 => zb2 (fX7_wantNumber w7 (0 : Int32) (9999 : Int32)) fun v9 w10 => (if (w10.1 60 13) = 0 then (some w10) else (Option.bind (zwr w10 61 151 ((5 : Int32) + ((2 : Int32) * v6)) v9) fun w11 => some w11))
set_option maxRecDepth 100000 in
theorem tX7_wantSlide {w : zW}    {w' : zW} (h : fX7_wantSlide w  = some w') : zRun yX7_wantSlide cX7_wantSlide 3 none 4 [.ref 60] w (zV w') := by
  refine zRun.of (k := 2) rfl rfl rfl ?_
  show zWP RX7 cX7_wantSlide (zMB 3 none 4 (zV w')) 0 [some (.ref 60), none, none] [] w
  unfold fX7_wantSlide at h
  refine zs_aload_n dX7_wantSlide_0 rfl ?_
  obtain ⟨w2, e1, h⟩ := zbind h
  refine zc_V0v moX7_advance mvX7_advance kX7_258 rfl dX7_wantSlide_1 za_60 (Nat.le_of_ble_eq_true rfl) (zrm (by decide)) (tX7_advance e1) ?_
  refine zs_aload_n dX7_wantSlide_4 rfl ?_
  refine zs_iconst (0 : Int32) dX7_wantSlide_5 ziconst_0 ?_
  refine zs_aload_n dX7_wantSlide_6 rfl ?_
  refine gX7_7 dX7_wantSlide_7 ?_
  refine zs_iconst (0 : Int32) dX7_wantSlide_10 ziconst_0 ?_
  obtain ⟨v3, e4, h⟩ := zbind h
  refine zs_iald dX7_wantSlide_11 za_61 e4 ?_
  refine zs_iconst (1 : Int32) dX7_wantSlide_12 ziconst_1 ?_
  refine zs_isub dX7_wantSlide_13 ?_
  obtain ⟨v6, w7, e5, h⟩ := zb2_inv h
  refine zc_V2i moX7_wantNumber mvX7_wantNumber kX7_261 rfl dX7_wantSlide_14 za_60 (Nat.le_of_ble_eq_true rfl) (zrm (by decide)) (tX7_wantNumber e5) ?_
  refine zs_istore_n [some (.ref 60), some (.int v6), none] dX7_wantSlide_17 (Nat.le_of_ble_eq_true rfl) rfl rfl ?_
  refine zs_aload_n dX7_wantSlide_18 rfl ?_
  refine zs_iconst (0 : Int32) dX7_wantSlide_19 ziconst_0 ?_
  refine zs_sipush (9999 : Int32) dX7_wantSlide_20 zsipush_9999 ?_
  obtain ⟨v9, w10, e8, h⟩ := zb2_inv h
  refine zc_V2i moX7_wantNumber mvX7_wantNumber kX7_261 rfl dX7_wantSlide_23 za_60 (Nat.le_of_ble_eq_true rfl) (zrm (by decide)) (tX7_wantNumber e8) ?_
  refine zs_istore_n [some (.ref 60), some (.int v6), some (.int v9)] dX7_wantSlide_26 (Nat.le_of_ble_eq_true rfl) rfl rfl ?_
  refine zs_aload_n dX7_wantSlide_27 rfl ?_
  refine gX7_254 dX7_wantSlide_28 ?_
  refine zs_if_eq 45 dX7_wantSlide_31 rfl (fun c13 => ?_) (fun c13 => ?_)
  · replace h := zite_t c13 h
    obtain rfl := Option.some.inj h
    exact zs_vret dX7_wantSlide_45 ⟨rfl, rfl⟩
  · replace h := zite_f c13 h
    refine zs_aload_n dX7_wantSlide_34 rfl ?_
    refine gX7_7 dX7_wantSlide_35 ?_
    refine zs_iconst (5 : Int32) dX7_wantSlide_38 ziconst_5 ?_
    refine zs_iconst (2 : Int32) dX7_wantSlide_39 ziconst_2 ?_
    refine zs_iload_n dX7_wantSlide_40 rfl ?_
    refine zs_imul dX7_wantSlide_41 ?_
    refine zs_iadd dX7_wantSlide_42 ?_
    refine zs_iload_n dX7_wantSlide_43 rfl ?_
    obtain ⟨w11, e12, h⟩ := zbind h
    refine zs_iast dX7_wantSlide_44 za_61 e12 ?_
    obtain rfl := Option.some.inj h
    exact zs_vret dX7_wantSlide_45 ⟨rfl, rfl⟩
def fX7_wantVillage (w : zW)  : Option zW := Option.bind (zrd w 61 151 (0 : Int32)) fun v1 => Option.bind (if (12 : Int32) ≤ v1 then (some (0 : Int32)) else (some (1 : Int32))) fun x3 => Option.bind (zgb x3) fun b6 => Option.bind (some (zsf w 60 13 b6)) fun w8 => (if (w8.1 60 13) = 0 then (some w8) else (Option.bind (fX7_advance w8) fun w11 => zb2 (fX7_wantNumber w11 (0 : Int32) (9999 : Int32)) fun v13 w14 => Option.bind (if (w14.1 60 13) = 0 then (some (0 : Int32)) else (Option.bind (fX7_isWord w14 (117812495 : Int64)) fun v22 => (if v22 = 0 then (some (0 : Int32)) else (some (1 : Int32))))) fun x18 => Option.bind (if x18 = 0 then (some w14) else (Option.bind (fX7_advance w14) fun w30 => some w30)) fun w26 => (if (w26.1 60 13) = 0 then (some w26) else (Option.bind (fX7_addVillage w26 v13 x18) fun w32 => some w32))))
set_option maxRecDepth 100000 in
theorem tX7_wantVillage {w : zW}    {w' : zW} (h : fX7_wantVillage w  = some w') : zRun yX7_wantVillage cX7_wantVillage 3 none 4 [.ref 60] w (zV w') := by
  refine zRun.of (k := 2) rfl rfl rfl ?_
  show zWP RX7 cX7_wantVillage (zMB 3 none 4 (zV w')) 0 [some (.ref 60), none, none] [] w
  unfold fX7_wantVillage at h
  refine zs_aload_n dX7_wantVillage_0 rfl ?_
  refine zs_aload_n dX7_wantVillage_1 rfl ?_
  refine gX7_7 dX7_wantVillage_2 ?_
  refine zs_iconst (0 : Int32) dX7_wantVillage_5 ziconst_0 ?_
  obtain ⟨v1, e2, h⟩ := zbind h
  refine zs_iald dX7_wantVillage_6 za_61 e2 ?_
  refine zs_bipush (12 : Int32) dX7_wantVillage_7 zbipush_12 ?_
  obtain ⟨x3, m5, h⟩ := zbind h
  have K4 : zWP RX7 cX7_wantVillage (zMB 3 none 4 (zV w')) 17 [some (.ref 60), none, none] [.int x3, .ref 60] w := by
    obtain ⟨b6, e7, h⟩ := zbind h
    refine zs_nmi (zgb_inv e7).2 ?_
    obtain ⟨w8, e9, h⟩ := zbind h
    refine pX7_254 (by have q := zgb_inv e7; exact q.2 ▸ q.1) dX7_wantVillage_17 ?_
    refine zs_nmw (Option.some.inj e9) ?_
    refine zs_aload_n dX7_wantVillage_20 rfl ?_
    refine gX7_254 dX7_wantVillage_21 ?_
    refine zs_if_ne 28 dX7_wantVillage_24 rfl (fun c36 => ?_) (fun c36 => ?_)
    · replace h := zite_f c36 h
      refine zs_aload_n dX7_wantVillage_28 rfl ?_
      obtain ⟨w11, e10, h⟩ := zbind h
      refine zc_V0v moX7_advance mvX7_advance kX7_258 rfl dX7_wantVillage_29 za_60 (Nat.le_of_ble_eq_true rfl) (zrm (by decide)) (tX7_advance e10) ?_
      refine zs_aload_n dX7_wantVillage_32 rfl ?_
      refine zs_iconst (0 : Int32) dX7_wantVillage_33 ziconst_0 ?_
      refine zs_sipush (9999 : Int32) dX7_wantVillage_34 zsipush_9999 ?_
      obtain ⟨v13, w14, e12, h⟩ := zb2_inv h
      refine zc_V2i moX7_wantNumber mvX7_wantNumber kX7_261 rfl dX7_wantVillage_37 za_60 (Nat.le_of_ble_eq_true rfl) (zrm (by decide)) (tX7_wantNumber e12) ?_
      refine zs_istore_n [some (.ref 60), some (.int v13), none] dX7_wantVillage_40 (Nat.le_of_ble_eq_true rfl) rfl rfl ?_
      refine zs_aload_n dX7_wantVillage_41 rfl ?_
      refine gX7_254 dX7_wantVillage_42 ?_
      obtain ⟨x18, m20, h⟩ := zbind h
      have K19 : zWP RX7 cX7_wantVillage (zMB 3 none 4 (zV w')) 63 [some (.ref 60), some (.int v13), none] [.int x18] w14 := by
        refine zs_istore_n [some (.ref 60), some (.int v13), some (.int x18)] dX7_wantVillage_63 (Nat.le_of_ble_eq_true rfl) rfl rfl ?_
        refine zs_iload_n dX7_wantVillage_64 rfl ?_
        obtain ⟨w26, m28, h⟩ := zbind h
        have K27 : zWP RX7 cX7_wantVillage (zMB 3 none 4 (zV w')) 72 [some (.ref 60), some (.int v13), some (.int x18)] [] w26 := by
          refine zs_aload_n dX7_wantVillage_72 rfl ?_
          refine gX7_254 dX7_wantVillage_73 ?_
          refine zs_if_eq 85 dX7_wantVillage_76 rfl (fun c33 => ?_) (fun c33 => ?_)
          · replace h := zite_t c33 h
            obtain rfl := Option.some.inj h
            exact zs_vret dX7_wantVillage_85 ⟨rfl, rfl⟩
          · replace h := zite_f c33 h
            refine zs_aload_n dX7_wantVillage_79 rfl ?_
            refine zs_iload_n dX7_wantVillage_80 rfl ?_
            refine zs_iload_n dX7_wantVillage_81 rfl ?_
            obtain ⟨w32, e31, h⟩ := zbind h
            refine zc_V2v moX7_addVillage mvX7_addVillage kX7_54 rfl dX7_wantVillage_82 za_60 (Nat.le_of_ble_eq_true rfl) (zrm (by decide)) (tX7_addVillage e31) ?_
            obtain rfl := Option.some.inj h
            exact zs_vret dX7_wantVillage_85 ⟨rfl, rfl⟩
        refine zs_if_eq 72 dX7_wantVillage_65 rfl (fun c34 => ?_) (fun c34 => ?_)
        · replace m28 := zite_t c34 m28
          obtain rfl := Option.some.inj m28
          exact K27
        · replace m28 := zite_f c34 m28
          refine zs_aload_n dX7_wantVillage_68 rfl ?_
          obtain ⟨w30, e29, m28⟩ := zbind m28
          refine zc_V0v moX7_advance mvX7_advance kX7_258 rfl dX7_wantVillage_69 za_60 (Nat.le_of_ble_eq_true rfl) (zrm (by decide)) (tX7_advance e29) ?_
          obtain rfl := Option.some.inj m28
          exact K27
      refine zs_if_eq 62 dX7_wantVillage_45 rfl (fun c35 => ?_) (fun c35 => ?_)
      · replace m20 := zite_t c35 m20
        refine zs_iconst (0 : Int32) dX7_wantVillage_62 ziconst_0 ?_
        obtain rfl := Option.some.inj m20
        exact K19
      · replace m20 := zite_f c35 m20
        refine zs_aload_n dX7_wantVillage_48 rfl ?_
        refine zs_ldc2_w kX7_264 dX7_wantVillage_49 ?_
        obtain ⟨v22, e21, m20⟩ := zbind m20
        refine zc_V1i moX7_isWord mvX7_isWord kX7_240 rfl dX7_wantVillage_52 za_60 (Nat.le_of_ble_eq_true rfl) (zrm (by decide)) (tX7_isWord e21) ?_
        refine zs_if_eq 62 dX7_wantVillage_55 rfl (fun c23 => ?_) (fun c23 => ?_)
        · replace m20 := zite_t c23 m20
          refine zs_iconst (0 : Int32) dX7_wantVillage_62 ziconst_0 ?_
          obtain rfl := Option.some.inj m20
          exact K19
        · replace m20 := zite_f c23 m20
          refine zs_iconst (1 : Int32) dX7_wantVillage_58 ziconst_1 ?_
          refine zs_goto 63 dX7_wantVillage_59 rfl ?_
          obtain rfl := Option.some.inj m20
          exact K19
    · replace h := zite_t c36 h
      obtain rfl := Option.some.inj h
      exact zs_vret dX7_wantVillage_27 ⟨rfl, rfl⟩
  refine zs_icmp_ge 16 dX7_wantVillage_9 rfl (fun c37 => ?_) (fun c37 => ?_)
  · replace m5 := zite_t c37 m5
    refine zs_iconst (0 : Int32) dX7_wantVillage_16 ziconst_0 ?_
    obtain rfl := Option.some.inj m5
    exact K4
  · replace m5 := zite_f c37 m5
    refine zs_iconst (1 : Int32) dX7_wantVillage_12 ziconst_1 ?_
    refine zs_goto 17 dX7_wantVillage_13 rfl ?_
    obtain rfl := Option.some.inj m5
    exact K4
def fX7_wantItem (w : zW)  : Option zW := Option.bind (fX7_isWord w (8659005332 : Int64)) fun v2 => (if v2 = 0 then (Option.bind (fX7_isWord w (365260 : Int64)) fun v4 => (if v4 = 0 then (Option.bind (fX7_isWord w (10340249 : Int64)) fun v6 => (if v6 = 0 then (Option.bind (fX7_isWord w (3094387 : Int64)) fun v8 => (if v8 = 0 then (Option.bind (fX7_kindHere w) fun v10 => (if v10 < 0 then (Option.bind (some (zsf w 60 13 (0 : Int32))) fun w11 => some w11) else (Option.bind (fX7_kindHere w) fun v14 => Option.bind (fX7_wantLetter w v14) fun w16 => some w16))) else (Option.bind (fX7_wantEvery w) fun w19 => some w19))) else (Option.bind (fX7_wantSlide w) fun w22 => some w22))) else (Option.bind (fX7_wantRoad w) fun w25 => some w25))) else (Option.bind (fX7_wantVillage w) fun w28 => some w28))
set_option maxRecDepth 100000 in
theorem tX7_wantItem {w : zW}    {w' : zW} (h : fX7_wantItem w  = some w') : zRun yX7_wantItem cX7_wantItem 1 none 6 [.ref 60] w (zV w') := by
  refine zRun.of (k := 0) rfl rfl rfl ?_
  show zWP RX7 cX7_wantItem (zMB 1 none 6 (zV w')) 0 [some (.ref 60)] [] w
  unfold fX7_wantItem at h
  refine zs_aload_n dX7_wantItem_0 rfl ?_
  refine zs_ldc2_w kX7_278 dX7_wantItem_1 ?_
  obtain ⟨v2, e1, h⟩ := zbind h
  refine zc_V1i moX7_isWord mvX7_isWord kX7_240 rfl dX7_wantItem_4 za_60 (Nat.le_of_ble_eq_true rfl) (zrm (by decide)) (tX7_isWord e1) ?_
  refine zs_if_eq 17 dX7_wantItem_7 rfl (fun c29 => ?_) (fun c29 => ?_)
  · replace h := zite_t c29 h
    refine zs_aload_n dX7_wantItem_17 rfl ?_
    refine zs_ldc2_w kX7_283 dX7_wantItem_18 ?_
    obtain ⟨v4, e3, h⟩ := zbind h
    refine zc_V1i moX7_isWord mvX7_isWord kX7_240 rfl dX7_wantItem_21 za_60 (Nat.le_of_ble_eq_true rfl) (zrm (by decide)) (tX7_isWord e3) ?_
    refine zs_if_eq 34 dX7_wantItem_24 rfl (fun c26 => ?_) (fun c26 => ?_)
    · replace h := zite_t c26 h
      refine zs_aload_n dX7_wantItem_34 rfl ?_
      refine zs_ldc2_w kX7_288 dX7_wantItem_35 ?_
      obtain ⟨v6, e5, h⟩ := zbind h
      refine zc_V1i moX7_isWord mvX7_isWord kX7_240 rfl dX7_wantItem_38 za_60 (Nat.le_of_ble_eq_true rfl) (zrm (by decide)) (tX7_isWord e5) ?_
      refine zs_if_eq 51 dX7_wantItem_41 rfl (fun c23 => ?_) (fun c23 => ?_)
      · replace h := zite_t c23 h
        refine zs_aload_n dX7_wantItem_51 rfl ?_
        refine zs_ldc2_w kX7_293 dX7_wantItem_52 ?_
        obtain ⟨v8, e7, h⟩ := zbind h
        refine zc_V1i moX7_isWord mvX7_isWord kX7_240 rfl dX7_wantItem_55 za_60 (Nat.le_of_ble_eq_true rfl) (zrm (by decide)) (tX7_isWord e7) ?_
        refine zs_if_eq 68 dX7_wantItem_58 rfl (fun c20 => ?_) (fun c20 => ?_)
        · replace h := zite_t c20 h
          refine zs_aload_n dX7_wantItem_68 rfl ?_
          obtain ⟨v10, e9, h⟩ := zbind h
          refine zc_V0i moX7_kindHere mvX7_kindHere kX7_298 rfl dX7_wantItem_69 za_60 (Nat.le_of_ble_eq_true rfl) (zrm (by decide)) (tX7_kindHere e9) ?_
          refine zs_if_lt 86 dX7_wantItem_72 rfl (fun c17 => ?_) (fun c17 => ?_)
          · replace h := zite_t c17 h
            refine zs_aload_n dX7_wantItem_86 rfl ?_
            refine zs_iconst (0 : Int32) dX7_wantItem_87 ziconst_0 ?_
            obtain ⟨w11, e12, h⟩ := zbind h
            refine pX7_254 (Or.inl rfl) dX7_wantItem_88 ?_
            refine zs_nmw (Option.some.inj e12) ?_
            obtain rfl := Option.some.inj h
            exact zs_vret dX7_wantItem_91 ⟨rfl, rfl⟩
          · replace h := zite_f c17 h
            refine zs_aload_n dX7_wantItem_75 rfl ?_
            refine zs_aload_n dX7_wantItem_76 rfl ?_
            obtain ⟨v14, e13, h⟩ := zbind h
            refine zc_V0i moX7_kindHere mvX7_kindHere kX7_298 rfl dX7_wantItem_77 za_60 (Nat.le_of_ble_eq_true rfl) (zrm (by decide)) (tX7_kindHere e13) ?_
            obtain ⟨w16, e15, h⟩ := zbind h
            refine zc_V1v moX7_wantLetter mvX7_wantLetter kX7_301 rfl dX7_wantItem_80 za_60 (Nat.le_of_ble_eq_true rfl) (zrm (by decide)) (tX7_wantLetter e15) ?_
            refine zs_goto 91 dX7_wantItem_83 rfl ?_
            obtain rfl := Option.some.inj h
            exact zs_vret dX7_wantItem_91 ⟨rfl, rfl⟩
        · replace h := zite_f c20 h
          refine zs_aload_n dX7_wantItem_61 rfl ?_
          obtain ⟨w19, e18, h⟩ := zbind h
          refine zc_V0v moX7_wantEvery mvX7_wantEvery kX7_295 rfl dX7_wantItem_62 za_60 (Nat.le_of_ble_eq_true rfl) (zrm (by decide)) (tX7_wantEvery e18) ?_
          refine zs_goto 91 dX7_wantItem_65 rfl ?_
          obtain rfl := Option.some.inj h
          exact zs_vret dX7_wantItem_91 ⟨rfl, rfl⟩
      · replace h := zite_f c23 h
        refine zs_aload_n dX7_wantItem_44 rfl ?_
        obtain ⟨w22, e21, h⟩ := zbind h
        refine zc_V0v moX7_wantSlide mvX7_wantSlide kX7_290 rfl dX7_wantItem_45 za_60 (Nat.le_of_ble_eq_true rfl) (zrm (by decide)) (tX7_wantSlide e21) ?_
        refine zs_goto 91 dX7_wantItem_48 rfl ?_
        obtain rfl := Option.some.inj h
        exact zs_vret dX7_wantItem_91 ⟨rfl, rfl⟩
    · replace h := zite_f c26 h
      refine zs_aload_n dX7_wantItem_27 rfl ?_
      obtain ⟨w25, e24, h⟩ := zbind h
      refine zc_V0v moX7_wantRoad mvX7_wantRoad kX7_285 rfl dX7_wantItem_28 za_60 (Nat.le_of_ble_eq_true rfl) (zrm (by decide)) (tX7_wantRoad e24) ?_
      refine zs_goto 91 dX7_wantItem_31 rfl ?_
      obtain rfl := Option.some.inj h
      exact zs_vret dX7_wantItem_91 ⟨rfl, rfl⟩
  · replace h := zite_f c29 h
    refine zs_aload_n dX7_wantItem_10 rfl ?_
    obtain ⟨w28, e27, h⟩ := zbind h
    refine zc_V0v moX7_wantVillage mvX7_wantVillage kX7_280 rfl dX7_wantItem_11 za_60 (Nat.le_of_ble_eq_true rfl) (zrm (by decide)) (tX7_wantVillage e27) ?_
    refine zs_goto 91 dX7_wantItem_14 rfl ?_
    obtain rfl := Option.some.inj h
    exact zs_vret dX7_wantItem_91 ⟨rfl, rfl⟩
def lpX7_text_23  : Nat → zW → Int32 → Int32 → Option (Int32 × zW)
  | 0, _, _, _ => none
  | n + 1, w9, x7, x8 => (if x8 = 0 then (some (x7, w9)) else (Option.bind (fX7_advance w9) fun w13 => Option.bind (fX7_wantItem w13) fun w15 => Option.bind (if (w15.1 60 13) = 0 then (some (0 : Int32)) else ((if (w15.1 60 8) = (3 : Int32) then ((if (w15.1 60 12) = (59 : Int32) then (some (1 : Int32)) else (some (0 : Int32)))) else (some (0 : Int32))))) fun x18 => lpX7_text_23 n w15 (x7 + 1) x18))
def fX7_text (w : zW)  : Option (Int32 × zW) := Option.bind (fX7_moveAll w (1 : Int32) 71) fun w2 => Option.bind (some (zsf w2 60 10 (0 : Int32))) fun w3 => Option.bind (some (zsf w3 60 13 (1 : Int32))) fun w5 => zb2 (lpX7_text_23  zF w5 (0 : Int32) (1 : Int32)) fun y27 w28 => Option.bind (if (w28.1 60 13) = 0 then (some (0 : Int32)) else ((if (w28.1 60 8) = 0 then (some (1 : Int32)) else (some (0 : Int32))))) fun x30 => Option.bind (zgb x30) fun b34 => Option.bind (some (zsf w28 60 13 b34)) fun w36 => Option.bind (some (zsf w36 60 7 (0 : Int32))) fun w38 => (if (w38.1 60 13) = 0 then (Option.bind (fX7_moveAll w38 (0 : Int32) 71) fun w41 => some (((-1 : Int32) - (w41.1 60 9)), w41)) else (some (y27, w38)))
set_option maxRecDepth 100000 in
theorem tlX7_text_23   {Q : Option Value → zW → Prop} : ∀ (n : Nat) (w9 : zW) (x7 : Int32) (x8 : Int32) (y10 : Int32) (w11 : zW), lpX7_text_23  n w9 x7 x8 = some (y10, w11) → zWP RX7 cX7_text (zMB 3 (some .int) 7 Q) 71 [some (.ref 60), some (.int y10), none] [] w11 → zWP RX7 cX7_text (zMB 3 (some .int) 7 Q) 23 [some (.ref 60), some (.int x7), some (.int x8)] [] w9 := by
  intro n
  induction n with
  | zero => intro w9 x7 x8 y10 w11 h K; simp [lpX7_text_23] at h
  | succ n ih =>
    intro w9 x7 x8 y10 w11 h K
    rw [lpX7_text_23] at h
    refine zs_iload_n dX7_text_23 rfl ?_
    refine zs_if_eq 71 dX7_text_24 rfl (fun c24 => ?_) (fun c24 => ?_)
    · replace h := zite_t c24 h
      refine zs_fo [true, true, false] rfl ?_
      obtain ⟨rfl, rfl⟩ := zpi2 h
      exact K
    · replace h := zite_f c24 h
      refine zs_aload_n dX7_text_27 rfl ?_
      obtain ⟨w13, e12, h⟩ := zbind h
      refine zc_V0v moX7_advance mvX7_advance kX7_258 rfl dX7_text_28 za_60 (Nat.le_of_ble_eq_true rfl) (zrm (by decide)) (tX7_advance e12) ?_
      refine zs_aload_n dX7_text_31 rfl ?_
      obtain ⟨w15, e14, h⟩ := zbind h
      refine zc_V0v moX7_wantItem mvX7_wantItem kX7_304 rfl dX7_text_32 za_60 (Nat.le_of_ble_eq_true rfl) (zrm (by decide)) (tX7_wantItem e14) ?_
      refine zs_iinc (x7 + 1) [some (.ref 60), some (.int (x7 + 1)), some (.int x8)] dX7_text_35 rfl rfl (Nat.le_of_ble_eq_true rfl) rfl rfl ?_
      refine zs_aload_n dX7_text_38 rfl ?_
      refine gX7_254 dX7_text_39 ?_
      obtain ⟨x18, m20, h⟩ := zbind h
      have K19 : zWP RX7 cX7_text (zMB 3 (some .int) 7 Q) 67 [some (.ref 60), some (.int (x7 + 1)), none] [.int x18] w15 := by
        refine zs_istore_n [some (.ref 60), some (.int (x7 + 1)), some (.int x18)] dX7_text_67 (Nat.le_of_ble_eq_true rfl) rfl rfl ?_
        refine zs_goto 23 dX7_text_68 rfl ?_
        exact ih _ _ _ _ _ h K
      refine zs_if_eq 66 dX7_text_42 rfl (fun c23 => ?_) (fun c23 => ?_)
      · replace m20 := zite_t c23 m20
        refine zs_iconst (0 : Int32) dX7_text_66 ziconst_0 ?_
        refine zs_fo [true, true, false] rfl ?_
        obtain rfl := Option.some.inj m20
        exact K19
      · replace m20 := zite_f c23 m20
        refine zs_aload_n dX7_text_45 rfl ?_
        refine gX7_222 dX7_text_46 ?_
        refine zs_iconst (3 : Int32) dX7_text_49 ziconst_3 ?_
        refine zs_icmp_ne 66 dX7_text_50 rfl (fun c22 => ?_) (fun c22 => ?_)
        · replace m20 := zite_f c22 m20
          refine zs_iconst (0 : Int32) dX7_text_66 ziconst_0 ?_
          refine zs_fo [true, true, false] rfl ?_
          obtain rfl := Option.some.inj m20
          exact K19
        · replace m20 := zite_t c22 m20
          refine zs_aload_n dX7_text_53 rfl ?_
          refine gX7_229 dX7_text_54 ?_
          refine zs_bipush (59 : Int32) dX7_text_57 zbipush_59 ?_
          refine zs_icmp_ne 66 dX7_text_59 rfl (fun c21 => ?_) (fun c21 => ?_)
          · replace m20 := zite_f c21 m20
            refine zs_iconst (0 : Int32) dX7_text_66 ziconst_0 ?_
            refine zs_fo [true, true, false] rfl ?_
            obtain rfl := Option.some.inj m20
            exact K19
          · replace m20 := zite_t c21 m20
            refine zs_iconst (1 : Int32) dX7_text_62 ziconst_1 ?_
            refine zs_goto 67 dX7_text_63 rfl ?_
            refine zs_fo [true, true, false] rfl ?_
            obtain rfl := Option.some.inj m20
            exact K19
set_option maxRecDepth 100000 in
theorem tX7_text {w : zW}   {r : Int32} {w' : zW} (h : fX7_text w  = some (r, w')) : zRun yX7_text cX7_text 3 (some .int) 7 [.ref 60] w (zI r w') := by
  refine zRun.of (k := 2) rfl rfl rfl ?_
  show zWP RX7 cX7_text (zMB 3 (some .int) 7 (zI r w')) 0 [some (.ref 60), none, none] [] w
  unfold fX7_text at h
  refine zs_aload_n dX7_text_0 rfl ?_
  refine zs_iconst (1 : Int32) dX7_text_1 ziconst_1 ?_
  refine zs_aload_n dX7_text_2 rfl ?_
  refine gX7_41 dX7_text_3 ?_
  obtain ⟨w2, e1, h⟩ := zbind h
  refine zc_V2v moX7_moveAll mvX7_moveAll kX7_197 rfl dX7_text_6 za_60 (Nat.le_of_ble_eq_true rfl) (zrm (by decide)) (tX7_moveAll za_71 e1) ?_
  refine zs_aload_n dX7_text_9 rfl ?_
  refine zs_iconst (0 : Int32) dX7_text_10 ziconst_0 ?_
  obtain ⟨w3, e4, h⟩ := zbind h
  refine pX7_207 dX7_text_11 ?_
  refine zs_nmw (Option.some.inj e4) ?_
  refine zs_aload_n dX7_text_14 rfl ?_
  refine zs_iconst (1 : Int32) dX7_text_15 ziconst_1 ?_
  obtain ⟨w5, e6, h⟩ := zbind h
  refine pX7_254 (Or.inr rfl) dX7_text_16 ?_
  refine zs_nmw (Option.some.inj e6) ?_
  refine zs_iconst (0 : Int32) dX7_text_19 ziconst_0 ?_
  refine zs_istore_n [some (.ref 60), some (.int (0 : Int32)), none] dX7_text_20 (Nat.le_of_ble_eq_true rfl) rfl rfl ?_
  refine zs_iconst (1 : Int32) dX7_text_21 ziconst_1 ?_
  refine zs_istore_n [some (.ref 60), some (.int (0 : Int32)), some (.int (1 : Int32))] dX7_text_22 (Nat.le_of_ble_eq_true rfl) rfl rfl ?_
  obtain ⟨y27, w28, e25, h⟩ := zb2_inv h
  have K26 : zWP RX7 cX7_text (zMB 3 (some .int) 7 (zI r w')) 71 [some (.ref 60), some (.int y27), none] [] w28 := by
    refine zs_aload_n dX7_text_71 rfl ?_
    refine zs_aload_n dX7_text_72 rfl ?_
    refine gX7_254 dX7_text_73 ?_
    obtain ⟨x30, m32, h⟩ := zbind h
    have K31 : zWP RX7 cX7_text (zMB 3 (some .int) 7 (zI r w')) 91 [some (.ref 60), some (.int y27), none] [.int x30, .ref 60] w28 := by
      obtain ⟨b34, e35, h⟩ := zbind h
      refine zs_nmi (zgb_inv e35).2 ?_
      obtain ⟨w36, e37, h⟩ := zbind h
      refine pX7_254 (by have q := zgb_inv e35; exact q.2 ▸ q.1) dX7_text_91 ?_
      refine zs_nmw (Option.some.inj e37) ?_
      refine zs_aload_n dX7_text_94 rfl ?_
      refine zs_iconst (0 : Int32) dX7_text_95 ziconst_0 ?_
      obtain ⟨w38, e39, h⟩ := zbind h
      refine pX7_204 dX7_text_96 ?_
      refine zs_nmw (Option.some.inj e39) ?_
      refine zs_aload_n dX7_text_99 rfl ?_
      refine gX7_254 dX7_text_100 ?_
      refine zs_if_ne 122 dX7_text_103 rfl (fun c42 => ?_) (fun c42 => ?_)
      · replace h := zite_f c42 h
        refine zs_iload_n dX7_text_122 rfl ?_
        obtain ⟨rfl, rfl⟩ := zpi2 h
        exact zs_iret dX7_text_123 ⟨rfl, rfl⟩
      · replace h := zite_t c42 h
        refine zs_aload_n dX7_text_106 rfl ?_
        refine zs_iconst (0 : Int32) dX7_text_107 ziconst_0 ?_
        refine zs_aload_n dX7_text_108 rfl ?_
        refine gX7_41 dX7_text_109 ?_
        obtain ⟨w41, e40, h⟩ := zbind h
        refine zc_V2v moX7_moveAll mvX7_moveAll kX7_197 rfl dX7_text_112 za_60 (Nat.le_of_ble_eq_true rfl) (zrm (by decide)) (tX7_moveAll za_71 e40) ?_
        refine zs_iconst (-1 : Int32) dX7_text_115 ziconst_m1 ?_
        refine zs_aload_n dX7_text_116 rfl ?_
        refine gX7_210 dX7_text_117 ?_
        refine zs_isub dX7_text_120 ?_
        obtain ⟨rfl, rfl⟩ := zpi2 h
        exact zs_iret dX7_text_121 ⟨rfl, rfl⟩
    refine zs_if_eq 90 dX7_text_76 rfl (fun c43 => ?_) (fun c43 => ?_)
    · replace m32 := zite_t c43 m32
      refine zs_iconst (0 : Int32) dX7_text_90 ziconst_0 ?_
      obtain rfl := Option.some.inj m32
      exact K31
    · replace m32 := zite_f c43 m32
      refine zs_aload_n dX7_text_79 rfl ?_
      refine gX7_222 dX7_text_80 ?_
      refine zs_if_ne 90 dX7_text_83 rfl (fun c33 => ?_) (fun c33 => ?_)
      · replace m32 := zite_f c33 m32
        refine zs_iconst (0 : Int32) dX7_text_90 ziconst_0 ?_
        obtain rfl := Option.some.inj m32
        exact K31
      · replace m32 := zite_t c33 m32
        refine zs_iconst (1 : Int32) dX7_text_86 ziconst_1 ?_
        refine zs_goto 91 dX7_text_87 rfl ?_
        obtain rfl := Option.some.inj m32
        exact K31
  exact tlX7_text_23  zF _ _ _ _ _ e25 K26
def fX7_turn (w : zW) (p1 : Int32) (p2 : Int32) : Option (Int32 × zW) := Option.bind (fX7_isPost w p1) fun v2 => (if v2 = 0 then (zb2 (fX7_finds w (-1000000001 : Int32)) fun v4 w5 => some (v4, w5)) else (Option.bind (fX7_isKind w p2) fun v7 => (if v7 = 0 then (zb2 (fX7_finds w (-1000000001 : Int32)) fun v13 w14 => some (v13, w14)) else (Option.bind (fX7_its w p1 (0 : Int32)) fun v9 => Option.bind (fX7_sets w p1 (0 : Int32) p2) fun w11 => some (v9, w11)))))
set_option maxRecDepth 100000 in
theorem tX7_turn {w : zW} {p1 : Int32} {p2 : Int32}  {r : Int32} {w' : zW} (h : fX7_turn w p1 p2 = some (r, w')) : zRun yX7_turn cX7_turn 4 (some .int) 2 [.ref 60, .int p1, .int p2] w (zI r w') := by
  refine zRun.of (k := 1) rfl rfl rfl ?_
  show zWP RX7 cX7_turn (zMB 4 (some .int) 2 (zI r w')) 0 [some (.ref 60), some (.int p1), some (.int p2), none] [] w
  unfold fX7_turn at h
  refine zs_aload_n dX7_turn_0 rfl ?_
  refine zs_iload_n dX7_turn_1 rfl ?_
  obtain ⟨v2, e1, h⟩ := zbind h
  refine zc_V1i moX7_isPost mvX7_isPost kX7_163 rfl dX7_turn_2 za_60 (Nat.le_of_ble_eq_true rfl) (zrm (by decide)) (tX7_isPost e1) ?_
  refine zs_if_eq 15 dX7_turn_5 rfl (fun c16 => ?_) (fun c16 => ?_)
  · replace h := zite_t c16 h
    refine zs_aload_n dX7_turn_15 rfl ?_
    refine zs_ldc kX7_44 dX7_turn_16 ?_
    obtain ⟨v4, w5, e3, h⟩ := zb2_inv h
    refine zc_V1i moX7_finds mvX7_finds kX7_49 rfl dX7_turn_18 za_60 (Nat.le_of_ble_eq_true rfl) (zrm (by decide)) (tX7_finds e3) ?_
    obtain ⟨rfl, rfl⟩ := zpi2 h
    exact zs_iret dX7_turn_21 ⟨rfl, rfl⟩
  · replace h := zite_f c16 h
    refine zs_iload_n dX7_turn_8 rfl ?_
    obtain ⟨v7, e6, h⟩ := zbind h
    refine zc_S1i moX7_isKind mvX7_isKind kX7_100 dX7_turn_9 (Nat.le_of_ble_eq_true rfl) (zrm (by decide)) (tX7_isKind e6) ?_
    refine zs_if_ne 22 dX7_turn_12 rfl (fun c15 => ?_) (fun c15 => ?_)
    · replace h := zite_f c15 h
      refine zs_aload_n dX7_turn_22 rfl ?_
      refine zs_iload_n dX7_turn_23 rfl ?_
      refine zs_iconst (0 : Int32) dX7_turn_24 ziconst_0 ?_
      obtain ⟨v9, e8, h⟩ := zbind h
      refine zc_V2i moX7_its mvX7_its kX7_62 rfl dX7_turn_25 za_60 (Nat.le_of_ble_eq_true rfl) (zrm (by decide)) (tX7_its e8) ?_
      refine zs_istore_n [some (.ref 60), some (.int p1), some (.int p2), some (.int v9)] dX7_turn_28 (Nat.le_of_ble_eq_true rfl) rfl rfl ?_
      refine zs_aload_n dX7_turn_29 rfl ?_
      refine zs_iload_n dX7_turn_30 rfl ?_
      refine zs_iconst (0 : Int32) dX7_turn_31 ziconst_0 ?_
      refine zs_iload_n dX7_turn_32 rfl ?_
      obtain ⟨w11, e10, h⟩ := zbind h
      refine zc_V3v moX7_sets mvX7_sets kX7_157 rfl dX7_turn_33 za_60 (Nat.le_of_ble_eq_true rfl) (zrm (by decide)) (tX7_sets e10) ?_
      refine zs_iload_n dX7_turn_36 rfl ?_
      obtain ⟨rfl, rfl⟩ := zpi2 h
      exact zs_iret dX7_turn_37 ⟨rfl, rfl⟩
    · replace h := zite_t c15 h
      refine zs_aload_n dX7_turn_15 rfl ?_
      refine zs_ldc kX7_44 dX7_turn_16 ?_
      obtain ⟨v13, w14, e12, h⟩ := zb2_inv h
      refine zc_V1i moX7_finds mvX7_finds kX7_49 rfl dX7_turn_18 za_60 (Nat.le_of_ble_eq_true rfl) (zrm (by decide)) (tX7_finds e12) ?_
      obtain ⟨rfl, rfl⟩ := zpi2 h
      exact zs_iret dX7_turn_21 ⟨rfl, rfl⟩
def fX7_undo (w : zW)  : Option (Int32 × zW) := (if (w.1 60 20) = 0 then (zb2 (fX7_finds w (-1000000004 : Int32)) fun v6 w7 => some (v6, w7)) else (Option.bind (fX7_moveAll w (0 : Int32) 70) fun w2 => Option.bind (zrd w2 61 151 (0 : Int32)) fun v3 => some (v3, w2)))
set_option maxRecDepth 100000 in
theorem tX7_undo {w : zW}   {r : Int32} {w' : zW} (h : fX7_undo w  = some (r, w')) : zRun yX7_undo cX7_undo 1 (some .int) 1 [.ref 60] w (zI r w') := by
  refine zRun.of (k := 0) rfl rfl rfl ?_
  show zWP RX7 cX7_undo (zMB 1 (some .int) 1 (zI r w')) 0 [some (.ref 60)] [] w
  unfold fX7_undo at h
  refine zs_aload_n dX7_undo_0 rfl ?_
  refine gX7_321 dX7_undo_1 ?_
  refine zs_if_ne 14 dX7_undo_4 rfl (fun c8 => ?_) (fun c8 => ?_)
  · replace h := zite_f c8 h
    refine zs_aload_n dX7_undo_14 rfl ?_
    refine zs_iconst (0 : Int32) dX7_undo_15 ziconst_0 ?_
    refine zs_aload_n dX7_undo_16 rfl ?_
    refine gX7_38 dX7_undo_17 ?_
    obtain ⟨w2, e1, h⟩ := zbind h
    refine zc_V2v moX7_moveAll mvX7_moveAll kX7_197 rfl dX7_undo_20 za_60 (Nat.le_of_ble_eq_true rfl) (zrm (by decide)) (tX7_moveAll za_70 e1) ?_
    refine zs_aload_n dX7_undo_23 rfl ?_
    refine gX7_7 dX7_undo_24 ?_
    refine zs_iconst (0 : Int32) dX7_undo_27 ziconst_0 ?_
    obtain ⟨v3, e4, h⟩ := zbind h
    refine zs_iald dX7_undo_28 za_61 e4 ?_
    obtain ⟨rfl, rfl⟩ := zpi2 h
    exact zs_iret dX7_undo_29 ⟨rfl, rfl⟩
  · replace h := zite_t c8 h
    refine zs_aload_n dX7_undo_7 rfl ?_
    refine zs_ldc kX7_92 dX7_undo_8 ?_
    obtain ⟨v6, w7, e5, h⟩ := zb2_inv h
    refine zc_V1i moX7_finds mvX7_finds kX7_49 rfl dX7_undo_10 za_60 (Nat.le_of_ble_eq_true rfl) (zrm (by decide)) (tX7_finds e5) ?_
    obtain ⟨rfl, rfl⟩ := zpi2 h
    exact zs_iret dX7_undo_13 ⟨rfl, rfl⟩
def fX7_village (w : zW) (p1 : Int32) : Option (Int32 × zW) := Option.bind (fX7_in w p1 (0 : Int32) (9999 : Int32)) fun v2 => (if v2 = 0 then (zb2 (fX7_finds w (-1000000001 : Int32)) fun v14 w15 => some (v14, w15)) else (Option.bind (zrd w 61 151 (0 : Int32)) fun v3 => (if v3 = (12 : Int32) then (zb2 (fX7_finds w (-1000000002 : Int32)) fun v10 w11 => some (v10, w11)) else (Option.bind (fX7_addVillage w p1 (0 : Int32)) fun w6 => Option.bind (zrd w6 61 151 (0 : Int32)) fun v7 => some ((v7 - (1 : Int32)), w6)))))
set_option maxRecDepth 100000 in
theorem tX7_village {w : zW} {p1 : Int32}  {r : Int32} {w' : zW} (h : fX7_village w p1 = some (r, w')) : zRun yX7_village cX7_village 2 (some .int) 1 [.ref 60, .int p1] w (zI r w') := by
  refine zRun.of (k := 0) rfl rfl rfl ?_
  show zWP RX7 cX7_village (zMB 2 (some .int) 1 (zI r w')) 0 [some (.ref 60), some (.int p1)] [] w
  unfold fX7_village at h
  refine zs_iload_n dX7_village_0 rfl ?_
  refine zs_iconst (0 : Int32) dX7_village_1 ziconst_0 ?_
  refine zs_sipush (9999 : Int32) dX7_village_2 zsipush_9999 ?_
  obtain ⟨v2, e1, h⟩ := zbind h
  refine zc_S3i moX7_in mvX7_in kX7_45 dX7_village_5 (Nat.le_of_ble_eq_true rfl) (zrm (by decide)) (tX7_in e1) ?_
  refine zs_if_ne 18 dX7_village_8 rfl (fun c16 => ?_) (fun c16 => ?_)
  · replace h := zite_f c16 h
    refine zs_aload_n dX7_village_18 rfl ?_
    refine gX7_7 dX7_village_19 ?_
    refine zs_iconst (0 : Int32) dX7_village_22 ziconst_0 ?_
    obtain ⟨v3, e4, h⟩ := zbind h
    refine zs_iald dX7_village_23 za_61 e4 ?_
    refine zs_bipush (12 : Int32) dX7_village_24 zbipush_12 ?_
    refine zs_icmp_ne 36 dX7_village_26 rfl (fun c12 => ?_) (fun c12 => ?_)
    · replace h := zite_f c12 h
      refine zs_aload_n dX7_village_36 rfl ?_
      refine zs_iload_n dX7_village_37 rfl ?_
      refine zs_iconst (0 : Int32) dX7_village_38 ziconst_0 ?_
      obtain ⟨w6, e5, h⟩ := zbind h
      refine zc_V2v moX7_addVillage mvX7_addVillage kX7_54 rfl dX7_village_39 za_60 (Nat.le_of_ble_eq_true rfl) (zrm (by decide)) (tX7_addVillage e5) ?_
      refine zs_aload_n dX7_village_42 rfl ?_
      refine gX7_7 dX7_village_43 ?_
      refine zs_iconst (0 : Int32) dX7_village_46 ziconst_0 ?_
      obtain ⟨v7, e8, h⟩ := zbind h
      refine zs_iald dX7_village_47 za_61 e8 ?_
      refine zs_iconst (1 : Int32) dX7_village_48 ziconst_1 ?_
      refine zs_isub dX7_village_49 ?_
      obtain ⟨rfl, rfl⟩ := zpi2 h
      exact zs_iret dX7_village_50 ⟨rfl, rfl⟩
    · replace h := zite_t c12 h
      refine zs_aload_n dX7_village_29 rfl ?_
      refine zs_ldc kX7_53 dX7_village_30 ?_
      obtain ⟨v10, w11, e9, h⟩ := zb2_inv h
      refine zc_V1i moX7_finds mvX7_finds kX7_49 rfl dX7_village_32 za_60 (Nat.le_of_ble_eq_true rfl) (zrm (by decide)) (tX7_finds e9) ?_
      obtain ⟨rfl, rfl⟩ := zpi2 h
      exact zs_iret dX7_village_35 ⟨rfl, rfl⟩
  · replace h := zite_t c16 h
    refine zs_aload_n dX7_village_11 rfl ?_
    refine zs_ldc kX7_44 dX7_village_12 ?_
    obtain ⟨v14, w15, e13, h⟩ := zb2_inv h
    refine zc_V1i moX7_finds mvX7_finds kX7_49 rfl dX7_village_14 za_60 (Nat.le_of_ble_eq_true rfl) (zrm (by decide)) (tX7_finds e13) ?_
    obtain ⟨rfl, rfl⟩ := zpi2 h
    exact zs_iret dX7_village_17 ⟨rfl, rfl⟩
def fX7_villageOf (w : zW) (p1 : Int32) (p2 : Int32) : Option (Int32 × zW) := Option.bind (fX7_isVillage w p1) fun v2 => (if v2 = 0 then (zb2 (fX7_finds w (-1000000001 : Int32)) fun v4 w5 => some (v4, w5)) else (Option.bind (fX7_in w p2 (0 : Int32) (3 : Int32)) fun v7 => (if v7 = 0 then (zb2 (fX7_finds w (-1000000001 : Int32)) fun v20 w21 => some (v20, w21)) else ((if p2 = 0 then (Option.bind (fX7_height w p1) fun v17 => some (v17, w)) else ((if p2 = (1 : Int32) then (Option.bind (zrd w 61 151 (((5 : Int32) + ((2 : Int32) * p1)) + (1 : Int32))) fun v13 => some (v13, w)) else ((if p2 = (2 : Int32) then (Option.bind (fX7_roadsAt w p1) fun v11 => some (v11, w)) else (Option.bind (fX7_lettersAt w p1) fun v9 => some (v9, w)))))))))))
set_option maxRecDepth 100000 in
theorem tX7_villageOf {w : zW} {p1 : Int32} {p2 : Int32}  {r : Int32} {w' : zW} (h : fX7_villageOf w p1 p2 = some (r, w')) : zRun yX7_villageOf cX7_villageOf 3 (some .int) 2 [.ref 60, .int p1, .int p2] w (zI r w') := by
  refine zRun.of (k := 0) rfl rfl rfl ?_
  show zWP RX7 cX7_villageOf (zMB 3 (some .int) 2 (zI r w')) 0 [some (.ref 60), some (.int p1), some (.int p2)] [] w
  unfold fX7_villageOf at h
  refine zs_aload_n dX7_villageOf_0 rfl ?_
  refine zs_iload_n dX7_villageOf_1 rfl ?_
  obtain ⟨v2, e1, h⟩ := zbind h
  refine zc_V1i moX7_isVillage mvX7_isVillage kX7_65 rfl dX7_villageOf_2 za_60 (Nat.le_of_ble_eq_true rfl) (zrm (by decide)) (tX7_isVillage e1) ?_
  refine zs_if_eq 17 dX7_villageOf_5 rfl (fun c23 => ?_) (fun c23 => ?_)
  · replace h := zite_t c23 h
    refine zs_aload_n dX7_villageOf_17 rfl ?_
    refine zs_ldc kX7_44 dX7_villageOf_18 ?_
    obtain ⟨v4, w5, e3, h⟩ := zb2_inv h
    refine zc_V1i moX7_finds mvX7_finds kX7_49 rfl dX7_villageOf_20 za_60 (Nat.le_of_ble_eq_true rfl) (zrm (by decide)) (tX7_finds e3) ?_
    obtain ⟨rfl, rfl⟩ := zpi2 h
    exact zs_iret dX7_villageOf_23 ⟨rfl, rfl⟩
  · replace h := zite_f c23 h
    refine zs_iload_n dX7_villageOf_8 rfl ?_
    refine zs_iconst (0 : Int32) dX7_villageOf_9 ziconst_0 ?_
    refine zs_iconst (3 : Int32) dX7_villageOf_10 ziconst_3 ?_
    obtain ⟨v7, e6, h⟩ := zbind h
    refine zc_S3i moX7_in mvX7_in kX7_45 dX7_villageOf_11 (Nat.le_of_ble_eq_true rfl) (zrm (by decide)) (tX7_in e6) ?_
    refine zs_if_ne 24 dX7_villageOf_14 rfl (fun c22 => ?_) (fun c22 => ?_)
    · replace h := zite_f c22 h
      refine zs_iload_n dX7_villageOf_24 rfl ?_
      refine zs_if_ne 36 dX7_villageOf_25 rfl (fun c18 => ?_) (fun c18 => ?_)
      · replace h := zite_f c18 h
        refine zs_iload_n dX7_villageOf_36 rfl ?_
        refine zs_iconst (1 : Int32) dX7_villageOf_37 ziconst_1 ?_
        refine zs_icmp_ne 56 dX7_villageOf_38 rfl (fun c15 => ?_) (fun c15 => ?_)
        · replace h := zite_f c15 h
          refine zs_iload_n dX7_villageOf_56 rfl ?_
          refine zs_iconst (2 : Int32) dX7_villageOf_57 ziconst_2 ?_
          refine zs_icmp_ne 69 dX7_villageOf_58 rfl (fun c12 => ?_) (fun c12 => ?_)
          · replace h := zite_f c12 h
            refine zs_aload_n dX7_villageOf_69 rfl ?_
            refine zs_iload_n dX7_villageOf_70 rfl ?_
            obtain ⟨v9, e8, h⟩ := zbind h
            refine zc_V1i moX7_lettersAt mvX7_lettersAt kX7_75 rfl dX7_villageOf_71 za_60 (Nat.le_of_ble_eq_true rfl) (zrm (by decide)) (tX7_lettersAt e8) ?_
            obtain ⟨rfl, rfl⟩ := zpi2 h
            exact zs_iret dX7_villageOf_74 ⟨rfl, rfl⟩
          · replace h := zite_t c12 h
            refine zs_aload_n dX7_villageOf_61 rfl ?_
            refine zs_iload_n dX7_villageOf_62 rfl ?_
            obtain ⟨v11, e10, h⟩ := zbind h
            refine zc_V1i moX7_roadsAt mvX7_roadsAt kX7_72 rfl dX7_villageOf_63 za_60 (Nat.le_of_ble_eq_true rfl) (zrm (by decide)) (tX7_roadsAt e10) ?_
            refine zs_goto 74 dX7_villageOf_66 rfl ?_
            obtain ⟨rfl, rfl⟩ := zpi2 h
            exact zs_iret dX7_villageOf_74 ⟨rfl, rfl⟩
        · replace h := zite_t c15 h
          refine zs_aload_n dX7_villageOf_41 rfl ?_
          refine gX7_7 dX7_villageOf_42 ?_
          refine zs_iconst (5 : Int32) dX7_villageOf_45 ziconst_5 ?_
          refine zs_iconst (2 : Int32) dX7_villageOf_46 ziconst_2 ?_
          refine zs_iload_n dX7_villageOf_47 rfl ?_
          refine zs_imul dX7_villageOf_48 ?_
          refine zs_iadd dX7_villageOf_49 ?_
          refine zs_iconst (1 : Int32) dX7_villageOf_50 ziconst_1 ?_
          refine zs_iadd dX7_villageOf_51 ?_
          obtain ⟨v13, e14, h⟩ := zbind h
          refine zs_iald dX7_villageOf_52 za_61 e14 ?_
          refine zs_goto 74 dX7_villageOf_53 rfl ?_
          obtain ⟨rfl, rfl⟩ := zpi2 h
          exact zs_iret dX7_villageOf_74 ⟨rfl, rfl⟩
      · replace h := zite_t c18 h
        refine zs_aload_n dX7_villageOf_28 rfl ?_
        refine zs_iload_n dX7_villageOf_29 rfl ?_
        obtain ⟨v17, e16, h⟩ := zbind h
        refine zc_V1i moX7_height mvX7_height kX7_69 rfl dX7_villageOf_30 za_60 (Nat.le_of_ble_eq_true rfl) (zrm (by decide)) (tX7_height e16) ?_
        refine zs_goto 74 dX7_villageOf_33 rfl ?_
        obtain ⟨rfl, rfl⟩ := zpi2 h
        exact zs_iret dX7_villageOf_74 ⟨rfl, rfl⟩
    · replace h := zite_t c22 h
      refine zs_aload_n dX7_villageOf_17 rfl ?_
      refine zs_ldc kX7_44 dX7_villageOf_18 ?_
      obtain ⟨v20, w21, e19, h⟩ := zb2_inv h
      refine zc_V1i moX7_finds mvX7_finds kX7_49 rfl dX7_villageOf_20 za_60 (Nat.le_of_ble_eq_true rfl) (zrm (by decide)) (tX7_finds e19) ?_
      obtain ⟨rfl, rfl⟩ := zpi2 h
      exact zs_iret dX7_villageOf_23 ⟨rfl, rfl⟩
def fX7_when (w : zW) (p1 : Int32) : Option (Int32 × zW) := Option.bind (fX7_isPost w p1) fun v2 => (if v2 = 0 then (zb2 (fX7_finds w (-1000000001 : Int32)) fun v17 w18 => some (v17, w18)) else (Option.bind (zrd w 61 151 (4 : Int32)) fun v3 => (if v3 ≤ (9799 : Int32) then (zb2 (fX7_daysTill w p1) fun v6 w7 => (if 0 ≤ v6 then (some (v6, w7)) else (zb2 (fX7_finds w7 (-1000000004 : Int32)) fun v9 w10 => some (v9, w10)))) else (zb2 (fX7_finds w (-1000000005 : Int32)) fun v13 w14 => some (v13, w14)))))
set_option maxRecDepth 100000 in
theorem tX7_when {w : zW} {p1 : Int32}  {r : Int32} {w' : zW} (h : fX7_when w p1 = some (r, w')) : zRun yX7_when cX7_when 3 (some .int) 10 [.ref 60, .int p1] w (zI r w') := by
  refine zRun.of (k := 1) rfl rfl rfl ?_
  show zWP RX7 cX7_when (zMB 3 (some .int) 10 (zI r w')) 0 [some (.ref 60), some (.int p1), none] [] w
  unfold fX7_when at h
  refine zs_aload_n dX7_when_0 rfl ?_
  refine zs_iload_n dX7_when_1 rfl ?_
  obtain ⟨v2, e1, h⟩ := zbind h
  refine zc_V1i moX7_isPost mvX7_isPost kX7_163 rfl dX7_when_2 za_60 (Nat.le_of_ble_eq_true rfl) (zrm (by decide)) (tX7_isPost e1) ?_
  refine zs_if_ne 15 dX7_when_5 rfl (fun c19 => ?_) (fun c19 => ?_)
  · replace h := zite_f c19 h
    refine zs_aload_n dX7_when_15 rfl ?_
    refine gX7_7 dX7_when_16 ?_
    refine zs_iconst (4 : Int32) dX7_when_19 ziconst_4 ?_
    obtain ⟨v3, e4, h⟩ := zbind h
    refine zs_iald dX7_when_20 za_61 e4 ?_
    refine zs_sipush (9799 : Int32) dX7_when_21 zsipush_9799 ?_
    refine zs_icmp_le 34 dX7_when_24 rfl (fun c15 => ?_) (fun c15 => ?_)
    · replace h := zite_t c15 h
      refine zs_aload_n dX7_when_34 rfl ?_
      refine zs_iload_n dX7_when_35 rfl ?_
      obtain ⟨v6, w7, e5, h⟩ := zb2_inv h
      refine zc_V1i moX7_daysTill mvX7_daysTill kX7_201 rfl dX7_when_36 za_60 (Nat.le_of_ble_eq_true rfl) (zrm (by decide)) (tX7_daysTill e5) ?_
      refine zs_istore_n [some (.ref 60), some (.int p1), some (.int v6)] dX7_when_39 (Nat.le_of_ble_eq_true rfl) rfl rfl ?_
      refine zs_iload_n dX7_when_40 rfl ?_
      refine zs_if_ge 53 dX7_when_41 rfl (fun c11 => ?_) (fun c11 => ?_)
      · replace h := zite_t c11 h
        refine zs_iload_n dX7_when_53 rfl ?_
        obtain ⟨rfl, rfl⟩ := zpi2 h
        exact zs_iret dX7_when_54 ⟨rfl, rfl⟩
      · replace h := zite_f c11 h
        refine zs_aload_n dX7_when_44 rfl ?_
        refine zs_ldc kX7_92 dX7_when_45 ?_
        obtain ⟨v9, w10, e8, h⟩ := zb2_inv h
        refine zc_V1i moX7_finds mvX7_finds kX7_49 rfl dX7_when_47 za_60 (Nat.le_of_ble_eq_true rfl) (zrm (by decide)) (tX7_finds e8) ?_
        refine zs_goto 54 dX7_when_50 rfl ?_
        obtain ⟨rfl, rfl⟩ := zpi2 h
        exact zs_iret dX7_when_54 ⟨rfl, rfl⟩
    · replace h := zite_f c15 h
      refine zs_aload_n dX7_when_27 rfl ?_
      refine zs_ldc kX7_84 dX7_when_28 ?_
      obtain ⟨v13, w14, e12, h⟩ := zb2_inv h
      refine zc_V1i moX7_finds mvX7_finds kX7_49 rfl dX7_when_30 za_60 (Nat.le_of_ble_eq_true rfl) (zrm (by decide)) (tX7_finds e12) ?_
      obtain ⟨rfl, rfl⟩ := zpi2 h
      exact zs_iret dX7_when_33 ⟨rfl, rfl⟩
  · replace h := zite_t c19 h
    refine zs_aload_n dX7_when_8 rfl ?_
    refine zs_ldc kX7_44 dX7_when_9 ?_
    obtain ⟨v17, w18, e16, h⟩ := zb2_inv h
    refine zc_V1i moX7_finds mvX7_finds kX7_49 rfl dX7_when_11 za_60 (Nat.le_of_ble_eq_true rfl) (zrm (by decide)) (tX7_finds e16) ?_
    obtain ⟨rfl, rfl⟩ := zpi2 h
    exact zs_iret dX7_when_14 ⟨rfl, rfl⟩
def lpX7_whence_27 (p1 : Int32) (p2 : Int32) : Nat → zW → Int32 → Int32 → Option (Int32 × zW)
  | 0, _, _, _ => none
  | n + 1, w10, x8, x9 => Option.bind (zrd w10 61 151 (0 : Int32)) fun v13 => (if v13 ≤ x9 then (some (x8, w10)) else (zb2 (fX7_reachOf w10 p1 x9 (1 : Int32)) fun v16 w17 => Option.bind (fX7_has w17 v16 p2) fun v19 => Option.bind (if v19 = 0 then (some (0 : Int32)) else (some ((1 : Int32) <<< (x9 &&& 31)))) fun x20 => Option.bind (some ((x8 ||| x20))) fun x23 => lpX7_whence_27 p1 p2 n w17 x23 (x9 + 1)))
def fX7_whence (w : zW) (p1 : Int32) (p2 : Int32) : Option (Int32 × zW) := Option.bind (fX7_isKind w p1) fun v2 => (if v2 = 0 then (zb2 (fX7_finds w (-1000000001 : Int32)) fun v4 w5 => some (v4, w5)) else (Option.bind (fX7_isVillage w p2) fun v7 => (if v7 = 0 then (zb2 (fX7_finds w (-1000000001 : Int32)) fun v32 w33 => some (v32, w33)) else (zb2 (lpX7_whence_27 p1 p2 zF w (0 : Int32) (0 : Int32)) fun y29 w30 => some (y29, w30)))))
set_option maxRecDepth 100000 in
theorem tlX7_whence_27 {p1 : Int32} {p2 : Int32}  {Q : Option Value → zW → Prop} : ∀ (n : Nat) (w10 : zW) (x8 : Int32) (x9 : Int32) (y11 : Int32) (w12 : zW), lpX7_whence_27 p1 p2 n w10 x8 x9 = some (y11, w12) → zWP RX7 cX7_whence (zMB 5 (some .int) 6 Q) 70 [none, none, none, some (.int y11), none] [] w12 → zWP RX7 cX7_whence (zMB 5 (some .int) 6 Q) 27 [some (.ref 60), some (.int p1), some (.int p2), some (.int x8), some (.int x9)] [] w10 := by
  intro n
  induction n with
  | zero => intro w10 x8 x9 y11 w12 h K; simp [lpX7_whence_27] at h
  | succ n ih =>
    intro w10 x8 x9 y11 w12 h K
    rw [lpX7_whence_27] at h
    refine zs_iload dX7_whence_27 rfl ?_
    refine zs_aload_n dX7_whence_29 rfl ?_
    refine gX7_7 dX7_whence_30 ?_
    refine zs_iconst (0 : Int32) dX7_whence_33 ziconst_0 ?_
    obtain ⟨v13, e14, h⟩ := zbind h
    refine zs_iald dX7_whence_34 za_61 e14 ?_
    refine zs_icmp_ge 70 dX7_whence_35 rfl (fun c26 => ?_) (fun c26 => ?_)
    · replace h := zite_t c26 h
      refine zs_fo [false, false, false, true, false] rfl ?_
      obtain ⟨rfl, rfl⟩ := zpi2 h
      exact K
    · replace h := zite_f c26 h
      refine zs_iload_n dX7_whence_38 rfl ?_
      refine zs_aload_n dX7_whence_39 rfl ?_
      refine zs_iload_n dX7_whence_40 rfl ?_
      refine zs_iload dX7_whence_41 rfl ?_
      refine zs_iconst (1 : Int32) dX7_whence_43 ziconst_1 ?_
      obtain ⟨v16, w17, e15, h⟩ := zb2_inv h
      refine zc_V3i moX7_reachOf mvX7_reachOf kX7_139 rfl dX7_whence_44 za_60 (Nat.le_of_ble_eq_true rfl) (zrm (by decide)) (tX7_reachOf e15) ?_
      refine zs_iload_n dX7_whence_47 rfl ?_
      obtain ⟨v19, e18, h⟩ := zbind h
      refine zc_S2i moX7_has mvX7_has kX7_143 dX7_whence_48 (Nat.le_of_ble_eq_true rfl) (zrm (by decide)) (tX7_has e18) ?_
      obtain ⟨x20, m22, h⟩ := zbind h
      have K21 : zWP RX7 cX7_whence (zMB 5 (some .int) 6 Q) 62 [some (.ref 60), some (.int p1), some (.int p2), none, some (.int x9)] [.int x20, .int x8] w17 := by
        refine zs_ior dX7_whence_62 ?_
        obtain ⟨x23, e24, h⟩ := zbind h
        refine zs_nmi (Option.some.inj e24) ?_
        refine zs_istore_n [some (.ref 60), some (.int p1), some (.int p2), some (.int x23), some (.int x9)] dX7_whence_63 (Nat.le_of_ble_eq_true rfl) rfl rfl ?_
        refine zs_iinc (x9 + 1) [some (.ref 60), some (.int p1), some (.int p2), some (.int x23), some (.int (x9 + 1))] dX7_whence_64 rfl rfl (Nat.le_of_ble_eq_true rfl) rfl rfl ?_
        refine zs_goto 27 dX7_whence_67 rfl ?_
        exact ih _ _ _ _ _ h K
      refine zs_if_eq 61 dX7_whence_51 rfl (fun c25 => ?_) (fun c25 => ?_)
      · replace m22 := zite_t c25 m22
        refine zs_iconst (0 : Int32) dX7_whence_61 ziconst_0 ?_
        refine zs_fo [true, true, true, false, true] rfl ?_
        obtain rfl := Option.some.inj m22
        exact K21
      · replace m22 := zite_f c25 m22
        refine zs_iconst (1 : Int32) dX7_whence_54 ziconst_1 ?_
        refine zs_iload dX7_whence_55 rfl ?_
        refine zs_ishl dX7_whence_57 ?_
        refine zs_goto 62 dX7_whence_58 rfl ?_
        refine zs_fo [true, true, true, false, true] rfl ?_
        obtain rfl := Option.some.inj m22
        exact K21
set_option maxRecDepth 100000 in
theorem tX7_whence {w : zW} {p1 : Int32} {p2 : Int32}  {r : Int32} {w' : zW} (h : fX7_whence w p1 p2 = some (r, w')) : zRun yX7_whence cX7_whence 5 (some .int) 6 [.ref 60, .int p1, .int p2] w (zI r w') := by
  refine zRun.of (k := 2) rfl rfl rfl ?_
  show zWP RX7 cX7_whence (zMB 5 (some .int) 6 (zI r w')) 0 [some (.ref 60), some (.int p1), some (.int p2), none, none] [] w
  unfold fX7_whence at h
  refine zs_iload_n dX7_whence_0 rfl ?_
  obtain ⟨v2, e1, h⟩ := zbind h
  refine zc_S1i moX7_isKind mvX7_isKind kX7_100 dX7_whence_1 (Nat.le_of_ble_eq_true rfl) (zrm (by decide)) (tX7_isKind e1) ?_
  refine zs_if_eq 15 dX7_whence_4 rfl (fun c35 => ?_) (fun c35 => ?_)
  · replace h := zite_t c35 h
    refine zs_aload_n dX7_whence_15 rfl ?_
    refine zs_ldc kX7_44 dX7_whence_16 ?_
    obtain ⟨v4, w5, e3, h⟩ := zb2_inv h
    refine zc_V1i moX7_finds mvX7_finds kX7_49 rfl dX7_whence_18 za_60 (Nat.le_of_ble_eq_true rfl) (zrm (by decide)) (tX7_finds e3) ?_
    obtain ⟨rfl, rfl⟩ := zpi2 h
    exact zs_iret dX7_whence_21 ⟨rfl, rfl⟩
  · replace h := zite_f c35 h
    refine zs_aload_n dX7_whence_7 rfl ?_
    refine zs_iload_n dX7_whence_8 rfl ?_
    obtain ⟨v7, e6, h⟩ := zbind h
    refine zc_V1i moX7_isVillage mvX7_isVillage kX7_65 rfl dX7_whence_9 za_60 (Nat.le_of_ble_eq_true rfl) (zrm (by decide)) (tX7_isVillage e6) ?_
    refine zs_if_ne 22 dX7_whence_12 rfl (fun c34 => ?_) (fun c34 => ?_)
    · replace h := zite_f c34 h
      refine zs_iconst (0 : Int32) dX7_whence_22 ziconst_0 ?_
      refine zs_istore_n [some (.ref 60), some (.int p1), some (.int p2), some (.int (0 : Int32)), none] dX7_whence_23 (Nat.le_of_ble_eq_true rfl) rfl rfl ?_
      refine zs_iconst (0 : Int32) dX7_whence_24 ziconst_0 ?_
      refine zs_istore [some (.ref 60), some (.int p1), some (.int p2), some (.int (0 : Int32)), some (.int (0 : Int32))] dX7_whence_25 (Nat.le_of_ble_eq_true rfl) rfl rfl ?_
      obtain ⟨y29, w30, e27, h⟩ := zb2_inv h
      have K28 : zWP RX7 cX7_whence (zMB 5 (some .int) 6 (zI r w')) 70 [none, none, none, some (.int y29), none] [] w30 := by
        refine zs_iload_n dX7_whence_70 rfl ?_
        obtain ⟨rfl, rfl⟩ := zpi2 h
        exact zs_iret dX7_whence_71 ⟨rfl, rfl⟩
      exact tlX7_whence_27  zF _ _ _ _ _ e27 K28
    · replace h := zite_t c34 h
      refine zs_aload_n dX7_whence_15 rfl ?_
      refine zs_ldc kX7_44 dX7_whence_16 ?_
      obtain ⟨v32, w33, e31, h⟩ := zb2_inv h
      refine zc_V1i moX7_finds mvX7_finds kX7_49 rfl dX7_whence_18 za_60 (Nat.le_of_ble_eq_true rfl) (zrm (by decide)) (tX7_finds e31) ?_
      obtain ⟨rfl, rfl⟩ := zpi2 h
      exact zs_iret dX7_whence_21 ⟨rfl, rfl⟩
def fX7_wipe (w : zW)  : Option (Int32 × zW) := Option.bind (some ((w.1 60 7))) fun x1 => Option.bind (some (zsf w 60 7 (0 : Int32))) fun w3 => some (x1, w3)
set_option maxRecDepth 100000 in
theorem tX7_wipe {w : zW}   {r : Int32} {w' : zW} (h : fX7_wipe w  = some (r, w')) : zRun yX7_wipe cX7_wipe 2 (some .int) 0 [.ref 60] w (zI r w') := by
  refine zRun.of (k := 1) rfl rfl rfl ?_
  show zWP RX7 cX7_wipe (zMB 2 (some .int) 0 (zI r w')) 0 [some (.ref 60), none] [] w
  unfold fX7_wipe at h
  refine zs_aload_n dX7_wipe_0 rfl ?_
  refine gX7_204 dX7_wipe_1 ?_
  obtain ⟨x1, e2, h⟩ := zbind h
  refine zs_nmi (Option.some.inj e2) ?_
  refine zs_istore_n [some (.ref 60), some (.int x1)] dX7_wipe_4 (Nat.le_of_ble_eq_true rfl) rfl rfl ?_
  refine zs_aload_n dX7_wipe_5 rfl ?_
  refine zs_iconst (0 : Int32) dX7_wipe_6 ziconst_0 ?_
  obtain ⟨w3, e4, h⟩ := zbind h
  refine pX7_204 dX7_wipe_7 ?_
  refine zs_nmw (Option.some.inj e4) ?_
  refine zs_iload_n dX7_wipe_10 rfl ?_
  obtain ⟨rfl, rfl⟩ := zpi2 h
  exact zs_iret dX7_wipe_11 ⟨rfl, rfl⟩
def fX7_write (w : zW) (p1 : Int32) (p2 : Int32) (p3 : Int64) : Option (Int64 × zW) := Option.bind (fX7_isSheet w p1) fun v2 => (if v2 = 0 then (zb2 (fX7_finds w (-1000000001 : Int32)) fun v26 w27 => some (((v26).toInt64), w27)) else (Option.bind (zrd w 66 4 p1) fun v3 => (if v3 = 0 then (zb2 (fX7_finds w (-1000000006 : Int32)) fun v22 w23 => some (((v22).toInt64), w23)) else (Option.bind (zrd w 67 4 p1) fun v5 => Option.bind (fX7_in w p2 (0 : Int32) (v5 - (1 : Int32))) fun v8 => (if v8 = 0 then (zb2 (fX7_finds w (-1000000001 : Int32)) fun v18 w19 => some (((v18).toInt64), w19)) else (Option.bind (zrl w 68 160 (((40 : Int32) * p1) + p2)) fun v9 => Option.bind (zrd w 66 4 p1) fun v11 => Option.bind (fX7_narrow w v11 p3) fun v14 => Option.bind (zwl w 68 160 (((40 : Int32) * p1) + p2) v14) fun w15 => some (v9, w15)))))))
set_option maxRecDepth 100000 in
theorem tX7_write {w : zW} {p1 : Int32} {p2 : Int32} {p3 : Int64}  {r : Int64} {w' : zW} (h : fX7_write w p1 p2 p3 = some (r, w')) : zRun yX7_write cX7_write 7 (some .long) 2 [.ref 60, .int p1, .int p2, .long p3] w (zJ r w') := by
  refine zRun.of (k := 2) rfl rfl rfl ?_
  show zWP RX7 cX7_write (zMB 7 (some .long) 2 (zJ r w')) 0 [some (.ref 60), some (.int p1), some (.int p2), some (.long p3), none, none, none] [] w
  unfold fX7_write at h
  refine zs_iload_n dX7_write_0 rfl ?_
  obtain ⟨v2, e1, h⟩ := zbind h
  refine zc_S1i moX7_isSheet mvX7_isSheet kX7_307 dX7_write_1 (Nat.le_of_ble_eq_true rfl) (zrm (by decide)) (tX7_isSheet e1) ?_
  refine zs_if_ne 15 dX7_write_4 rfl (fun c28 => ?_) (fun c28 => ?_)
  · replace h := zite_f c28 h
    refine zs_aload_n dX7_write_15 rfl ?_
    refine gX7_25 dX7_write_16 ?_
    refine zs_iload_n dX7_write_19 rfl ?_
    obtain ⟨v3, e4, h⟩ := zbind h
    refine zs_iald dX7_write_20 za_66 e4 ?_
    refine zs_if_ne 33 dX7_write_21 rfl (fun c24 => ?_) (fun c24 => ?_)
    · replace h := zite_f c24 h
      refine zs_iload_n dX7_write_33 rfl ?_
      refine zs_iconst (0 : Int32) dX7_write_34 ziconst_0 ?_
      refine zs_aload_n dX7_write_35 rfl ?_
      refine gX7_28 dX7_write_36 ?_
      refine zs_iload_n dX7_write_39 rfl ?_
      obtain ⟨v5, e6, h⟩ := zbind h
      refine zs_iald dX7_write_40 za_67 e6 ?_
      refine zs_iconst (1 : Int32) dX7_write_41 ziconst_1 ?_
      refine zs_isub dX7_write_42 ?_
      obtain ⟨v8, e7, h⟩ := zbind h
      refine zc_S3i moX7_in mvX7_in kX7_45 dX7_write_43 (Nat.le_of_ble_eq_true rfl) (zrm (by decide)) (tX7_in e7) ?_
      refine zs_if_ne 57 dX7_write_46 rfl (fun c20 => ?_) (fun c20 => ?_)
      · replace h := zite_f c20 h
        refine zs_aload_n dX7_write_57 rfl ?_
        refine gX7_31 dX7_write_58 ?_
        refine zs_bipush (40 : Int32) dX7_write_61 zbipush_40 ?_
        refine zs_iload_n dX7_write_63 rfl ?_
        refine zs_imul dX7_write_64 ?_
        refine zs_iload_n dX7_write_65 rfl ?_
        refine zs_iadd dX7_write_66 ?_
        obtain ⟨v9, e10, h⟩ := zbind h
        refine zs_lald dX7_write_67 za_68 e10 ?_
        refine zs_lstore [some (.ref 60), some (.int p1), some (.int p2), some (.long p3), none, some (.long v9), none] dX7_write_68 (Nat.le_of_ble_eq_true rfl) rfl rfl ?_
        refine zs_aload_n dX7_write_70 rfl ?_
        refine gX7_31 dX7_write_71 ?_
        refine zs_bipush (40 : Int32) dX7_write_74 zbipush_40 ?_
        refine zs_iload_n dX7_write_76 rfl ?_
        refine zs_imul dX7_write_77 ?_
        refine zs_iload_n dX7_write_78 rfl ?_
        refine zs_iadd dX7_write_79 ?_
        refine zs_aload_n dX7_write_80 rfl ?_
        refine gX7_25 dX7_write_81 ?_
        refine zs_iload_n dX7_write_84 rfl ?_
        obtain ⟨v11, e12, h⟩ := zbind h
        refine zs_iald dX7_write_85 za_66 e12 ?_
        refine zs_lload_n dX7_write_86 rfl ?_
        obtain ⟨v14, e13, h⟩ := zbind h
        refine zc_S2j moX7_narrow mvX7_narrow kX7_312 dX7_write_87 (Nat.le_of_ble_eq_true rfl) (zrm (by decide)) (tX7_narrow e13) ?_
        obtain ⟨w15, e16, h⟩ := zbind h
        refine zs_last dX7_write_90 za_68 e16 ?_
        refine zs_lload dX7_write_91 rfl ?_
        obtain ⟨rfl, rfl⟩ := zpi2 h
        exact zs_lret dX7_write_93 ⟨rfl, rfl⟩
      · replace h := zite_t c20 h
        refine zs_aload_n dX7_write_49 rfl ?_
        refine zs_ldc kX7_44 dX7_write_50 ?_
        obtain ⟨v18, w19, e17, h⟩ := zb2_inv h
        refine zc_V1i moX7_finds mvX7_finds kX7_49 rfl dX7_write_52 za_60 (Nat.le_of_ble_eq_true rfl) (zrm (by decide)) (tX7_finds e17) ?_
        refine zs_i2l dX7_write_55 ?_
        obtain ⟨rfl, rfl⟩ := zpi2 h
        exact zs_lret dX7_write_56 ⟨rfl, rfl⟩
    · replace h := zite_t c24 h
      refine zs_aload_n dX7_write_24 rfl ?_
      refine zs_ldc_w kX7_311 dX7_write_25 ?_
      obtain ⟨v22, w23, e21, h⟩ := zb2_inv h
      refine zc_V1i moX7_finds mvX7_finds kX7_49 rfl dX7_write_28 za_60 (Nat.le_of_ble_eq_true rfl) (zrm (by decide)) (tX7_finds e21) ?_
      refine zs_i2l dX7_write_31 ?_
      obtain ⟨rfl, rfl⟩ := zpi2 h
      exact zs_lret dX7_write_32 ⟨rfl, rfl⟩
  · replace h := zite_t c28 h
    refine zs_aload_n dX7_write_7 rfl ?_
    refine zs_ldc kX7_44 dX7_write_8 ?_
    obtain ⟨v26, w27, e25, h⟩ := zb2_inv h
    refine zc_V1i moX7_finds mvX7_finds kX7_49 rfl dX7_write_10 za_60 (Nat.le_of_ble_eq_true rfl) (zrm (by decide)) (tX7_finds e25) ?_
    refine zs_i2l dX7_write_13 ?_
    obtain ⟨rfl, rfl⟩ := zpi2 h
    exact zs_lret dX7_write_14 ⟨rfl, rfl⟩
