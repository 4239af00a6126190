theorem zlsw {x : Int32} (h1 : ¬ x = 8) (h2 : ¬ x = 16) : Op.lookupswitch.offset (#[(8, 28), (16, 33)] : Array (Int × Int)).toList 38 x.toInt = 38 := by
  have e1 : ¬ x.toInt = 8 := fun q => h1 (Int32.toInt_inj.mp (by rw [q]; decide))
  have e2 : ¬ x.toInt = 16 := fun q => h2 (Int32.toInt_inj.mp (by rw [q]; decide))
  simp [Op.lookupswitch.offset, e1, e2, Ne.symm e1, Ne.symm e2]
/-! the JDK's own methods of texts, of String constants -/
def fJ0_length_8abf5 (q : Nat) : Option Int32 := some (Int32.ofNat (zlen.getD q 0))
def fJ0_charAt_5068e (q : Nat) (i : Int32) : Option Int32 := Option.bind (zrdT q i) fun v => some ((v &&& 255).toUInt32 % 65536).toInt32
theorem tJ0_coder {w : zW} {q : Nat} (hq : q < 13) : zRun yJ0_coder_7d493 cJ0_coder_7d493 1 (some .byte) 0 [.ref (100 + q)] w (zI 0 w) := by
  refine zRun.of (k := 0) rfl rfl rfl ?_
  show zWP RJ0 cJ0_coder_7d493 (zMB 1 (some .byte) 0 (zI 0 w)) 0 [some (.ref (100 + q))] [] w
  refine zs_compact kJ0_38 dJ0_coder_7d493_0 ?_
  refine zs_if_eq 13 dJ0_coder_7d493_3 rfl (fun c => absurd c (by decide)) (fun _ => ?_)
  refine zs_aload_n dJ0_coder_7d493_6 rfl ?_
  refine zs_strCoder kJ0_15 hq dJ0_coder_7d493_7 ?_
  refine zs_goto 14 dJ0_coder_7d493_10 rfl ?_
  exact zs_zret dJ0_coder_7d493_14 rfl ⟨rfl, rfl⟩
theorem tJ0_length_8abf5 {w : zW} {q : Nat} (hq : q < 13) {r : Int32} (h : fJ0_length_8abf5 q = some r) : zRun yJ0_length_8abf5 cJ0_length_8abf5 1 (some .int) 1 [.ref (100 + q)] w (zI r w) := by
  refine zRun.of (k := 0) rfl rfl rfl ?_
  show zWP RJ0 cJ0_length_8abf5 (zMB 1 (some .int) 1 (zI r w)) 0 [some (.ref (100 + q))] [] w
  refine zs_aload_n dJ0_length_8abf5_0 rfl ?_
  refine zs_strVal kJ0_9 hq dJ0_length_8abf5_1 ?_
  refine zs_strLen hq dJ0_length_8abf5_4 ?_
  refine zs_aload_n dJ0_length_8abf5_5 rfl ?_
  refine zc_T0i moJ0_coder_7d493 mvJ0_coder_7d493 kJ0_335 rfl dJ0_length_8abf5_6 hq (Nat.le_of_ble_eq_true rfl) (zrm (by decide)) (tJ0_coder hq) ?_
  refine zs_ishr dJ0_length_8abf5_9 ?_
  unfold fJ0_length_8abf5 at h
  cases h
  refine zs_nmi (b := Int32.ofNat (zlen.getD q 0)) ?_ ?_
  · have e : ∀ q, q < 13 → Int32.ofNat (zlen.getD q 0) >>> ((0 : Int32) &&& 31) = Int32.ofNat (zlen.getD q 0) := by decide +kernel
    exact e q hq
  · exact zs_iret dJ0_length_8abf5_10 ⟨rfl, rfl⟩
theorem tJ0_isLatin1 {w : zW} {q : Nat} (hq : q < 13) : zRun yJ0_isLatin1_aae02 cJ0_isLatin1_aae02 1 (some .boolean) 0 [.ref (100 + q)] w (zI 1 w) := by
  refine zRun.of (k := 0) rfl rfl rfl ?_
  show zWP RJ0 cJ0_isLatin1_aae02 (zMB 1 (some .boolean) 0 (zI 1 w)) 0 [some (.ref (100 + q))] [] w
  refine zs_compact kJ0_38 dJ0_isLatin1_aae02_0 ?_
  refine zs_if_eq 17 dJ0_isLatin1_aae02_3 rfl (fun c => absurd c (by decide)) (fun _ => ?_)
  refine zs_aload_n dJ0_isLatin1_aae02_6 rfl ?_
  refine zs_strCoder kJ0_15 hq dJ0_isLatin1_aae02_7 ?_
  refine zs_if_ne 17 dJ0_isLatin1_aae02_10 rfl (fun c => absurd rfl c) (fun _ => ?_)
  refine zs_iconst (1 : Int32) dJ0_isLatin1_aae02_13 ziconst_1 ?_
  refine zs_goto 18 dJ0_isLatin1_aae02_14 rfl ?_
  exact zs_bret dJ0_isLatin1_aae02_18 (Or.inr rfl) ⟨rfl, rfl⟩
theorem tJ3_checkIndex {w : zW} {i n : Int32} {f : Value} (hf : f = .null ∨ f = .ref 85) (h0 : ¬ i < 0) (h1 : i < n) : zRun yJ3_checkIndex_8e157 cJ3_checkIndex_8e157 3 (some .int) 0 [.int i, .int n, f] w (zI i w) := by
  have K : ∀ v : Option Value, zWP RJ3 cJ3_checkIndex_8e157 (zMB 3 (some .int) 0 (zI i w)) 0 [some (.int i), some (.int n), v] [] w := by
    intro v
    refine zs_iload_n dJ3_checkIndex_8e157_0 rfl ?_
    refine zs_if_lt 9 dJ3_checkIndex_8e157_1 rfl (fun c => absurd c h0) (fun _ => ?_)
    refine zs_iload_n dJ3_checkIndex_8e157_4 rfl ?_
    refine zs_iload_n dJ3_checkIndex_8e157_5 rfl ?_
    refine zs_icmp_lt 16 dJ3_checkIndex_8e157_6 rfl (fun _ => ?_) (fun c => absurd h1 c)
    refine zs_iload_n dJ3_checkIndex_8e157_16 rfl ?_
    exact zs_iret dJ3_checkIndex_8e157_17 ⟨rfl, rfl⟩
  rcases hf with rfl | rfl
  · refine zRun.of (k := 0) rfl rfl rfl ?_
    exact K _
  · refine zRun.of (k := 0) rfl rfl rfl ?_
    exact K _
theorem tJ0_checkIndex {w : zW} {i n : Int32} (h0 : ¬ i < 0) (h1 : i < n) : zRun yJ0_checkIndex_df160 cJ0_checkIndex_df160 2 none 1 [.int i, .int n] w (zV w) := by
  refine zRun.of (k := 0) rfl rfl rfl ?_
  show zWP RJ0 cJ0_checkIndex_df160 (zMB 2 none 1 (zV w)) 0 [some (.int i), some (.int n)] [] w
  refine zs_iload_n dJ0_checkIndex_df160_0 rfl ?_
  refine zs_iload_n dJ0_checkIndex_df160_1 rfl ?_
  refine zs_former kJ0_1053 dJ0_checkIndex_df160_2 (fun f hf => ?_)
  refine zc_S3i moJ3_checkIndex_8e157 mvJ3_checkIndex_8e157 kJ0_1059 dJ0_checkIndex_df160_5 (Nat.le_of_ble_eq_true rfl) (zrm (by decide)) (tJ3_checkIndex hf h0 h1) ?_
  refine zs_pop dJ0_checkIndex_df160_8 rfl ?_
  exact zs_vret dJ0_checkIndex_df160_9 ⟨rfl, rfl⟩
theorem tJ1_charAt {w : zW} {q : Nat} (hq : q < 13) {i v : Int32} (h : zrdT q i = some v) : zRun yJ1_charAt_3b067 cJ1_charAt_3b067 2 (some .char) 2 [.ref (200 + q), .int i] w (zI ((v &&& 255).toUInt32 % 65536).toInt32 w) := by
  refine zRun.of (k := 0) rfl rfl rfl ?_
  show zWP RJ1 cJ1_charAt_3b067 (zMB 2 (some .char) 2 (zI ((v &&& 255).toUInt32 % 65536).toInt32 w)) 0 [some (.ref (200 + q)), some (.int i)] [] w
  refine zs_iload_n dJ1_charAt_3b067_0 rfl ?_
  refine zs_aload_n dJ1_charAt_3b067_1 rfl ?_
  refine zs_strLen hq dJ1_charAt_3b067_2 ?_
  have h0 : ¬ i < 0 := fun c => (zin h).1 (Or.inl c)
  have h2 : i.toNatClampNeg < zlen.getD q 0 := Nat.lt_of_not_le fun c => (zin h).1 (Or.inr c)
  have h3 : zlen.getD q 0 < 2 ^ 31 := by
    have e : ∀ q, q < 13 → zlen.getD q 0 < 2 ^ 31 := by decide +kernel
    exact e q hq
  have h1 : i < Int32.ofNat (zlen.getD q 0) := by
    obtain ⟨j, hj, rfl⟩ := nI_of h0
    rw [nI_clamp hj] at h2
    exact nI_lt h2 h3
  refine zc_S2v moJ0_checkIndex_df160 mvJ0_checkIndex_df160 kJ1_9 dJ1_charAt_3b067_3 (Nat.le_of_ble_eq_true rfl) (zrm (by decide)) (tJ0_checkIndex h0 h1) ?_
  refine zs_aload_n dJ1_charAt_3b067_6 rfl ?_
  refine zs_iload_n dJ1_charAt_3b067_7 rfl ?_
  refine zs_strByte hq dJ1_charAt_3b067_8 h ?_
  refine zs_sipush (255 : Int32) dJ1_charAt_3b067_9 zsipush_255 ?_
  refine zs_iand dJ1_charAt_3b067_12 ?_
  refine zs_i2c dJ1_charAt_3b067_13 ?_
  exact zs_zret dJ1_charAt_3b067_14 (pk_nc _) ⟨rfl, rfl⟩
theorem tJ0_charAt_5068e {w : zW} {q : Nat} (hq : q < 13) {i r : Int32} (h : fJ0_charAt_5068e q i = some r) : zRun yJ0_charAt_5068e cJ0_charAt_5068e 2 (some .char) 4 [.ref (100 + q), .int i] w (zI r w) := by
  refine zRun.of (k := 0) rfl rfl rfl ?_
  show zWP RJ0 cJ0_charAt_5068e (zMB 2 (some .char) 4 (zI r w)) 0 [some (.ref (100 + q)), some (.int i)] [] w
  unfold fJ0_charAt_5068e at h
  obtain ⟨v, e, h⟩ := zbind h
  refine zs_aload_n dJ0_charAt_5068e_0 rfl ?_
  refine zc_T0i moJ0_isLatin1_aae02 mvJ0_isLatin1_aae02 kJ0_492 rfl dJ0_charAt_5068e_1 hq (Nat.le_of_ble_eq_true rfl) (zrm (by decide)) (tJ0_isLatin1 hq) ?_
  refine zs_if_eq 16 dJ0_charAt_5068e_4 rfl (fun c => absurd c (by decide)) (fun _ => ?_)
  refine zs_aload_n dJ0_charAt_5068e_7 rfl ?_
  refine zs_strVal kJ0_9 hq dJ0_charAt_5068e_8 ?_
  refine zs_iload_n dJ0_charAt_5068e_11 rfl ?_
  refine zc_S2i moJ1_charAt_3b067 mvJ1_charAt_3b067 kJ0_495 dJ0_charAt_5068e_12 (Nat.le_of_ble_eq_true rfl) (zrm (by decide)) (tJ1_charAt hq e) ?_
  cases h
  exact zs_zret dJ0_charAt_5068e_15 (pk_nc _) ⟨rfl, rfl⟩
