theorem se_bit {n m : Nat} (b : BitVec n) (i : Nat) : (b.signExtend m).getLsbD i = (decide (i < m) && if i < n then b.getLsbD i else b.msb) := by rw [BitVec.getLsbD_signExtend]
theorem nar8 (x : Int64) : (x <<< ((56 : Int32).toInt64 &&& 63)) >>> ((56 : Int32).toInt64 &&& 63) = (((((x).toInt32)).toInt8.toInt32)).toInt64 := by
  have e : (56 : Int32).toInt64 &&& 63 = 56 := by decide
  rw [e]
  apply Int64.toBitVec_inj.mp
  show BitVec.sshiftRight (x.toBitVec <<< 56) 56 = BitVec.signExtend 64 (BitVec.signExtend 32 (BitVec.signExtend 8 (BitVec.signExtend 32 x.toBitVec)))
  generalize x.toBitVec = b
  apply BitVec.eq_of_getLsbD_eq
  intro i hi
  simp only [BitVec.getLsbD_sshiftRight, BitVec.getLsbD_shiftLeft, BitVec.getLsbD_signExtend, BitVec.msb_signExtend, BitVec.msb_eq_getLsbD_last]
  by_cases h : i < 8
  · have h1 : i < 32 := by omega
    have h2 : ¬ 64 ≤ i := by omega
    have h3 : 56 + i < 64 := by omega
    simp [h, h1, h2, h3, hi]
  · by_cases h1 : i < 32
    · have h2 : ¬ 64 ≤ i := by omega
      have h3 : ¬ 56 + i < 64 := by omega
      simp [h, h1, h2, h3, hi]
    · have h2 : ¬ 64 ≤ i := by omega
      have h3 : ¬ 56 + i < 64 := by omega
      simp [h, h1, h2, h3, hi]
theorem nar16 (x : Int64) : (x <<< ((48 : Int32).toInt64 &&& 63)) >>> ((48 : Int32).toInt64 &&& 63) = (((((x).toInt32)).toInt16.toInt32)).toInt64 := by
  have e : (48 : Int32).toInt64 &&& 63 = 48 := by decide
  rw [e]
  apply Int64.toBitVec_inj.mp
  show BitVec.sshiftRight (x.toBitVec <<< 48) 48 = BitVec.signExtend 64 (BitVec.signExtend 32 (BitVec.signExtend 16 (BitVec.signExtend 32 x.toBitVec)))
  generalize x.toBitVec = b
  apply BitVec.eq_of_getLsbD_eq
  intro i hi
  simp only [BitVec.getLsbD_sshiftRight, BitVec.getLsbD_shiftLeft, BitVec.getLsbD_signExtend, BitVec.msb_signExtend, BitVec.msb_eq_getLsbD_last]
  by_cases h : i < 16
  · have h1 : i < 32 := by omega
    have h2 : ¬ 64 ≤ i := by omega
    have h3 : 48 + i < 64 := by omega
    simp [h, h1, h2, h3, hi]
  · by_cases h1 : i < 32
    · have h2 : ¬ 64 ≤ i := by omega
      have h3 : ¬ 48 + i < 64 := by omega
      simp [h, h1, h2, h3, hi]
    · have h2 : ¬ 64 ≤ i := by omega
      have h3 : ¬ 48 + i < 64 := by omega
      simp [h, h1, h2, h3, hi]
def zOp64 (F G : zW → Option (Int64 × zW)) : Prop := ∀ w, zInv w → ∃ r u v, F w = some (r, u) ∧ G u = some (r, v) ∧ zInv v
theorem nI_b0 {b : Nat} (hb : b = 0 ∨ b = 8 ∨ b = 16 ∨ b = 64) : (nI b = 0) ↔ b = 0 := by
  rcases hb with rfl | rfl | rfl | rfl <;> decide
theorem nar_eq {w u : zW} {o b : Nat} {x : Int64} (h : w.1 o 0 = nI b) : fX3_narrowed w o x = fX7_narrow u (nI b) x := by
  unfold fX3_narrowed fX7_narrow
  rw [h, nar8, nar16]
theorem zff_2 {w : zW} {k : Nat} : (zff w k).2 = w.2 := rfl
theorem zff_o {w : zW} {k o : Nat} (h : o ≠ 46) : (zff w k).1 o = w.1 o := by unfold zff; rw [zsf_o h]
theorem op_write (a c : Int32) (x : Int64) : zOp64 (fun w => fX6_write w a c x) (fun w => fX7_write w a c x) := by
  intro w hI
  show ∃ r u v, fX6_write w a c x = some (r, u) ∧ fX7_write u a c x = some (r, v) ∧ zInv v
  rcases sh_yn a with h | ⟨s, hs, rfl⟩
  · exact ⟨zB0.toInt64, zff w 0, zfg (zff w 0) 0, by simp only [fX6_write, (sh_n h).1, zbo_n, x6_f0, zb2_some], by simp only [fX7_write, (sh_n h).2, Option.bind_some, if_true, x7_f0, zb2_some], hI.find (k := 0) (by omega)⟩
  have y1 := fun w => (sh_y (w := w) hs).1
  have y2 := fun w => (sh_y (w := w) hs).2
  have hI0 := hI
  obtain ⟨⟨S, hS, hC, hM⟩, d, e, f, g⟩ := hI
  obtain ⟨b, n, hb, hn, hbn, k1, k2, k3, k4, k5⟩ := f s hs
  have r66 : ∀ u : zW, u.1 66 = w.1 66 → zrd u 66 4 (nI s) = some (nI b) := fun u h => by rw [zrd_nI hs (by omega), h, k2]
  have r67 : ∀ u : zW, u.1 67 = w.1 67 → zrd u 67 4 (nI s) = some (nI n) := fun u h => by rw [zrd_nI hs (by omega), h, k4]
  by_cases b0 : nI b = 0
  · exact ⟨zB5.toInt64, zff w 5, zfg (zff w 5) 5, by simp only [fX6_write, y1, zbo_s, fX3_isMissing, k1, if_pos b0, Option.bind_some, if_neg h10, x6_f5, zb2_some], by simp only [fX7_write, y2, Option.bind_some, if_neg h10, r66 _ (zff_o (show 66 ≠ 46 by omega)), if_pos b0, x7_f5, zb2_some], hI0.find (k := 5) (by omega)⟩
  by_cases c0 : c < 0 ∨ nI n ≤ c
  · have z1 : fX3_has w (50 + 2 * s) c = some 0 := by
      unfold fX3_has
      by_cases q : c < 0
      · rw [if_pos q]
      · rw [if_neg q, k3, if_pos (c0.resolve_left q)]
    exact ⟨zB0.toInt64, zff w 0, zfg (zff w 0) 0, by simp only [fX6_write, y1, zbo_s, fX3_isMissing, k1, if_neg b0, Option.bind_some, if_true, z1, x6_f0, zb2_some], by simp only [fX7_write, y2, Option.bind_some, if_neg h10, r66 _ (zff_o (show 66 ≠ 46 by omega)), r67 _ (zff_o (show 67 ≠ 46 by omega)), if_neg b0, in_n c0 (by omega), if_true, x7_f0, zb2_some], hI0.find (k := 0) (by omega)⟩
  have q0 : ¬ c < 0 := fun h => c0 (Or.inl h)
  have q1 : ¬ nI n ≤ c := fun h => c0 (Or.inr h)
  obtain ⟨i, hi, rfl⟩ := nI_of q0
  have hin : i < n := by rw [nI_leI (by omega) hi] at q1; omega
  have z1 : fX3_has w (50 + 2 * s) (nI i) = some 1 := by unfold fX3_has; rw [if_neg q0, k3, if_neg q1]
  have z2 : fX3_number w (50 + 2 * s) (nI i) = some (w.2 (50 + 2 * s + 1) i) := by simp only [fX3_number, z1, Option.bind_some, if_neg h10, zrl_nI (show i < 40 by omega) (by omega)]
  obtain ⟨y, hy⟩ : ∃ y, fX7_narrow w (nI b) x = some y := by
    unfold fX7_narrow
    split
    · exact ⟨_, rfl⟩
    · split
      · exact ⟨_, rfl⟩
      · exact ⟨_, rfl⟩
  have z3 : fX3_put w (50 + 2 * s) (nI i) x = some (zsg w (50 + 2 * s + 1) i y) := by simp only [fX3_put, z1, Option.bind_some, if_neg h10, nar_eq (u := w) k1, hy, zwl_nI (show i < 40 by omega) (by omega)]
  have z4 : fX7_narrow (zsg w (50 + 2 * s + 1) i y) (nI b) x = some y := hy
  have z5 : zrl (zsg w (50 + 2 * s + 1) i y) 68 160 (40 * nI s + nI i) = some (w.2 (50 + 2 * s + 1) i) := by rw [ix40, zrl_nI (by omega) (by omega), zsg_o (by omega), k5 i (by omega)]
  have E : zE (fun o => o = 50 + 2 * s + 1 ∨ o = 68) w (zsg (zsg w (50 + 2 * s + 1) i y) 68 (40 * s + i) y) := (zE.sg0 (Or.inl rfl)).trs (zE.sg0 (Or.inr rfl))
  refine ⟨w.2 (50 + 2 * s + 1) i, zsg w (50 + 2 * s + 1) i y, zsg (zsg w (50 + 2 * s + 1) i y) 68 (40 * s + i) y, by simp only [fX6_write, y1, zbo_s, fX3_isMissing, k1, if_neg b0, Option.bind_some, if_true, z1, if_neg h10, z2, z3], ?_, ⟨S, hS, hC.keep (fun j hj => rfl), hM.keep rfl⟩, d.keep rfl rfl, e.keep rfl rfl rfl rfl, ?_, g.keep rfl rfl (fun j hj => rfl) rfl⟩
  · simp only [fX7_write, y2, Option.bind_some, if_neg h10, r66 (zsg w (50 + 2 * s + 1) i y) rfl, r67 (zsg w (50 + 2 * s + 1) i y) rfl, if_neg b0, in_y hin (show n < 2 ^ 30 by omega), z5, z4]
    rw [ix40, zwl_nI (by omega) (by omega), Option.bind_some]
  · refine f.upd hs (fun t ht hts => ⟨rfl, (E _ (by omega)).2, rfl, rfl, fun j hj => ?_⟩) ⟨b, n, hb, hn, hbn, k1, k2, k3, k4, fun j hj => ?_⟩
    · rw [zsg_k (by omega), zsg_o (by omega)]
    · rw [zsg_o (by omega)]
      by_cases q : j = i
      · subst q; rw [zsg_same, zsg_same]
      · rw [zsg_k q, zsg_k (by omega), zsg_o (by omega), k5 j hj]
