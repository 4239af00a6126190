theorem op_count (a : Int32) : zOp (fun w => fX6_count w a) (fun w => fX7_count w a) := by
  intro w hI
  show ∃ r u v, fX6_count w a = some (r, u) ∧ fX7_count u a = some (r, v) ∧ zInv v
  obtain ⟨S, hS, hC, hM⟩ := hI.1
  by_cases c0 : a = 0
  · exact ⟨nI (zNv S), w, w, by simp only [fX6_count, if_pos c0, hC.1.1], by simp only [fX7_count, if_pos c0, mx_0 hM, Option.bind_some], hI⟩
  by_cases c1 : a = 1
  · exact ⟨nI (zNr S), w, w, by simp only [fX6_count, if_neg c0, if_pos c1, hC.1.2.1], by simp only [fX7_count, if_neg c0, if_pos c1, mx_1 hM, Option.bind_some], hI⟩
  by_cases c2 : a = 2
  · exact ⟨nI (zNl S), w, w, by simp only [fX6_count, if_neg c0, if_neg c1, if_pos c2, hC.1.2.2.1], by simp only [fX7_count, if_neg c0, if_neg c1, if_pos c2, mx_2 hM, Option.bind_some], hI⟩
  by_cases c3 : a = 3
  · obtain ⟨n, hn, t1, t2, _⟩ := hI.2.2.1
    exact ⟨nI n, w, w, by simp only [fX6_count, if_neg c0, if_neg c1, if_neg c2, if_pos c3, t1], by simp only [fX7_count, if_neg c0, if_neg c1, if_neg c2, if_pos c3, t2], hI⟩
  by_cases c4 : a = 4
  · exact ⟨zSum S, w, w, by simp only [fX6_count, if_neg c0, if_neg c1, if_neg c2, if_neg c3, if_pos c4, cx_sum hS hC, Option.bind_some], by simp only [fX7_count, if_neg c0, if_neg c1, if_neg c2, if_neg c3, if_pos c4, mx_sum hS hM, Option.bind_some], hI⟩
  exact ⟨zB0, zff w 0, zfg (zff w 0) 0, by simp only [fX6_count, if_neg c0, if_neg c1, if_neg c2, if_neg c3, if_neg c4, x6_f0, zb2_some], by simp only [fX7_count, if_neg c0, if_neg c1, if_neg c2, if_neg c3, if_neg c4, x7_f0, zb2_some], hI.find (k := 0) (by omega)⟩
theorem op_villageOf (a b : Int32) : zOp (fun w => fX6_villageOf w a b) (fun w => fX7_villageOf w a b) := by
  intro w hI
  show ∃ r u v, fX6_villageOf w a b = some (r, u) ∧ fX7_villageOf u a b = some (r, v) ∧ zInv v
  obtain ⟨S, hS, hC, hM⟩ := hI.1
  have hn := hS.nv
  have hF := zff_mx (k := 0) hM (by omega)
  rcases zor (x := a) (n := zNv S) (by omega) with ha | ⟨v, hv, rfl⟩
  · exact ⟨zB0, zff w 0, zfg (zff w 0) 0, by simp only [fX6_villageOf, cx_hv_n hC ha, Option.bind_some, if_true, x6_f0, zb2_some], by simp only [fX7_villageOf, mx_hv_n hS hF ha, Option.bind_some, if_true, x7_f0, zb2_some], hI.find (k := 0) (by omega)⟩
  have i3 : (3 : Int32) = nI 4 - 1 := by decide
  rcases zor (x := b) (n := 4) (by omega) with hb | ⟨j, hj, rfl⟩
  · have m0 : ¬ b = 0 := fun q => by subst q; rcases hb with q | q <;> exact absurd q (by decide)
    have m1 : ¬ b = 1 := fun q => by subst q; rcases hb with q | q <;> exact absurd q (by decide)
    have m2 : ¬ b = 2 := fun q => by subst q; rcases hb with q | q <;> exact absurd q (by decide)
    have m3 : ¬ b = 3 := fun q => by subst q; rcases hb with q | q <;> exact absurd q (by decide)
    have e3 : fX7_in (zff w 0) b 0 3 = some 0 := by rw [i3]; exact in_n hb (by omega)
    exact ⟨zB0, zff w 0, zfg (zff w 0) 0, by simp only [fX6_villageOf, cx_hv_y hS hC hv, Option.bind_some, if_neg h10, if_neg m0, if_neg m1, if_neg m2, if_neg m3, x6_f0, zb2_some], by simp only [fX7_villageOf, mx_hv_y hS hF hv, e3, Option.bind_some, if_neg h10, if_true, x7_f0, zb2_some], hI.find (k := 0) (by omega)⟩
  have e3 : fX7_in w (nI j) 0 3 = some 1 := by rw [i3]; exact in_y hj (by omega)
  match j, hj with
  | 0, _ =>
    have n0 : nI 0 = 0 := rfl
    exact ⟨nI (zHt S v), w, w, by simp only [fX6_villageOf, cx_hv_y hS hC hv, Option.bind_some, if_neg h10, if_pos n0, cx_ht hS hC hv], by simp only [fX7_villageOf, mx_hv_y hS hM hv, e3, Option.bind_some, if_neg h10, if_pos n0, mx_ht hS hM hv], hI⟩
  | 1, _ =>
    have n0 : ¬ nI 1 = 0 := by decide
    have n1 : nI 1 = 1 := rfl
    refine ⟨if zHm S v then 1 else 0, w, w, ?_, by simp only [fX7_villageOf, mx_hv_y hS hM hv, e3, Option.bind_some, if_neg h10, if_neg n0, if_pos n1, mx_hmr hS hM hv], hI⟩
    simp only [fX6_villageOf, cx_hv_y hS hC hv, Option.bind_some, if_neg h10, if_neg n0, if_pos n1, cx_hm hS hC hv]
    cases zHm S v <;> rfl
  | 2, _ =>
    have n0 : ¬ nI 2 = 0 := by decide
    have n1 : ¬ nI 2 = 1 := by decide
    have n2 : nI 2 = 2 := rfl
    exact ⟨nI (zct (zRv S v) (zNr S)), w, w, by simp only [fX6_villageOf, cx_hv_y hS hC hv, Option.bind_some, if_neg h10, if_neg n0, if_neg n1, if_pos n2, cx_rds hS hC hv], by simp only [fX7_villageOf, mx_hv_y hS hM hv, e3, Option.bind_some, if_neg h10, if_neg n0, if_neg n1, if_pos n2, mx_rds hS hM hv], hI⟩
  | 3, _ =>
    have n0 : ¬ nI 3 = 0 := by decide
    have n1 : ¬ nI 3 = 1 := by decide
    have n2 : ¬ nI 3 = 2 := by decide
    have n3 : nI 3 = 3 := rfl
    exact ⟨nI (zst (zLi S v) (zNl S)), w, w, by simp only [fX6_villageOf, cx_hv_y hS hC hv, Option.bind_some, if_neg h10, if_neg n0, if_neg n1, if_neg n2, if_pos n3, cx_in hS hC hv], by simp only [fX7_villageOf, mx_hv_y hS hM hv, e3, Option.bind_some, if_neg h10, if_neg n0, if_neg n1, if_neg n2, mx_in hS hM hv], hI⟩
theorem op_now (a : Int32) : zOp (fun w => fX6_now w a) (fun w => fX7_now w a) := by
  intro w hI
  show ∃ r u v, fX6_now w a = some (r, u) ∧ fX7_now u a = some (r, v) ∧ zInv v
  obtain ⟨S, hS, hC, hM⟩ := hI.1
  have hn := hS.nl
  have o1 : fX7_ones w (nI (zst (zTh S) (zNl S))) = some (nI (zct (zTh S) (zNl S))) := by rw [mx_ones w (zst_4096 _ (by omega)), zpc_set _ (by omega)]
  by_cases c0 : a = 0
  · exact ⟨nI (zDy S), w, w, by simp only [fX6_now, if_pos c0, hC.1.2.2.2.2], by simp only [fX7_now, if_pos c0, mx_4 hM, Option.bind_some], hI⟩
  by_cases c1 : a = 1
  · exact ⟨nI (zEv S), w, w, by simp only [fX6_now, if_neg c0, if_pos c1, hC.1.2.2.2.1], by simp only [fX7_now, if_neg c0, if_pos c1, mx_3 hM, Option.bind_some], hI⟩
  by_cases c2 : a = 2
  · exact ⟨nI (zct (zTh S) (zNl S)), w, w, by simp only [fX6_now, if_neg c0, if_neg c1, if_pos c2, cx_there hS hC, Option.bind_some], by simp only [fX7_now, if_neg c0, if_neg c1, if_pos c2, mx_there hS hM, o1, Option.bind_some], hI⟩
  by_cases c3 : a = 3
  · exact ⟨nI (zct (fun l => decide (0 < zLf S l)) (zNl S)), w, w, by simp only [fX6_now, if_neg c0, if_neg c1, if_neg c2, if_pos c3, cx_way hS hC, Option.bind_some], by simp only [fX7_now, if_neg c0, if_neg c1, if_neg c2, if_pos c3, mx_way hS hM, Option.bind_some], hI⟩
  by_cases c4 : a = 4
  · refine ⟨nI (zNl S) - nI (zct (zTh S) (zNl S)) - nI (zct (fun l => decide (0 < zLf S l)) (zNl S)), w, w, by simp only [fX6_now, if_neg c0, if_neg c1, if_neg c2, if_neg c3, if_pos c4, cx_there hS hC, cx_way hS hC, hC.1.2.2.1, Option.bind_some], ?_, hI⟩
    simp only [fX7_now, if_neg c0, if_neg c1, if_neg c2, if_neg c3, if_pos c4, mx_2 hM, mx_way hS hM, mx_there hS hM, o1, Option.bind_some]
    have e : ∀ x y z : Int32, x - y - z = x - z - y := fun x y z => by rw [Int32.sub_sub, Int32.sub_sub, Int32.add_comm]
    rw [e]
  exact ⟨zB0, zff w 0, zfg (zff w 0) 0, by simp only [fX6_now, if_neg c0, if_neg c1, if_neg c2, if_neg c3, if_neg c4, x6_f0, zb2_some], by simp only [fX7_now, if_neg c0, if_neg c1, if_neg c2, if_neg c3, if_neg c4, x7_f0, zb2_some], hI.find (k := 0) (by omega)⟩
theorem op_of (a b : Int32) : zOp (fun w => fX6_of w a b) (fun w => fX7_of w a b) := by
  intro w hI
  show ∃ r u v, fX6_of w a b = some (r, u) ∧ fX7_of u a b = some (r, v) ∧ zInv v
  obtain ⟨S, hS, hC, hM⟩ := hI.1
  have hn := hS.nl
  have hF := zff_mx (k := 0) hM (by omega)
  rcases zor (x := a) (n := zNl S) (by omega) with ha | ⟨l, hl, rfl⟩
  · exact ⟨zB0, zff w 0, zfg (zff w 0) 0, by simp only [fX6_of, cx_hl_n hC ha, Option.bind_some, if_true, x6_f0, zb2_some], by simp only [fX7_of, mx_hl_n hS hF ha, Option.bind_some, if_true, x7_f0, zb2_some], hI.find (k := 0) (by omega)⟩
  have i5 : (5 : Int32) = nI 6 - 1 := by decide
  have c := hC.2.2.2 l hl
  have z5 : zrd w (10 + 5) 10 (nI l) = some (nI (zKd S l)) := by rw [zrd_nI (by omega) (by omega), c.1]
  have z6 : zrd w (10 + 6) 10 (nI l) = some (nI (zPl S l)) := by rw [zrd_nI (by omega) (by omega), c.2.1]
  have z7 : zrd w (10 + 7) 10 (nI l) = some (nI (zTo S l)) := by rw [zrd_nI (by omega) (by omega), c.2.2.1]
  have z8 : zrd w (10 + 8) 10 (nI l) = some (nI (zSn S l)) := by rw [zrd_nI (by omega) (by omega), c.2.2.2.1]
  have z9 : zrd w (10 + 9) 10 (nI l) = some (nI (zLf S l)) := by rw [zrd_nI (by omega) (by omega), c.2.2.2.2]
  rcases zor (x := b) (n := 6) (by omega) with hb | ⟨j, hj, rfl⟩
  · have m0 : ¬ b = 0 := fun q => by subst q; rcases hb with q | q <;> exact absurd q (by decide)
    have m1 : ¬ b = 1 := fun q => by subst q; rcases hb with q | q <;> exact absurd q (by decide)
    have m2 : ¬ b = 2 := fun q => by subst q; rcases hb with q | q <;> exact absurd q (by decide)
    have m3 : ¬ b = 3 := fun q => by subst q; rcases hb with q | q <;> exact absurd q (by decide)
    have m4 : ¬ b = 4 := fun q => by subst q; rcases hb with q | q <;> exact absurd q (by decide)
    have m5 : ¬ b = 5 := fun q => by subst q; rcases hb with q | q <;> exact absurd q (by decide)
    have e3 : fX7_in (zff w 0) b 0 5 = some 0 := by rw [i5]; exact in_n hb (by omega)
    exact ⟨zB0, zff w 0, zfg (zff w 0) 0, by simp only [fX6_of, cx_hl_y hS hC hl, Option.bind_some, if_neg h10, if_neg m0, if_neg m1, if_neg m2, if_neg m3, if_neg m4, if_neg m5, x6_f0, zb2_some], by simp only [fX7_of, mx_hl_y hS hF hl, e3, Option.bind_some, if_neg h10, if_true, x7_f0, zb2_some], hI.find (k := 0) (by omega)⟩
  have e3 : fX7_in w (nI j) 0 5 = some 1 := by rw [i5]; exact in_y hj (by omega)
  match j, hj with
  | 0, _ =>
    have n0 : nI 0 = 0 := rfl
    have q : ¬ (5 : Int32) ≤ nI 0 := by decide
    exact ⟨nI (zKd S l), w, w, by simp only [fX6_of, cx_hl_y hS hC hl, Option.bind_some, if_neg h10, if_pos n0, z5], by simp only [fX7_of, mx_hl_y hS hM hl, e3, Option.bind_some, if_neg h10, if_neg q, show fX7_its w (nI l) (nI 0) = some (nI (zKd S l)) from mx_its0 hS hM hl], hI⟩
  | 1, _ =>
    have n0 : ¬ nI 1 = 0 := by decide
    have n1 : nI 1 = 1 := rfl
    have q : ¬ (5 : Int32) ≤ nI 1 := by decide
    exact ⟨nI (zPl S l), w, w, by simp only [fX6_of, cx_hl_y hS hC hl, Option.bind_some, if_neg h10, if_neg n0, if_pos n1, z6], by simp only [fX7_of, mx_hl_y hS hM hl, e3, Option.bind_some, if_neg h10, if_neg q, show fX7_its w (nI l) (nI 1) = some (nI (zPl S l)) from mx_its1 hS hM hl], hI⟩
  | 2, _ =>
    have n0 : ¬ nI 2 = 0 := by decide
    have n1 : ¬ nI 2 = 1 := by decide
    have n2 : nI 2 = 2 := rfl
    have q : ¬ (5 : Int32) ≤ nI 2 := by decide
    exact ⟨nI (zTo S l), w, w, by simp only [fX6_of, cx_hl_y hS hC hl, Option.bind_some, if_neg h10, if_neg n0, if_neg n1, if_pos n2, z7], by simp only [fX7_of, mx_hl_y hS hM hl, e3, Option.bind_some, if_neg h10, if_neg q, show fX7_its w (nI l) (nI 2) = some (nI (zTo S l)) from mx_its2 hS hM hl], hI⟩
  | 3, _ =>
    have n0 : ¬ nI 3 = 0 := by decide
    have n1 : ¬ nI 3 = 1 := by decide
    have n2 : ¬ nI 3 = 2 := by decide
    have n3 : nI 3 = 3 := rfl
    have q : ¬ (5 : Int32) ≤ nI 3 := by decide
    exact ⟨nI (zSn S l), w, w, by simp only [fX6_of, cx_hl_y hS hC hl, Option.bind_some, if_neg h10, if_neg n0, if_neg n1, if_neg n2, if_pos n3, z8], by simp only [fX7_of, mx_hl_y hS hM hl, e3, Option.bind_some, if_neg h10, if_neg q, show fX7_its w (nI l) (nI 3) = some (nI (zSn S l)) from mx_its3 hS hM hl], hI⟩
  | 4, _ =>
    have n0 : ¬ nI 4 = 0 := by decide
    have n1 : ¬ nI 4 = 1 := by decide
    have n2 : ¬ nI 4 = 2 := by decide
    have n3 : ¬ nI 4 = 3 := by decide
    have n4 : nI 4 = 4 := rfl
    have q : ¬ (5 : Int32) ≤ nI 4 := by decide
    exact ⟨nI (zLf S l), w, w, by simp only [fX6_of, cx_hl_y hS hC hl, Option.bind_some, if_neg h10, if_neg n0, if_neg n1, if_neg n2, if_neg n3, if_pos n4, z9], by simp only [fX7_of, mx_hl_y hS hM hl, e3, Option.bind_some, if_neg h10, if_neg q, show fX7_its w (nI l) (nI 4) = some (nI (zLf S l)) from mx_its4 hS hM hl], hI⟩
  | 5, _ =>
    have n0 : ¬ nI 5 = 0 := by decide
    have n1 : ¬ nI 5 = 1 := by decide
    have n2 : ¬ nI 5 = 2 := by decide
    have n3 : ¬ nI 5 = 3 := by decide
    have n4 : ¬ nI 5 = 4 := by decide
    have n5 : nI 5 = 5 := rfl
    have q : (5 : Int32) ≤ nI 5 := by decide
    refine ⟨if zTh S l then 1 else 0, w, w, ?_, ?_, hI⟩
    · simp only [fX6_of, cx_hl_y hS hC hl, Option.bind_some, if_neg h10, if_neg n0, if_neg n1, if_neg n2, if_neg n3, if_neg n4, if_pos n5, cx_th hS hC hl]
      cases zTh S l <;> rfl
    · simp only [fX7_of, mx_hl_y hS hM hl, e3, Option.bind_some, if_neg h10, if_pos q, mx_th hS hM hl]
      cases zTh S l <;> rfl
