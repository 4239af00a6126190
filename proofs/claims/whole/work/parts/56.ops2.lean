abbrev zB1 : Int32 := -1000000002
abbrev zB2 : Int32 := -1000000003
abbrev zB3 : Int32 := -1000000004
abbrev zB4 : Int32 := -1000000005
abbrev zB5 : Int32 := -1000000006
abbrev zB6 : Int32 := -1000000007
theorem op_village (a : Int32) : zOp (fun w => fX6_village w a) (fun w => fX7_village w a) := by
  intro w hI
  show ∃ r u v, fX6_village w a = some (r, u) ∧ fX7_village u a = some (r, v) ∧ zInv v
  obtain ⟨S, hS, hC, hM⟩ := hI.1
  have hn := hS.nv
  rcases zor (x := a) (n := 10000) (by omega) with ha | ⟨x, hx, rfl⟩
  · exact ⟨zB0, zff w 0, zfg (zff w 0) 0, by simp only [fX6_village, ch_n ha, Option.bind_some, if_true, x6_f0, zb2_some], by simp only [fX7_village, in_h_n ha, Option.bind_some, if_true, x7_f0, zb2_some], hI.find (k := 0) (by omega)⟩
  by_cases hv : zNv S < 12
  · obtain ⟨u, e1, hC1, E1⟩ := cx_addV hS hC hv (x := x) (by omega) false
    have hM1 : zMX u 61 S := hM.keep (E1 61 (by omega)).1
    have f1 : fX0_villagesFull w 10 = some 0 := by
      unfold fX0_villagesFull
      rw [hC.1.1, if_pos (by rw [zL12, nI_ltI (by omega) (by omega)]; exact hv)]
    simp only [Bool.false_eq_true, if_false] at e1
    have e2 := mx_addV hM1 hv x false
    simp only [Bool.false_eq_true, if_false] at e2
    have n1 : ¬ nI (zNv S) = 12 := by rw [zL12, nI_eq (by omega) (by omega)]; omega
    have n2 : zrd (zsf (zsf (zsf u 61 (5 + 2 * zNv S) (nI x)) 61 (5 + 2 * zNv S + 1) 0) 61 0 (nI (zNv S + 1))) 61 151 0 = some (nI (zNv S + 1)) := by rw [zL0, zrd_nI (by omega) (by omega), zsf_same]
    have hM2 := mx_av hM1 hv x false
    simp only [Bool.false_eq_true, if_false] at hM2
    refine ⟨nI (zNv S), u, _, ?_, ?_, hI.land (wf_av hS hv (x := x) (b := false) (by omega)) (hC1.keep (fun i hi => ?_)) hM2 ((E1.mono (fun o h => by omega)).trs (((zE.sf0 (by omega)).trs (zE.sf0 (by omega))).trs (zE.sf0 (by omega))))⟩
    · simp only [fX6_village, ch_y hx, Option.bind_some, if_neg h10, f1, if_true, e1, zb2_some]
    · simp only [fX7_village, in_h_y hx, Option.bind_some, if_neg h10, mx_0 hM1, if_neg n1, e2, n2, nI_pred]
    · rw [zsf_o (by omega), zsf_o (by omega), zsf_o (by omega)]
  · have f1 : fX0_villagesFull w 10 = some 1 := by
      unfold fX0_villagesFull
      rw [hC.1.1, if_neg (by rw [zL12, nI_ltI (by omega) (by omega)]; exact hv)]
    have n1 : nI (zNv S) = 12 := by rw [zL12, nI_eq (by omega) (by omega)]; omega
    have hF := zff_mx (k := 1) hM (by omega)
    exact ⟨zB1, zff w 1, zfg (zff w 1) 1, by simp only [fX6_village, ch_y hx, Option.bind_some, if_neg h10, f1, x6_f1, zb2_some], by simp only [fX7_village, in_h_y hx, Option.bind_some, if_neg h10, mx_0 hF, if_pos n1, x7_f1, zb2_some], hI.find (k := 1) (by omega)⟩
theorem cx_av2 {w : zW} {S : zLd} (hS : zWf S) (h : zCX w 10 S) {a b : Nat} (ha : a < zNv S) (hb : b < zNv S) : fX6_areVillages w (nI a) (nI b) = some 1 := by
  simp only [fX6_areVillages, cx_hv_y hS h ha, cx_hv_y hS h hb, Option.bind_some, if_neg h10]
theorem cx_av2_n {w : zW} {S : zLd} (hS : zWf S) (h : zCX w 10 S) {x y : Int32} (hx : (x < 0 ∨ nI (zNv S) ≤ x) ∨ (y < 0 ∨ nI (zNv S) ≤ y)) : fX6_areVillages w x y = some 0 := by
  have hn := hS.nv
  by_cases c : x < 0 ∨ nI (zNv S) ≤ x
  · simp only [fX6_areVillages, cx_hv_n h c, Option.bind_some, if_true]
  · rcases zor (x := x) (n := zNv S) (by omega) with q | ⟨j, hj, rfl⟩
    · exact absurd q c
    · simp only [fX6_areVillages, cx_hv_y hS h hj, cx_hv_n h (hx.resolve_left c), Option.bind_some, if_neg h10, if_true]
theorem op_road (a b d : Int32) : zOp (fun w => fX6_road w a b d) (fun w => fX7_road w a b d) := by
  intro w hI
  show ∃ r u v, fX6_road w a b d = some (r, u) ∧ fX7_road u a b d = some (r, v) ∧ zInv v
  obtain ⟨S, hS, hC, hM⟩ := hI.1
  have hn := hS.nv
  have hr := hS.nr
  have hF := zff_mx (k := 0) hM (by omega)
  rcases zor (x := a) (n := zNv S) (by omega) with ha | ⟨x, hx, rfl⟩
  · exact ⟨zB0, zff w 0, zfg (zff w 0) 0, by simp only [fX6_road, fX6_areUnlikeVillages, cx_av2_n hS hC (Or.inl ha), Option.bind_some, if_true, x6_f0, zb2_some], by simp only [fX7_road, mx_hv_n hS hF ha, Option.bind_some, if_true, x7_f0, zb2_some], hI.find (k := 0) (by omega)⟩
  rcases zor (x := b) (n := zNv S) (by omega) with hb | ⟨y, hy, rfl⟩
  · exact ⟨zB0, zff w 0, zfg (zff w 0) 0, by simp only [fX6_road, fX6_areUnlikeVillages, cx_av2_n hS hC (Or.inr hb), Option.bind_some, if_true, x6_f0, zb2_some], by simp only [fX7_road, mx_hv_y hS hF hx, mx_hv_n hS hF hb, Option.bind_some, if_neg h10, if_true, x7_f0, zb2_some], hI.find (k := 0) (by omega)⟩
  by_cases hxy : nI x = nI y
  · exact ⟨zB0, zff w 0, zfg (zff w 0) 0, by simp only [fX6_road, fX6_areUnlikeVillages, cx_av2 hS hC hx hy, Option.bind_some, if_neg h10, if_pos hxy, if_true, x6_f0, zb2_some], by simp only [fX7_road, mx_hv_y hS hF hx, mx_hv_y hS hF hy, Option.bind_some, if_neg h10, if_pos hxy, x7_f0, zb2_some], hI.find (k := 0) (by omega)⟩
  have hu : fX6_areUnlikeVillages w (nI x) (nI y) = some 1 := by simp only [fX6_areUnlikeVillages, cx_av2 hS hC hx hy, Option.bind_some, if_neg h10, if_neg hxy]
  by_cases h1 : d < 1
  · exact ⟨zB0, zff w 0, zfg (zff w 0) 0, by simp only [fX6_road, hu, Option.bind_some, if_neg h10, if_pos h1, x6_f0, zb2_some], by simp only [fX7_road, fX7_in, mx_hv_y hS hF hx, mx_hv_y hS hF hy, Option.bind_some, if_neg h10, if_neg hxy, if_pos h1, if_true, x7_f0, zb2_some], hI.find (k := 0) (by omega)⟩
  by_cases h2 : ¬ d ≤ 9
  · have h3 : (9 : Int32) < d := Int32.not_le.mp h2
    exact ⟨zB0, zff w 0, zfg (zff w 0) 0, by simp only [fX6_road, hu, Option.bind_some, if_neg h10, if_neg h1, if_neg h2, x6_f0, zb2_some], by simp only [fX7_road, fX7_in, mx_hv_y hS hF hx, mx_hv_y hS hF hy, Option.bind_some, if_neg h10, if_neg hxy, if_neg h1, if_pos h3, if_true, x7_f0, zb2_some], hI.find (k := 0) (by omega)⟩
  have h2 : d ≤ 9 := Decidable.not_not.mp h2
  have h3 : ¬ (9 : Int32) < d := Int32.not_lt.mpr h2
  have n1 : ¬ d < 0 := fun q => h1 (Int32.lt_of_lt_of_le q (by decide))
  obtain ⟨j, hj, rfl⟩ := nI_of n1
  have j1 : ¬ j < 1 := fun q => h1 (by rw [zL1]; exact nI_lt q (by omega))
  have j2 : j ≤ 9 := by rw [zL9, nI_leI hj (by omega)] at h2; exact h2
  by_cases hjn : ∃ r, r < zNr S ∧ zJr S x y r
  · obtain ⟨r, hr1, hr2⟩ := hjn
    have hF4 := zff_mx (k := 4) hM (by omega)
    have n2 : ¬ nI r < 0 := nI_pos (by omega)
    exact ⟨zB4, zff w 4, zfg (zff w 4) 4, by simp only [fX6_road, hu, Option.bind_some, if_neg h10, if_neg h1, if_pos h2, cx_join_y hS hC hx hy ⟨r, hr1, hr2⟩, x6_f4, zb2_some], by simp only [fX7_road, fX7_in, mx_hv_y hS hF4 hx, mx_hv_y hS hF4 hy, Option.bind_some, if_neg h10, if_neg hxy, if_neg h1, if_neg h3, mx_btw_y hS hF4 hx hy hr1 hr2, if_neg n2, x7_f4, zb2_some], hI.find (k := 4) (by omega)⟩
  have m1 : (-1 : Int32) < 0 := by decide
  by_cases hf : zNr S < 24
  · have f1 : fX0_roadsFull w 10 = some 0 := by
      unfold fX0_roadsFull
      rw [hC.1.2.1, if_pos (by rw [zL24, nI_ltI (by omega) (by omega)]; exact hf)]
    have e1 := cx_addR hS hC hf x y j
    have hC1 := cx_ar hC x y j
    have E1 : zE (fun o => 10 ≤ o ∧ o < 20) w (zsf (zsf (zsf (zsf w (10 + 2) (zNr S) (nI x)) (10 + 3) (zNr S) (nI y)) (10 + 4) (zNr S) (nI j)) 10 3 (nI (zNr S + 1))) := (((zE.sf0 (by omega)).trs (zE.sf0 (by omega))).trs (zE.sf0 (by omega))).trs (zE.sf0 (by omega))
    generalize zsf (zsf (zsf (zsf w (10 + 2) (zNr S) (nI x)) (10 + 3) (zNr S) (nI y)) (10 + 4) (zNr S) (nI j)) 10 3 (nI (zNr S + 1)) = u at e1 hC1 E1
    have hM1 : zMX u 61 S := hM.keep (E1 61 (by omega)).1
    have e2 := mx_addR hM1 hf x y j
    have hM2 := mx_ar hM1 hf hS x y j
    have n3 : ¬ nI (zNr S) = 24 := by rw [zL24, nI_eq (by omega) (by omega)]; omega
    have n4 : zrd (zsf (zsf (zsf (zsf u 61 (29 + 3 * zNr S) (nI x)) 61 (29 + 3 * zNr S + 1) (nI y)) 61 (29 + 3 * zNr S + 2) (nI j)) 61 1 (nI (zNr S + 1))) 61 151 1 = some (nI (zNr S + 1)) := by rw [zL1, zrd_nI (by omega) (by omega), zsf_same]
    have hxy' : x ≠ y := fun q => hxy (by rw [q])
    refine ⟨nI (zNr S), u, _, ?_, ?_, hI.land (wf_ar hS hf hx hy hxy' ⟨by omega, j2⟩ (fun r hr1 hr2 => hjn ⟨r, hr1, hr2⟩)) (hC1.keep (fun i hi => ?_)) hM2 ((E1.mono (fun o h => by omega)).trs ((((zE.sf0 (by omega)).trs (zE.sf0 (by omega))).trs (zE.sf0 (by omega))).trs (zE.sf0 (by omega))))⟩
    · simp only [fX6_road, hu, Option.bind_some, if_neg h10, if_neg h1, if_pos h2, cx_join_n hS hC hx hy hjn, if_true, f1, e1, zb2_some]
    · simp only [fX7_road, fX7_in, mx_hv_y hS hM1 hx, mx_hv_y hS hM1 hy, Option.bind_some, if_neg h10, if_neg hxy, if_neg h1, if_neg h3, mx_btw_n hS hM1 hx hy hjn, if_pos m1, mx_1 hM1, if_neg n3, e2, n4, nI_pred]
    · rw [zsf_o (by omega), zsf_o (by omega), zsf_o (by omega), zsf_o (by omega)]
  · have f1 : fX0_roadsFull w 10 = some 1 := by
      unfold fX0_roadsFull
      rw [hC.1.2.1, if_neg (by rw [zL24, nI_ltI (by omega) (by omega)]; exact hf)]
    have n3 : nI (zNr S) = 24 := by rw [zL24, nI_eq (by omega) (by omega)]; omega
    have hF1 := zff_mx (k := 1) hM (by omega)
    exact ⟨zB1, zff w 1, zfg (zff w 1) 1, by simp only [fX6_road, hu, Option.bind_some, if_neg h10, if_neg h1, if_pos h2, cx_join_n hS hC hx hy hjn, if_true, f1, x6_f1, zb2_some], by simp only [fX7_road, fX7_in, mx_hv_y hS hF1 hx, mx_hv_y hS hF1 hy, Option.bind_some, if_neg h10, if_neg hxy, if_neg h1, if_neg h3, mx_btw_n hS hF1 hx hy hjn, if_pos m1, mx_1 hF1, if_pos n3, x7_f1, zb2_some], hI.find (k := 1) (by omega)⟩
