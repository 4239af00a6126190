theorem zcalm {w : zW} {r : Int32} {F G : Option (Int32 × zW)} (hI : zInv w) (h1 : F = some (r, w)) (h2 : G = some (r, w)) : F = some (r, w) ∧ G = some (r, w) ∧ zInv w := ⟨h1, h2, hI⟩
theorem op_needs (a b : Int32) : zOp (fun w => fX6_needs w a b) (fun w => fX7_needs w a b) := by
  intro w hI
  show ∃ r u v, fX6_needs w a b = some (r, u) ∧ fX7_needs u a b = some (r, v) ∧ zInv v
  obtain ⟨S, hS, hC, hM⟩ := hI.1
  have hr := hS.nr
  have hF := zff_mx (k := 0) hM (by omega)
  rcases zor (x := a) (n := 6) (by omega) with ha | ⟨k, hk, rfl⟩
  · exact ⟨zB0, zff w 0, zfg (zff w 0) 0, by simp only [fX6_needs, ck_n ha, Option.bind_some, if_true, x6_f0, zb2_some], by simp only [fX7_needs, in_k_n ha, Option.bind_some, if_true, x7_f0, zb2_some], hI.find (k := 0) (by omega)⟩
  rcases zor (x := b) (n := zNr S) (by omega) with hb | ⟨r, hr1, rfl⟩
  · exact ⟨zB0, zff w 0, zfg (zff w 0) 0, by simp only [fX6_needs, ck_y hk, cx_hr_n hC hb, Option.bind_some, if_neg h10, if_true, x6_f0, zb2_some], by simp only [fX7_needs, in_k_y hk, mx_hr_n hS hF hb, Option.bind_some, if_neg h10, if_true, x7_f0, zb2_some], hI.find (k := 0) (by omega)⟩
  have hl := hS.rd r hr1
  have z1 : zrd w (10 + 4) 24 (nI r) = some (nI (zLn S r)) := by rw [zrd_nI (by omega) (by omega), (hC.2.2.1 r hr1).2.2]
  exact ⟨nI (zNd k (zLn S r)), w, w, by simp only [fX6_needs, ck_y hk, cx_hr_y hS hC hr1, Option.bind_some, if_neg h10, z1, cx_nd w hk (show zLn S r < 10 by omega)], by simp only [fX7_needs, in_k_y hk, mx_hr_y hS hM hr1, Option.bind_some, if_neg h10, mx_end2 hS hM hr1, mx_nd w hk (show zLn S r < 10 by omega)], hI⟩
theorem op_roadOf (a b : Int32) : zOp (fun w => fX6_roadOf w a b) (fun w => fX7_roadOf w a b) := by
  intro w hI
  show ∃ r u v, fX6_roadOf w a b = some (r, u) ∧ fX7_roadOf u a b = some (r, v) ∧ zInv v
  obtain ⟨S, hS, hC, hM⟩ := hI.1
  have hr := hS.nr
  have hF := zff_mx (k := 0) hM (by omega)
  rcases zor (x := a) (n := zNr S) (by omega) with ha | ⟨r, hr1, rfl⟩
  · exact ⟨zB0, zff w 0, zfg (zff w 0) 0, by simp only [fX6_roadOf, cx_hr_n hC ha, Option.bind_some, if_true, x6_f0, zb2_some], by simp only [fX7_roadOf, mx_hr_n hS hF ha, Option.bind_some, if_true, x7_f0, zb2_some], hI.find (k := 0) (by omega)⟩
  have i2 : (2 : Int32) = nI 3 - 1 := by decide
  have c := hC.2.2.1 r hr1
  have z1 : zrd w (10 + 2) 24 (nI r) = some (nI (zOn S r)) := by rw [zrd_nI (by omega) (by omega), c.1]
  have z2 : zrd w (10 + 3) 24 (nI r) = some (nI (zOt S r)) := by rw [zrd_nI (by omega) (by omega), c.2.1]
  have z3 : zrd w (10 + 4) 24 (nI r) = some (nI (zLn S r)) := by rw [zrd_nI (by omega) (by omega), c.2.2]
  have n1 : ¬ nI 1 = 0 := by decide
  have n2 : ¬ nI 2 = 0 := by decide
  have n3 : ¬ nI 2 = 1 := by decide
  rcases zor (x := b) (n := 3) (by omega) with hb | ⟨j, hj, rfl⟩
  · have m0 : ¬ b = 0 := fun q => by subst q; rcases hb with q | q <;> exact absurd q (by decide)
    have m1 : ¬ b = 1 := fun q => by subst q; rcases hb with q | q <;> exact absurd q (by decide)
    have m2 : ¬ b = 2 := fun q => by subst q; rcases hb with q | q <;> exact absurd q (by decide)
    have e3 : fX7_in (zff w 0) b 0 2 = some 0 := by rw [i2]; exact in_n hb (by omega)
    exact ⟨zB0, zff w 0, zfg (zff w 0) 0, by simp only [fX6_roadOf, cx_hr_y hS hC hr1, Option.bind_some, if_neg h10, if_neg m0, if_neg m1, if_neg m2, x6_f0, zb2_some], by simp only [fX7_roadOf, mx_hr_y hS hF hr1, e3, Option.bind_some, if_neg h10, if_true, x7_f0, zb2_some], hI.find (k := 0) (by omega)⟩
  have e3 : fX7_in w (nI j) 0 2 = some 1 := by rw [i2]; exact in_y hj (by omega)
  match j, hj with
  | 0, _ => exact ⟨nI (zOn S r), w, w, by simp only [fX6_roadOf, cx_hr_y hS hC hr1, Option.bind_some, if_neg h10, nI_0, if_true, z1], by simp only [fX7_roadOf, mx_hr_y hS hM hr1, e3, Option.bind_some, if_neg h10, show fX7_end w (nI r) (nI 0) = some (nI (zOn S r)) from mx_end0 hS hM hr1], hI⟩
  | 1, _ => exact ⟨nI (zOt S r), w, w, by simp only [fX6_roadOf, cx_hr_y hS hC hr1, Option.bind_some, if_neg h10, if_neg n1, if_pos (show nI 1 = 1 from rfl), z2], by simp only [fX7_roadOf, mx_hr_y hS hM hr1, e3, Option.bind_some, if_neg h10, show fX7_end w (nI r) (nI 1) = some (nI (zOt S r)) from mx_end1 hS hM hr1], hI⟩
  | 2, _ => exact ⟨nI (zLn S r), w, w, by simp only [fX6_roadOf, cx_hr_y hS hC hr1, Option.bind_some, if_neg h10, if_neg n2, if_neg n3, if_pos (show nI 2 = 2 from rfl), z3], by simp only [fX7_roadOf, mx_hr_y hS hM hr1, e3, Option.bind_some, if_neg h10, show fX7_end w (nI r) (nI 2) = some (nI (zLn S r)) from mx_end2 hS hM hr1], hI⟩
theorem zb01 {b : Bool} {α : Type} {x y : α} : (if (if b then (1 : Int32) else 0) = 0 then x else y) = if b then y else x := by cases b <;> rfl
theorem op_goes (a b : Int32) (c : Bool) : zOp (fun w => fX6_goes w a b (if c then 1 else 0)) (fun w => fX7_goes w a b (if c then 1 else 0)) := by
  intro w hI
  show ∃ r u v, fX6_goes w a b (if c then 1 else 0) = some (r, u) ∧ fX7_goes u a b (if c then 1 else 0) = some (r, v) ∧ zInv v
  obtain ⟨S, hS, hC, hM⟩ := hI.1
  have hr := hS.nr
  have hF := zff_mx (k := 0) hM (by omega)
  rcases zor (x := a) (n := 6) (by omega) with ha | ⟨k, hk, rfl⟩
  · exact ⟨zB0, zff w 0, zfg (zff w 0) 0, by simp only [fX6_goes, ck_n ha, Option.bind_some, if_true, x6_f0, zb2_some], by simp only [fX7_goes, in_k_n ha, Option.bind_some, if_true, x7_f0, zb2_some], hI.find (k := 0) (by omega)⟩
  rcases zor (x := b) (n := zNr S) (by omega) with hb | ⟨r, hr1, rfl⟩
  · exact ⟨zB0, zff w 0, zfg (zff w 0) 0, by simp only [fX6_goes, ck_y hk, cx_hr_n hC hb, Option.bind_some, if_neg h10, if_true, x6_f0, zb2_some], by simp only [fX7_goes, in_k_y hk, mx_hr_n hS hF hb, Option.bind_some, if_neg h10, if_true, x7_f0, zb2_some], hI.find (k := 0) (by omega)⟩
  have hl := hS.rd r hr1
  have d := hC.2.2.1 r hr1
  have z1 : zrd w (10 + 2) 24 (nI r) = some (nI (zOn S r)) := by rw [zrd_nI (by omega) (by omega), d.1]
  have z2 : zrd w (10 + 3) 24 (nI r) = some (nI (zOt S r)) := by rw [zrd_nI (by omega) (by omega), d.2.1]
  cases c
  · refine ⟨if zGo S k (zOn S r) (zOt S r) then 1 else 0, w, w, ?_, ?_, hI⟩
    · simp only [fX6_goes, ck_y hk, cx_hr_y hS hC hr1, Option.bind_some, if_neg h10, z1, z2, Bool.false_eq_true, if_false, if_true, cx_go hS hC hk hl.1 hl.2.1]
      cases zGo S k (zOn S r) (zOt S r) <;> rfl
    · simp only [fX7_goes, in_k_y hk, mx_hr_y hS hM hr1, Option.bind_some, if_neg h10, Bool.false_eq_true, if_false, if_true, mx_end0 hS hM hr1, mx_end1 hS hM hr1, mx_go hS hM hk hl.1 hl.2.1]
      cases zGo S k (zOn S r) (zOt S r) <;> rfl
  · refine ⟨if zGo S k (zOt S r) (zOn S r) then 1 else 0, w, w, ?_, ?_, hI⟩
    · simp only [fX6_goes, ck_y hk, cx_hr_y hS hC hr1, Option.bind_some, if_neg h10, z1, z2, if_true, cx_go hS hC hk hl.2.1 hl.1]
      cases zGo S k (zOt S r) (zOn S r) <;> rfl
    · simp only [fX7_goes, in_k_y hk, mx_hr_y hS hM hr1, Option.bind_some, if_neg h10, if_true, mx_end0 hS hM hr1, mx_end1 hS hM hr1, mx_go hS hM hk hl.2.1 hl.1]
      cases zGo S k (zOt S r) (zOn S r) <;> rfl
theorem mx_asked_y {w : zW} {S : zLd} (hS : zWf S) (h : zMX w 61 S) {k a b : Nat} (hk : k < 6) (ha : a < zNv S) (hb : b < zNv S) : fX7_isAsked w (nI k) (nI a) (nI b) = some 1 := by
  simp only [fX7_isAsked, in_k_y hk, mx_hv_y hS h ha, mx_hv_y hS h hb, Option.bind_some, if_neg h10]
theorem mx_asked_n {w : zW} {S : zLd} (hS : zWf S) (h : zMX w 61 S) {k : Nat} {x y : Int32} (hk : k < 6) (hx : (x < 0 ∨ nI (zNv S) ≤ x) ∨ (y < 0 ∨ nI (zNv S) ≤ y)) : fX7_isAsked w (nI k) x y = some 0 := by
  have hn := hS.nv
  by_cases c : x < 0 ∨ nI (zNv S) ≤ x
  · simp only [fX7_isAsked, in_k_y hk, mx_hv_n hS h c, Option.bind_some, if_neg h10, if_true]
  · rcases zor (x := x) (n := zNv S) (by omega) with q | ⟨j, hj, rfl⟩
    · exact absurd q c
    · simp only [fX7_isAsked, in_k_y hk, mx_hv_y hS h hj, mx_hv_n hS h (hx.resolve_left c), Option.bind_some, if_neg h10, if_true]
theorem mx_asked_k {w : zW} {x y z : Int32} (hx : x < 0 ∨ nI 6 ≤ x) : fX7_isAsked w x y z = some 0 := by
  simp only [fX7_isAsked, in_k_n hx, Option.bind_some, if_true]
/-- two villages, or not -/
theorem zor2 {x y : Int32} {n : Nat} (h : n < 2 ^ 31) : ((x < 0 ∨ nI n ≤ x) ∨ (y < 0 ∨ nI n ≤ y)) ∨ ∃ i j, i < n ∧ j < n ∧ x = nI i ∧ y = nI j := by
  rcases zor (x := x) h with a | ⟨i, hi, rfl⟩
  · exact Or.inl (Or.inl a)
  · rcases zor (x := y) h with a | ⟨j, hj, rfl⟩
    · exact Or.inl (Or.inr a)
    · exact Or.inr ⟨i, j, hi, hj, rfl, rfl⟩
theorem op_send (a b c : Int32) : zOp (fun w => fX6_send w a b c) (fun w => fX7_send w a b c) := by
  intro w hI
  show ∃ r u v, fX6_send w a b c = some (r, u) ∧ fX7_send u a b c = some (r, v) ∧ zInv v
  obtain ⟨S, hS, hC, hM⟩ := hI.1
  have hn := hS.nv
  have hl := hS.nl
  have hF := zff_mx (k := 0) hM (by omega)
  rcases zor (x := a) (n := 6) (by omega) with ha | ⟨k, hk, rfl⟩
  · exact ⟨zB0, zff w 0, zfg (zff w 0) 0, by simp only [fX6_send, ck_n ha, Option.bind_some, if_true, x6_f0, zb2_some], by simp only [fX7_send, mx_asked_k ha, Option.bind_some, if_true, x7_f0, zb2_some], hI.find (k := 0) (by omega)⟩
  rcases zor2 (x := b) (y := c) (n := zNv S) (by omega) with hb | ⟨x, y, hx, hy, rfl, rfl⟩
  · exact ⟨zB0, zff w 0, zfg (zff w 0) 0, by simp only [fX6_send, ck_y hk, cx_av2_n hS hC hb, Option.bind_some, if_neg h10, if_true, x6_f0, zb2_some], by simp only [fX7_send, mx_asked_n hS hF hk hb, Option.bind_some, if_true, x7_f0, zb2_some], hI.find (k := 0) (by omega)⟩
  by_cases hf : zNl S < 10
  · have f1 : fX0_lettersFull w 10 = some 0 := by
      unfold fX0_lettersFull
      rw [hC.1.2.2.1, if_pos (by rw [zL10, nI_ltI (by omega) (by omega)]; exact hf)]
    have e1 := cx_addL hS hC hf k x y
    have hC1 := cx_al hC k x y
    have E1 : zE (fun o => 10 ≤ o ∧ o < 20) w (zsf (zsf (zsf (zsf (zsf (zsf w (10 + 5) (zNl S) (nI k)) (10 + 6) (zNl S) (nI x)) (10 + 7) (zNl S) (nI y)) (10 + 8) (zNl S) (nI (zDy S))) (10 + 9) (zNl S) 0) 10 9 (nI (zNl S + 1))) := (((((zE.sf0 (by omega)).trs (zE.sf0 (by omega))).trs (zE.sf0 (by omega))).trs (zE.sf0 (by omega))).trs (zE.sf0 (by omega))).trs (zE.sf0 (by omega))
    generalize zsf (zsf (zsf (zsf (zsf (zsf w (10 + 5) (zNl S) (nI k)) (10 + 6) (zNl S) (nI x)) (10 + 7) (zNl S) (nI y)) (10 + 8) (zNl S) (nI (zDy S))) (10 + 9) (zNl S) 0) 10 9 (nI (zNl S + 1)) = u at e1 hC1 E1
    have hM1 : zMX u 61 S := hM.keep (E1 61 (by omega)).1
    have e2 := mx_addL hM1 hf k x y
    have hM2 := mx_al hM1 hf hS k x y
    have E2 : zE (fun o => o = 61) u (zsf (zsf (zsf (zsf (zsf (zsf u 61 (101 + 5 * zNl S + 0) (nI k)) 61 (101 + 5 * zNl S + 1) (nI x)) 61 (101 + 5 * zNl S + 2) (nI y)) 61 (101 + 5 * zNl S + 3) (nI (zDy S))) 61 (101 + 5 * zNl S + 4) 0) 61 2 (nI (zNl S + 1))) := (((((zE.sf0 (by omega)).trs (zE.sf0 (by omega))).trs (zE.sf0 (by omega))).trs (zE.sf0 (by omega))).trs (zE.sf0 (by omega))).trs (zE.sf0 (by omega))
    have n4 : zrd (zsf (zsf (zsf (zsf (zsf (zsf u 61 (101 + 5 * zNl S + 0) (nI k)) 61 (101 + 5 * zNl S + 1) (nI x)) 61 (101 + 5 * zNl S + 2) (nI y)) 61 (101 + 5 * zNl S + 3) (nI (zDy S))) 61 (101 + 5 * zNl S + 4) 0) 61 2 (nI (zNl S + 1))) 61 151 2 = some (nI (zNl S + 1)) := by rw [zL2, zrd_nI (by omega) (by omega), zsf_same]
    generalize zsf (zsf (zsf (zsf (zsf (zsf u 61 (101 + 5 * zNl S + 0) (nI k)) 61 (101 + 5 * zNl S + 1) (nI x)) 61 (101 + 5 * zNl S + 2) (nI y)) 61 (101 + 5 * zNl S + 3) (nI (zDy S))) 61 (101 + 5 * zNl S + 4) 0) 61 2 (nI (zNl S + 1)) = v at e2 hM2 E2 n4
    have n3 : ¬ nI (zNl S) = 10 := by rw [zL10, nI_eq (by omega) (by omega)]; omega
    refine ⟨nI (zNl S), u, v, ?_, ?_, hI.land (wf_al hS hf hk hx hy) (hC1.keep (fun i hi => (E2 _ (by omega)).1)) hM2 (E1.tr' E2 (fun o h => by omega) (fun o h => by omega))⟩
    · simp only [fX6_send, ck_y hk, cx_av2 hS hC hx hy, Option.bind_some, if_neg h10, f1, if_true, e1, zb2_some]
    · simp only [fX7_send, mx_asked_y hS hM1 hk hx hy, Option.bind_some, if_neg h10, mx_2 hM1, if_neg n3, e2, n4, nI_pred]
  · have f1 : fX0_lettersFull w 10 = some 1 := by
      unfold fX0_lettersFull
      rw [hC.1.2.2.1, if_neg (by rw [zL10, nI_ltI (by omega) (by omega)]; exact hf)]
    have n3 : nI (zNl S) = 10 := by rw [zL10, nI_eq (by omega) (by omega)]; omega
    have hF1 := zff_mx (k := 1) hM (by omega)
    exact ⟨zB1, zff w 1, zfg (zff w 1) 1, by simp only [fX6_send, ck_y hk, cx_av2 hS hC hx hy, Option.bind_some, if_neg h10, f1, x6_f1, zb2_some], by simp only [fX7_send, mx_asked_y hS hF1 hk hx hy, Option.bind_some, if_neg h10, mx_2 hF1, if_pos n3, x7_f1, zb2_some], hI.find (k := 1) (by omega)⟩
theorem op_turn (a b : Int32) : zOp (fun w => fX6_turn w a b) (fun w => fX7_turn w a b) := by
  intro w hI
  show ∃ r u v, fX6_turn w a b = some (r, u) ∧ fX7_turn u a b = some (r, v) ∧ zInv v
  obtain ⟨S, hS, hC, hM⟩ := hI.1
  have hn := hS.nl
  have hF := zff_mx (k := 0) hM (by omega)
  rcases zor (x := a) (n := zNl S) (by omega) with ha | ⟨l, hl, rfl⟩
  · exact ⟨zB0, zff w 0, zfg (zff w 0) 0, by simp only [fX6_turn, cx_hl_n hC ha, Option.bind_some, if_true, x6_f0, zb2_some], by simp only [fX7_turn, mx_hl_n hS hF ha, Option.bind_some, if_true, x7_f0, zb2_some], hI.find (k := 0) (by omega)⟩
  rcases zor (x := b) (n := 6) (by omega) with hb | ⟨k, hk, rfl⟩
  · exact ⟨zB0, zff w 0, zfg (zff w 0) 0, by simp only [fX6_turn, cx_hl_y hS hC hl, ck_n hb, Option.bind_some, if_neg h10, if_true, x6_f0, zb2_some], by simp only [fX7_turn, mx_hl_y hS hF hl, in_k_n hb, Option.bind_some, if_neg h10, if_true, x7_f0, zb2_some], hI.find (k := 0) (by omega)⟩
  have hM1 : zMX (zsf w (10 + 5) l (nI k)) 61 S := hM.keep (by rw [zsf_o (by omega)])
  have z1 : zrd w (10 + 5) 10 (nI l) = some (nI (zKd S l)) := by rw [zrd_nI (by omega) (by omega), (hC.2.2.2 l hl).1]
  have z2 : zwr w (10 + 5) 10 (nI l) (nI k) = some (zsf w (10 + 5) l (nI k)) := zwr_nI (by omega) (by omega)
  have s0 : fX7_sets (zsf w (10 + 5) l (nI k)) (nI l) 0 (nI k) = some (zsf (zsf w (10 + 5) l (nI k)) 61 (101 + 5 * l) (nI k)) := mx_sets (j := 0) (by omega) (by omega)
  exact ⟨nI (zKd S l), zsf w (10 + 5) l (nI k), zsf (zsf w (10 + 5) l (nI k)) 61 (101 + 5 * l) (nI k), by simp only [fX6_turn, cx_hl_y hS hC hl, ck_y hk, Option.bind_some, if_neg h10, z1, z2], by simp only [fX7_turn, mx_hl_y hS hM1 hl, in_k_y hk, Option.bind_some, if_neg h10, mx_its0 hS hM1 hl, s0], hI.land (wf_kd (l := l) hS hk) ((cx_kds hC k hl).keep (fun i hi => zsf_o (by omega))) (mx_kds hS hM1 k hl) ((zE.sf0 (by omega)).trs (zE.sf0 (by omega)))⟩
theorem op_as (a b : Int32) : zOp (fun w => fX6_as w a b) (fun w => fX7_as w a b) := by
  intro w hI
  show ∃ r u v, fX6_as w a b = some (r, u) ∧ fX7_as u a b = some (r, v) ∧ zInv v
  obtain ⟨S, hS, hC, hM⟩ := hI.1
  have hn := hS.nl
  have hF := zff_mx (k := 0) hM (by omega)
  rcases zor (x := a) (n := zNl S) (by omega) with ha | ⟨l, hl, rfl⟩
  · exact ⟨zB0, zff w 0, zfg (zff w 0) 0, by simp only [fX6_as, cx_hl_n hC ha, Option.bind_some, if_true, x6_f0, zb2_some], by simp only [fX7_as, mx_hl_n hS hF ha, Option.bind_some, if_true, x7_f0, zb2_some], hI.find (k := 0) (by omega)⟩
  rcases zor (x := b) (n := 6) (by omega) with hb | ⟨k, hk, rfl⟩
  · exact ⟨zB0, zff w 0, zfg (zff w 0) 0, by simp only [fX6_as, cx_hl_y hS hC hl, ck_n hb, Option.bind_some, if_neg h10, if_true, x6_f0, zb2_some], by simp only [fX7_as, mx_hl_y hS hF hl, in_k_n hb, Option.bind_some, if_neg h10, if_true, x7_f0, zb2_some], hI.find (k := 0) (by omega)⟩
  have z1 : zrd w (10 + 5) 10 (nI l) = some (nI (zKd S l)) := by rw [zrd_nI (by omega) (by omega), (hC.2.2.2 l hl).1]
  have z2 : zrd w (10 + 7) 10 (nI l) = some (nI (zTo S l)) := by rw [zrd_nI (by omega) (by omega), (hC.2.2.2 l hl).2.2.1]
  have hkd := (hS.lt l hl).1
  cases hu : zUn (zKd S l) k
  · have hF2 := zff_mx (k := 2) hM (by omega)
    exact ⟨zB2, zff w 2, zfg (zff w 2) 2, by simp only [fX6_as, cx_hl_y hS hC hl, ck_y hk, Option.bind_some, if_neg h10, z1, cx_un w hkd hk, hu, Bool.false_eq_true, if_false, if_true, x6_f2, zb2_some], by simp only [fX7_as, mx_hl_y hS hF2 hl, in_k_y hk, Option.bind_some, if_neg h10, mx_its0 hS hF2 hl, mx_un _ hkd hk, hu, Bool.false_eq_true, if_false, if_true, x7_f2, zb2_some], hI.find (k := 2) (by omega)⟩
  · exact ⟨nI (zTo S l), w, w, by simp only [fX6_as, cx_hl_y hS hC hl, ck_y hk, Option.bind_some, if_neg h10, z1, cx_un w hkd hk, hu, if_true, z2], by simp only [fX7_as, mx_hl_y hS hM hl, in_k_y hk, Option.bind_some, if_neg h10, mx_its0 hS hM hl, mx_un _ hkd hk, hu, if_true, mx_its2 hS hM hl], hI⟩
