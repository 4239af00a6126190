/-! operations on the land -/
abbrev zB0 : Int32 := -1000000001
theorem op_every (a : Int32) : zOp (fun w => fX6_every w a) (fun w => fX7_every w a) := by
  intro w hI
  show ∃ r u v, fX6_every w a = some (r, u) ∧ fX7_every u a = some (r, v) ∧ zInv v
  obtain ⟨S, hS, hC, hM⟩ := hI.1
  by_cases h1 : a < 1
  · exact ⟨zB0, zff w 0, zfg (zff w 0) 0, by simp only [fX6_every, if_pos h1, x6_f0, zb2_some], by simp only [fX7_every, fX7_in, if_pos h1, Option.bind_some, if_true, x7_f0, zb2_some], hI.find (k := 0) (by omega)⟩
  by_cases h2 : a ≤ 99
  · have n1 : ¬ a < 0 := fun q => h1 (Int32.lt_of_lt_of_le q (by decide))
    obtain ⟨j, hj, rfl⟩ := nI_of n1
    have j1 : ¬ j < 1 := fun q => h1 (by rw [zL1]; exact nI_lt q (by omega))
    have j2 : j ≤ 99 := by rw [zL99, nI_leI hj (by omega)] at h2; exact h2
    have hM1 : zMX (zsf w 10 7 (nI j)) 61 S := hM.keep (by rw [zsf_o (by omega)])
    have e1 : fX6_every w (nI j) = some (nI (zEv S), zsf w 10 7 (nI j)) := by
      simp only [fX6_every, if_neg h1, if_pos h2, Option.bind_some, hC.1.2.2.2.1]
    have e2 : fX7_every (zsf w 10 7 (nI j)) (nI j) = some (nI (zEv S), zsf (zsf w 10 7 (nI j)) 61 3 (nI j)) := by
      have h3 : ¬ (99 : Int32) < nI j := Int32.not_lt.mpr h2
      have h4 : zwr (zsf w 10 7 (nI j)) 61 151 3 (nI j) = some (zsf (zsf w 10 7 (nI j)) 61 3 (nI j)) := by rw [zL3, zwr_nI (by omega) (by omega)]
      have h5 : ¬ (1 : Int32) = 0 := by decide
      simp only [fX7_every, fX7_in, if_neg h1, if_neg h3, Option.bind_some, if_neg h5, mx_3 hM1, h4]
    exact ⟨_, _, _, e1, e2, hI.land (wf_ev hS (by omega) j2) ((cx_ev hC j).keep (fun i hi => zsf_o (by omega))) (mx_ev hM1 j) ((zE.sf0 (by omega)).trs (zE.sf0 (by omega)))⟩
  · have h3 : (99 : Int32) < a := Int32.not_le.mp h2
    exact ⟨zB0, zff w 0, zfg (zff w 0) 0, by simp only [fX6_every, if_neg h1, if_neg h2, x6_f0, zb2_some], by simp only [fX7_every, fX7_in, if_neg h1, if_pos h3, Option.bind_some, if_true, x7_f0, zb2_some], hI.find (k := 0) (by omega)⟩
theorem op_day (a : Int32) : zOp (fun w => fX6_day w a) (fun w => fX7_day w a) := by
  intro w hI
  show ∃ r u v, fX6_day w a = some (r, u) ∧ fX7_day u a = some (r, v) ∧ zInv v
  obtain ⟨S, hS, hC, hM⟩ := hI.1
  by_cases h1 : a < 0
  · exact ⟨zB0, zff w 0, zfg (zff w 0) 0, by simp only [fX6_day, if_pos h1, x6_f0, zb2_some], by simp only [fX7_day, fX7_in, if_pos h1, Option.bind_some, if_true, x7_f0, zb2_some], hI.find (k := 0) (by omega)⟩
  by_cases h2 : a ≤ 9999
  · obtain ⟨j, hj, rfl⟩ := nI_of h1
    have j2 : j ≤ 9999 := by rw [zL9999, nI_leI hj (by omega)] at h2; exact h2
    have hM1 : zMX (zsf w 10 8 (nI j)) 61 S := hM.keep (by rw [zsf_o (by omega)])
    have e1 : fX6_day w (nI j) = some (nI (zDy S), zsf w 10 8 (nI j)) := by
      simp only [fX6_day, if_neg h1, if_pos h2, Option.bind_some, hC.1.2.2.2.2]
    have e2 : fX7_day (zsf w 10 8 (nI j)) (nI j) = some (nI (zDy S), zsf (zsf w 10 8 (nI j)) 61 4 (nI j)) := by
      have h3 : ¬ (9999 : Int32) < nI j := Int32.not_lt.mpr h2
      have h4 : zwr (zsf w 10 8 (nI j)) 61 151 4 (nI j) = some (zsf (zsf w 10 8 (nI j)) 61 4 (nI j)) := by rw [zL4, zwr_nI (by omega) (by omega)]
      have h5 : ¬ (1 : Int32) = 0 := by decide
      simp only [fX7_day, fX7_in, if_neg h1, if_neg h3, Option.bind_some, if_neg h5, mx_4 hM1, h4]
    exact ⟨_, _, _, e1, e2, hI.land (wf_dy hS j2) ((cx_dy hC j).keep (fun i hi => zsf_o (by omega))) (mx_dy hM1 j) ((zE.sf0 (by omega)).trs (zE.sf0 (by omega)))⟩
  · have h3 : (9999 : Int32) < a := Int32.not_le.mp h2
    exact ⟨zB0, zff w 0, zfg (zff w 0) 0, by simp only [fX6_day, if_neg h1, if_neg h2, x6_f0, zb2_some], by simp only [fX7_day, fX7_in, if_neg h1, if_pos h3, Option.bind_some, if_true, x7_f0, zb2_some], hI.find (k := 0) (by omega)⟩
theorem h10 : ¬ (1 : Int32) = 0 := by decide
theorem in_h_y {w : zW} {v : Nat} (h : v < 10000) : fX7_in w (nI v) 0 9999 = some 1 := by rw [show (9999 : Int32) = nI 10000 - 1 by decide, in_y h (by omega)]
theorem in_h_n {w : zW} {x : Int32} (h : x < 0 ∨ nI 10000 ≤ x) : fX7_in w x 0 9999 = some 0 := by rw [show (9999 : Int32) = nI 10000 - 1 by decide, in_n h (by omega)]
theorem zor {x : Int32} {n : Nat} (h : n < 2 ^ 31) : (x < 0 ∨ nI n ≤ x) ∨ ∃ j, j < n ∧ x = nI j := by
  rcases pk_ix x h with a | a | a
  · exact Or.inl (Or.inl a)
  · exact Or.inl (Or.inr a)
  · exact Or.inr a
theorem op_slide (a b : Int32) : zOp (fun w => fX6_slide w a b) (fun w => fX7_slide w a b) := by
  intro w hI
  show ∃ r u v, fX6_slide w a b = some (r, u) ∧ fX7_slide u a b = some (r, v) ∧ zInv v
  obtain ⟨S, hS, hC, hM⟩ := hI.1
  have hn := hS.nv
  have hF := zff_mx (k := 0) hM (by omega)
  rcases zor (x := a) (n := zNv S) (by omega) with ha | ⟨v, hv, rfl⟩
  · exact ⟨zB0, zff w 0, zfg (zff w 0) 0, by simp only [fX6_slide, cx_hv_n hC ha, Option.bind_some, if_true, x6_f0, zb2_some], by simp only [fX7_slide, mx_hv_n hS hF ha, Option.bind_some, if_true, x7_f0, zb2_some], hI.find (k := 0) (by omega)⟩
  rcases zor (x := b) (n := 10000) (by omega) with hb | ⟨x, hx, rfl⟩
  · exact ⟨zB0, zff w 0, zfg (zff w 0) 0, by simp only [fX6_slide, cx_hv_y hS hC hv, ch_n hb, Option.bind_some, if_neg h10, if_true, x6_f0, zb2_some], by simp only [fX7_slide, mx_hv_y hS hF hv, in_h_n hb, Option.bind_some, if_neg h10, if_true, x7_f0, zb2_some], hI.find (k := 0) (by omega)⟩
  have hM1 : zMX (zsf w (10 + 1) v (nI x)) 61 S := hM.keep (by rw [zsf_o (by omega)])
  have e1 : fX6_slide w (nI v) (nI x) = some (nI (zHt S v), zsf w (10 + 1) v (nI x)) := by
    simp only [fX6_slide, cx_hv_y hS hC hv, ch_y hx, Option.bind_some, if_neg h10, cx_ht hS hC hv, cx_sh hS hC hv]
  have e2 : fX7_slide (zsf w (10 + 1) v (nI x)) (nI v) (nI x) = some (nI (zHt S v), zsf (zsf w (10 + 1) v (nI x)) 61 (5 + 2 * v) (nI x)) := by
    have h4 : zwr (zsf w (10 + 1) v (nI x)) 61 151 (nI (5 + 2 * v)) (nI x) = some (zsf (zsf w (10 + 1) v (nI x)) 61 (5 + 2 * v) (nI x)) := zwr_nI (by omega) (by omega)
    simp only [fX7_slide, mx_hv_y hS hM1 hv, in_h_y hx, Option.bind_some, if_neg h10, mx_ht hS hM1 hv, ix2, h4]
  exact ⟨_, _, _, e1, e2, hI.land (wf_ht hS (by omega)) ((cx_hts hC v x).keep (fun i hi => zsf_o (by omega))) (mx_hts hS hM1 x hv) ((zE.sf0 (by omega)).trs (zE.sf0 (by omega)))⟩
theorem bt_set {x : Int32} {v u : Nat} (hv : v < 32) (hu : u < 32) : bt (x ||| ((1 : Int32) <<< (nI v &&& 31))) u = if u = v then true else bt x u := by
  rw [b_or, b_shl v hv _ hu]
  have e : ∀ i, i < 32 → bt (1 : Int32) i = decide (i = 0) := by decide +kernel
  rw [e (u - v) (by omega)]
  by_cases h : u = v
  · subst h; simp
  · simp only [h, if_false]
    by_cases h2 : v ≤ u
    · have : ¬ u - v = 0 := by omega
      simp [this]
    · simp [h2]
theorem bt_clr {x : Int32} {v u : Nat} (hv : v < 32) (hu : u < 32) : bt (x &&& (((1 : Int32) <<< (nI v &&& 31)) ^^^ (-1))) u = if u = v then false else bt x u := by
  rw [b_and, b_xor, b_shl v hv _ hu, b_m1 u hu]
  have e : ∀ i, i < 32 → bt (1 : Int32) i = decide (i = 0) := by decide +kernel
  rw [e (u - v) (by omega)]
  by_cases h : u = v
  · subst h; simp
  · simp only [h, if_false]
    by_cases h2 : v ≤ u
    · have : ¬ u - v = 0 := by omega
      simp [this]
    · simp [h2]
theorem cx_shm {w : zW} {o : Nat} {S : zLd} (hS : zWf S) (h : zCX w o S) {v : Nat} (hv : v < zNv S) (b : Bool) : ∃ x, fX0_setHermits w o (nI v) (if b then 1 else 0) = some (zsf w o 2 x) ∧ ∀ u, u < zNv S → bt x u = if u = v then b else bt (w.1 o 2) u := by
  have hn := hS.nv
  cases b
  · refine ⟨(w.1 o 2) &&& (((1 : Int32) <<< (nI v &&& 31)) ^^^ (-1)), ?_, fun u hu => bt_clr (by omega) (by omega)⟩
    simp only [fX0_setHermits, cx_hv_y hS h hv, Option.bind_some, if_neg h10, Bool.false_eq_true, if_false, if_true]
  · refine ⟨(w.1 o 2) ||| ((1 : Int32) <<< (nI v &&& 31)), ?_, fun u hu => bt_set (by omega) (by omega)⟩
    simp only [fX0_setHermits, cx_hv_y hS h hv, Option.bind_some, if_neg h10, if_true]
theorem zbool {x : Int32} : ∃ b : Bool, (if x = 0 then (0 : Int32) else 1) = if b then 1 else 0 := by
  by_cases h : x = 0
  · exact ⟨false, by simp [h]⟩
  · exact ⟨true, by simp [h]⟩
theorem op_hermit (a : Int32) (b : Bool) : zOp (fun w => fX6_hermit w a (if b then 1 else 0)) (fun w => fX7_hermit w a (if b then 1 else 0)) := by
  intro w hI
  show ∃ r u v, fX6_hermit w a (if b then 1 else 0) = some (r, u) ∧ fX7_hermit u a (if b then 1 else 0) = some (r, v) ∧ zInv v
  obtain ⟨S, hS, hC, hM⟩ := hI.1
  have hn := hS.nv
  have hF := zff_mx (k := 0) hM (by omega)
  rcases zor (x := a) (n := zNv S) (by omega) with ha | ⟨v, hv, rfl⟩
  · exact ⟨zB0, zff w 0, zfg (zff w 0) 0, by simp only [fX6_hermit, cx_hv_n hC ha, Option.bind_some, if_true, x6_f0, zb2_some], by simp only [fX7_hermit, mx_hv_n hS hF ha, Option.bind_some, if_true, x7_f0, zb2_some], hI.find (k := 0) (by omega)⟩
  obtain ⟨x, ex, hx⟩ := cx_shm hS hC hv b
  have hM1 : zMX (zsf w 10 2 x) 61 S := hM.keep (by rw [zsf_o (by omega)])
  have e1 : fX6_hermit w (nI v) (if b then 1 else 0) = some (if zHm S v = b then 0 else 1, zsf w 10 2 x) := by
    simp only [fX6_hermit, cx_hv_y hS hC hv, Option.bind_some, if_neg h10, cx_hm hS hC hv, ex]
    cases zHm S v <;> cases b <;> rfl
  have e2 : fX7_hermit (zsf w 10 2 x) (nI v) (if b then 1 else 0) = some (if zHm S v = b then 0 else 1, zsf (zsf w 10 2 x) 61 (5 + 2 * v + 1) (if b then 1 else 0)) := by
    have h4 : ∀ y, zwr (zsf w 10 2 x) 61 151 (nI (5 + 2 * v + 1)) y = some (zsf (zsf w 10 2 x) 61 (5 + 2 * v + 1) y) := fun y => zwr_nI (by omega) (by omega)
    have h6 : (5 : Int32) + 2 * nI v + 1 = nI (5 + 2 * v + 1) := by rw [ix2]; exact nI_1 _
    simp only [fX7_hermit, mx_hv_y hS hM1 hv, Option.bind_some, if_neg h10, mx_hm hS hM1 hv, h6]
    cases zHm S v <;> cases b <;> simp only [Bool.false_eq_true, if_false, if_true, if_neg h10, Option.bind_some, h4] <;> rfl
  exact ⟨_, _, _, e1, e2, hI.land (wf_hm (v := v) (b := b) hS) ((cx_hms hC b hx).keep (fun i hi => zsf_o (by omega))) (mx_hms hS hM1 b hv) ((zE.sf0 (by omega)).trs (zE.sf0 (by omega)))⟩
