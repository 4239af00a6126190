/-! layOut: the loops, then the fields -/
theorem lo_a {S : zLd} {o k : Nat} (ho : o = 10 ∨ o = 20 ∨ o = 30) (hS : zWf S) (hk : k < 6) (w : zW) (hC : zCX w o S) (h2 : w.1 40 2 = nI (zNv S)) : ∃ x y v, lpX5_layOut_52 o (nI k) zF w 0 = some x ∧ lpX5_layOut_75 o (nI k) zF x 0 = some y ∧ fX5_joinSteps y = some v ∧ zE (fun x => x = 41 ∨ x = 42) w v ∧ zDA v 41 (zNv S) (zEr S k (zNr S)) ∧ zDA v 42 (zNv S) (zDn (zEr S k (zNr S)) (zNv S)) := by
  have nv := hS.nv
  have nr := hS.nr
  obtain ⟨x, x1, x2, x3⟩ := lo_fill (o1 := o) (p2 := nI k) w 144 0 w (by omega) zE.rfl (fun i hi => absurd hi (by omega)) zF (by unfold zF; omega)
  have Cx : zCX x o S := hC.keep (fun j hj => (x2 _ (by omega)).1)
  have A0 : zDA x 41 (zNv S) (zEr S k 0) := by
    intro a b ha hb
    rw [x3 _ (by omega), zEr_0]
    exact zL1000000.symm.trans zL1000000
  obtain ⟨y, y1, y2, y3⟩ := lo_roads ho hS nv rfl hk x Cx (by rw [(x2 40 (by omega)).1, h2]) (zNr S) 0 x (by omega) zE.rfl A0 zF (by unfold zF; omega)
  have Y := x2.trs y2
  obtain ⟨v, v1, v2, v3⟩ := js nv (zEr_le hS (zNr S) (Nat.le_refl _)) y (by rw [(Y 40 (by omega)).1, h2]) y3
  refine ⟨x, y, v, by rw [zL0]; exact x1, by rw [zL0]; exact y1, v1, (Y.mono (fun o h => Or.inl h)).trs (v2.mono (fun o h => Or.inr h)), ?_, v3⟩
  intro a b ha hb
  rw [(v2 41 (by omega)).1]
  exact y3 a b ha hb
theorem lo_b {w : zW} {S : zLd} {o k : Nat} {b : Bool} (ho : o = 10 ∨ o = 20 ∨ o = 30) (hS : zWf S) (hC : zCX w o S) (hb : ∀ u, zE (fun x => x = 40) w u → fX0_balloonTakes u o (nI k) = some (if b then 1 else 0)) : ∃ u, fX5_layOut w o (nI k) = (Option.bind (lpX5_layOut_52 o (nI k) zF u 0) fun w27 => Option.bind (lpX5_layOut_75 o (nI k) zF w27 0) fun w50 => Option.bind (fX5_joinSteps w50) fun w52 => some w52) ∧ zE (fun x => x = 40) w u ∧ u.1 40 2 = nI (zNv S) ∧ u.1 40 3 = nI (zSea S) ∧ u.1 40 4 = nI (zPeak S) ∧ u.1 40 5 = nI (zEv S) ∧ u.1 40 6 = (if b then 1 else 0) := by
  have nv := hS.nv
  have ev := hS.ev
  have z12 : zmin (w.1 o 0) 12 = nI (zNv S) := by rw [hC.1.1, zL12, zmin_nI (by omega) (by omega), Nat.min_eq_left nv]
  have s4 : ∀ (u : zW) (k : Nat) (x : Int32), zE (fun x => x = 40) u (zsf u 40 k x) := fun u k x => zE.sf0 rfl
  generalize h1 : zsf w 40 2 (nI (zNv S)) = w1
  have E1 : zE (fun x => x = 40) w w1 := by rw [← h1]; exact s4 _ _ _
  have C1 : zCX w1 o S := hC.keep (fun j hj => (E1 _ (by omega)).1)
  generalize h5 : zsf w1 40 3 (nI (zSea S)) = w5
  have E5 : zE (fun x => x = 40) w w5 := by rw [← h5]; exact E1.trs (s4 _ _ _)
  have C5 : zCX w5 o S := hC.keep (fun j hj => (E5 _ (by omega)).1)
  generalize h9 : zsf w5 40 4 (nI (zPeak S)) = w9
  have E9 : zE (fun x => x = 40) w w9 := by rw [← h9]; exact E5.trs (s4 _ _ _)
  have C9 : zCX w9 o S := hC.keep (fun j hj => (E9 _ (by omega)).1)
  have z1 : zmax (w9.1 o 7) 1 = nI (zEv S) := by rw [C9.1.2.2.2.1, zL1, zmax_nI (by omega) (by omega), Nat.max_eq_left ev.1]
  generalize h11 : zsf w9 40 5 (nI (zEv S)) = w11
  have E11 : zE (fun x => x = 40) w w11 := by rw [← h11]; exact E9.trs (s4 _ _ _)
  have zb : zgb (if b then 1 else 0) = some (if b then 1 else 0) := by cases b <;> decide
  generalize h17 : zsf w11 40 6 (if b then 1 else 0) = w17
  have E17 : zE (fun x => x = 40) w w17 := by rw [← h17]; exact E11.trs (s4 _ _ _)
  refine ⟨w17, ?_, E17, ?_, ?_, ?_, ?_, ?_⟩
  · have key : ∀ K : zW → Option zW, (Option.bind (some (zsf w 40 2 (zmin (w.1 o 0) (12 : Int32)))) fun w1 => Option.bind (fX0_lowest w1 o) fun v4 => Option.bind (some (zsf w1 40 3 v4)) fun w5 => Option.bind (fX0_highest w5 o) fun v8 => Option.bind (some (zsf w5 40 4 v8)) fun w9 => Option.bind (some (zsf w9 40 5 (zmax (w9.1 o 7) (1 : Int32)))) fun w11 => Option.bind (fX0_balloonTakes w11 o (nI k)) fun v14 => Option.bind (zgb v14) fun b15 => Option.bind (some (zsf w11 40 6 b15)) fun w17 => K w17) = K w17 := by
      intro K
      simp only [Option.bind_some, z12, h1, cx_sea hS C1, h5, cx_peak hS C5, h9, z1, h11, hb w11 E11, zb, h17]
    exact key (fun w17 => Option.bind (lpX5_layOut_52 o (nI k) zF w17 (0 : Int32)) fun w27 => Option.bind (lpX5_layOut_75 o (nI k) zF w27 (0 : Int32)) fun w50 => Option.bind (fX5_joinSteps w50) fun w52 => some w52)
  · rw [← h17, zsf_k (by omega), ← h11, zsf_k (by omega), ← h9, zsf_k (by omega), ← h5, zsf_k (by omega), ← h1, zsf_same]
  · rw [← h17, zsf_k (by omega), ← h11, zsf_k (by omega), ← h9, zsf_k (by omega), ← h5, zsf_same]
  · rw [← h17, zsf_k (by omega), ← h11, zsf_k (by omega), ← h9, zsf_same]
  · rw [← h17, zsf_k (by omega), ← h11, zsf_same]
  · rw [← h17, zsf_same]
theorem lo {w : zW} {S : zLd} {o k : Nat} (ho : o = 10 ∨ o = 20 ∨ o = 30) (hS : zWf S) (hC : zCX w o S) (hk : k < 6) (h0 : 0 < zNv S) : ∃ v, fX5_layOut w o (nI k) = some v ∧ zE (fun x => x = 40 ∨ x = 41 ∨ x = 42) w v ∧ zWy v S k := by
  obtain ⟨u, u1, u2, f2, f3, f4, f5, f6⟩ := lo_b (b := zBl S k) ho hS hC (fun u hu => cx_bal hS (hC.keep (fun j hj => (hu _ (by omega)).1)) hk (zPeak_lt h0))
  obtain ⟨x, y, v, x1, y1, v1, v2, v3, v4⟩ := lo_a ho hS hk u (hC.keep (fun j hj => (u2 _ (by omega)).1)) f2
  refine ⟨v, by rw [u1, x1, Option.bind_some, y1, Option.bind_some, v1, Option.bind_some], (u2.mono (fun o h => Or.inl h)).trs (v2.mono (fun o h => Or.inr h)), ?_⟩
  have V := (v2 40 (by omega)).1
  exact ⟨by rw [V, f2], by rw [V, f3], by rw [V, f4], by rw [V, f5], by rw [V, f6], v3, v4⟩
theorem cx_bal0 {w : zW} {S : zLd} {o k : Nat} (hS : zWf S) (hC : zCX w o S) (hk : k < 6) (h0 : zNv S = 0) : fX0_balloonTakes w o (nI k) = some (if (k != 5 && (k != 4 || !bt (w.1 o 2) 0)) then 1 else 0) := by
  have p0 : zPeak S = 0 := by unfold zPeak; rw [h0]; rfl
  have p4 : (nI k = 4) = (k = 4) := propext (by rw [zL4]; exact nI_eq (by omega) (by omega))
  have p5 : (nI k = 5) = (k = 5) := propext (by rw [zL5]; exact nI_eq (by omega) (by omega))
  have e0 : fX0_isHermits w o (nI 0) = some (if bt (w.1 o 2) 0 then 1 else 0) := by
    unfold fX0_isHermits
    rw [bt_sh (by omega)]
    cases bt (w.1 o 2) 0 <;> rfl
  unfold fX0_balloonTakes fX0_takes
  simp only [p4, p5, cx_peak hS hC, Option.bind_some, p0, e0]
  by_cases c5 : k = 5
  · subst c5; rfl
  · by_cases c4 : k = 4
    · subst c4
      cases bt (w.1 o 2) 0 <;> rfl
    · simp [c4, c5]
theorem lo0 {w : zW} {S : zLd} {o k : Nat} (ho : o = 10 ∨ o = 20 ∨ o = 30) (hS : zWf S) (hC : zCX w o S) (hk : k < 6) (h0 : zNv S = 0) : ∃ v, fX5_layOut w o (nI k) = some v ∧ zE (fun x => x = 40 ∨ x = 41 ∨ x = 42) w v ∧ v.1 40 2 = nI 0 := by
  obtain ⟨u, u1, u2, f2, _⟩ := lo_b (b := (k != 5 && (k != 4 || !bt (w.1 o 2) 0))) ho hS hC (fun u hu => by
    rw [cx_bal0 hS (hC.keep (fun j hj => (hu _ (by omega)).1)) hk h0, (hu o (by omega)).1])
  obtain ⟨x, y, v, x1, y1, v1, v2, v3, v4⟩ := lo_a ho hS hk u (hC.keep (fun j hj => (u2 _ (by omega)).1)) f2
  refine ⟨v, by rw [u1, x1, Option.bind_some, y1, Option.bind_some, v1, Option.bind_some], (u2.mono (fun o h => Or.inl h)).trs (v2.mono (fun o h => Or.inr h)), ?_⟩
  rw [(v2 40 (by omega)).1, f2, h0]
