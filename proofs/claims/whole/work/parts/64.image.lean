theorem op_wipe : zOp (fun w => fX6_wipe w) (fun w => fX7_wipe w) := by
  intro w hI
  show ∃ r u v, fX6_wipe w = some (r, u) ∧ fX7_wipe u = some (r, v) ∧ zInv v
  obtain ⟨⟨S, hS, hC, hM⟩, d, ⟨n, hn, t1, t2, t3⟩, f, g⟩ := hI
  have q : ∀ o, o ≠ 43 → o ≠ 60 → (zsf (zsf w 43 1 0) 60 7 0).1 o = w.1 o := fun o h1 h2 => by rw [zsf_o h2, zsf_o h1]
  have q6 : ∀ k, k ≠ 7 → (zsf (zsf w 43 1 0) 60 7 0).1 60 k = w.1 60 k := fun k h1 => by rw [zsf_k h1, zsf_o (by omega)]
  refine ⟨nI n, zsf w 43 1 0, zsf (zsf w 43 1 0) 60 7 0, by simp only [fX6_wipe, Option.bind_some, t1], ?_, ⟨S, hS, hC.keep (fun j hj => q _ (by omega) (by omega)), hM.keep (q _ (by omega) (by omega))⟩, d.keep (q _ (by omega) (by omega)) (q _ (by omega) (by omega)), ⟨0, by omega, ?_, ?_, fun i hi => by omega⟩, f.keep (fun o h1 h2 => ⟨q _ (by omega) (by omega), rfl⟩) (q _ (by omega) (by omega)) (q _ (by omega) (by omega)) rfl, g.keep (by rw [q _ (by omega) (by omega)]) (q6 20 (by omega)) (fun j hj => q _ (by omega) (by omega)) (q _ (by omega) (by omega))⟩
  · have e : (zsf w 43 1 0).1 60 7 = nI n := by rw [zsf_o (by omega), t2]
    simp only [fX7_wipe, Option.bind_some, e]
  · rw [zsf_o (by omega), zsf_same]; rfl
  · rw [zsf_same]; rfl
theorem op_tear : zOp (fun w => fX6_tear w) (fun w => fX7_tear w) := by
  intro w hI
  show ∃ r u v, fX6_tear w = some (r, u) ∧ fX7_tear u = some (r, v) ∧ zInv v
  obtain ⟨⟨S, hS, hC, hM⟩, d, e, f, g⟩ := hI
  have q : ∀ o, o ≠ 0 → o ≠ 60 → (zsf (zsf w 0 7 0) 60 20 0).1 o = w.1 o := fun o h1 h2 => by rw [zsf_o h2, zsf_o h1]
  have q6 : ∀ k, k ≠ 20 → (zsf (zsf w 0 7 0) 60 20 0).1 60 k = w.1 60 k := fun k h1 => by rw [zsf_k h1, zsf_o (by omega)]
  have inv : zInv (zsf (zsf w 0 7 0) 60 20 0) := ⟨⟨S, hS, hC.keep (fun j hj => q _ (by omega) (by omega)), hM.keep (q _ (by omega) (by omega))⟩, d.keep (q _ (by omega) (by omega)) (q _ (by omega) (by omega)), e.keep (q _ (by omega) (by omega)) (q _ (by omega) (by omega)) (q6 7 (by omega)) (q _ (by omega) (by omega)), f.keep (fun o h1 h2 => ⟨q _ (by omega) (by omega), rfl⟩) (q _ (by omega) (by omega)) (q _ (by omega) (by omega)) rfl, Or.inl ⟨by rw [zsf_o (by omega), zsf_same], zsf_same⟩⟩
  have e2 : (zsf w 0 7 0).1 60 20 = w.1 60 20 := by rw [zsf_o (by omega)]
  rcases g with ⟨a, b⟩ | ⟨a, b, _⟩
  · exact ⟨0, zsf w 0 7 0, _, by simp only [fX6_tear, a, if_true, Option.bind_some], by simp only [fX7_tear, e2, b, if_true, Option.bind_some], inv⟩
  · exact ⟨1, zsf w 0 7 0, _, by simp only [fX6_tear, a, if_neg h10, Option.bind_some], by simp only [fX7_tear, e2, b, if_neg h10, Option.bind_some], inv⟩
def zTot (w : zW) : Int32 := zfl (fun i (a : Int32) => a + w.1 46 i) 0 7 0
theorem op_status (a : Int32) : zOp (fun w => fX6_status w a) (fun w => fX7_status w a) := by
  intro w hI
  show ∃ r u v, fX6_status w a = some (r, u) ∧ fX7_status u a = some (r, v) ∧ zInv v
  have hT := hI.2.1
  by_cases c1 : a < -1
  · exact ⟨zB0, zff w 0, zfg (zff w 0) 0, by simp only [fX6_status, if_pos c1, x6_f0, zb2_some], by simp only [fX7_status, fX7_in, if_pos c1, Option.bind_some, if_true, x7_f0, zb2_some], hI.find (k := 0) (by omega)⟩
  by_cases c2 : ¬ a < 7
  · have c3 : (6 : Int32) < a := by
      have := Int32.not_lt.mp c2
      exact Int32.lt_of_lt_of_le (by decide) this
    exact ⟨zB0, zff w 0, zfg (zff w 0) 0, by simp only [fX6_status, if_neg c1, if_neg c2, x6_f0, zb2_some], by simp only [fX7_status, fX7_in, if_neg c1, if_pos c3, Option.bind_some, if_true, x7_f0, zb2_some], hI.find (k := 0) (by omega)⟩
  have c2 : a < 7 := Decidable.not_not.mp c2
  have c3 : ¬ (6 : Int32) < a := by
    intro q
    rw [Int32.lt_iff_toInt_lt] at q c2
    have e6 : (6 : Int32).toInt = 6 := by decide
    have e7 : (7 : Int32).toInt = 7 := by decide
    omega
  have l6 : lpX6_status_33 w zF 0 0 = some (zTot w) := by
    have := zfold (L := lpX6_status_33 w) (N := 7) (c := fun x => x) (g := fun i (a : Int32) => a + w.1 46 i) (fun _ _ => True)
      (fun n a _ => by rw [lpX6_status_33, if_pos (by decide)]) (fun _ _ _ _ => trivial)
      (fun n k a hk _ => by rw [lpX6_status_33, if_neg (by rw [zL7, nI_leI (by omega) (by omega)]; omega), zrd_nI (by omega) (by omega), Option.bind_some, Option.bind_some, nI_1]) zF 0 0 (by omega) (by unfold zF; omega) trivial
    rw [show lpX6_status_33 w zF 0 0 = lpX6_status_33 w zF 0 (nI 0) from rfl, this]
    rfl
  have l7 : lpX7_status_21 w a zF 0 0 = some (zTot w) := by
    have := zfold (L := lpX7_status_21 w a) (N := 7) (c := fun x => x) (g := fun i (a : Int32) => a + w.1 46 i) (fun _ _ => True)
      (fun n a _ => by rw [lpX7_status_21, if_pos (by decide)]) (fun _ _ _ _ => trivial)
      (fun n k a hk _ => by rw [lpX7_status_21, if_neg (by rw [zL7, nI_leI (by omega) (by omega)]; omega), zrd_nI (by omega) (by omega), Option.bind_some, Option.bind_some, nI_1, hT k hk]) zF 0 0 (by omega) (by unfold zF; omega) trivial
    rw [show lpX7_status_21 w a zF 0 0 = lpX7_status_21 w a zF 0 (nI 0) from rfl, this]
    rfl
  by_cases c4 : a < 0
  · have c5 : ¬ 0 ≤ a := Int32.not_le.mpr c4
    exact ⟨zTot w, w, w, by simp only [fX6_status, if_neg c1, if_pos c2, if_pos c4, l6, Option.bind_some], by simp only [fX7_status, fX7_in, if_neg c1, if_neg c3, Option.bind_some, if_neg h10, l7, if_neg c5], hI⟩
  · have c5 : 0 ≤ a := Int32.not_lt.mp c4
    obtain ⟨j, hj, rfl⟩ := nI_of c4
    have hj7 : j < 7 := by rw [zL7, nI_ltI hj (by omega)] at c2; exact c2
    have z1 : zrd w 46 7 (nI j) = some (w.1 46 j) := zrd_nI hj7 (by omega)
    have z2 : zrd w 62 7 (nI j) = some (w.1 46 j) := by rw [zrd_nI hj7 (by omega), hT j hj7]
    exact ⟨w.1 46 j, w, w, by simp only [fX6_status, if_neg c1, if_pos c2, if_neg c4, z1, Option.bind_some], by simp only [fX7_status, fX7_in, if_neg c1, if_neg c3, Option.bind_some, if_neg h10, l7, if_pos c5, z2], hI⟩
/-! a whole land copied -/
theorem zcf_same {w : zW} {o : Nat} {f : Nat → Int32} : (zcf w o f).1 o = f := by funext b; simp [zcf]
theorem zcf_o {w : zW} {o a : Nat} {f : Nat → Int32} (h : a ≠ o) : (zcf w o f).1 a = w.1 a := by funext b; simp [zcf, h]
theorem zcpi_all {w : zW} {o1 o2 n : Nat} (hn : n < 2 ^ 31) : zcpi w o1 n 0 o2 n 0 (nI n) = some (zcf w o2 (va_cpy (w.1 o1) (w.1 o2) 0 0 n)) := by
  unfold zcpi
  have e0 : Int32.toNatClampNeg (0 : Int32) = 0 := by decide
  rw [e0, nI_clamp hn, if_neg]
  rintro (q | q | q | q | q)
  · exact absurd q (by decide)
  · exact absurd q (by decide)
  · exact absurd q (nI_pos hn)
  · omega
  · omega
theorem cpy0 {f g : Nat → Int32} {n k : Nat} (h : k < n) : va_cpy f g 0 0 n k = f k := by
  rw [pk_cpy_in (by omega) (by omega)]
  congr 1
  omega
theorem cx_become {w : zW} {a b : Nat} {S : zLd} (hS : zWf S) (h : zCX w b S) (hab : a + 10 ≤ b ∨ b + 10 ≤ a) : ∃ u, fX0_become w a b = some u ∧ zCX u a S ∧ zE (fun o => a ≤ o ∧ o < a + 10) w u := by
  have k12 : ∀ (u : zW) (x y : Nat), zcpi u x 12 0 y 12 0 12 = some (zcf u y (va_cpy (u.1 x) (u.1 y) 0 0 12)) := fun u x y => zcpi_all (by omega)
  have k24 : ∀ (u : zW) (x y : Nat), zcpi u x 24 0 y 24 0 24 = some (zcf u y (va_cpy (u.1 x) (u.1 y) 0 0 24)) := fun u x y => zcpi_all (by omega)
  have k10 : ∀ (u : zW) (x y : Nat), zcpi u x 10 0 y 10 0 10 = some (zcf u y (va_cpy (u.1 x) (u.1 y) 0 0 10)) := fun u x y => zcpi_all (by omega)
  obtain ⟨u, hu⟩ : ∃ u, fX0_become w a b = some u := by
    simp only [fX0_become, Option.bind_some, k12, k24, k10]
    exact ⟨_, rfl⟩
  refine ⟨u, hu, ?_, eX0_become hu⟩
  simp only [fX0_become, Option.bind_some, k12, k24, k10] at hu
  have hu := Option.some.inj hu
  have nv := hS.nv
  have nr := hS.nr
  have nl := hS.nl
  have s1 : ∀ (u : zW) (k j i : Nat) (v : Int32), i < 10 → (zsf u a k v).1 (b + i) j = u.1 (b + i) j := fun u k j i v hi => by rw [zsf_o (by omega)]
  have s2 : ∀ (u : zW) (k i j : Nat) (v : Int32), 0 < i → i < 10 → (zsf u a k v).1 (a + i) j = u.1 (a + i) j := fun u k i j v h0 hi => by rw [zsf_o (by omega)]
  sorry
