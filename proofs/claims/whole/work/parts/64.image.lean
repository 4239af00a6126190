theorem op_wipe : zOp (fun w => fX6_wipe w) (fun w => fX7_wipe w) := by
  intro w hI
  show ∃ r u v, fX6_wipe w = some (r, u) ∧ fX7_wipe u = some (r, v) ∧ zInv v
  obtain ⟨⟨S, hS, hC, hM⟩, d, ⟨n, hn, t1, t2, t3⟩, f, g⟩ := hI
  have q : ∀ o, o ≠ 43 → o ≠ 60 → (zsf (zsf w 43 1 0) 60 7 0).1 o = w.1 o := fun o h1 h2 => by rw [zsf_o h2, zsf_o h1]
  have q6 : ∀ k, k ≠ 7 → (zsf (zsf w 43 1 0) 60 7 0).1 60 k = w.1 60 k := fun k h1 => by rw [zsf_k h1, zsf_o (by omega)]
  refine ⟨nI n, zsf w 43 1 0, zsf (zsf w 43 1 0) 60 7 0, by simp only [fX6_wipe, Option.bind_some, t1], ?_, ⟨S, hS, hC.keep (fun j hj => q _ (by omega) (by omega)), hM.keep (q _ (by omega) (by omega))⟩, d.keep (q _ (by omega) (by omega)) (q _ (by omega) (by omega)), ⟨0, by omega, ?_, ?_, fun i hi => by omega⟩, f.keep (fun o h1 h2 => ⟨q _ (by omega) (by omega), rfl⟩) (q _ (by omega) (by omega)) (q _ (by omega) (by omega)) rfl, g.keep (by rw [q _ (by omega) (by omega)]) (q6 20 (by omega)) (fun j hj => q _ (by omega) (by omega)) (q _ (by omega) (by omega))⟩
  · have e : (zsf w 43 1 0).1 60 7 = nI n := by rw [zsf_o (by omega), t2]
    simp only [fX7_wipe, Option.bind_some, e]
  · rw [zsf_o (by omega), zsf_same]; rfl
  · rw [zsf_same]; rfl
theorem op_tear : zOp (fun w => fX6_tear w) (fun w => fX7_tear w) := by
  intro w hI
  show ∃ r u v, fX6_tear w = some (r, u) ∧ fX7_tear u = some (r, v) ∧ zInv v
  obtain ⟨⟨S, hS, hC, hM⟩, d, e, f, g⟩ := hI
  have q : ∀ o, o ≠ 0 → o ≠ 60 → (zsf (zsf w 0 7 0) 60 20 0).1 o = w.1 o := fun o h1 h2 => by rw [zsf_o h2, zsf_o h1]
  have q6 : ∀ k, k ≠ 20 → (zsf (zsf w 0 7 0) 60 20 0).1 60 k = w.1 60 k := fun k h1 => by rw [zsf_k h1, zsf_o (by omega)]
  have inv : zInv (zsf (zsf w 0 7 0) 60 20 0) := ⟨⟨S, hS, hC.keep (fun j hj => q _ (by omega) (by omega)), hM.keep (q _ (by omega) (by omega))⟩, d.keep (q _ (by omega) (by omega)) (q _ (by omega) (by omega)), e.keep (q _ (by omega) (by omega)) (q _ (by omega) (by omega)) (q6 7 (by omega)) (q _ (by omega) (by omega)), f.keep (fun o h1 h2 => ⟨q _ (by omega) (by omega), rfl⟩) (q _ (by omega) (by omega)) (q _ (by omega) (by omega)) rfl, Or.inl ⟨by rw [zsf_o (by omega), zsf_same], zsf_same⟩⟩
  have e2 : (zsf w 0 7 0).1 60 20 = w.1 60 20 := by rw [zsf_o (by omega)]
  rcases g with ⟨a, b⟩ | ⟨a, b, _⟩
  · exact ⟨0, zsf w 0 7 0, _, by simp only [fX6_tear, a, if_true, Option.bind_some], by simp only [fX7_tear, e2, b, if_true, Option.bind_some], inv⟩
  · exact ⟨1, zsf w 0 7 0, _, by simp only [fX6_tear, a, if_neg h10, Option.bind_some], by simp only [fX7_tear, e2, b, if_neg h10, Option.bind_some], inv⟩
def zTot (w : zW) : Int32 := zfl (fun i (a : Int32) => a + w.1 46 i) 0 7 0
theorem op_status (a : Int32) : zOp (fun w => fX6_status w a) (fun w => fX7_status w a) := by
  intro w hI
  show ∃ r u v, fX6_status w a = some (r, u) ∧ fX7_status u a = some (r, v) ∧ zInv v
  have hT := hI.2.1
  by_cases c1 : a < -1
  · exact ⟨zB0, zff w 0, zfg (zff w 0) 0, by simp only [fX6_status, if_pos c1, x6_f0, zb2_some], by simp only [fX7_status, fX7_in, if_pos c1, Option.bind_some, if_true, x7_f0, zb2_some], hI.find (k := 0) (by omega)⟩
  by_cases c2 : ¬ a < 7
  · have c3 : (6 : Int32) < a := by
      have := Int32.not_lt.mp c2
      exact Int32.lt_of_lt_of_le (by decide) this
    exact ⟨zB0, zff w 0, zfg (zff w 0) 0, by simp only [fX6_status, if_neg c1, if_neg c2, x6_f0, zb2_some], by simp only [fX7_status, fX7_in, if_neg c1, if_pos c3, Option.bind_some, if_true, x7_f0, zb2_some], hI.find (k := 0) (by omega)⟩
  have c2 : a < 7 := Decidable.not_not.mp c2
  have c3 : ¬ (6 : Int32) < a := by
    intro q
    rw [Int32.lt_iff_toInt_lt] at q c2
    have e6 : (6 : Int32).toInt = 6 := by decide
    have e7 : (7 : Int32).toInt = 7 := by decide
    omega
  have l6 : lpX6_status_33 w zF 0 0 = some (zTot w) := by
    have := zfold (L := lpX6_status_33 w) (N := 7) (c := fun x => x) (g := fun i (a : Int32) => a + w.1 46 i) (fun _ _ => True)
      (fun n a _ => by rw [lpX6_status_33, if_pos (by decide)]) (fun _ _ _ _ => trivial)
      (fun n k a hk _ => by rw [lpX6_status_33, if_neg (by rw [zL7, nI_leI (by omega) (by omega)]; omega), zrd_nI (by omega) (by omega), Option.bind_some, Option.bind_some, nI_1]) zF 0 0 (by omega) (by unfold zF; omega) trivial
    rw [show lpX6_status_33 w zF 0 0 = lpX6_status_33 w zF 0 (nI 0) from rfl, this]
    rfl
  have l7 : lpX7_status_21 w a zF 0 0 = some (zTot w) := by
    have := zfold (L := lpX7_status_21 w a) (N := 7) (c := fun x => x) (g := fun i (a : Int32) => a + w.1 46 i) (fun _ _ => True)
      (fun n a _ => by rw [lpX7_status_21, if_pos (by decide)]) (fun _ _ _ _ => trivial)
      (fun n k a hk _ => by rw [lpX7_status_21, if_neg (by rw [zL7, nI_leI (by omega) (by omega)]; omega), zrd_nI (by omega) (by omega), Option.bind_some, Option.bind_some, nI_1, hT k hk]) zF 0 0 (by omega) (by unfold zF; omega) trivial
    rw [show lpX7_status_21 w a zF 0 0 = lpX7_status_21 w a zF 0 (nI 0) from rfl, this]
    rfl
  by_cases c4 : a < 0
  · have c5 : ¬ 0 ≤ a := Int32.not_le.mpr c4
    exact ⟨zTot w, w, w, by simp only [fX6_status, if_neg c1, if_pos c2, if_pos c4, l6, Option.bind_some], by simp only [fX7_status, fX7_in, if_neg c1, if_neg c3, Option.bind_some, if_neg h10, l7, if_neg c5], hI⟩
  · have c5 : 0 ≤ a := Int32.not_lt.mp c4
    obtain ⟨j, hj, rfl⟩ := nI_of c4
    have hj7 : j < 7 := by rw [zL7, nI_ltI hj (by omega)] at c2; exact c2
    have z1 : zrd w 46 7 (nI j) = some (w.1 46 j) := zrd_nI hj7 (by omega)
    have z2 : zrd w 62 7 (nI j) = some (w.1 46 j) := by rw [zrd_nI hj7 (by omega), hT j hj7]
    exact ⟨w.1 46 j, w, w, by simp only [fX6_status, if_neg c1, if_pos c2, if_neg c4, z1, Option.bind_some], by simp only [fX7_status, fX7_in, if_neg c1, if_neg c3, Option.bind_some, if_neg h10, l7, if_pos c5, z2], hI⟩
/-! a whole land copied -/
theorem zcf_same {w : zW} {o : Nat} {f : Nat → Int32} : (zcf w o f).1 o = f := by funext b; simp [zcf]
theorem zcf_o {w : zW} {o a : Nat} {f : Nat → Int32} (h : a ≠ o) : (zcf w o f).1 a = w.1 a := by funext b; simp [zcf, h]
theorem zcpi_all {w : zW} {o1 o2 n : Nat} (hn : n < 2 ^ 31) : zcpi w o1 n 0 o2 n 0 (nI n) = some (zcf w o2 (va_cpy (w.1 o1) (w.1 o2) 0 0 n)) := by
  unfold zcpi
  have e0 : Int32.toNatClampNeg (0 : Int32) = 0 := by decide
  rw [e0, nI_clamp hn, if_neg]
  rintro (q | q | q | q | q)
  · exact absurd q (by decide)
  · exact absurd q (by decide)
  · exact absurd q (nI_pos hn)
  · omega
  · omega
theorem cpy0 {f g : Nat → Int32} {n k : Nat} (h : k < n) : va_cpy f g 0 0 n k = f k := by
  rw [pk_cpy_in (by omega) (by omega)]
  congr 1
  omega
def zCp (w u : zW) (a b : Nat) (K : Nat → Prop) (J : Nat → Nat) : Prop := (∀ j, j < 10 → u.1 (b + j) = w.1 (b + j)) ∧ (∀ k, K k → u.1 a k = w.1 b k) ∧ ∀ j, 0 < j → j < 10 → ∀ i, i < J j → u.1 (a + j) i = w.1 (b + j) i
theorem zCp.f {w u : zW} {a b : Nat} {K : Nat → Prop} {J : Nat → Nat} (h : zCp w u a b K J) (hab : a + 10 ≤ b ∨ b + 10 ≤ a) (k : Nat) : zCp w (zsf u a k (u.1 b k)) a b (fun x => x = k ∨ K x) J := by
  obtain ⟨h1, h2, h3⟩ := h
  refine ⟨fun j hj => by rw [zsf_o (by omega), h1 j hj], fun x hx => ?_, fun j h0 hj i hi => by rw [zsf_o (by omega), h3 j h0 hj i hi]⟩
  by_cases q : x = k
  · subst q
    have := h1 0 (by omega)
    rw [Nat.add_zero] at this
    rw [zsf_same, this]
  · rw [zsf_k q]
    exact h2 x (hx.resolve_left q)
theorem zCp.g {w u : zW} {a b : Nat} {K : Nat → Prop} {J : Nat → Nat} (h : zCp w u a b K J) (hab : a + 10 ≤ b ∨ b + 10 ≤ a) (j n : Nat) (hj0 : 0 < j) (hj10 : j < 10) : zCp w (zcf u (a + j) (va_cpy (u.1 (b + j)) (u.1 (a + j)) 0 0 n)) a b K (fun x => if x = j then n else J x) := by
  obtain ⟨h1, h2, h3⟩ := h
  refine ⟨fun j hj => by rw [zcf_o (by omega), h1 j hj], fun x hx => by rw [zcf_o (by omega), h2 x hx], fun x h0 hx i hi => ?_⟩
  by_cases q : x = j
  · subst q
    have hi : i < n := by simpa using hi
    rw [zcf_same, cpy0 hi, h1 x hx]
  · rw [zcf_o (by omega)]
    exact h3 x h0 hx i (by simpa [q] using hi)
theorem cx_become {w : zW} {a b : Nat} {S : zLd} (hS : zWf S) (h : zCX w b S) (hab : a + 10 ≤ b ∨ b + 10 ≤ a) : ∃ u, fX0_become w a b = some u ∧ zCX u a S ∧ zE (fun o => a ≤ o ∧ o < a + 10) w u := by
  have k12 : ∀ (u : zW) (x y : Nat), zcpi u x 12 0 y 12 0 12 = some (zcf u y (va_cpy (u.1 x) (u.1 y) 0 0 12)) := fun u x y => zcpi_all (by omega)
  have k24 : ∀ (u : zW) (x y : Nat), zcpi u x 24 0 y 24 0 24 = some (zcf u y (va_cpy (u.1 x) (u.1 y) 0 0 24)) := fun u x y => zcpi_all (by omega)
  have k10 : ∀ (u : zW) (x y : Nat), zcpi u x 10 0 y 10 0 10 = some (zcf u y (va_cpy (u.1 x) (u.1 y) 0 0 10)) := fun u x y => zcpi_all (by omega)
  obtain ⟨u, hu⟩ : ∃ u, fX0_become w a b = some u := by
    simp only [fX0_become, Option.bind_some, k12, k24, k10]
    exact ⟨_, rfl⟩
  refine ⟨u, hu, ?_, eX0_become hu⟩
  simp only [fX0_become, Option.bind_some, k12, k24, k10] at hu
  have hu := Option.some.inj hu
  have nv := hS.nv
  have nr := hS.nr
  have nl := hS.nl
  have c0 : zCp w w a b (fun _ => False) (fun _ => 0) := ⟨fun _ _ => rfl, fun _ q => q.elim, fun _ _ _ _ q => absurd q (Nat.not_lt_zero _)⟩
  have c := ((((((((((((((c0.f hab 0).g hab 1 12 (by omega) (by omega)).f hab 2).f hab 3).g hab 2 24 (by omega) (by omega)).g hab 3 24 (by omega) (by omega)).g hab 4 24 (by omega) (by omega)).f hab 7).f hab 8).f hab 9).g hab 5 10 (by omega) (by omega)).g hab 6 10 (by omega) (by omega)).g hab 7 10 (by omega) (by omega)).g hab 8 10 (by omega) (by omega)).g hab 9 10 (by omega) (by omega)
  rw [hu] at c
  obtain ⟨-, c2, c3⟩ := c
  obtain ⟨⟨f0, f3, f9, f7, f8⟩, fv, fr, fl⟩ := h
  have g0 := c2 0 (by simp)
  have g2 := c2 2 (by simp)
  have g3 := c2 3 (by simp)
  have g7 := c2 7 (by simp)
  have g8 := c2 8 (by simp)
  have g9 := c2 9 (by simp)
  refine ⟨⟨by rw [g0, f0], by rw [g3, f3], by rw [g9, f9], by rw [g7, f7], by rw [g8, f8]⟩, fun v hv => ?_, fun r hr => ?_, fun l hl => ?_⟩
  · have q := c3 1 (by omega) (by omega) v (by simp; omega)
    rw [q, g2]
    exact fv v hv
  · have q2 := c3 2 (by omega) (by omega) r (by simp; omega)
    have q3 := c3 3 (by omega) (by omega) r (by simp; omega)
    have q4 := c3 4 (by omega) (by omega) r (by simp; omega)
    rw [q2, q3, q4]
    exact fr r hr
  · have q5 := c3 5 (by omega) (by omega) l (by simp; omega)
    have q6 := c3 6 (by omega) (by omega) l (by simp; omega)
    have q7 := c3 7 (by omega) (by omega) l (by simp; omega)
    have q8 := c3 8 (by omega) (by omega) l (by simp; omega)
    have q9 := c3 9 (by omega) (by omega) l (by simp; omega)
    rw [q5, q6, q7, q8, q9]
    exact fl l hl
def zmd (p : Int32) (o : Nat) : Nat := if p = 0 then 61 else o
def zms (p : Int32) (o : Nat) : Nat := if p = 0 then o else 61
theorem mv_loop {p : Int32} {o : Nat} (ho : o ≠ 61) (w : zW) : ∀ n k u, k ≤ 151 → 151 - k < n → zE (fun x => x = zmd p o) w u → (∀ i, i < k → u.1 (zmd p o) i = w.1 (zms p o) i) → ∃ v, lpX7_moveAll_2 p o n u (nI k) = some v ∧ zE (fun x => x = zmd p o) w v ∧ ∀ i, i < 151 → v.1 (zmd p o) i = w.1 (zms p o) i := by
  intro n
  induction n with
  | zero => intro k u _ h; omega
  | succ n ih =>
    intro k u hk hn hE hc
    rw [lpX7_moveAll_2, zL151]
    by_cases c : 151 ≤ k
    · rw [if_pos ((nI_leI (by omega) (by omega)).mpr c)]
      exact ⟨u, rfl, hE, fun i hi => hc i (by omega)⟩
    · rw [if_neg (fun q => c ((nI_leI (by omega) (by omega)).mp q))]
      have hs : u.1 (zms p o) = w.1 (zms p o) := (hE _ (by unfold zmd zms; split <;> omega)).1
      have e : (if p = 0 then (Option.bind (zrd u o 151 (nI k)) fun v15 => Option.bind (zwr u 61 151 (nI k) v15) fun w17 => some w17) else (Option.bind (zrd u 61 151 (nI k)) fun v19 => Option.bind (zwr u o 151 (nI k) v19) fun w21 => some w21)) = some (zsf u (zmd p o) k (u.1 (zms p o) k)) := by
        unfold zmd zms
        by_cases q : p = 0
        · simp only [q, if_true, zrd_nI (show k < 151 by omega) (by omega), zwr_nI (show k < 151 by omega) (by omega), Option.bind_some]
        · simp only [q, if_false, zrd_nI (show k < 151 by omega) (by omega), zwr_nI (show k < 151 by omega) (by omega), Option.bind_some]
      rw [e, Option.bind_some, nI_1]
      refine ih (k + 1) _ (by omega) (by omega) (hE.trs (zE.sf0 rfl)) (fun i hi => ?_)
      by_cases q : i = k
      · subst q
        rw [zsf_same, hs]
      · rw [zsf_k q, hc i (by omega)]
theorem mv_all {p : Int32} {o : Nat} (ho : o ≠ 61) (w : zW) : ∃ v, fX7_moveAll w p o = some v ∧ zE (fun x => x = zmd p o) w v ∧ ∀ i, i < 151 → v.1 (zmd p o) i = w.1 (zms p o) i := by
  obtain ⟨v, h1, h2, h3⟩ := mv_loop (p := p) ho w zF 0 w (by omega) (by unfold zF; omega) zE.rfl (fun i hi => absurd hi (by omega))
  refine ⟨v, ?_, h2, h3⟩
  unfold fX7_moveAll
  rw [show lpX7_moveAll_2 p o zF w (0 : Int32) = lpX7_moveAll_2 p o zF w (nI 0) from rfl, h1, Option.bind_some]
theorem zMX.copy {w u : zW} {p q : Nat} {S : zLd} (hS : zWf S) (h : zMX w p S) (e : ∀ i, i < 151 → u.1 q i = w.1 p i) : zMX u q S := by
  have nv := hS.nv
  have nr := hS.nr
  have nl := hS.nl
  obtain ⟨⟨f0, f1, f2, f3, f4⟩, fv, fr, fl⟩ := h
  refine ⟨⟨by rw [e _ (by omega), f0], by rw [e _ (by omega), f1], by rw [e _ (by omega), f2], by rw [e _ (by omega), f3], by rw [e _ (by omega), f4]⟩, fun v hv => ?_, fun r hr => ?_, fun l hl => ?_⟩
  · rw [e _ (by omega), e _ (by omega)]; exact fv v hv
  · rw [e _ (by omega), e _ (by omega), e _ (by omega)]; exact fr r hr
  · rw [e _ (by omega), e _ (by omega), e _ (by omega), e _ (by omega), e _ (by omega)]; exact fl l hl
theorem op_image : zOp (fun w => fX6_image w) (fun w => fX7_image w) := by
  intro w hI
  show ∃ r u v, fX6_image w = some (r, u) ∧ fX7_image u = some (r, v) ∧ zInv v
  obtain ⟨⟨S, hS, hC, hM⟩, d, e, f, g⟩ := hI
  obtain ⟨u, hu, cu, eu⟩ := cx_become (a := 20) (b := 10) hS hC (by omega)
  obtain ⟨v, hv, ev, cv⟩ := mv_all (p := 1) (o := 70) (by omega) (zsf u 0 7 1)
  have z1 : zmd 1 70 = 70 := rfl
  have z2 : zms 1 70 = 61 := rfl
  rw [z1] at ev
  rw [z1, z2] at cv
  have E : zE (fun o => (20 ≤ o ∧ o < 30) ∨ o = 0 ∨ o = 70) w v := ((eu.mono (fun o h => Or.inl h)).trs (zE.sf0 (P := fun o => (20 ≤ o ∧ o < 30) ∨ o = 0 ∨ o = 70) (by omega))).trs (ev.mono (fun o h => Or.inr (Or.inr h)))
  have E2 : ∀ o, o ≠ 60 → ¬ ((20 ≤ o ∧ o < 30) ∨ o = 0 ∨ o = 70) → (zsf v 60 20 1).1 o = w.1 o := fun o h1 h2 => by rw [zsf_o h1, (E o h2).1]
  have E3 : ∀ o, ¬ ((20 ≤ o ∧ o < 30) ∨ o = 0 ∨ o = 70) → (zsf v 60 20 1).2 o = w.2 o := fun o h2 => (E o h2).2
  have e6 : ∀ k, k ≠ 20 → (zsf v 60 20 1).1 60 k = w.1 60 k := fun k h => by rw [zsf_k h, (E 60 (by omega)).1]
  refine ⟨1, zsf u 0 7 1, zsf v 60 20 1, by simp only [fX6_image, hu, Option.bind_some], by simp only [fX7_image, hv, Option.bind_some], ⟨S, hS, hC.keep (fun j hj => E2 _ (by omega) (by omega)), hM.keep (E2 _ (by omega) (by omega))⟩, d.keep (E2 _ (by omega) (by omega)) (E2 _ (by omega) (by omega)), e.keep (E2 _ (by omega) (by omega)) (E2 _ (by omega) (by omega)) (e6 7 (by omega)) (E2 _ (by omega) (by omega)), f.keep (fun o h1 h2 => ⟨E2 _ (by omega) (by omega), E3 _ (by omega)⟩) (E2 _ (by omega) (by omega)) (E2 _ (by omega) (by omega)) (E3 _ (by omega)), Or.inr ⟨?_, zsf_same, S, hS, cu.keep (fun j hj => ?_), ?_⟩⟩
  · rw [zsf_o (by omega), (ev 0 (by omega)).1, zsf_same]
  · rw [zsf_o (by omega), (ev _ (by omega)).1, zsf_o (by omega)]
  · refine zMX.copy hS hM (fun i hi => ?_)
    rw [zsf_o (by omega), cv i hi, zsf_o (by omega), (eu 61 (by omega)).1]
theorem op_undo : zOp (fun w => fX6_undo w) (fun w => fX7_undo w) := by
  intro w hI
  show ∃ r u v, fX6_undo w = some (r, u) ∧ fX7_undo u = some (r, v) ∧ zInv v
  have hI0 := hI
  obtain ⟨-, d, e, f, g⟩ := hI
  rcases g with ⟨a, b⟩ | ⟨a, b, S, hS, hC, hM⟩
  · have b' : (zff w 3).1 60 20 = 0 := by unfold zff; rw [zsf_o (by omega), b]
    exact ⟨zB3, zff w 3, zfg (zff w 3) 3, by simp only [fX6_undo, a, if_true, x6_f3, zb2_some], by simp only [fX7_undo, b', if_true, x7_f3, zb2_some], hI0.find (k := 3) (by omega)⟩
  obtain ⟨u, hu, cu, eu⟩ := cx_become (a := 10) (b := 20) hS hC (by omega)
  obtain ⟨v, hv, ev, cv⟩ := mv_all (p := 0) (o := 70) (by omega) u
  have z1 : zmd 0 70 = 61 := rfl
  have z2 : zms 0 70 = 70 := rfl
  rw [z1] at ev
  rw [z1, z2] at cv
  have E : zE (fun o => (10 ≤ o ∧ o < 20) ∨ o = 61) w v := (eu.mono (fun o h => Or.inl h)).trs (ev.mono (fun o h => Or.inr h))
  have E2 : ∀ o, ¬ ((10 ≤ o ∧ o < 20) ∨ o = 61) → v.1 o = w.1 o := fun o h2 => (E o h2).1
  have hm : zMX v 61 S := zMX.copy hS hM (fun i hi => by rw [cv i hi, (eu 70 (by omega)).1])
  have b' : u.1 60 20 = 1 := by rw [(eu 60 (by omega)).1, b]
  have r6 : u.1 10 0 = nI (zNv S) := cu.1.1
  have r7 : zrd v 61 151 0 = some (nI (zNv S)) := by rw [show (0 : Int32) = nI 0 from rfl, zrd_nI (by omega) (by omega), hm.1.1]
  exact ⟨nI (zNv S), u, v, by simp only [fX6_undo, a, if_neg h10, hu, Option.bind_some, r6], by simp only [fX7_undo, b', if_neg h10, hv, Option.bind_some, r7], ⟨S, hS, cu.keep (fun j hj => (ev _ (by omega)).1), hm⟩, d.keep (E2 _ (by omega)) (E2 _ (by omega)), e.keep (E2 _ (by omega)) (E2 _ (by omega)) (by rw [E2 _ (by omega)]) (E2 _ (by omega)), f.keep (fun o h1 h2 => ⟨E2 _ (by omega), (E _ (by omega)).2⟩) (E2 _ (by omega)) (E2 _ (by omega)) (E _ (by omega)).2, Or.inr ⟨by rw [E2 _ (by omega), a], by rw [E2 _ (by omega), b], S, hS, hC.keep (fun j hj => E2 _ (by omega)), hM.keep (E2 _ (by omega))⟩⟩
