/-! letters -/
section LETS
variable {w : zW} {o p : Nat} {S : zLd}
theorem cx_al (h : zCX w o S) (k a t : Nat) : zCX (zsf (zsf (zsf (zsf (zsf (zsf w (o + 5) (zNl S) (nI k)) (o + 6) (zNl S) (nI a)) (o + 7) (zNl S) (nI t)) (o + 8) (zNl S) (nI (zDy S))) (o + 9) (zNl S) 0) o 9 (nI (zNl S + 1))) o (zS_al S k a t) := by
  generalize hu : zsf (zsf (zsf (zsf (zsf (zsf w (o + 5) (zNl S) (nI k)) (o + 6) (zNl S) (nI a)) (o + 7) (zNl S) (nI t)) (o + 8) (zNl S) (nI (zDy S))) (o + 9) (zNl S) 0) o 9 (nI (zNl S + 1)) = u
  have q0 : ∀ j, j ≠ 9 → u.1 o j = w.1 o j := fun j hj => by rw [← hu, zsf_k hj, zsf_o (by omega), zsf_o (by omega), zsf_o (by omega), zsf_o (by omega), zsf_o (by omega)]
  have q1 : ∀ i, i < 5 → 0 < i → u.1 (o + i) = w.1 (o + i) := fun i hi h0 => by rw [← hu, zsf_o (by omega), zsf_o (by omega), zsf_o (by omega), zsf_o (by omega), zsf_o (by omega), zsf_o (by omega)]
  have q5 : ∀ j, u.1 (o + 5) j = if j = zNl S then nI k else w.1 (o + 5) j := fun j => by
    rw [← hu, zsf_o (by omega), zsf_o (by omega), zsf_o (by omega), zsf_o (by omega), zsf_o (by omega)]
    split
    · rename_i e; subst e; rw [zsf_same]
    · rename_i e; rw [zsf_k e]
  have q6 : ∀ j, u.1 (o + 6) j = if j = zNl S then nI a else w.1 (o + 6) j := fun j => by
    rw [← hu, zsf_o (by omega), zsf_o (by omega), zsf_o (by omega), zsf_o (by omega)]
    split
    · rename_i e; subst e; rw [zsf_same]
    · rename_i e; rw [zsf_k e, zsf_o (by omega)]
  have q7 : ∀ j, u.1 (o + 7) j = if j = zNl S then nI t else w.1 (o + 7) j := fun j => by
    rw [← hu, zsf_o (by omega), zsf_o (by omega), zsf_o (by omega)]
    split
    · rename_i e; subst e; rw [zsf_same]
    · rename_i e; rw [zsf_k e, zsf_o (by omega), zsf_o (by omega)]
  have q8 : ∀ j, u.1 (o + 8) j = if j = zNl S then nI (zDy S) else w.1 (o + 8) j := fun j => by
    rw [← hu, zsf_o (by omega), zsf_o (by omega)]
    split
    · rename_i e; subst e; rw [zsf_same]
    · rename_i e; rw [zsf_k e, zsf_o (by omega), zsf_o (by omega), zsf_o (by omega)]
  have q9 : ∀ j, u.1 (o + 9) j = if j = zNl S then 0 else w.1 (o + 9) j := fun j => by
    rw [← hu, zsf_o (by omega)]
    split
    · rename_i e; subst e; rw [zsf_same]
    · rename_i e; rw [zsf_k e, zsf_o (by omega), zsf_o (by omega), zsf_o (by omega), zsf_o (by omega)]
  refine ⟨⟨?_, ?_, ?_, ?_, ?_⟩, fun v hv => ?_, fun r hr => ?_, fun l hl => ?_⟩
  · rw [q0 0 (by omega)]; exact h.1.1
  · rw [q0 3 (by omega)]; exact h.1.2.1
  · rw [← hu, zsf_same]; rfl
  · rw [q0 7 (by omega)]; exact h.1.2.2.2.1
  · rw [q0 8 (by omega)]; exact h.1.2.2.2.2
  · rw [q0 2 (by omega), q1 1 (by omega) (by omega)]; exact h.2.1 v hv
  · rw [q1 2 (by omega) (by omega), q1 3 (by omega) (by omega), q1 4 (by omega) (by omega)]; exact h.2.2.1 r hr
  · rw [q5, q6, q7, q8, q9]
    by_cases e : l = zNl S
    · simp [e, zS_al, zKd, zPl, zTo, zSn, zLf]; rfl
    · have := h.2.2.2 l (by have : l < zNl S + 1 := hl; omega)
      simp only [e, if_false, zS_al, zKd, zPl, zTo, zSn, zLf]
      exact this
theorem mx_al (h : zMX w p S) (hn : zNl S < 10) (hS : zWf S) (k a t : Nat) : zMX (zsf (zsf (zsf (zsf (zsf (zsf w p (101 + 5 * zNl S + 0) (nI k)) p (101 + 5 * zNl S + 1) (nI a)) p (101 + 5 * zNl S + 2) (nI t)) p (101 + 5 * zNl S + 3) (nI (zDy S))) p (101 + 5 * zNl S + 4) 0) p 2 (nI (zNl S + 1))) p (zS_al S k a t) := by
  have hv := hS.nv
  have hr := hS.nr
  generalize hu : zsf (zsf (zsf (zsf (zsf (zsf w p (101 + 5 * zNl S + 0) (nI k)) p (101 + 5 * zNl S + 1) (nI a)) p (101 + 5 * zNl S + 2) (nI t)) p (101 + 5 * zNl S + 3) (nI (zDy S))) p (101 + 5 * zNl S + 4) 0) p 2 (nI (zNl S + 1)) = u
  have q : ∀ j, j ≠ 2 → (j < 101 + 5 * zNl S ∨ 101 + 5 * zNl S + 4 < j) → u.1 p j = w.1 p j := fun j h1 h2 => by rw [← hu, zsf_k h1, zsf_k (by omega), zsf_k (by omega), zsf_k (by omega), zsf_k (by omega), zsf_k (by omega)]
  have q0 : u.1 p (101 + 5 * zNl S) = nI k := by rw [← hu, zsf_k (by omega), zsf_k (by omega), zsf_k (by omega), zsf_k (by omega), zsf_k (by omega)]; exact zsf_same
  have q1 : u.1 p (101 + 5 * zNl S + 1) = nI a := by rw [← hu, zsf_k (by omega), zsf_k (by omega), zsf_k (by omega), zsf_k (by omega), zsf_same]
  have q2 : u.1 p (101 + 5 * zNl S + 2) = nI t := by rw [← hu, zsf_k (by omega), zsf_k (by omega), zsf_k (by omega), zsf_same]
  have q3 : u.1 p (101 + 5 * zNl S + 3) = nI (zDy S) := by rw [← hu, zsf_k (by omega), zsf_k (by omega), zsf_same]
  have q4 : u.1 p (101 + 5 * zNl S + 4) = 0 := by rw [← hu, zsf_k (by omega), zsf_same]
  refine ⟨⟨?_, ?_, ?_, ?_, ?_⟩, fun v hv => ?_, fun r hr => ?_, fun l hl => ?_⟩
  · rw [q 0 (by omega) (by omega)]; exact h.1.1
  · rw [q 1 (by omega) (by omega)]; exact h.1.2.1
  · rw [← hu, zsf_same]; rfl
  · rw [q 3 (by omega) (by omega)]; exact h.1.2.2.2.1
  · rw [q 4 (by omega) (by omega)]; exact h.1.2.2.2.2
  · have hv2 : v < zNv S := hv
    rw [q _ (by omega) (by omega), q _ (by omega) (by omega)]; exact h.2.1 v hv
  · have hr2 : r < zNr S := hr
    rw [q _ (by omega) (by omega), q _ (by omega) (by omega), q _ (by omega) (by omega)]; exact h.2.2.1 r hr
  · have hl2 : l < zNl S + 1 := hl
    by_cases e : l = zNl S
    · subst e; rw [q0, q1, q2, q3, q4]; simp [zS_al, zKd, zPl, zTo, zSn, zLf]; rfl
    · rw [q _ (by omega) (by omega), q _ (by omega) (by omega), q _ (by omega) (by omega), q _ (by omega) (by omega), q _ (by omega) (by omega)]
      have := h.2.2.2 l (by omega)
      simp only [e, if_false, zS_al, zKd, zPl, zTo, zSn, zLf]
      exact this
theorem wf_al (h : zWf S) (hn : zNl S < 10) {k a t : Nat} (hk : k < 6) (ha : a < zNv S) (ht : t < zNv S) : zWf (zS_al S k a t) := by
  refine ⟨h.nv, h.nr, by show zNl S + 1 ≤ 10; omega, h.ev, h.dy, h.ht, h.rd, h.un, fun l hl => ?_⟩
  have hl2 : l < zNl S + 1 := hl
  by_cases c : l = zNl S
  · have e : (zS_al S k a t).2.2.2.2 l = (k, a, t, zDy S, 0) := by simp [zS_al, c]
    unfold zKd zPl zTo zSn zLf
    rw [e]
    exact ⟨hk, ha, ht, h.dy, Nat.zero_le 18⟩
  · have e : (zS_al S k a t).2.2.2.2 l = S.2.2.2.2 l := by simp [zS_al, c]
    unfold zKd zPl zTo zSn zLf
    rw [e]
    exact h.lt l (by omega)
theorem cx_addL (hS : zWf S) (h : zCX w o S) (hn : zNl S < 10) (k a t : Nat) : fX0_addLetter w o (nI k) (nI a) (nI t) = some (nI (zNl S), zsf (zsf (zsf (zsf (zsf (zsf w (o + 5) (zNl S) (nI k)) (o + 6) (zNl S) (nI a)) (o + 7) (zNl S) (nI t)) (o + 8) (zNl S) (nI (zDy S))) (o + 9) (zNl S) 0) o 9 (nI (zNl S + 1))) := by
  have hf : fX0_lettersFull w o = some 0 := by
    unfold fX0_lettersFull
    rw [h.1.2.2.1, if_pos (by rw [zL10, nI_ltI (by omega) (by omega)]; exact hn)]
  have k1 : ∀ (u : zW) (q : Nat) (y : Int32), zwr u q 10 (nI (zNl S)) y = some (zsf u q (zNl S) y) := fun u q y => zwr_nI (by omega) (by omega)
  have k2 : ∀ (u : zW) (j : Nat) (y : Int32), 0 < j → (zsf u (o + j) (zNl S) y).1 o = u.1 o := fun u j y hj => zsf_o (by omega)
  simp only [fX0_addLetter, hf, Option.bind_some, if_true, k1, k2 _ 5 _ (by omega), k2 _ 6 _ (by omega), k2 _ 7 _ (by omega), k2 _ 8 _ (by omega), k2 _ 9 _ (by omega), h.1.2.2.1, h.1.2.2.2.2, nI_1]
theorem mx_addL (h : zMX w 61 S) (hn : zNl S < 10) (k a t : Nat) : fX7_addLetter w (nI k) (nI a) (nI t) = some (zsf (zsf (zsf (zsf (zsf (zsf w 61 (101 + 5 * zNl S + 0) (nI k)) 61 (101 + 5 * zNl S + 1) (nI a)) 61 (101 + 5 * zNl S + 2) (nI t)) 61 (101 + 5 * zNl S + 3) (nI (zDy S))) 61 (101 + 5 * zNl S + 4) 0) 61 2 (nI (zNl S + 1))) := by
  have k0 : ∀ (u : zW) (j : Nat) (y : Int32), j < 5 → fX7_sets u (nI (zNl S)) (nI j) y = some (zsf u 61 (101 + 5 * zNl S + j) y) := fun u j y hj => mx_sets hn hj
  have s0 : ∀ (u : zW) (y : Int32), fX7_sets u (nI (zNl S)) 0 y = some (zsf u 61 (101 + 5 * zNl S + 0) y) := fun u y => k0 u 0 y (by omega)
  have s1 : ∀ (u : zW) (y : Int32), fX7_sets u (nI (zNl S)) 1 y = some (zsf u 61 (101 + 5 * zNl S + 1) y) := fun u y => k0 u 1 y (by omega)
  have s2 : ∀ (u : zW) (y : Int32), fX7_sets u (nI (zNl S)) 2 y = some (zsf u 61 (101 + 5 * zNl S + 2) y) := fun u y => k0 u 2 y (by omega)
  have s3 : ∀ (u : zW) (y : Int32), fX7_sets u (nI (zNl S)) 3 y = some (zsf u 61 (101 + 5 * zNl S + 3) y) := fun u y => k0 u 3 y (by omega)
  have s4 : ∀ (u : zW) (y : Int32), fX7_sets u (nI (zNl S)) 4 y = some (zsf u 61 (101 + 5 * zNl S + 4) y) := fun u y => k0 u 4 y (by omega)
  have r4 : ∀ (u : zW), zrd u 61 151 4 = some (u.1 61 4) := fun u => by rw [zL4]; exact zrd_nI (by omega) (by omega)
  have r2 : ∀ (u : zW), zrd u 61 151 2 = some (u.1 61 2) := fun u => by rw [zL2]; exact zrd_nI (by omega) (by omega)
  have w2 : ∀ (u : zW) (y : Int32), zwr u 61 151 2 y = some (zsf u 61 2 y) := fun u y => by rw [zL2]; exact zwr_nI (by omega) (by omega)
  have x4 : ∀ (u : zW) (j : Nat) (y : Int32), (zsf u 61 (101 + 5 * zNl S + j) y).1 61 4 = u.1 61 4 := fun u j y => zsf_k (by omega)
  have x2 : ∀ (u : zW) (j : Nat) (y : Int32), (zsf u 61 (101 + 5 * zNl S + j) y).1 61 2 = u.1 61 2 := fun u j y => zsf_k (by omega)
  simp only [fX7_addLetter, mx_2 h, Option.bind_some, s0, s1, s2, s3, s4, r4, x4, h.1.2.2.2.2, r2, x2, h.1.2.2.1, nI_1, w2]
theorem cx_kds (h : zCX w o S) {l : Nat} (k : Nat) (hl : l < zNl S) : zCX (zsf w (o + 5) l (nI k)) o (zS_kd S l k) := by
  have q0 : (zsf w (o + 5) l (nI k)).1 o = w.1 o := zsf_o (by omega)
  have q1 : ∀ i, i < 10 → 0 < i → i ≠ 5 → (zsf w (o + 5) l (nI k)).1 (o + i) = w.1 (o + i) := fun i hi h0 h1 => zsf_o (by omega)
  refine ⟨?_, fun v hv => ?_, fun r hr => ?_, fun m hm => ?_⟩
  · rw [q0]; exact h.1
  · rw [q0, q1 1 (by omega) (by omega) (by omega)]; exact h.2.1 v hv
  · rw [q1 2 (by omega) (by omega) (by omega), q1 3 (by omega) (by omega) (by omega), q1 4 (by omega) (by omega) (by omega)]; exact h.2.2.1 r hr
  · rw [q1 6 (by omega) (by omega) (by omega), q1 7 (by omega) (by omega) (by omega), q1 8 (by omega) (by omega) (by omega), q1 9 (by omega) (by omega) (by omega)]
    have := h.2.2.2 m hm
    by_cases e : m = l
    · subst e
      rw [zsf_same]
      have e2 : (zS_kd S m k).2.2.2.2 m = (k, (S.2.2.2.2 m).2) := by simp [zS_kd]
      unfold zKd zPl zTo zSn zLf
      rw [e2]
      exact ⟨rfl, this.2⟩
    · rw [zsf_k e]
      have e2 : (zS_kd S l k).2.2.2.2 m = S.2.2.2.2 m := by simp [zS_kd, e]
      unfold zKd zPl zTo zSn zLf
      rw [e2]
      exact this
theorem mx_kds (hS : zWf S) (h : zMX w p S) {l : Nat} (k : Nat) (hl : l < zNl S) : zMX (zsf w p (101 + 5 * l) (nI k)) p (zS_kd S l k) := by
  have hv := hS.nv
  have hr := hS.nr
  have q : ∀ j, j ≠ 101 + 5 * l → (zsf w p (101 + 5 * l) (nI k)).1 p j = w.1 p j := fun j h1 => zsf_k h1
  refine ⟨?_, fun v hv => ?_, fun r hr => ?_, fun m hm => ?_⟩
  · rw [q 0 (by omega), q 1 (by omega), q 2 (by omega), q 3 (by omega), q 4 (by omega)]; exact h.1
  · have hv2 : v < zNv S := hv
    rw [q _ (by omega), q _ (by omega)]; exact h.2.1 v hv
  · have hr2 : r < zNr S := hr
    rw [q _ (by omega), q _ (by omega), q _ (by omega)]; exact h.2.2.1 r hr
  · have := h.2.2.2 m hm
    rw [q (101 + 5 * m + 1) (by omega), q (101 + 5 * m + 2) (by omega), q (101 + 5 * m + 3) (by omega), q (101 + 5 * m + 4) (by omega)]
    by_cases e : m = l
    · subst e
      rw [zsf_same]
      have e2 : (zS_kd S m k).2.2.2.2 m = (k, (S.2.2.2.2 m).2) := by simp [zS_kd]
      unfold zKd zPl zTo zSn zLf
      rw [e2]
      exact ⟨rfl, this.2⟩
    · rw [q _ (by omega)]
      have e2 : (zS_kd S l k).2.2.2.2 m = S.2.2.2.2 m := by simp [zS_kd, e]
      unfold zKd zPl zTo zSn zLf
      rw [e2]
      exact this
theorem wf_kd (h : zWf S) {l k : Nat} (hk : k < 6) : zWf (zS_kd S l k) := by
  refine ⟨h.nv, h.nr, h.nl, h.ev, h.dy, h.ht, h.rd, h.un, fun m hm => ?_⟩
  have := h.lt m hm
  by_cases e : m = l
  · have e2 : (zS_kd S l k).2.2.2.2 m = (k, (S.2.2.2.2 m).2) := by simp [zS_kd, e]
    unfold zKd zPl zTo zSn zLf
    rw [e2]
    exact ⟨hk, this.2⟩
  · have e2 : (zS_kd S l k).2.2.2.2 m = S.2.2.2.2 m := by simp [zS_kd, e]
    unfold zKd zPl zTo zSn zLf
    rw [e2]
    exact this
end LETS
