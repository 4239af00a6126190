/-! new villages, roads, letters -/
section ADDS
variable {w : zW} {o p : Nat} {S : zLd}
theorem cx_av (h : zCX w o S) (x : Nat) : zCX (zsf (zsf w o 0 (nI (zNv S + 1))) (o + 1) (zNv S) (nI x)) o (zS_av S x (bt (w.1 o 2) (zNv S))) := by
  have q0 : ∀ k, k ≠ 0 → (zsf (zsf w o 0 (nI (zNv S + 1))) (o + 1) (zNv S) (nI x)).1 o k = w.1 o k := fun k hk => by rw [zsf_o (by omega), zsf_k hk]
  have q2 : ∀ i, i < 10 → 1 < i → (zsf (zsf w o 0 (nI (zNv S + 1))) (o + 1) (zNv S) (nI x)).1 (o + i) = w.1 (o + i) := fun i hi h0 => by rw [zsf_o (by omega), zsf_o (by omega)]
  refine ⟨⟨?_, ?_⟩, fun u hu => ?_, fun r hr => ?_, fun l hl => ?_⟩
  · rw [zsf_o (by omega), zsf_same]; rfl
  · rw [q0 3 (by omega), q0 9 (by omega), q0 7 (by omega), q0 8 (by omega)]; exact h.1.2
  · rw [q0 2 (by omega)]
    by_cases e : u = zNv S
    · subst e; rw [zsf_same]; simp [zS_av, zHt, zHm]
    · have hu' : u < zNv S := by have : u < zNv S + 1 := hu; omega
      rw [zsf_k e, zsf_o (by omega)]
      have := h.2.1 u hu'
      simp only [zS_av, zHt, zHm]
      rw [if_neg e, if_neg e]
      exact this
  · rw [q2 2 (by omega) (by omega), q2 3 (by omega) (by omega), q2 4 (by omega) (by omega)]; exact h.2.2.1 r hr
  · rw [q2 5 (by omega) (by omega), q2 6 (by omega) (by omega), q2 7 (by omega) (by omega), q2 8 (by omega) (by omega), q2 9 (by omega) (by omega)]; exact h.2.2.2 l hl
theorem mx_av (h : zMX w p S) (hn : zNv S < 12) (x : Nat) (b : Bool) : zMX (zsf (zsf (zsf w p (5 + 2 * zNv S) (nI x)) p (5 + 2 * zNv S + 1) (if b then 1 else 0)) p 0 (nI (zNv S + 1))) p (zS_av S x b) := by
  have q : ∀ k, k ≠ 0 → k ≠ 5 + 2 * zNv S → k ≠ 5 + 2 * zNv S + 1 → (zsf (zsf (zsf w p (5 + 2 * zNv S) (nI x)) p (5 + 2 * zNv S + 1) (if b then 1 else 0)) p 0 (nI (zNv S + 1))).1 p k = w.1 p k := fun k h1 h2 h3 => by rw [zsf_k h1, zsf_k h3, zsf_k h2]
  refine ⟨⟨zsf_same, ?_⟩, fun u hu => ?_, fun r hr => ?_, fun l hl => ?_⟩
  · rw [q 1 (by omega) (by omega) (by omega), q 2 (by omega) (by omega) (by omega), q 3 (by omega) (by omega) (by omega), q 4 (by omega) (by omega) (by omega)]; exact h.1.2
  · have hu1 : u < zNv S + 1 := hu
    by_cases e : u = zNv S
    · subst e
      rw [zsf_k (b := 5 + 2 * zNv S) (by omega), zsf_k (b := 5 + 2 * zNv S) (by omega), zsf_same, zsf_k (b := 5 + 2 * zNv S + 1) (by omega), zsf_same]
      simp [zS_av, zHt, zHm]
    · rw [q _ (by omega) (by omega) (by omega), q _ (by omega) (by omega) (by omega)]
      have e1 : zHt (zS_av S x b) u = zHt S u := if_neg e
      have e2 : zHm (zS_av S x b) u = zHm S u := if_neg e
      rw [e1, e2]
      exact h.2.1 u (by omega)
  · rw [q _ (by omega) (by omega) (by omega), q _ (by omega) (by omega) (by omega), q _ (by omega) (by omega) (by omega)]; exact h.2.2.1 r hr
  · rw [q _ (by omega) (by omega) (by omega), q _ (by omega) (by omega) (by omega), q _ (by omega) (by omega) (by omega), q _ (by omega) (by omega) (by omega), q _ (by omega) (by omega) (by omega)]; exact h.2.2.2 l hl
theorem wf_av (h : zWf S) (hn : zNv S < 12) {x : Nat} {b : Bool} (hx : x ≤ 9999) : zWf (zS_av S x b) := by
  refine ⟨by show zNv S + 1 ≤ 12; omega, h.nr, h.nl, h.ev, h.dy, fun u hu => ?_, fun r hr => ?_, h.un, fun l hl => ?_⟩
  · have hu1 : u < zNv S + 1 := hu
    show (if u = zNv S then x else zHt S u) ≤ 9999
    split
    · exact hx
    · exact h.ht u (by omega)
  · have := h.rd r hr
    exact ⟨Nat.lt_succ_of_lt this.1, Nat.lt_succ_of_lt this.2.1, this.2.2⟩
  · have := h.lt l hl
    exact ⟨this.1, Nat.lt_succ_of_lt this.2.1, Nat.lt_succ_of_lt this.2.2.1, this.2.2.2⟩
/-- a new village, in the class -/
theorem cx_addV (hS : zWf S) (h : zCX w o S) (hn : zNv S < 12) {x : Nat} (hx : x ≤ 9999) (b : Bool) : ∃ u, fX0_addVillage w o (nI x) (if b then 1 else 0) = some (nI (zNv S), u) ∧ zCX u o (zS_av S x b) ∧ zE (fun a => a = o ∨ a = o + 1) w u := by
  have h1 := cx_av h x
  have hW := wf_av (b := bt (w.1 o 2) (zNv S)) hS hn hx
  obtain ⟨y, ey, hy⟩ := cx_shm hW h1 (v := zNv S) (by show zNv S < zNv S + 1; omega) b
  have hv : fX0_villagesFull w o = some 0 := by
    unfold fX0_villagesFull
    rw [h.1.1, if_pos (by rw [zL12, nI_ltI (by omega) (by omega)]; exact hn)]
  refine ⟨zsf (zsf (zsf w o 0 (nI (zNv S + 1))) (o + 1) (zNv S) (nI x)) o 2 y, ?_, ?_, ?_⟩
  rotate_left
  · have h2 := cx_hms h1 b hy
    have e : zS_hm (zS_av S x (bt (w.1 o 2) (zNv S))) (zNv S) b = zS_av S x b := by
      unfold zS_hm zS_av
      simp only
      congr 2
      congr 1
      funext u
      split <;> rfl
    rw [e] at h2
    exact h2
  · exact ((zE.sf0 (Or.inl rfl)).trs (zE.sf0 (Or.inr rfl))).trs (zE.sf0 (Or.inl rfl))
  · have h5 : zwr (zsf w o 0 (nI (zNv S + 1))) (o + 1) 12 (nI (zNv S)) (nI x) = some (zsf (zsf w o 0 (nI (zNv S + 1))) (o + 1) (zNv S) (nI x)) := zwr_nI (by omega) (by omega)
    simp only [fX0_addVillage, hv, Option.bind_some, if_true, h.1.1, nI_1, h5, ey]
/-- a new village, in the reference -/
theorem mx_addV (h : zMX w 61 S) (hn : zNv S < 12) (x : Nat) (b : Bool) : fX7_addVillage w (nI x) (if b then 1 else 0) = some (zsf (zsf (zsf w 61 (5 + 2 * zNv S) (nI x)) 61 (5 + 2 * zNv S + 1) (if b then 1 else 0)) 61 0 (nI (zNv S + 1))) := by
  have h1 : zwr w 61 151 (nI (5 + 2 * zNv S)) (nI x) = some (zsf w 61 (5 + 2 * zNv S) (nI x)) := zwr_nI (by omega) (by omega)
  have h2 : ∀ y, zwr (zsf w 61 (5 + 2 * zNv S) (nI x)) 61 151 (nI (5 + 2 * zNv S + 1)) y = some (zsf (zsf w 61 (5 + 2 * zNv S) (nI x)) 61 (5 + 2 * zNv S + 1) y) := fun y => zwr_nI (by omega) (by omega)
  have h3 : ∀ y, zrd (zsf (zsf w 61 (5 + 2 * zNv S) (nI x)) 61 (5 + 2 * zNv S + 1) y) 61 151 0 = some (nI (zNv S)) := fun y => by rw [zL0, zrd_nI (by omega) (by omega), zsf_k (by omega), zsf_k (by omega), h.1.1]
  have h4 : ∀ y, zwr (zsf (zsf w 61 (5 + 2 * zNv S) (nI x)) 61 (5 + 2 * zNv S + 1) y) 61 151 0 (nI (zNv S + 1)) = some (zsf (zsf (zsf w 61 (5 + 2 * zNv S) (nI x)) 61 (5 + 2 * zNv S + 1) y) 61 0 (nI (zNv S + 1))) := fun y => by rw [zL0, zwr_nI (by omega) (by omega)]
  have h6 : (if (if b then (1 : Int32) else 0) = 0 then some (0 : Int32) else some 1) = some (if b then 1 else 0) := by cases b <;> rfl
  simp only [fX7_addVillage, mx_0 h, Option.bind_some, ix2, nI_1, h1, h6, h2, h3, h4]
theorem cx_ar (h : zCX w o S) (a b d : Nat) : zCX (zsf (zsf (zsf (zsf w (o + 2) (zNr S) (nI a)) (o + 3) (zNr S) (nI b)) (o + 4) (zNr S) (nI d)) o 3 (nI (zNr S + 1))) o (zS_ar S a b d) := by
  generalize hu : zsf (zsf (zsf (zsf w (o + 2) (zNr S) (nI a)) (o + 3) (zNr S) (nI b)) (o + 4) (zNr S) (nI d)) o 3 (nI (zNr S + 1)) = u
  have q0 : ∀ k, k ≠ 3 → u.1 o k = w.1 o k := fun k hk => by rw [← hu, zsf_k hk, zsf_o (by omega), zsf_o (by omega), zsf_o (by omega)]
  have q1 : ∀ i, i < 10 → 0 < i → i ≠ 2 → i ≠ 3 → i ≠ 4 → u.1 (o + i) = w.1 (o + i) := fun i hi h0 h1 h2 h3 => by rw [← hu, zsf_o (by omega), zsf_o (by omega), zsf_o (by omega), zsf_o (by omega)]
  have q2 : ∀ k, u.1 (o + 2) k = if k = zNr S then nI a else w.1 (o + 2) k := fun k => by
    rw [← hu, zsf_o (by omega), zsf_o (by omega), zsf_o (by omega)]
    split
    · rename_i e; subst e; rw [zsf_same]
    · rename_i e; rw [zsf_k e]
  have q3 : ∀ k, u.1 (o + 3) k = if k = zNr S then nI b else w.1 (o + 3) k := fun k => by
    rw [← hu, zsf_o (by omega), zsf_o (by omega)]
    split
    · rename_i e; subst e; rw [zsf_same]
    · rename_i e; rw [zsf_k e, zsf_o (by omega)]
  have q4 : ∀ k, u.1 (o + 4) k = if k = zNr S then nI d else w.1 (o + 4) k := fun k => by
    rw [← hu, zsf_o (by omega)]
    split
    · rename_i e; subst e; rw [zsf_same]
    · rename_i e; rw [zsf_k e, zsf_o (by omega), zsf_o (by omega)]
  refine ⟨⟨?_, ?_, ?_, ?_, ?_⟩, fun v hv => ?_, fun r hr => ?_, fun l hl => ?_⟩
  · rw [q0 0 (by omega)]; exact h.1.1
  · rw [← hu, zsf_same]; rfl
  · rw [q0 9 (by omega)]; exact h.1.2.2.1
  · rw [q0 7 (by omega)]; exact h.1.2.2.2.1
  · rw [q0 8 (by omega)]; exact h.1.2.2.2.2
  · rw [q0 2 (by omega), q1 1 (by omega) (by omega) (by omega) (by omega) (by omega)]; exact h.2.1 v hv
  · rw [q2, q3, q4]
    by_cases e : r = zNr S
    · simp [e, zS_ar, zOn, zOt, zLn]
    · have := h.2.2.1 r (by have : r < zNr S + 1 := hr; omega)
      simp only [e, if_false, zS_ar, zOn, zOt, zLn]
      exact this
  · rw [q1 5 (by omega) (by omega) (by omega) (by omega) (by omega), q1 6 (by omega) (by omega) (by omega) (by omega) (by omega), q1 7 (by omega) (by omega) (by omega) (by omega) (by omega), q1 8 (by omega) (by omega) (by omega) (by omega) (by omega), q1 9 (by omega) (by omega) (by omega) (by omega) (by omega)]; exact h.2.2.2 l hl
theorem mx_ar (h : zMX w p S) (hn : zNr S < 24) (hS : zWf S) (a b d : Nat) : zMX (zsf (zsf (zsf (zsf w p (29 + 3 * zNr S) (nI a)) p (29 + 3 * zNr S + 1) (nI b)) p (29 + 3 * zNr S + 2) (nI d)) p 1 (nI (zNr S + 1))) p (zS_ar S a b d) := by
  have hv := hS.nv
  generalize hu : zsf (zsf (zsf (zsf w p (29 + 3 * zNr S) (nI a)) p (29 + 3 * zNr S + 1) (nI b)) p (29 + 3 * zNr S + 2) (nI d)) p 1 (nI (zNr S + 1)) = u
  have q : ∀ k, k ≠ 1 → k ≠ 29 + 3 * zNr S → k ≠ 29 + 3 * zNr S + 1 → k ≠ 29 + 3 * zNr S + 2 → u.1 p k = w.1 p k := fun k h1 h2 h3 h4 => by rw [← hu, zsf_k h1, zsf_k h4, zsf_k h3, zsf_k h2]
  have q1 : u.1 p (29 + 3 * zNr S) = nI a := by rw [← hu, zsf_k (by omega), zsf_k (by omega), zsf_k (by omega), zsf_same]
  have q2 : u.1 p (29 + 3 * zNr S + 1) = nI b := by rw [← hu, zsf_k (by omega), zsf_k (by omega), zsf_same]
  have q3 : u.1 p (29 + 3 * zNr S + 2) = nI d := by rw [← hu, zsf_k (by omega), zsf_same]
  refine ⟨⟨?_, ?_, ?_, ?_, ?_⟩, fun v hv => ?_, fun r hr => ?_, fun l hl => ?_⟩
  · rw [q 0 (by omega) (by omega) (by omega) (by omega)]; exact h.1.1
  · rw [← hu, zsf_same]; rfl
  · rw [q 2 (by omega) (by omega) (by omega) (by omega)]; exact h.1.2.2.1
  · rw [q 3 (by omega) (by omega) (by omega) (by omega)]; exact h.1.2.2.2.1
  · rw [q 4 (by omega) (by omega) (by omega) (by omega)]; exact h.1.2.2.2.2
  · have hv2 : v < zNv S := hv
    rw [q _ (by omega) (by omega) (by omega) (by omega), q _ (by omega) (by omega) (by omega) (by omega)]; exact h.2.1 v hv
  · have hr2 : r < zNr S + 1 := hr
    by_cases e : r = zNr S
    · subst e; rw [q1, q2, q3]; simp [zS_ar, zOn, zOt, zLn]
    · rw [q _ (by omega) (by omega) (by omega) (by omega), q _ (by omega) (by omega) (by omega) (by omega), q _ (by omega) (by omega) (by omega) (by omega)]
      have := h.2.2.1 r (by omega)
      simp only [e, if_false, zS_ar, zOn, zOt, zLn]
      exact this
  · rw [q _ (by omega) (by omega) (by omega) (by omega), q _ (by omega) (by omega) (by omega) (by omega), q _ (by omega) (by omega) (by omega) (by omega), q _ (by omega) (by omega) (by omega) (by omega), q _ (by omega) (by omega) (by omega) (by omega)]; exact h.2.2.2 l hl
theorem wf_ar (h : zWf S) (hn : zNr S < 24) {a b d : Nat} (ha : a < zNv S) (hb : b < zNv S) (hab : a ≠ b) (hd : 1 ≤ d ∧ d ≤ 9) (hj : ∀ r, r < zNr S → ¬ (zOn S r = a ∧ zOt S r = b ∨ zOn S r = b ∧ zOt S r = a)) : zWf (zS_ar S a b d) := by
  have e : ∀ r, r ≠ zNr S → (zS_ar S a b d).2.2.2.1 r = S.2.2.2.1 r := fun r hr => by simp [zS_ar, hr]
  have e2 : (zS_ar S a b d).2.2.2.1 (zNr S) = (a, b, d) := by simp [zS_ar]
  refine ⟨h.nv, by show zNr S + 1 ≤ 24; omega, h.nl, h.ev, h.dy, h.ht, fun r hr => ?_, fun r q hr hq hx => ?_, h.lt⟩
  · have hr2 : r < zNr S + 1 := hr
    by_cases c : r = zNr S
    · subst c; unfold zOn zOt zLn; rw [e2]; exact ⟨ha, hb, hab, hd.1, hd.2⟩
    · unfold zOn zOt zLn; rw [e r c]; exact h.rd r (by omega)
  · have hr2 : r < zNr S + 1 := hr
    have hq2 : q < zNr S + 1 := hq
    unfold zOn zOt at hx
    by_cases c : r = zNr S
    · by_cases c2 : q = zNr S
      · omega
      · rw [c, e2, e q c2] at hx
        exact absurd (by rcases hx with ⟨x, y⟩ | ⟨x, y⟩; exact Or.inl ⟨x.symm, y.symm⟩; exact Or.inr ⟨y.symm, x.symm⟩) (hj q (by omega))
    · by_cases c2 : q = zNr S
      · rw [c2, e2, e r c] at hx
        exact absurd hx (hj r (by omega))
      · rw [e r c, e q c2] at hx
        exact h.un r q (by omega) (by omega) hx
end ADDS
