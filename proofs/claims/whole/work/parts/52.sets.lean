/-! a land with one thing changed -/
def zS_ev (S : zLd) (j : Nat) : zLd := ((S.1.1, S.1.2.1, S.1.2.2.1, j, S.1.2.2.2.2), S.2)
def zS_dy (S : zLd) (j : Nat) : zLd := ((S.1.1, S.1.2.1, S.1.2.2.1, S.1.2.2.2.1, j), S.2)
def zS_ht (S : zLd) (v h : Nat) : zLd := (S.1, (fun x => if x = v then h else S.2.1 x), S.2.2)
def zS_hm (S : zLd) (v : Nat) (b : Bool) : zLd := (S.1, S.2.1, (fun x => if x = v then b else S.2.2.1 x), S.2.2.2)
def zS_av (S : zLd) (h : Nat) (b : Bool) : zLd := ((S.1.1 + 1, S.1.2), (fun x => if x = S.1.1 then h else S.2.1 x), (fun x => if x = S.1.1 then b else S.2.2.1 x), S.2.2.2)
def zS_ar (S : zLd) (a b d : Nat) : zLd := ((S.1.1, S.1.2.1 + 1, S.1.2.2), S.2.1, S.2.2.1, (fun x => if x = S.1.2.1 then (a, b, d) else S.2.2.2.1 x), S.2.2.2.2)
def zS_al (S : zLd) (k a t : Nat) : zLd := ((S.1.1, S.1.2.1, S.1.2.2.1 + 1, S.1.2.2.2), S.2.1, S.2.2.1, S.2.2.2.1, (fun x => if x = S.1.2.2.1 then (k, a, t, zDy S, 0) else S.2.2.2.2 x))
def zS_kd (S : zLd) (l k : Nat) : zLd := (S.1, S.2.1, S.2.2.1, S.2.2.2.1, (fun x => if x = l then (k, (S.2.2.2.2 l).2) else S.2.2.2.2 x))
def zS_at (S : zLd) (l a f : Nat) : zLd := (S.1, S.2.1, S.2.2.1, S.2.2.2.1, (fun x => if x = l then (zKd S l, a, zTo S l, zSn S l, f) else S.2.2.2.2 x))
section SETS
variable {w : zW} {o p : Nat} {S : zLd}
theorem cx_ev (h : zCX w o S) (j : Nat) : zCX (zsf w o 7 (nI j)) o (zS_ev S j) := by
  have q : ∀ a b, b ≠ 7 → (zsf w o 7 (nI j)).1 a b = w.1 a b := fun a b h => zsf_k h
  have q2 : ∀ i, i < 10 → 0 < i → (zsf w o 7 (nI j)).1 (o + i) = w.1 (o + i) := fun i hi h0 => zsf_o (by omega)
  refine ⟨⟨?_, ?_, ?_, zsf_same, ?_⟩, fun v hv => ?_, fun r hr => ?_, fun l hl => ?_⟩
  · rw [q _ _ (by omega)]; exact h.1.1
  · rw [q _ _ (by omega)]; exact h.1.2.1
  · rw [q _ _ (by omega)]; exact h.1.2.2.1
  · rw [q _ _ (by omega)]; exact h.1.2.2.2.2
  · rw [q _ 2 (by omega), q2 1 (by omega) (by omega)]; exact h.2.1 v hv
  · rw [q2 2 (by omega) (by omega), q2 3 (by omega) (by omega), q2 4 (by omega) (by omega)]; exact h.2.2.1 r hr
  · rw [q2 5 (by omega) (by omega), q2 6 (by omega) (by omega), q2 7 (by omega) (by omega), q2 8 (by omega) (by omega), q2 9 (by omega) (by omega)]; exact h.2.2.2 l hl
theorem cx_dy (h : zCX w o S) (j : Nat) : zCX (zsf w o 8 (nI j)) o (zS_dy S j) := by
  have q : ∀ a b, b ≠ 8 → (zsf w o 8 (nI j)).1 a b = w.1 a b := fun a b h => zsf_k h
  have q2 : ∀ i, i < 10 → 0 < i → (zsf w o 8 (nI j)).1 (o + i) = w.1 (o + i) := fun i hi h0 => zsf_o (by omega)
  refine ⟨⟨?_, ?_, ?_, ?_, zsf_same⟩, fun v hv => ?_, fun r hr => ?_, fun l hl => ?_⟩
  · rw [q _ _ (by omega)]; exact h.1.1
  · rw [q _ _ (by omega)]; exact h.1.2.1
  · rw [q _ _ (by omega)]; exact h.1.2.2.1
  · rw [q _ _ (by omega)]; exact h.1.2.2.2.1
  · rw [q _ 2 (by omega), q2 1 (by omega) (by omega)]; exact h.2.1 v hv
  · rw [q2 2 (by omega) (by omega), q2 3 (by omega) (by omega), q2 4 (by omega) (by omega)]; exact h.2.2.1 r hr
  · rw [q2 5 (by omega) (by omega), q2 6 (by omega) (by omega), q2 7 (by omega) (by omega), q2 8 (by omega) (by omega), q2 9 (by omega) (by omega)]; exact h.2.2.2 l hl
theorem cx_hts (h : zCX w o S) (v x : Nat) : zCX (zsf w (o + 1) v (nI x)) o (zS_ht S v x) := by
  have q0 : (zsf w (o + 1) v (nI x)).1 o = w.1 o := zsf_o (by omega)
  have q2 : ∀ i, i < 10 → 1 < i → (zsf w (o + 1) v (nI x)).1 (o + i) = w.1 (o + i) := fun i hi h0 => zsf_o (by omega)
  refine ⟨?_, fun u hu => ?_, fun r hr => ?_, fun l hl => ?_⟩
  · rw [q0]; exact h.1
  · rw [q0]
    refine ⟨?_, (h.2.1 u hu).2⟩
    by_cases e : u = v
    · subst e; rw [zsf_same]; simp [zS_ht, zHt]
    · rw [zsf_k e, (h.2.1 u hu).1]; simp [zS_ht, zHt, e]
  · rw [q2 2 (by omega) (by omega), q2 3 (by omega) (by omega), q2 4 (by omega) (by omega)]; exact h.2.2.1 r hr
  · rw [q2 5 (by omega) (by omega), q2 6 (by omega) (by omega), q2 7 (by omega) (by omega), q2 8 (by omega) (by omega), q2 9 (by omega) (by omega)]; exact h.2.2.2 l hl
theorem mx_ev (h : zMX w p S) (j : Nat) : zMX (zsf w p 3 (nI j)) p (zS_ev S j) := by
  have q : ∀ b, b ≠ 3 → (zsf w p 3 (nI j)).1 p b = w.1 p b := fun b h => zsf_k h
  refine ⟨⟨?_, ?_, ?_, zsf_same, ?_⟩, fun v hv => ?_, fun r hr => ?_, fun l hl => ?_⟩
  · rw [q _ (by omega)]; exact h.1.1
  · rw [q _ (by omega)]; exact h.1.2.1
  · rw [q _ (by omega)]; exact h.1.2.2.1
  · rw [q _ (by omega)]; exact h.1.2.2.2.2
  · rw [q _ (by omega), q _ (by omega)]; exact h.2.1 v hv
  · rw [q _ (by omega), q _ (by omega), q _ (by omega)]; exact h.2.2.1 r hr
  · rw [q _ (by omega), q _ (by omega), q _ (by omega), q _ (by omega), q _ (by omega)]; exact h.2.2.2 l hl
theorem mx_dy (h : zMX w p S) (j : Nat) : zMX (zsf w p 4 (nI j)) p (zS_dy S j) := by
  have q : ∀ b, b ≠ 4 → (zsf w p 4 (nI j)).1 p b = w.1 p b := fun b h => zsf_k h
  refine ⟨⟨?_, ?_, ?_, ?_, zsf_same⟩, fun v hv => ?_, fun r hr => ?_, fun l hl => ?_⟩
  · rw [q _ (by omega)]; exact h.1.1
  · rw [q _ (by omega)]; exact h.1.2.1
  · rw [q _ (by omega)]; exact h.1.2.2.1
  · rw [q _ (by omega)]; exact h.1.2.2.2.1
  · rw [q _ (by omega), q _ (by omega)]; exact h.2.1 v hv
  · rw [q _ (by omega), q _ (by omega), q _ (by omega)]; exact h.2.2.1 r hr
  · rw [q _ (by omega), q _ (by omega), q _ (by omega), q _ (by omega), q _ (by omega)]; exact h.2.2.2 l hl
theorem mx_hts (hS : zWf S) (h : zMX w p S) {v : Nat} (x : Nat) (hv : v < zNv S) : zMX (zsf w p (5 + 2 * v) (nI x)) p (zS_ht S v x) := by
  have hn := hS.nv
  have q : ∀ b, b ≠ 5 + 2 * v → (zsf w p (5 + 2 * v) (nI x)).1 p b = w.1 p b := fun b h => zsf_k h
  refine ⟨?_, fun u hu => ?_, fun r hr => ?_, fun l hl => ?_⟩
  · rw [q 0 (by omega), q 1 (by omega), q 2 (by omega), q 3 (by omega), q 4 (by omega)]; exact h.1
  · rw [q (5 + 2 * u + 1) (by omega)]
    refine ⟨?_, (h.2.1 u hu).2⟩
    by_cases e : u = v
    · subst e; rw [zsf_same]; simp [zS_ht, zHt]
    · rw [q _ (by omega), (h.2.1 u hu).1]; simp [zS_ht, zHt, e]
  · rw [q _ (by omega), q _ (by omega), q _ (by omega)]; exact h.2.2.1 r hr
  · rw [q _ (by omega), q _ (by omega), q _ (by omega), q _ (by omega), q _ (by omega)]; exact h.2.2.2 l hl
theorem mx_hms (hS : zWf S) (h : zMX w p S) {v : Nat} (b : Bool) (hv : v < zNv S) : zMX (zsf w p (5 + 2 * v + 1) (if b then 1 else 0)) p (zS_hm S v b) := by
  have hn := hS.nv
  have q : ∀ k, k ≠ 5 + 2 * v + 1 → (zsf w p (5 + 2 * v + 1) (if b then 1 else 0)).1 p k = w.1 p k := fun k h => zsf_k h
  refine ⟨?_, fun u hu => ?_, fun r hr => ?_, fun l hl => ?_⟩
  · rw [q 0 (by omega), q 1 (by omega), q 2 (by omega), q 3 (by omega), q 4 (by omega)]; exact h.1
  · rw [q (5 + 2 * u) (by omega)]
    refine ⟨(h.2.1 u hu).1, ?_⟩
    by_cases e : u = v
    · subst e; rw [zsf_same]; simp [zS_hm, zHm]
    · rw [q _ (by omega), (h.2.1 u hu).2]; simp [zS_hm, zHm, e]
  · rw [q _ (by omega), q _ (by omega), q _ (by omega)]; exact h.2.2.1 r hr
  · rw [q _ (by omega), q _ (by omega), q _ (by omega), q _ (by omega), q _ (by omega)]; exact h.2.2.2 l hl
theorem cx_hms (h : zCX w o S) {v : Nat} (b : Bool) {x : Int32} (hx : ∀ u, u < zNv S → bt x u = if u = v then b else bt (w.1 o 2) u) : zCX (zsf w o 2 x) o (zS_hm S v b) := by
  have q : ∀ a k, k ≠ 2 → (zsf w o 2 x).1 a k = w.1 a k := fun a k h => zsf_k h
  have q2 : ∀ i, i < 10 → 0 < i → (zsf w o 2 x).1 (o + i) = w.1 (o + i) := fun i hi h0 => zsf_o (by omega)
  refine ⟨?_, fun u hu => ?_, fun r hr => ?_, fun l hl => ?_⟩
  · rw [q o 0 (by omega), q o 3 (by omega), q o 9 (by omega), q o 7 (by omega), q o 8 (by omega)]; exact h.1
  · rw [q2 1 (by omega) (by omega), zsf_same]
    refine ⟨(h.2.1 u hu).1, ?_⟩
    rw [hx u hu]
    by_cases e : u = v
    · simp [zS_hm, zHm, e]
    · simp only [e, if_false, zS_hm, zHm]; exact (h.2.1 u hu).2
  · rw [q2 2 (by omega) (by omega), q2 3 (by omega) (by omega), q2 4 (by omega) (by omega)]; exact h.2.2.1 r hr
  · rw [q2 5 (by omega) (by omega), q2 6 (by omega) (by omega), q2 7 (by omega) (by omega), q2 8 (by omega) (by omega), q2 9 (by omega) (by omega)]; exact h.2.2.2 l hl
theorem wf_ev (h : zWf S) {j : Nat} (h1 : 1 ≤ j) (h2 : j ≤ 99) : zWf (zS_ev S j) := ⟨h.1, h.2.1, h.2.2.1, ⟨h1, h2⟩, h.2.2.2.2⟩
theorem wf_dy (h : zWf S) {j : Nat} (h1 : j ≤ 9999) : zWf (zS_dy S j) := ⟨h.1, h.2.1, h.2.2.1, h.2.2.2.1, h1, h.2.2.2.2.2⟩
theorem wf_ht (h : zWf S) {v x : Nat} (h1 : x ≤ 9999) : zWf (zS_ht S v x) := ⟨h.1, h.2.1, h.2.2.1, h.2.2.2.1, h.2.2.2.2.1, fun u hu => by
  show (if u = v then x else zHt S u) ≤ 9999
  split
  · exact h1
  · exact h.ht u hu, h.2.2.2.2.2.2⟩
theorem wf_hm (h : zWf S) {v : Nat} {b : Bool} : zWf (zS_hm S v b) := h
end SETS
