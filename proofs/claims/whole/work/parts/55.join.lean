/-! roads between two villages -/
def zJr (S : zLd) (a b r : Nat) : Prop := zOn S r = a ∧ zOt S r = b ∨ zOn S r = b ∧ zOt S r = a
theorem zJr.dec (S : zLd) (a b r : Nat) : zJr S a b r ∨ ¬ zJr S a b r := Classical.em _
section JOIN
variable {w : zW} {o : Nat} {S : zLd}
theorem cx_join_lp (hS : zWf S) (h : zCX w o S) {a b : Nat} (ha : a < zNv S) (hb : b < zNv S) : ∀ n k, k ≤ zNr S → zNr S - k < n → ((∃ r, k ≤ r ∧ r < zNr S ∧ zJr S a b r) → lpX0_areJoined_2 w o (nI a) (nI b) n (nI k) = some (.inl 1)) ∧ ((¬ ∃ r, k ≤ r ∧ r < zNr S ∧ zJr S a b r) → lpX0_areJoined_2 w o (nI a) (nI b) n (nI k) = some (.inr ())) := by
  have hn := hS.nv
  have hr := hS.nr
  intro n
  induction n with
  | zero => intro k h1 h2; omega
  | succ n ih =>
    intro k h1 h2
    by_cases hk : k = zNr S
    · subst hk
      refine ⟨fun ⟨r, q1, q2, _⟩ => by omega, fun _ => ?_⟩
      rw [lpX0_areJoined_2, h.1.2.1, if_pos (by rw [nI_leI (by omega) (by omega)]; omega)]
    · have hk' : k < zNr S := by omega
      have hrd := hS.rd k hk'
      obtain ⟨i1, i2⟩ := ih (k + 1) (by omega) (by omega)
      have hc := h.2.2.1 k hk'
      have z1 : zrd w (o + 2) 24 (nI k) = some (nI (zOn S k)) := by rw [zrd_nI (by omega) (by omega), hc.1]
      have z2 : zrd w (o + 3) 24 (nI k) = some (nI (zOt S k)) := by rw [zrd_nI (by omega) (by omega), hc.2.1]
      have p1 : (nI (zOn S k) = nI a) = (zOn S k = a) := propext (nI_eq (by omega) (by omega))
      have p2 : (nI (zOt S k) = nI b) = (zOt S k = b) := propext (nI_eq (by omega) (by omega))
      have p3 : (nI (zOn S k) = nI b) = (zOn S k = b) := propext (nI_eq (by omega) (by omega))
      have p4 : (nI (zOt S k) = nI a) = (zOt S k = a) := propext (nI_eq (by omega) (by omega))
      have e : lpX0_areJoined_2 w o (nI a) (nI b) (n + 1) (nI k) = if zOn S k = a ∧ zOt S k = b ∨ zOn S k = b ∧ zOt S k = a then some (.inl 1) else lpX0_areJoined_2 w o (nI a) (nI b) n (nI (k + 1)) := by
        rw [lpX0_areJoined_2, h.1.2.1, if_neg (by rw [nI_leI (by omega) (by omega)]; omega)]
        simp only [z1, z2, Option.bind_some, p1, p2, p3, p4, nI_1]
        by_cases c1 : zOn S k = a <;> by_cases c2 : zOt S k = b <;> by_cases c3 : zOn S k = b <;> by_cases c4 : zOt S k = a <;> first | (simp [c1, c2, c3, c4]; done) | (simp [c1, c2, c3, c4]; intros; omega)
      rw [e]
      by_cases c : zOn S k = a ∧ zOt S k = b ∨ zOn S k = b ∧ zOt S k = a
      · rw [if_pos c]
        exact ⟨fun _ => rfl, fun q => absurd ⟨k, Nat.le_refl _, hk', c⟩ q⟩
      · rw [if_neg c]
        refine ⟨fun ⟨r, q1, q2, q3⟩ => i1 ⟨r, ?_, q2, q3⟩, fun q => i2 (fun ⟨r, q1, q2, q3⟩ => q ⟨r, by omega, q2, q3⟩)⟩
        rcases Nat.lt_or_ge k r with z | z
        · omega
        · have : r = k := by omega
          subst this
          exact absurd q3 c
theorem cx_join_y (hS : zWf S) (h : zCX w o S) {a b : Nat} (ha : a < zNv S) (hb : b < zNv S) (hj : ∃ r, r < zNr S ∧ zJr S a b r) : fX0_areJoined w o (nI a) (nI b) = some 1 := by
  have hr := hS.nr
  unfold fX0_areJoined
  rw [zL0, (cx_join_lp hS h ha hb zF 0 (by omega) (by unfold zF; omega)).1 (by obtain ⟨r, q1, q2⟩ := hj; exact ⟨r, by omega, q1, q2⟩)]
  rfl
theorem cx_join_n (hS : zWf S) (h : zCX w o S) {a b : Nat} (ha : a < zNv S) (hb : b < zNv S) (hj : ¬ ∃ r, r < zNr S ∧ zJr S a b r) : fX0_areJoined w o (nI a) (nI b) = some 0 := by
  have hr := hS.nr
  unfold fX0_areJoined
  rw [zL0, (cx_join_lp hS h ha hb zF 0 (by omega) (by unfold zF; omega)).2 (fun ⟨r, _, q1, q2⟩ => hj ⟨r, q1, q2⟩)]
  rfl
theorem mx_btw_lp (hS : zWf S) (h : zMX w 61 S) {a b : Nat} (ha : a < zNv S) (hb : b < zNv S) : ∀ n k x, k ≤ zNr S → zNr S - k < n → (∀ r, k ≤ r → r < zNr S → zJr S a b r → lpX7_between_5 w (nI a) (nI b) n x (nI k) = some (nI r)) ∧ ((¬ ∃ r, k ≤ r ∧ r < zNr S ∧ zJr S a b r) → lpX7_between_5 w (nI a) (nI b) n x (nI k) = some x) := by
  have hn := hS.nv
  have hr := hS.nr
  intro n
  induction n with
  | zero => intro k x h1 h2; omega
  | succ n ih =>
    intro k x h1 h2
    by_cases hk : k = zNr S
    · subst hk
      refine ⟨fun r q1 q2 _ => by omega, fun _ => ?_⟩
      rw [lpX7_between_5, mx_1 h, Option.bind_some, if_pos (by rw [nI_leI (by omega) (by omega)]; omega)]
    · have hk' : k < zNr S := by omega
      have hrd := hS.rd k hk'
      have z1 := mx_end0 hS h hk'
      have z2 := mx_end1 hS h hk'
      have p1 : (nI (zOn S k) = nI a) = (zOn S k = a) := propext (nI_eq (by omega) (by omega))
      have p2 : (nI (zOt S k) = nI b) = (zOt S k = b) := propext (nI_eq (by omega) (by omega))
      have p3 : (nI (zOn S k) = nI b) = (zOn S k = b) := propext (nI_eq (by omega) (by omega))
      have p4 : (nI (zOt S k) = nI a) = (zOt S k = a) := propext (nI_eq (by omega) (by omega))
      have e : lpX7_between_5 w (nI a) (nI b) (n + 1) x (nI k) = lpX7_between_5 w (nI a) (nI b) n (if zOn S k = a ∧ zOt S k = b ∨ zOn S k = b ∧ zOt S k = a then nI k else x) (nI (k + 1)) := by
        rw [lpX7_between_5, mx_1 h, Option.bind_some, if_neg (by rw [nI_leI (by omega) (by omega)]; omega)]
        simp only [z1, z2, Option.bind_some, p1, p2, p3, p4, nI_1]
        by_cases c1 : zOn S k = a <;> by_cases c2 : zOt S k = b <;> by_cases c3 : zOn S k = b <;> by_cases c4 : zOt S k = a <;> first | (simp [c1, c2, c3, c4]; done) | (simp [c1, c2, c3, c4]; intros; omega)
      rw [e]
      obtain ⟨i1, i2⟩ := ih (k + 1) (if zOn S k = a ∧ zOt S k = b ∨ zOn S k = b ∧ zOt S k = a then nI k else x) (by omega) (by omega)
      by_cases c : zOn S k = a ∧ zOt S k = b ∨ zOn S k = b ∧ zOt S k = a
      · refine ⟨fun r q1 q2 q3 => ?_, fun q => absurd ⟨k, Nat.le_refl _, hk', c⟩ q⟩
        have un : ∀ r, r < zNr S → zJr S a b r → r = k := fun r hr2 hx => hS.un r k hr2 hk' (by unfold zJr at hx; omega)
        rw [un r q2 q3]
        rw [i2 (fun ⟨r2, q4, q5, q6⟩ => by have := un r2 q5 q6; omega), if_pos c]
      · rw [if_neg c] at i1 i2 ⊢
        refine ⟨fun r q1 q2 q3 => i1 r ?_ q2 q3, fun q => i2 (fun ⟨r, q1, q2, q3⟩ => q ⟨r, by omega, q2, q3⟩)⟩
        rcases Nat.lt_or_ge k r with z | z
        · omega
        · have : r = k := by omega
          subst this
          exact absurd q3 c
theorem mx_btw_y (hS : zWf S) (h : zMX w 61 S) {a b r : Nat} (ha : a < zNv S) (hb : b < zNv S) (hr : r < zNr S) (hj : zJr S a b r) : fX7_between w (nI a) (nI b) = some (nI r) := by
  have hr2 := hS.nr
  unfold fX7_between
  rw [zL0, (mx_btw_lp hS h ha hb zF 0 _ (by omega) (by unfold zF; omega)).1 r (by omega) hr hj]
  rfl
theorem mx_btw_n (hS : zWf S) (h : zMX w 61 S) {a b : Nat} (ha : a < zNv S) (hb : b < zNv S) (hj : ¬ ∃ r, r < zNr S ∧ zJr S a b r) : fX7_between w (nI a) (nI b) = some (-1) := by
  have hr2 := hS.nr
  unfold fX7_between
  rw [zL0, (mx_btw_lp hS h ha hb zF 0 _ (by omega) (by unfold zF; omega)).2 (fun ⟨r, _, q1, q2⟩ => hj ⟨r, q1, q2⟩)]
  rfl
/-- a new road -/
theorem cx_addR (hS : zWf S) (h : zCX w o S) (hn : zNr S < 24) (a b d : Nat) : fX0_addRoad w o (nI a) (nI b) (nI d) = some (nI (zNr S), zsf (zsf (zsf (zsf w (o + 2) (zNr S) (nI a)) (o + 3) (zNr S) (nI b)) (o + 4) (zNr S) (nI d)) o 3 (nI (zNr S + 1))) := by
  have hf : fX0_roadsFull w o = some 0 := by
    unfold fX0_roadsFull
    rw [h.1.2.1, if_pos (by rw [zL24, nI_ltI (by omega) (by omega)]; exact hn)]
  have k1 : ∀ (u : zW) (q : Nat) (y : Int32), zwr u q 24 (nI (zNr S)) y = some (zsf u q (zNr S) y) := fun u q y => zwr_nI (by omega) (by omega)
  have k2 : ∀ (u : zW) (j : Nat) (y : Int32), 0 < j → (zsf u (o + j) (zNr S) y).1 o 3 = u.1 o 3 := fun u j y hj => by rw [zsf_o (by omega)]
  simp only [fX0_addRoad, hf, Option.bind_some, if_true, h.1.2.1, k1, k2 _ 2 _ (by omega), k2 _ 3 _ (by omega), k2 _ 4 _ (by omega), nI_1]
theorem mx_addR (h : zMX w 61 S) (hn : zNr S < 24) (a b d : Nat) : fX7_addRoad w (nI a) (nI b) (nI d) = some (zsf (zsf (zsf (zsf w 61 (29 + 3 * zNr S) (nI a)) 61 (29 + 3 * zNr S + 1) (nI b)) 61 (29 + 3 * zNr S + 2) (nI d)) 61 1 (nI (zNr S + 1))) := by
  have k1 : ∀ (u : zW) (y : Int32), zwr u 61 151 (nI (29 + 3 * zNr S)) y = some (zsf u 61 (29 + 3 * zNr S) y) := fun u y => zwr_nI (by omega) (by omega)
  have k2 : ∀ (u : zW) (y : Int32), zwr u 61 151 (nI (29 + 3 * zNr S + 1)) y = some (zsf u 61 (29 + 3 * zNr S + 1) y) := fun u y => zwr_nI (by omega) (by omega)
  have k3 : ∀ (u : zW) (y : Int32), zwr u 61 151 (nI (29 + 3 * zNr S) + 2) y = some (zsf u 61 (29 + 3 * zNr S + 2) y) := fun u y => by rw [zL2, nI_add]; exact zwr_nI (by omega) (by omega)
  have k4 : zrd (zsf (zsf (zsf w 61 (29 + 3 * zNr S) (nI a)) 61 (29 + 3 * zNr S + 1) (nI b)) 61 (29 + 3 * zNr S + 2) (nI d)) 61 151 1 = some (nI (zNr S)) := by
    rw [zL1, zrd_nI (by omega) (by omega), zsf_k (by omega), zsf_k (by omega), zsf_k (by omega), h.1.2.1]
  have k5 : ∀ (u : zW) (y : Int32), zwr u 61 151 1 y = some (zsf u 61 1 y) := fun u y => by rw [zL1]; exact zwr_nI (by omega) (by omega)
  simp only [fX7_addRoad, mx_1 h, Option.bind_some, ix3, nI_1, k1, k2, k3, k4, k5]
end JOIN
theorem h12 : ∀ j, j < 24 → ¬ (nI j : Int32) < 0 := by decide +kernel
