/-! kinds of post -/
def zNd (k d : Nat) : Nat := if k = 1 then (d + 1) / 2 else if k = 2 ∨ k = 4 then 2 * d else if k = 3 ∨ k = 5 then d + 1 else d
theorem cx_nd0 : ∀ k, k < 6 → ∀ d, d < 10 → fX2_daysFor zw0 (nI k) (nI d) = some (nI (zNd k d)) := by decide +kernel
theorem cx_nd (w : zW) {k d : Nat} (hk : k < 6) (hd : d < 10) : fX2_daysFor w (nI k) (nI d) = some (nI (zNd k d)) := cx_nd0 k hk d hd
theorem mx_nd (w : zW) {k d : Nat} (hk : k < 6) (hd : d < 10) : fX7_needsOf w (nI k) (nI d) = some (nI (zNd k d)) := cx_nd0 k hk d hd
theorem cx_un_w (w : zW) (p : Int32) : ∀ n x y, lpX2_isUnder_4 w p n x y = lpX2_isUnder_4 zw0 p n x y := by
  intro n
  induction n with
  | zero => intro x y; rfl
  | succ n ih => intro x y; rw [lpX2_isUnder_4, lpX2_isUnder_4]; simp only [ih]
theorem cx_un_m (p : Int32) : ∀ n m x y r, lpX2_isUnder_4 zw0 p n x y = some r → n ≤ m → lpX2_isUnder_4 zw0 p m x y = some r := by
  intro n
  induction n with
  | zero => intro m x y r h; simp [lpX2_isUnder_4] at h
  | succ n ih =>
    intro m x y r h hm
    cases m with
    | zero => omega
    | succ m =>
      rw [lpX2_isUnder_4] at h ⊢
      by_cases c1 : (6 : Int32) ≤ y
      · rw [if_pos c1] at h ⊢; exact h
      rw [if_neg c1] at h ⊢
      by_cases c2 : x < 0
      · rw [if_pos c2] at h ⊢; exact h
      rw [if_neg c2] at h ⊢
      by_cases c3 : (6 : Int32) ≤ x
      · rw [if_pos c3] at h ⊢; exact h
      rw [if_neg c3] at h ⊢
      by_cases c4 : x = p
      · rw [if_pos c4] at h ⊢; exact h
      rw [if_neg c4] at h ⊢
      obtain ⟨v, e, h⟩ := zbind h
      rw [e, Option.bind_some]
      exact ih m _ _ _ h (by omega)
/-- is kind k one under a -/
def zUn (k a : Nat) : Bool := a == 0 || a == k || (a == 2 && k == 4) || (a == 3 && k == 5)
theorem cx_un0 : ∀ k, k < 6 → ∀ a, a < 6 → lpX2_isUnder_4 zw0 (nI a) 9 (nI k) 0 = some (if zUn k a then .inl 1 else .inr ()) := by decide +kernel
theorem cx_un (w : zW) {k a : Nat} (hk : k < 6) (ha : a < 6) : fX2_isUnder w (nI k) (nI a) = some (if zUn k a then 1 else 0) := by
  unfold fX2_isUnder
  rw [cx_un_w, cx_un_m _ 9 zF _ _ _ (cx_un0 k hk a ha) (by unfold zF; omega)]
  cases zUn k a <;> rfl
theorem mx_un0 : ∀ k, k < 6 → ∀ a, a < 6 → fX7_isUnder zw0 (nI k) (nI a) = some (if zUn k a then 1 else 0) := by decide +kernel
theorem mx_un (w : zW) {k a : Nat} (hk : k < 6) (ha : a < 6) : fX7_isUnder w (nI k) (nI a) = some (if zUn k a then 1 else 0) := mx_un0 k hk a ha
def zDr (k : Nat) : Nat := if k = 3 ∨ k = 5 then 0 else 1
theorem cx_dr (w : zW) {k : Nat} (hk : k < 6) : fX2_leastDrop w (nI k) = some (nI (zDr k)) := by
  unfold fX2_leastDrop
  rw [zL3, cx_un w hk (by omega), Option.bind_some]
  have e : ∀ k, k < 6 → (if (if zUn k 3 then (1 : Int32) else 0) = 0 then some (1 : Int32) else some 0) = some (nI (zDr k)) := by decide +kernel
  exact e k hk
/-- post of kind k is taken in by village b -/
def zTk (S : zLd) (k b : Nat) : Bool := k != 4 || !zHm S b
/-- post of kind k goes by a road from a to b -/
def zGo (S : zLd) (k a b : Nat) : Bool := zTk S k b && decide (zHt S b + zDr k ≤ zHt S a)
section KINDS
variable {w : zW} {o : Nat} {S : zLd}
theorem cx_tk (hS : zWf S) (h : zCX w o S) {k b : Nat} (hk : k < 6) (hb : b < zNv S) : fX0_takes w o (nI k) (nI b) = some (if zTk S k b then 1 else 0) := by
  unfold fX0_takes
  rw [cx_hm hS h hb]
  have p : (nI k = 4) = (k = 4) := propext (by rw [zL4]; exact nI_eq (by omega) (by omega))
  simp only [p, Option.bind_some]
  unfold zTk
  by_cases c : k = 4
  · subst c
    cases zHm S b <;> rfl
  · have : (k != 4) = true := by simp [c]
    simp [c]
theorem cx_go (hS : zWf S) (h : zCX w o S) {k a b : Nat} (hk : k < 6) (ha : a < zNv S) (hb : b < zNv S) : fX0_carries w o (nI k) (nI a) (nI b) = some (if zGo S k a b then 1 else 0) := by
  have x1 := hS.ht a ha
  have x2 := hS.ht b hb
  have x3 : zDr k ≤ 1 := by unfold zDr; split <;> omega
  unfold fX0_carries
  rw [cx_tk hS h hk hb, Option.bind_some, cx_ht hS h ha, cx_ht hS h hb, cx_dr w hk]
  simp only [Option.bind_some]
  have p : (nI (zHt S a) - nI (zHt S b) < nI (zDr k)) = ¬ (zHt S b + zDr k ≤ zHt S a) := propext (by
    rw [Int32.lt_iff_toInt_lt, pk_sub_toInt (by omega) (by omega), nI_toInt (by omega)]
    omega)
  simp only [p]
  unfold zGo
  cases zTk S k b
  · rfl
  · by_cases c : zHt S b + zDr k ≤ zHt S a <;> simp [c]
theorem mx_go (hS : zWf S) (h : zMX w 61 S) {k a b : Nat} (hk : k < 6) (ha : a < zNv S) (hb : b < zNv S) : fX7_goesDown w (nI k) (nI a) (nI b) = some (if zGo S k a b then 1 else 0) := by
  have x1 := hS.ht a ha
  have x2 := hS.ht b hb
  have p3 : (nI k = 3) = (k = 3) := propext (by rw [zL3]; exact nI_eq (by omega) (by omega))
  have p5 : (nI k = 5) = (k = 5) := propext (by rw [zL5]; exact nI_eq (by omega) (by omega))
  have p4 : (nI k = 4) = (k = 4) := propext (by rw [zL4]; exact nI_eq (by omega) (by omega))
  have q1 : (nI (zHt S b) < nI (zHt S a)) = (zHt S b < zHt S a) := propext (nI_ltI (by omega) (by omega))
  have q2 : (nI (zHt S b) = nI (zHt S a)) = (zHt S b = zHt S a) := propext (nI_eq (by omega) (by omega))
  unfold fX7_goesDown
  simp only [mx_ht hS h ha, mx_ht hS h hb, mx_hm hS h hb, Option.bind_some, p3, p4, p5, q1, q2]
  unfold zGo zTk zDr
  by_cases c1 : zHt S b < zHt S a
  · by_cases c3 : k = 3
    · subst c3
      have : zHt S b + 0 ≤ zHt S a := by omega
      simp [c1]; omega
    · by_cases c5 : k = 5
      · subst c5
        simp [c1]; omega
      · by_cases c4 : k = 4
        · subst c4
          cases zHm S b <;> simp [c1] <;> omega
        · simp [c1, c3, c4, c5]; omega
  · by_cases c2 : zHt S b = zHt S a
    · by_cases c3 : k = 3
      · subst c3
        simp [c2]
      · by_cases c5 : k = 5
        · subst c5
          simp [c2]
        · simp [c2, c3, c5]
    · have c6 : ¬ zHt S b ≤ zHt S a := by omega
      have c7 : ¬ zHt S b + 1 ≤ zHt S a := by omega
      by_cases c3 : k = 3
      · subst c3
        simp [c1, c2, c6]
      · by_cases c5 : k = 5
        · subst c5
          simp [c1, c2, c6]
        · simp [c1, c2, c3, c5, c7]
end KINDS
