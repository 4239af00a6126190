/-! distances, without any world: infinity is 1000000 -/
def zNV : Nat := 1000000
def zstp (D : Nat → Nat → Nat) (k : Nat) : Nat → Nat → Nat := fun a b => min (D a b) (D a k + D k b)
def zFW (D : Nat → Nat → Nat) : Nat → Nat → Nat → Nat
  | 0 => D
  | k + 1 => zstp (zFW D k) k
theorem zFW_le {D : Nat → Nat → Nat} {a b : Nat} : ∀ k, zFW D k a b ≤ D a b := by
  intro k
  induction k with
  | zero => exact Nat.le_refl _
  | succ k ih => exact Nat.le_trans (Nat.min_le_left _ _) ih
theorem zFW_0 {D : Nat → Nat → Nat} {a : Nat} (h : D a a = 0) (k : Nat) : zFW D k a a = 0 := by
  have := zFW_le (D := D) (a := a) (b := a) k
  omega
theorem zFW_tri {D : Nat → Nat → Nat} {N : Nat} (h : ∀ a, a < N → D a a = 0) : ∀ k, k ≤ N → ∀ c, c < k → ∀ a b, zFW D k a b ≤ zFW D k a c + zFW D k c b := by
  intro k
  induction k with
  | zero => intro _ c hc; omega
  | succ k ih =>
    intro hk c hc a b
    have ih := ih (by omega)
    have kk : zFW D k k k = 0 := zFW_0 (h k (by omega)) k
    show min (zFW D k a b) (zFW D k a k + zFW D k k b) ≤ min (zFW D k a c) (zFW D k a k + zFW D k k c) + min (zFW D k c b) (zFW D k c k + zFW D k k b)
    by_cases q : c = k
    · subst q
      omega
    · have h1 := ih c (by omega) a b
      have h2 := ih c (by omega) a k
      have h3 := ih c (by omega) k b
      omega
theorem zFW_bd {D : Nat → Nat → Nat} {w : Nat} (h : ∀ a b, D a b < zNV → D a b ≤ w) (h' : ∀ a b, D a b ≤ zNV) : ∀ k a b, zFW D k a b < zNV → zFW D k a b ≤ 2 ^ k * w := by
  intro k
  induction k with
  | zero => intro a b hab; rw [Nat.pow_zero, Nat.one_mul]; exact h a b hab
  | succ k ih =>
    intro a b hab
    have e : zFW D (k + 1) a b = min (zFW D k a b) (zFW D k a k + zFW D k k b) := rfl
    rw [e] at hab ⊢
    rw [Nat.pow_succ, Nat.mul_right_comm]
    by_cases q : zFW D k a b < zNV
    · have := ih a b q
      omega
    · have h1 : zFW D k a k < zNV := by omega
      have h2 : zFW D k k b < zNV := by omega
      have := ih a k h1
      have := ih k b h2
      omega
/-- a walk of m steps and d days -/
def zWk (E : Nat → Nat → Nat) (N : Nat) : Nat → Nat → Nat → Nat → Prop
  | 0, a, b, d => a = b ∧ d = 0
  | m + 1, a, b, d => ∃ c, c < N ∧ ∃ e, zWk E N m a c e ∧ E c b < zNV ∧ d = e + E c b
theorem zWk_cat {E : Nat → Nat → Nat} {N a c d : Nat} {m : Nat} (h : zWk E N m a c d) : ∀ n b e, zWk E N n c b e → zWk E N (m + n) a b (d + e) := by
  intro n
  induction n with
  | zero =>
    intro b e he
    obtain ⟨rfl, rfl⟩ := he
    exact h
  | succ n ih =>
    intro b e ⟨x, hx, f, h1, h2, h3⟩
    exact ⟨x, hx, d + f, ih x f h1, h2, by omega⟩
theorem zFW_wk {D E : Nat → Nat → Nat} {N : Nat} (h : ∀ a b, a < N → b < N → D a b < zNV → ∃ m, zWk E N m a b (D a b)) : ∀ k, k ≤ N → ∀ a b, a < N → b < N → zFW D k a b < zNV → ∃ m, zWk E N m a b (zFW D k a b) := by
  intro k
  induction k with
  | zero => intro _; exact h
  | succ k ih =>
    intro hk a b ha hb hab
    have ih := ih (by omega)
    have e : zFW D (k + 1) a b = min (zFW D k a b) (zFW D k a k + zFW D k k b) := rfl
    by_cases q : zFW D k a b ≤ zFW D k a k + zFW D k k b
    · have e : zFW D (k + 1) a b = zFW D k a b := by omega
      rw [e] at hab ⊢
      exact ih a b ha hb hab
    · have e : zFW D (k + 1) a b = zFW D k a k + zFW D k k b := by omega
      rw [e] at hab ⊢
      obtain ⟨m, hm⟩ := ih a k ha (by omega) (by omega)
      obtain ⟨n, hn⟩ := ih k b (by omega) hb (by omega)
      exact ⟨m + n, zWk_cat hm n b _ hn⟩
