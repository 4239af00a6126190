/-! loops that count from k up to N -/
def zfl {α : Type} (g : Nat → α → α) : Nat → Nat → α → α
  | _, 0, a => a
  | k, m + 1, a => zfl g (k + 1) m (g k a)
theorem zfl_last {α : Type} (g : Nat → α → α) : ∀ m k a, zfl g k (m + 1) a = g (k + m) (zfl g k m a) := by
  intro m
  induction m with
  | zero => intro k a; rfl
  | succ m ih => intro k a; rw [zfl, ih (k + 1), zfl, show k + 1 + m = k + (m + 1) by omega]
theorem zfl_inv {α : Type} {g : Nat → α → α} (P : Nat → α → Prop) {N : Nat} (hs : ∀ k a, k < N → P k a → P (k + 1) (g k a)) : ∀ m k a, k + m ≤ N → P k a → P (k + m) (zfl g k m a) := by
  intro m
  induction m with
  | zero => intro k a _ h; exact h
  | succ m ih => intro k a hk h; rw [show k + (m + 1) = k + 1 + m by omega]; exact ih (k + 1) (g k a) (by omega) (hs k a (by omega) h)
theorem zfold {α : Type} {L : Nat → Int32 → Int32 → Option Int32} {N : Nat} {c : α → Int32} {g : Nat → α → α} (P : Nat → α → Prop) (hend : ∀ n a, P N a → L (n + 1) (c a) (nI N) = some (c a)) (hs : ∀ k a, k < N → P k a → P (k + 1) (g k a)) (hstep : ∀ n k a, k < N → P k a → L (n + 1) (c a) (nI k) = L n (c (g k a)) (nI (k + 1))) : ∀ n k a, k ≤ N → N - k < n → P k a → L n (c a) (nI k) = some (c (zfl g k (N - k) a)) := by
  intro n
  induction n with
  | zero => intro k a h1 h2; omega
  | succ n ih =>
    intro k a h1 h2 hP
    by_cases hk : k = N
    · subst hk
      rw [hend n a hP, Nat.sub_self]
      rfl
    · rw [hstep n k a (by omega) hP, ih (k + 1) (g k a) (by omega) (by omega) (hs k a (by omega) hP), show N - k = (N - (k + 1)) + 1 by omega]
      rfl
/-! sets by bits -/
def zst (P : Nat → Bool) : Nat → Nat
  | 0 => 0
  | n + 1 => zst P n + (if P n then 2 ^ n else 0)
theorem zst_lt (P : Nat → Bool) : ∀ n, zst P n < 2 ^ n := by
  intro n
  induction n with
  | zero => simp [zst]
  | succ n ih =>
    unfold zst
    rw [Nat.pow_succ]
    split <;> omega
theorem zst_cong {P Q : Nat → Bool} : ∀ n, (∀ i, i < n → P i = Q i) → zst P n = zst Q n := by
  intro n
  induction n with
  | zero => intro _; rfl
  | succ n ih => intro h; unfold zst; rw [ih (fun i hi => h i (by omega)), h n (by omega)]
theorem zst_or (P : Nat → Bool) (n : Nat) : zst P n + 2 ^ n = zst P n ||| 2 ^ n := by
  have := Nat.two_pow_add_eq_or_of_lt (zst_lt P n) 1
  rw [Nat.mul_one] at this
  rw [Nat.add_comm, this, Nat.or_comm]
theorem zst_bit (P : Nat → Bool) : ∀ n i, (zst P n).testBit i = (decide (i < n) && P i) := by
  intro n
  induction n with
  | zero => intro i; simp [zst]
  | succ n ih =>
    intro i
    unfold zst
    by_cases hp : P n
    · rw [if_pos hp, zst_or, Nat.testBit_or, ih i, Nat.testBit_two_pow]
      by_cases c : i = n
      · subst c; simp [hp]
      · by_cases d : i < n
        · simp [d, show i < n + 1 by omega, show ¬ n = i by omega]
        · simp [d, show ¬ i < n + 1 by omega, show ¬ n = i by omega]
    · rw [if_neg hp, Nat.add_zero, ih i]
      by_cases c : i = n
      · subst c; simp [hp]
      · by_cases d : i < n
        · simp [d, show i < n + 1 by omega]
        · simp [d, show ¬ i < n + 1 by omega]
theorem nx_or (a b : Nat) : nI a ||| nI b = nI (a ||| b) := by
  apply Int32.toBitVec_inj.mp
  rw [Int32.toBitVec_or]
  show BitVec.ofNat 32 a ||| BitVec.ofNat 32 b = BitVec.ofNat 32 (a ||| b)
  apply BitVec.eq_of_getLsbD_eq
  intro i hi
  simp [BitVec.getLsbD_or, BitVec.getLsbD_ofNat, hi]
theorem zpw : ∀ n, n < 31 → (1 : Int32) <<< (nI n &&& 31) = nI (2 ^ n) := by decide +kernel
theorem zst_set {P : Nat → Bool} {n : Nat} (hn : n < 31) (hp : P n = true) : nI (zst P n) ||| ((1 : Int32) <<< (nI n &&& 31)) = nI (zst P (n + 1)) := by
  rw [zpw n hn, nx_or, ← zst_or]
  simp [zst, hp]
theorem zst_non {P : Nat → Bool} {n : Nat} (hp : P n = false) : zst P (n + 1) = zst P n := by simp [zst, hp]
theorem bt_nI {m i : Nat} (hi : i < 32) : bt (nI m) i = m.testBit i := by
  unfold bt
  show (BitVec.ofNat 32 m).getLsbD i = _
  rw [BitVec.getLsbD_ofNat]
  simp [hi]
/-- asking a set -/
theorem mx_has {w : zW} {m v : Nat} (hv : v < 32) : fX7_has w (nI m) (nI v) = some (if m.testBit v then 1 else 0) := by
  unfold fX7_has
  rw [bt_sh hv, bt_nI hv]
  cases m.testBit v <;> rfl
/-- how many bits -/
def zpc (m : Nat) : Nat → Nat
  | 0 => 0
  | n + 1 => zpc m n + (if m.testBit n then 1 else 0)
theorem mx_ones_w (w : zW) : ∀ n x y, lpX7_ones_4 w n x y = lpX7_ones_4 zw0 n x y := by
  intro n
  induction n with
  | zero => intro x y; rfl
  | succ n ih => intro x y; rw [lpX7_ones_4, lpX7_ones_4]; simp only [ih]
theorem mx_ones_m : ∀ n m x y r, lpX7_ones_4 zw0 n x y = some r → n ≤ m → lpX7_ones_4 zw0 m x y = some r := by
  intro n
  induction n with
  | zero => intro m x y r h; simp [lpX7_ones_4] at h
  | succ n ih =>
    intro m x y r h hm
    cases m with
    | zero => omega
    | succ m =>
      rw [lpX7_ones_4] at h ⊢
      by_cases c : y = 0
      · rw [if_pos c] at h ⊢; exact h
      rw [if_neg c] at h ⊢
      rw [Option.bind_some] at h ⊢
      exact ih m _ _ _ h (by omega)
theorem mx_ones00 : ∀ a, a < 64 → ∀ b, b < 64 → lpX7_ones_4 zw0 14 0 (nI (64 * a + b)) = some (nI (zpc (64 * a + b) 12)) := by decide +kernel
theorem mx_ones0 : ∀ m, m < 4096 → lpX7_ones_4 zw0 14 0 (nI m) = some (nI (zpc m 12)) := by
  intro m hm
  have := mx_ones00 (m / 64) (by omega) (m % 64) (by omega)
  rw [show 64 * (m / 64) + m % 64 = m by omega] at this
  exact this
theorem mx_ones (w : zW) {m : Nat} (hm : m < 4096) : fX7_ones w (nI m) = some (nI (zpc m 12)) := by
  unfold fX7_ones
  rw [mx_ones_w, mx_ones_m 14 zF _ _ _ (mx_ones0 m hm) (by unfold zF; omega)]
  rfl
theorem cx_bits00 : ∀ a, a < 64 → ∀ b, b < 64 → fJ6_bitCount_0f7a4 zw0 (nI (64 * a + b)) = some (nI (zpc (64 * a + b) 12)) := by decide +kernel
theorem cx_bits0 : ∀ m, m < 4096 → fJ6_bitCount_0f7a4 zw0 (nI m) = some (nI (zpc m 12)) := by
  intro m hm
  have := cx_bits00 (m / 64) (by omega) (m % 64) (by omega)
  rw [show 64 * (m / 64) + m % 64 = m by omega] at this
  exact this
theorem cx_bits (w : zW) {m : Nat} (hm : m < 4096) : fJ6_bitCount_0f7a4 w (nI m) = some (nI (zpc m 12)) := cx_bits0 m hm
theorem zpc_le (m : Nat) : ∀ n, zpc m n ≤ n := by
  intro n
  induction n with
  | zero => exact Nat.le_refl 0
  | succ n ih => unfold zpc; split <;> omega
/-- how many of the first n -/
def zct (P : Nat → Bool) : Nat → Nat
  | 0 => 0
  | n + 1 => zct P n + (if P n then 1 else 0)
theorem zct_le (P : Nat → Bool) : ∀ n, zct P n ≤ n := by
  intro n
  induction n with
  | zero => exact Nat.le_refl 0
  | succ n ih => unfold zct; split <;> omega
theorem zpc_zst (P : Nat → Bool) (n : Nat) : ∀ k, zpc (zst P n) k = zct (fun i => decide (i < n) && P i) k := by
  intro k
  induction k with
  | zero => rfl
  | succ k ih => unfold zpc zct; rw [ih, zst_bit]
theorem zct_cut (P : Nat → Bool) {n : Nat} : ∀ k, n ≤ k → zct (fun i => decide (i < n) && P i) k = zct P n := by
  intro k
  induction k with
  | zero => intro h; have : n = 0 := by omega
            subst this; rfl
  | succ k ih =>
    intro h
    by_cases c : n = k + 1
    · subst c
      have key : ∀ j, j ≤ k + 1 → zct (fun i => decide (i < k + 1) && P i) j = zct P j := by
        intro j
        induction j with
        | zero => intro _; rfl
        | succ j ihj => intro hj; unfold zct; rw [ihj (by omega)]; simp [show j < k + 1 by omega]
      exact key (k + 1) (Nat.le_refl _)
    · rw [zct, ih (by omega)]
      simp [show ¬ k < n by omega]
theorem zpc_set (P : Nat → Bool) {n : Nat} (hn : n ≤ 12) : zpc (zst P n) 12 = zct P n := by
  rw [zpc_zst, zct_cut P 12 hn]
