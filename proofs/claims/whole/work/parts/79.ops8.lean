/-! live, quiet, kind -/
theorem zMv_mono {s l : Nat} (hs : s ≤ zNV) (hl : l ≤ zNV) : zMv s ≤ zMv l ↔ s ≤ l := by
  have z : zNV = 1000000 := rfl
  have z9 : zN9 = 1000000000 := rfl
  unfold zMv
  split <;> split <;> omega
def zLa (S : zLd) (k h m t : Nat) : Nat → Nat
  | 0 => t
  | i + 1 => if m.testBit i = true then max (zLa S k h m t i) (zRo S k h i t) else zLa S k h m t i
def zLb (S : zLd) (k h m t : Nat) : Nat → Nat
  | 0 => 0
  | i + 1 => if m.testBit i = true ∧ zLb S k h m t i < zN9 then max (zLb S k h m t i) (zMv (zRo S k h i t)) else zLb S k h m t i
theorem zRo_ge {S : zLd} (hS : zWf S) {k : Nat} (hk : k < 6) {a b t : Nat} (ht : t ≤ 300000) : t ≤ zRo S k a b t := by
  have z : zNV = 1000000 := rfl
  unfold zRo
  by_cases c : zEa S k a b t < zNV
  · have := zEa_bd hS hk (show t ≤ 500000 by omega) c
    have g1 := zEa_ge (k := k) (a := a) (b := b) hS (show t ≤ 500000 by omega)
    have g2 := zEa_ge (k := k) (a := b) (b := a) hS (show zEa S k a b t ≤ 500000 by omega)
    rw [if_pos c]
    omega
  · rw [if_neg c]; omega
theorem zLa_le {S : zLd} (hS : zWf S) {k : Nat} (hk : k < 6) {h m t : Nat} (ht : t ≤ 300000) : ∀ i, zLa S k h m t i ≤ zNV := by
  have z : zNV = 1000000 := rfl
  intro i
  induction i with
  | zero => show t ≤ zNV; omega
  | succ i ih =>
    have := zRo_le hS hk (a := h) (b := i) ht
    rw [zLa]
    split <;> omega
theorem zLab {S : zLd} (hS : zWf S) {k : Nat} (hk : k < 6) {h m t : Nat} (ht : t ≤ 300000) : ∀ i, ((∀ j, j < i → m.testBit j = false) ∧ zLb S k h m t i = 0 ∧ zLa S k h m t i = t) ∨ ((∃ j, j < i ∧ m.testBit j = true) ∧ zLb S k h m t i = zMv (zLa S k h m t i)) := by
  have z : zNV = 1000000 := rfl
  have z9 : zN9 = 1000000000 := rfl
  intro i
  induction i with
  | zero => exact Or.inl ⟨fun j hj => by omega, rfl, rfl⟩
  | succ i ih =>
    have r1 := zRo_ge hS hk (a := h) (b := i) ht
    have r2 := zRo_le hS hk (a := h) (b := i) ht
    have l2 := zLa_le hS hk (h := h) (m := m) ht i
    rw [zLa, zLb]
    by_cases c : m.testBit i = true
    · refine Or.inr ⟨⟨i, by omega, c⟩, ?_⟩
      rw [if_pos c]
      rcases ih with ⟨_, e1, e2⟩ | ⟨_, e1⟩
      · rw [e1, e2, if_pos ⟨c, by omega⟩, Nat.zero_max, Nat.max_eq_right r1]
      · rw [e1]
        by_cases d : zLa S k h m t i < zNV
        · rw [if_pos ⟨c, zMv_lt.mpr d⟩]
          by_cases q : zLa S k h m t i ≤ zRo S k h i t
          · rw [Nat.max_eq_right q, Nat.max_eq_right ((zMv_mono l2 r2).mpr q)]
          · have q' : zRo S k h i t ≤ zLa S k h m t i := by omega
            rw [Nat.max_eq_left q', Nat.max_eq_left ((zMv_mono r2 l2).mpr q')]
        · have e : zLa S k h m t i = zNV := by omega
          rw [if_neg (fun q => d (zMv_lt.mp q.2)), e, Nat.max_eq_left r2]
    · rw [if_neg c, if_neg (fun q => c q.1)]
      rcases ih with ⟨e0, e1, e2⟩ | ⟨⟨j, j1, j2⟩, e1⟩
      · refine Or.inl ⟨fun j hj => ?_, e1, e2⟩
        by_cases q : j = i
        · subst q; simpa using c
        · exact e0 j (by omega)
      · exact Or.inr ⟨⟨j, by omega, j2⟩, e1⟩
section LIVE
variable {S : zLd} {k : Nat}
theorem wy_last {w : zW} (hS : zWf S) (hk : k < 6) (h : zWy w S k) {a m t : Nat} (ha : a < zNv S) (ht : t ≤ 300000) : fX5_lastAnswer w (nI a) (nI m) (nI t) = some (nI (zLa S k a m t (zNv S))) := by
  have z : zNV = 1000000 := rfl
  have hn := hS.nv
  have key : ∀ j v, v + j = zNv S → ∀ n, j < n → lpX5_lastAnswer_6 w (nI a) (nI m) (nI t) n (nI (zLa S k a m t v)) (nI v) = some (nI (zLa S k a m t (zNv S))) := by
    intro j
    induction j with
    | zero =>
      intro v hv n hn
      obtain ⟨n, rfl⟩ : ∃ z, n = z + 1 := ⟨n - 1, by omega⟩
      rw [lpX5_lastAnswer_6, h.1, if_pos ((nI_leI (by omega) (by omega)).mpr (by omega)), show v = zNv S by omega]
    | succ j ih =>
      intro v hv n hn
      obtain ⟨n, rfl⟩ : ∃ z, n = z + 1 := ⟨n - 1, by omega⟩
      have i := ih (v + 1) (by omega) n (by omega)
      have l1 := zLa_le hS hk (h := a) (m := m) ht v
      have l2 := zRo_le hS hk (a := a) (b := v) ht
      rw [lpX5_lastAnswer_6, h.1, if_neg (fun x => by have := (nI_leI (by omega) (by omega)).mp x; omega), bt_sh (by omega), bt_nI (by omega), nI_1, wy_ans hS hk h ha (show v < zNv S by omega) ht, Option.bind_some, zmax_nI (by omega) (by omega), Option.bind_some]
      rw [zLa] at i
      cases e : m.testBit v
      · rw [e, if_neg (by decide)] at i
        rw [if_neg (by decide), Option.bind_some]
        exact i
      · rw [e, if_pos rfl] at i
        rw [if_pos rfl, if_pos rfl, Option.bind_some]
        exact i
  have this := key (zNv S) 0 (by omega) zF (by unfold zF; omega)
  have this : lpX5_lastAnswer_6 w (nI a) (nI m) (nI t) zF (nI t) 0 = some (nI (zLa S k a m t (zNv S))) := this
  unfold fX5_lastAnswer
  rw [this, Option.bind_some]
def zBh (S : zLd) (k m t : Nat) : Nat → Int32 × Nat
  | 0 => (-1, zNV)
  | v + 1 => if zLa S k v m t (zNv S) < (zBh S k m t v).2 then (nI v, zLa S k v m t (zNv S)) else zBh S k m t v
theorem zBh_le (hS : zWf S) (hk : k < 6) {m t : Nat} (ht : t ≤ 300000) : ∀ v, (zBh S k m t v).2 ≤ zNV := by
  intro v
  induction v with
  | zero => exact Nat.le_refl _
  | succ v ih =>
    have := zLa_le hS hk (h := v) (m := m) ht (zNv S)
    rw [zBh]
    split
    · exact this
    · exact ih
theorem wy_home {w : zW} (hS : zWf S) (hk : k < 6) (h : zWy w S k) {m t : Nat} (ht : t ≤ 300000) : fX5_bestHome w (nI m) (nI t) = some (zBh S k m t (zNv S)).1 := by
  have z : zNV = 1000000 := rfl
  have hn := hS.nv
  have key : ∀ j v, v + j = zNv S → ∀ n, j < n → lpX5_bestHome_9 w (nI m) (nI t) n (zBh S k m t v).1 (nI (zBh S k m t v).2) (nI v) = some (zBh S k m t (zNv S)).1 := by
    intro j
    induction j with
    | zero =>
      intro v hv n hn
      obtain ⟨n, rfl⟩ : ∃ z, n = z + 1 := ⟨n - 1, by omega⟩
      rw [lpX5_bestHome_9, h.1, if_pos ((nI_leI (by omega) (by omega)).mpr (by omega)), show v = zNv S by omega]
    | succ j ih =>
      intro v hv n hn
      obtain ⟨n, rfl⟩ : ∃ z, n = z + 1 := ⟨n - 1, by omega⟩
      have i := ih (v + 1) (by omega) n (by omega)
      have l1 := zLa_le hS hk (h := v) (m := m) ht (zNv S)
      have l2 := zBh_le hS hk (m := m) ht v
      rw [lpX5_bestHome_9, h.1, if_neg (fun x => by have := (nI_leI (by omega) (by omega)).mp x; omega), wy_last hS hk h (show v < zNv S by omega) ht, Option.bind_some, nI_1]
      rw [zBh] at i
      by_cases c : zLa S k v m t (zNv S) < (zBh S k m t v).2
      · rw [if_pos c] at i
        rw [if_neg (fun x => by have := (nI_leI (by omega) (by omega)).mp x; omega), zb2_some]
        exact i
      · rw [if_neg c] at i
        rw [if_pos ((nI_leI (by omega) (by omega)).mpr (by omega)), zb2_some]
        exact i
  have this := key (zNv S) 0 (by omega) zF (by unfold zF; omega)
  have this : lpX5_bestHome_9 w (nI m) (nI t) zF (-1) (1000000 : Int32) 0 = some (zBh S k m t (zNv S)).1 := this
  unfold fX5_bestHome
  rw [this, Option.bind_some]
theorem mx_long (hS : zWf S) (hk : k < 6) {a m : Nat} (ha : a < zNv S) {x10 x11 : Int32} : ∀ j v (w : zW), v + j = zNv S → zMX w 61 S → ∀ n, j < n → ∃ u, lpX7_live_58 (nI k) (nI m) x10 x11 (nI a) n w (nI (zLb S k a m (zDy S) v)) (nI v) = some (nI (zLb S k a m (zDy S) (zNv S)), u) ∧ zE (fun o => o = 63) w u := by
  have z : zNV = 1000000 := rfl
  have z9 : zN9 = 1000000000 := rfl
  have hn := hS.nv
  have dy := hS.dy
  have lb : ∀ i, zLb S k a m (zDy S) i ≤ zN9 := by
    intro i
    induction i with
    | zero => exact Nat.zero_le _
    | succ i ih =>
      have := zMv_le (x := zRo S k a i (zDy S))
      rw [zLb]
      split <;> omega
  intro j
  induction j with
  | zero =>
    intro v w hv hM n hn
    obtain ⟨n, rfl⟩ : ∃ z, n = z + 1 := ⟨n - 1, by omega⟩
    rw [lpX7_live_58, mx_0 hM, Option.bind_some, if_pos ((nI_leI (by omega) (by omega)).mpr (by omega)), show v = zNv S by omega]
    exact ⟨w, rfl, zE.rfl⟩
  | succ j ih =>
    intro v w hv hM n hn
    obtain ⟨n, rfl⟩ : ∃ z, n = z + 1 := ⟨n - 1, by omega⟩
    have l1 := lb v
    have l0 := zMv_le (x := zRo S k a v (zDy S))
    rw [lpX7_live_58, mx_0 hM, Option.bind_some, if_neg (fun x => by have := (nI_leI (by omega) (by omega)).mp x; omega), mx_has (by omega), Option.bind_some]
    simp only [ifb0, le9 (show zLb S k a m (zDy S) v < 2 ^ 31 by omega), nI_1]
    have hz : ∀ y : Nat, y < 2 ^ 31 → (if (0 : Int32) ≤ nI y then some (nI y) else some (0 : Int32)) = some (nI y) := fun y hy => if_pos (nI_pos' hy)
    cases e : m.testBit v
    · obtain ⟨u, u1, u2⟩ := ih (v + 1) w (by omega) hM n (by omega)
      rw [zLb, if_neg (by rw [e]; intro q; exact absurd q.1 (by decide))] at u1
      rw [if_pos rfl, zb2_some, hz _ (by omega), Option.bind_some]
      exact ⟨u, u1, u2⟩
    · by_cases c : zLb S k a m (zDy S) v < zN9
      · obtain ⟨y, y1, y2⟩ := mx_back hS hk ha (show v < zNv S by omega) hM
        obtain ⟨u, u1, u2⟩ := ih (v + 1) y (by omega) (hM.e63 y2) n (by omega)
        rw [zLb, if_pos ⟨e, c⟩] at u1
        rw [if_neg (by decide), if_neg (by omega), y1, zb2_some, zb2_some]
        have e2 : (if nI (zMv (zRo S k a v (zDy S))) ≤ nI (zLb S k a m (zDy S) v) then some (nI (zLb S k a m (zDy S) v)) else some (nI (zMv (zRo S k a v (zDy S))))) = some (nI (max (zLb S k a m (zDy S) v) (zMv (zRo S k a v (zDy S))))) := by
          by_cases d : zMv (zRo S k a v (zDy S)) ≤ zLb S k a m (zDy S) v
          · rw [if_pos ((nI_leI (by omega) (by omega)).mpr d), Nat.max_eq_left d]
          · rw [if_neg (fun x => d ((nI_leI (by omega) (by omega)).mp x)), Nat.max_eq_right (by omega)]
        rw [e2, Option.bind_some]
        exact ⟨u, u1, y2.trs u2⟩
      · obtain ⟨u, u1, u2⟩ := ih (v + 1) w (by omega) hM n (by omega)
        rw [zLb, if_neg (fun q => c q.2)] at u1
        rw [if_neg (by decide), if_pos (by omega), zb2_some, hz _ (by omega), Option.bind_some]
        exact ⟨u, u1, u2⟩
theorem mx_home (hS : zWf S) (hk : k < 6) {m : Nat} (hm : ∃ j, j < zNv S ∧ m.testBit j = true) : ∀ j v (w : zW), v + j = zNv S → zMX w 61 S → ∀ n, j < n → ∃ u, lpX7_live_41 (nI k) (nI m) n w (zBh S k m (zDy S) v).1 (nI (zMv (zBh S k m (zDy S) v).2)) (nI v) = some ((zBh S k m (zDy S) (zNv S)).1, u) ∧ zE (fun o => o = 63) w u := by
  have z : zNV = 1000000 := rfl
  have z9 : zN9 = 1000000000 := rfl
  have hn := hS.nv
  have dy := hS.dy
  intro j
  induction j with
  | zero =>
    intro v w hv hM n hn
    obtain ⟨n, rfl⟩ : ∃ z, n = z + 1 := ⟨n - 1, by omega⟩
    rw [lpX7_live_41, mx_0 hM, Option.bind_some, if_pos ((nI_leI (by omega) (by omega)).mpr (by omega)), show v = zNv S by omega]
    exact ⟨w, rfl, zE.rfl⟩
  | succ j ih =>
    intro v w hv hM n hn
    obtain ⟨n, rfl⟩ : ∃ z, n = z + 1 := ⟨n - 1, by omega⟩
    have l1 := zLa_le hS hk (h := v) (m := m) (show zDy S ≤ 300000 by omega) (zNv S)
    have l2 := zBh_le hS hk (m := m) (show zDy S ≤ 300000 by omega) v
    have eb : zLb S k v m (zDy S) (zNv S) = zMv (zLa S k v m (zDy S) (zNv S)) := by
      rcases zLab hS hk (h := v) (m := m) (show zDy S ≤ 300000 by omega) (zNv S) with ⟨q, _, _⟩ | ⟨_, q⟩
      · obtain ⟨j, j1, j2⟩ := hm
        rw [q j j1] at j2
        cases j2
      · exact q
    have q1 := zMv_le (x := zLa S k v m (zDy S) (zNv S))
    have q2 := zMv_le (x := (zBh S k m (zDy S) v).2)
    obtain ⟨y, y1, y2⟩ := mx_long hS hk (a := v) (m := m) (show v < zNv S by omega) (x10 := (zBh S k m (zDy S) v).1) (x11 := nI (zMv (zBh S k m (zDy S) v).2)) (zNv S) 0 w (by omega) hM zF (by unfold zF; omega)
    rw [eb] at y1
    have y1 : lpX7_live_58 (nI k) (nI m) (zBh S k m (zDy S) v).1 (nI (zMv (zBh S k m (zDy S) v).2)) (nI v) zF w 0 0 = some (nI (zMv (zLa S k v m (zDy S) (zNv S))), y) := y1
    obtain ⟨u, u1, u2⟩ := ih (v + 1) y (by omega) (hM.e63 y2) n (by omega)
    refine ⟨u, ?_, y2.trs u2⟩
    rw [lpX7_live_41, mx_0 hM, Option.bind_some, if_neg (fun x => by have := (nI_leI (by omega) (by omega)).mp x; omega), y1, zb2_some, nI_1]
    rw [zBh] at u1
    have mm := zMv_mono l2 l1
    by_cases c : zLa S k v m (zDy S) (zNv S) < (zBh S k m (zDy S) v).2
    · rw [if_pos c] at u1
      have c' : ¬ nI (zMv (zBh S k m (zDy S) v).2) ≤ nI (zMv (zLa S k v m (zDy S) (zNv S))) := fun x => by
        have := mm.mp ((nI_leI (by omega) (by omega)).mp x)
        omega
      rw [if_neg c', Option.bind_some, if_neg c', Option.bind_some]
      exact u1
    · rw [if_neg c] at u1
      have c' : nI (zMv (zBh S k m (zDy S) v).2) ≤ nI (zMv (zLa S k v m (zDy S) (zNv S))) := (nI_leI (by omega) (by omega)).mpr (mm.mpr (by omega))
      rw [if_pos c', Option.bind_some, if_pos c', Option.bind_some]
      exact u1
end LIVE
theorem zmask : ∀ n, n < 13 → ((1 : Int32) <<< (nI n &&& 31)) - 1 = nI (2 ^ n - 1) := by decide +kernel
theorem set_y {n j : Nat} (hn : n < 13) (hj : j < 2 ^ n) : nI j &&& (nI (2 ^ n - 1) ^^^ (-1 : Int32)) = 0 := by
  apply b_ext
  intro i hi
  rw [b_and, b_xor, bt_nI hi, bt_nI hi, b_m1 i hi, b_0]
  by_cases c : i < n
  · have : (2 ^ n - 1).testBit i = true := by rw [Nat.testBit_two_pow_sub_one]; simpa using c
    rw [this]; simp
  · have : j.testBit i = false := Nat.testBit_lt_two_pow (Nat.lt_of_lt_of_le hj (Nat.pow_le_pow_right (by omega) (by omega)))
    rw [this]; simp
theorem set_n {n : Nat} {x : Int32} (hn : n < 13) (h : x < 0 ∨ nI (2 ^ n) ≤ x) : ¬ x &&& (nI (2 ^ n - 1) ^^^ (-1 : Int32)) = 0 := by
  intro q
  have p : 2 ^ n ≤ 2 ^ 12 := Nat.pow_le_pow_right (by omega) (by omega)
  have e : x = x &&& nI (2 ^ n - 1) := by
    apply b_ext
    intro i hi
    have qi : bt (x &&& (nI (2 ^ n - 1) ^^^ (-1 : Int32))) i = false := by rw [q, b_0]
    rw [b_and, b_xor, b_m1 i hi] at qi
    rw [b_and]
    cases h1 : bt x i <;> cases h2 : bt (nI (2 ^ n - 1)) i <;> simp [h1, h2] at qi ⊢
  have t : (nI (2 ^ n - 1)).toBitVec.toNat = 2 ^ n - 1 := pk_tn (by omega)
  rw [pk_and x n t] at e
  have b := Nat.mod_lt x.toBitVec.toNat (show 2 ^ n > 0 by exact Nat.pow_pos (by omega))
  rw [e] at h
  rcases h with h | h
  · exact nI_pos (by omega) h
  · have := (nI_leI (by omega) (by omega)).mp h
    omega
theorem zbit_ex {m n : Nat} (h0 : m ≠ 0) (h : m < 2 ^ n) : ∃ j, j < n ∧ m.testBit j = true := by
  obtain ⟨j, hj⟩ := Nat.exists_testBit_of_ne_zero h0
  refine ⟨j, ?_, hj⟩
  rcases Nat.lt_or_ge j n with q | q
  · exact q
  · have : m.testBit j = false := Nat.testBit_lt_two_pow (Nat.lt_of_lt_of_le h (Nat.pow_le_pow_right (by omega) q))
    rw [this] at hj
    cases hj
theorem op_live (a b : Int32) : zOp (fun w => fX6_live w a b) (fun w => fX7_live w a b) := by
  intro w hI
  show ∃ r u v, fX6_live w a b = some (r, u) ∧ fX7_live u a b = some (r, v) ∧ zInv v
  obtain ⟨S, hS, hC, hM⟩ := hI.1
  have z : zNV = 1000000 := rfl
  have hn := hS.nv
  have dy := hS.dy
  have hF := zff_mx (k := 0) hM (by omega)
  have p12 : 2 ^ zNv S ≤ 2 ^ 12 := Nat.pow_le_pow_right (by omega) hn
  have p0 : 0 < 2 ^ zNv S := Nat.pow_pos (by omega)
  have all : fX0_allVillages w 10 = some (nI (2 ^ zNv S - 1)) := by
    unfold fX0_allVillages
    rw [hC.1.1, zmask _ (by omega)]
  have hin : ∀ u x, fX7_in u x 1 (((1 : Int32) <<< (nI (zNv S) &&& 31)) - 1) = if x < 1 then some 0 else if nI (2 ^ zNv S - 1) < x then some 0 else some 1 := fun u x => by
    unfold fX7_in
    rw [zmask _ (by omega)]
  rcases zor (x := a) (n := 6) (by omega) with ha | ⟨k, hk, rfl⟩
  · exact ⟨zB0, zff w 0, zfg (zff w 0) 0, by simp only [fX6_live, ck_n ha, Option.bind_some, if_true, x6_f0, zb2_some], by simp only [fX7_live, in_k_n ha, Option.bind_some, if_true, x7_f0, zb2_some], hI.find (k := 0) (by omega)⟩
  rcases zor (x := b) (n := 2 ^ zNv S) (by omega) with hb | ⟨m, hm, rfl⟩
  · have r1 := hin (zff w 0) b
    have c0 : ¬ b = 0 := by
      intro q
      subst q
      rcases hb with q | q
      · exact absurd q (by decide)
      · rw [zL0] at q
        have := (nI_leI (by omega) (by omega)).mp q
        omega
    have r2 : (if b < 1 then some (0 : Int32) else if nI (2 ^ zNv S - 1) < b then some 0 else some 1) = some 0 := by
      by_cases q : b < 1
      · rw [if_pos q]
      · rw [if_neg q]
        rcases hb with h | h
        · exact absurd (Int32.lt_trans h (by decide)) q
        · rw [if_pos]
          refine Int32.lt_of_lt_of_le ?_ h
          exact nI_lt (by omega) (by omega)
    rw [r2] at r1
    exact ⟨zB0, zff w 0, zfg (zff w 0) 0, by simp only [fX6_live, ck_y hk, Option.bind_some, if_neg h10, if_neg c0, all, if_neg (set_n (show zNv S < 13 by omega) hb), x6_f0, zb2_some], by simp only [fX7_live, in_k_y hk, Option.bind_some, if_neg h10, mx_0 hF, r1, if_true, x7_f0, zb2_some], hI.find (k := 0) (by omega)⟩
  by_cases m0 : m = 0
  · subst m0
    have r1 := hin (zff w 0) (nI 0)
    rw [if_pos (by decide)] at r1
    exact ⟨zB0, zff w 0, zfg (zff w 0) 0, by simp only [fX6_live, ck_y hk, Option.bind_some, if_neg h10, nI_0, if_true, x6_f0, zb2_some], by simp only [fX7_live, in_k_y hk, Option.bind_some, if_neg h10, mx_0 hF, r1, if_true, x7_f0, zb2_some], hI.find (k := 0) (by omega)⟩
  have bex := zbit_ex m0 hm
  have n0 : 0 < zNv S := by obtain ⟨j, j1, _⟩ := bex; omega
  have c0 : ¬ nI m = 0 := nI_ne0 (by omega) (by omega)
  have r2 : (if nI m < 1 then some (0 : Int32) else if nI (2 ^ zNv S - 1) < nI m then some 0 else some 1) = some 1 := by
    rw [if_neg (fun q => by rw [zL1] at q; have := (nI_ltI (by omega) (by omega)).mp q; omega), if_neg (fun q => by have := (nI_ltI (by omega) (by omega)).mp q; omega)]
  obtain ⟨u, u1, u2, u3⟩ := lo (Or.inl rfl) hS hC hk n0
  have U := zP40 u2
  have hCu := hC.pc U
  have hMu := hM.pc U
  have e1 := wy_home hS hk u3 (m := m) (show zDy S ≤ 300000 by omega)
  by_cases q : 0 ≤ (zBh S k m (zDy S) (zNv S)).1
  · obtain ⟨v, v1, v2⟩ := mx_home hS hk bex (zNv S) 0 u (by omega) hMu zF (by unfold zF; omega)
    have v1 : lpX7_live_41 (nI k) (nI m) zF u (-1) (1000000000 : Int32) 0 = some ((zBh S k m (zDy S) (zNv S)).1, v) := v1
    have r1 := hin u (nI m)
    rw [r2] at r1
    refine ⟨(zBh S k m (zDy S) (zNv S)).1, u, v, ?_, ?_, hI.calm (U.trs (zP63 v2))⟩
    · simp only [fX6_live, ck_y hk, Option.bind_some, if_neg h10, if_neg c0, all, if_pos (set_y (show zNv S < 13 by omega) hm), u1, hCu.1.2.2.2.2, e1, if_pos q]
    · simp only [fX7_live, in_k_y hk, Option.bind_some, if_neg h10, mx_0 hMu, r1, v1, zb2_some, if_pos q]
  · have hMf : zMX (zff u 3) 61 S := zff_mx hMu (by omega)
    obtain ⟨v, v1, v2⟩ := mx_home hS hk bex (zNv S) 0 (zff u 3) (by omega) hMf zF (by unfold zF; omega)
    have v1 : lpX7_live_41 (nI k) (nI m) zF (zff u 3) (-1) (1000000000 : Int32) 0 = some ((zBh S k m (zDy S) (zNv S)).1, v) := v1
    have r1 := hin (zff u 3) (nI m)
    rw [r2] at r1
    refine ⟨zB3, zff u 3, zfg v 3, ?_, ?_, hI.cf (by omega) U (zP63 v2)⟩
    · simp only [fX6_live, ck_y hk, Option.bind_some, if_neg h10, if_neg c0, all, if_pos (set_y (show zNv S < 13 by omega) hm), u1, hCu.1.2.2.2.2, e1, if_neg q, x6_f3, zb2_some]
    · simp only [fX7_live, in_k_y hk, Option.bind_some, if_neg h10, mx_0 hMf, r1, v1, zb2_some, if_neg q, x7_f3]
/-! kind -/
def zKb (S : zLd) (a b t : Nat) : Nat → Int32 × Nat
  | 0 => (-1, zNV)
  | k + 1 => if zEa S k a b t < (zKb S a b t k).2 then (nI k, zEa S k a b t) else zKb S a b t k
theorem zKb_le {S : zLd} (hS : zWf S) {a b t : Nat} (ht : t ≤ 500000) : ∀ k, k ≤ 6 → (zKb S a b t k).2 ≤ zNV := by
  intro k
  induction k with
  | zero => intro _; exact Nat.le_refl _
  | succ k ih =>
    intro hk
    have := zEa_le (a := a) (b := b) hS (show k < 6 by omega) ht
    rw [zKb]
    split
    · exact this
    · exact ih (by omega)
theorem cx_kb {S : zLd} (hS : zWf S) {a b : Nat} (ha : a < zNv S) (hb : b < zNv S) : ∀ j k (w : zW), k + j = 6 → zCX w 10 S → ∀ n, j < n → ∃ u, lpX6_kind_25 (nI a) (nI b) n w (zKb S a b (zDy S) k).1 (nI (zKb S a b (zDy S) k).2) (nI k) = some ((zKb S a b (zDy S) 6).1, u) ∧ zE zPq w u := by
  have z : zNV = 1000000 := rfl
  have dy := hS.dy
  intro j
  induction j with
  | zero =>
    intro k w hk hC n hn
    obtain ⟨n, rfl⟩ : ∃ z, n = z + 1 := ⟨n - 1, by omega⟩
    rw [lpX6_kind_25, zL6, if_pos ((nI_leI (by omega) (by omega)).mpr (by omega)), show k = 6 by omega]
    exact ⟨w, rfl, zE.rfl⟩
  | succ j ih =>
    intro k w hk hC n hn
    obtain ⟨n, rfl⟩ : ∃ z, n = z + 1 := ⟨n - 1, by omega⟩
    obtain ⟨u, u1, u2, u3⟩ := lo (Or.inl rfl) hS hC (show k < 6 by omega) (by omega)
    have U := zP40 u2
    have hCu := hC.pc U
    obtain ⟨v, v1, v2⟩ := ih (k + 1) u (by omega) hCu n (by omega)
    have l1 := zEa_le (a := a) (b := b) hS (show k < 6 by omega) (show zDy S ≤ 500000 by omega)
    have l2 := zKb_le hS (a := a) (b := b) (show zDy S ≤ 500000 by omega) k (by omega)
    refine ⟨v, ?_, U.trs v2⟩
    rw [lpX6_kind_25, zL6, if_neg (fun x => by have := (nI_leI (by omega) (by omega)).mp x; omega), u1, Option.bind_some, hCu.1.2.2.2.2, wy_ear hS (by omega) u3 ha hb (by omega), Option.bind_some, nI_1]
    rw [zKb] at v1
    by_cases c : zEa S k a b (zDy S) < (zKb S a b (zDy S) k).2
    · rw [if_pos c] at v1
      rw [if_neg (fun x => by have := (nI_leI (by omega) (by omega)).mp x; omega), zb2_some]
      exact v1
    · rw [if_neg c] at v1
      rw [if_pos ((nI_leI (by omega) (by omega)).mpr (by omega)), zb2_some]
      exact v1
theorem mx_kb {S : zLd} (hS : zWf S) {a b : Nat} (ha : a < zNv S) (hb : b < zNv S) : ∀ j k (w : zW), k + j = 6 → zMX w 61 S → ∀ n, j < n → ∃ u, lpX7_kind_32 (nI a) (nI b) n w (zKb S a b (zDy S) k).1 (nI (zMv (zKb S a b (zDy S) k).2)) (nI k) = some ((zKb S a b (zDy S) 6).1, u) ∧ zE (fun o => o = 63) w u := by
  have z : zNV = 1000000 := rfl
  have z9 : zN9 = 1000000000 := rfl
  have dy := hS.dy
  intro j
  induction j with
  | zero =>
    intro k w hk hM n hn
    obtain ⟨n, rfl⟩ : ∃ z, n = z + 1 := ⟨n - 1, by omega⟩
    rw [lpX7_kind_32, zL5, if_pos ((nI_ltI (by omega) (by omega)).mpr (by omega)), show k = 6 by omega]
    exact ⟨w, rfl, zE.rfl⟩
  | succ j ih =>
    intro k w hk hM n hn
    obtain ⟨n, rfl⟩ : ∃ z, n = z + 1 := ⟨n - 1, by omega⟩
    obtain ⟨u, u1, u2⟩ := mx_ear hS (show k < 6 by omega) ha hb (show zDy S ≤ 500000 by omega) hM
    obtain ⟨v, v1, v2⟩ := ih (k + 1) u (by omega) (hM.e63 u2) n (by omega)
    have l1 := zEa_le (a := a) (b := b) hS (show k < 6 by omega) (show zDy S ≤ 500000 by omega)
    have l2 := zKb_le hS (a := a) (b := b) (show zDy S ≤ 500000 by omega) k (by omega)
    have q1 := zMv_le (x := zEa S k a b (zDy S))
    have q2 := zMv_le (x := (zKb S a b (zDy S) k).2)
    have mm := zMv_mono l2 l1
    refine ⟨v, ?_, u2.trs v2⟩
    rw [lpX7_kind_32, zL5, if_neg (fun x => by have := (nI_ltI (by omega) (by omega)).mp x; omega), mx_4 hM, Option.bind_some, u1, zb2_some, nI_1]
    rw [zKb] at v1
    by_cases c : zEa S k a b (zDy S) < (zKb S a b (zDy S) k).2
    · rw [if_pos c] at v1
      have c' : ¬ nI (zMv (zKb S a b (zDy S) k).2) ≤ nI (zMv (zEa S k a b (zDy S))) := fun x => by
        have := mm.mp ((nI_leI (by omega) (by omega)).mp x)
        omega
      rw [if_neg c', Option.bind_some, if_neg c', Option.bind_some]
      exact v1
    · rw [if_neg c] at v1
      have c' : nI (zMv (zKb S a b (zDy S) k).2) ≤ nI (zMv (zEa S k a b (zDy S))) := (nI_leI (by omega) (by omega)).mpr (mm.mpr (by omega))
      rw [if_pos c', Option.bind_some, if_pos c', Option.bind_some]
      exact v1
theorem op_kind (a b : Int32) : zOp (fun w => fX6_kind w a b) (fun w => fX7_kind w a b) := by
  intro w hI
  show ∃ r u v, fX6_kind w a b = some (r, u) ∧ fX7_kind u a b = some (r, v) ∧ zInv v
  obtain ⟨S, hS, hC, hM⟩ := hI.1
  have hn := hS.nv
  have hF := zff_mx (k := 0) hM (by omega)
  rcases zor (x := a) (n := zNv S) (by omega) with ha | ⟨x, hx, rfl⟩
  · exact ⟨zB0, zff w 0, zfg (zff w 0) 0, by simp only [fX6_kind, cx_av2_n hS hC (Or.inl ha), Option.bind_some, if_true, x6_f0, zb2_some], by simp only [fX7_kind, mx_hv_n hS hF ha, Option.bind_some, if_true, x7_f0, zb2_some], hI.find (k := 0) (by omega)⟩
  rcases zor (x := b) (n := zNv S) (by omega) with hb | ⟨y, hy, rfl⟩
  · exact ⟨zB0, zff w 0, zfg (zff w 0) 0, by simp only [fX6_kind, cx_av2_n hS hC (Or.inr hb), Option.bind_some, if_true, x6_f0, zb2_some], by simp only [fX7_kind, mx_hv_y hS hF hx, mx_hv_n hS hF hb, Option.bind_some, if_neg h10, if_true, x7_f0, zb2_some], hI.find (k := 0) (by omega)⟩
  obtain ⟨u, u1, U⟩ := cx_kb hS hx hy 6 0 w (by omega) hC zF (by unfold zF; omega)
  have u1 : lpX6_kind_25 (nI x) (nI y) zF w (-1) (1000000 : Int32) 0 = some ((zKb S x y (zDy S) 6).1, u) := u1
  have hMu := hM.pc U
  by_cases q : 0 ≤ (zKb S x y (zDy S) 6).1
  · obtain ⟨v, v1, v2⟩ := mx_kb hS hx hy 6 0 u (by omega) hMu zF (by unfold zF; omega)
    have v1 : lpX7_kind_32 (nI x) (nI y) zF u (-1) (1000000000 : Int32) 0 = some ((zKb S x y (zDy S) 6).1, v) := v1
    exact ⟨(zKb S x y (zDy S) 6).1, u, v, by simp only [fX6_kind, cx_av2 hS hC hx hy, Option.bind_some, if_neg h10, u1, zb2_some, if_pos q], by simp only [fX7_kind, mx_hv_y hS hMu hx, mx_hv_y hS hMu hy, Option.bind_some, if_neg h10, v1, zb2_some, if_pos q], hI.calm (U.trs (zP63 v2))⟩
  · have hMf : zMX (zff u 3) 61 S := zff_mx hMu (by omega)
    obtain ⟨v, v1, v2⟩ := mx_kb hS hx hy 6 0 (zff u 3) (by omega) hMf zF (by unfold zF; omega)
    have v1 : lpX7_kind_32 (nI x) (nI y) zF (zff u 3) (-1) (1000000000 : Int32) 0 = some ((zKb S x y (zDy S) 6).1, v) := v1
    exact ⟨zB3, zff u 3, zfg v 3, by simp only [fX6_kind, cx_av2 hS hC hx hy, Option.bind_some, if_neg h10, u1, zb2_some, if_neg q, x6_f3], by simp only [fX7_kind, mx_hv_y hS hMf hx, mx_hv_y hS hMf hy, Option.bind_some, if_neg h10, v1, zb2_some, if_neg q, x7_f3], hI.cf (by omega) U (zP63 v2)⟩
