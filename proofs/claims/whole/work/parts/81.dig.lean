/-! dig: a new road -/
theorem zCm_self {S : zLd} {k a : Nat} : zCm S k a a = true := by
  have z : zNV = 1000000 := rfl
  have := zD_0 (S := S) (k := k) (a := a)
  unfold zCm
  rw [this]
  simp [z]
theorem zCm_edge {S : zLd} (hS : zWf S) {k : Nat} (hk : k < 6) {a p q : Nat} (hp : p < zNv S) (he : zEg S k p q < zNV) (h : zCm S k a p = true) : zCm S k a q = true :=
  (zEa_cm hS hk (t := 0) (by omega)).mp (zEx_edge hS hk hp (t := 0) (by omega) he ((zEa_cm hS hk (t := 0) (by omega)).mpr h)).1
theorem zCm_road {S : zLd} (hS : zWf S) {k : Nat} (hk : k < 6) {a p q r : Nat} (hr : r < zNr S) (hj : zJr S p q r) (hg : zGo S k p q = true) (h : zCm S k a p = true) : zCm S k a q = true := by
  have z : zNV = 1000000 := rfl
  obtain ⟨g1, g2, g3, g4, g5⟩ := hS.rd r hr
  have e := zEg_road hS hr hj hg
  have nd := zNd_le hk (show zLn S r < 10 by omega)
  exact zCm_edge hS hk (p := p) (by unfold zJr at hj; omega) (by omega) h
theorem zCm_bal {S : zLd} (hS : zWf S) {k : Nat} (hk : k < 6) {a : Nat} (hb : zBl S k = true) (h : zCm S k a (zSea S) = true) : zCm S k a (zPeak S) = true := by
  have h1 := (zEa_cm hS hk (t := 0) (by omega)).mpr h
  have h2 := (zEx_sea hS hk (t := 0) (by omega) h1).1
  have h3 := (zEx_peak hS hk (t := 0) (by omega) h2).1
  rw [← hb] at h3
  exact (zEa_cm hS hk (t := 0) (by omega)).mp h3
/-- where post comes with the new road, too -/
def zRw (S : zLd) (k a v u : Nat) : Bool := zCm S k a u || (zGo S k a v && zCm S k v u)
theorem zRw_R {S : zLd} (hS : zWf S) {k : Nat} (hk : k < 6) {a v : Nat} : zQR S k (fun u _ => zRw S k a v u = true) := by
  intro r hr p q hj x hx hg h
  have h : (zCm S k a p || (zGo S k a v && zCm S k v p)) = true := h
  show (zCm S k a q || (zGo S k a v && zCm S k v q)) = true
  rw [Bool.or_eq_true, Bool.and_eq_true] at h ⊢
  rcases h with h | ⟨h1, h2⟩
  · exact Or.inl (zCm_road hS hk hr hj hg h)
  · exact Or.inr ⟨h1, zCm_road hS hk hr hj hg h2⟩
theorem zRw_B {S : zLd} (hS : zWf S) {k : Nat} (hk : k < 6) {a v : Nat} (hb : zBl S k = true) : zQB S (fun u _ => zRw S k a v u = true) := by
  intro x hx h
  have h : (zCm S k a (zSea S) || (zGo S k a v && zCm S k v (zSea S))) = true := h
  show (zCm S k a (zPeak S) || (zGo S k a v && zCm S k v (zPeak S))) = true
  rw [Bool.or_eq_true, Bool.and_eq_true] at h ⊢
  rcases h with h | ⟨h1, h2⟩
  · exact Or.inl (zCm_bal hS hk hb h)
  · exact Or.inr ⟨h1, zCm_bal hS hk hb h2⟩
section DIG
variable {S : zLd} {k : Nat}
theorem rw_loop (hS : zWf S) (hk : k < 6) {a v : Nat} (ha : a < zNv S) (hv : v < zNv S) : ∀ m (A : Nat → Nat) (w : zW), zSm A 12 < m → zMX w 61 S → zBs w A → zQI (fun u _ => zRw S k a v u = true) (zNv S) A → ∀ n, m + 1 < n → ∃ C u, lpX7_reachWith_23 (nI k) (nI a) (nI v) n w 1 = some u ∧ zE (fun o => o = 63) w u ∧ zBs u C ∧ zQI (fun u _ => zRw S k a v u = true) (zNv S) C ∧ (∀ i, C i ≤ A i) ∧ zCl S k (zBl S k) C ∧ (zGo S k a v = true → C a < zN9 → C v ≤ C a + zNd k 1) := by
  have h0 : 0 < zNv S := by omega
  intro m
  induction m with
  | zero => intro A w h; omega
  | succ m ih =>
    intro A w hm hM hB hI n hn
    obtain ⟨n, rfl⟩ : ∃ z, n = z + 1 := ⟨n - 1, by omega⟩
    obtain ⟨g, C, u, c1, c2, c3, c4, c5⟩ := rx_go hS hk h0 (zBl S k) (zRw_R hS hk (a := a) (v := v)) (fun h => zRw_B hS hk h) hM hB
    have hMu := hM.e63 c2
    obtain ⟨f1, B1, w1, a1, a2, a3, a4, a5⟩ := rx_tr (Q := fun u _ => zRw S k a v u = true) hS hMu c3 hk ha hv (show (1 : Nat) < 10 by omega) (fun x _ hg _ => by
      show (zCm S k a v || (zGo S k a v && zCm S k v v)) = true
      rw [hg, zCm_self]; simp)
    have hM1 := hMu.e63 a2
    obtain ⟨f2, B2, w2, b1, b2, b3, b4, b5⟩ := rx_tr (Q := fun u _ => zRw S k a v u = true) hS hM1 a3 hk hv ha (show (1 : Nat) < 10 by omega) (fun x _ hg _ => by
      show (zCm S k a a || (zGo S k a v && zCm S k v a)) = true
      rw [zCm_self]; rfl)
    have P := c4.trs (a4.trs b4)
    have a1 : fX7_takesRoad u (nI k) (nI a) (nI v) 1 = some (if f1 = true then 1 else 0, w1) := a1
    have b1 : fX7_takesRoad w1 (nI k) (nI v) (nI a) 1 = some (if f2 = true then 1 else 0, w2) := b1
    rw [lpX7_reachWith_23, if_neg h10, mx_flies hS hM hk h0, Option.bind_some, c1, zb2_some, a1, zb2_some, b1, zb2_some, ifor, Option.bind_some]
    cases e : (g || (f1 || f2)) with
    | false =>
      obtain ⟨n, rfl⟩ : ∃ z, n = z + 1 := ⟨n - 1, by omega⟩
      rw [e] at P
      rw [Bool.or_eq_false_iff, Bool.or_eq_false_iff] at e
      have q := P.2.2.1 rfl
      have q1 := c4.2.2.1 e.1
      refine ⟨B2, w2, ?_, (c2.trs a2).trs b2, b3, P.2.1 hI, P.1, ?_, ?_⟩
      · show lpX7_reachWith_23 (nI k) (nI a) (nI v) (n + 1) w2 0 = some w2
        rw [lpX7_reachWith_23, if_pos rfl]
      · rw [q]; exact c5 e.1
      · rw [q]
        have := a5 e.2.1
        rw [q1] at this
        exact this
    | true =>
      rw [e] at P
      have lt := P.2.2.2 rfl
      obtain ⟨E, x, e1, e2, e3, e4, e5, e6, e7⟩ := ih B2 w2 (by omega) (hM1.e63 b2) b3 (P.2.1 hI) n (by omega)
      exact ⟨E, x, e1, ((c2.trs a2).trs b2).trs e2, e3, e4, fun v => Nat.le_trans (e5 v) (P.1 v), e6, e7⟩
theorem rw_set (hS : zWf S) (hk : k < 6) {a v t : Nat} (ha : a < zNv S) (hv : v < zNv S) (ht : t ≤ 9999) {C : Nat → Nat} (h0 : C a ≤ t) (hc : zCl S k (zBl S k) C) (hx : zGo S k a v = true → C a < zN9 → C v ≤ C a + zNd k 1) {u : Nat} (hu : u < zNv S) (h : zRw S k a v u = true) : C u < zN9 := by
  have z : zNV = 1000000 := rfl
  have z9 : zN9 = 1000000000 := rfl
  have nd := zNd_le hk (show (1 : Nat) < 10 by omega)
  have h : (zCm S k a u || (zGo S k a v && zCm S k v u)) = true := h
  rw [Bool.or_eq_true, Bool.and_eq_true] at h
  rcases h with h | ⟨h1, h2⟩
  · have f := (zEa_cm hS hk (t := t) (by omega)).mpr h
    have := zCl_le hS hk hc ha (show t ≤ 500000 by omega) h0 hu f
    have f' : zEx S k (zBl S k) a u t < zNV := f
    omega
  · have b := hx h1 (by omega)
    have f : zEx S k (zBl S k) v u (t + 18) < zNV := (zEa_cm hS hk (t := t + 18) (by omega)).mpr h2
    have := zCl_le hS hk hc hv (show t + 18 ≤ 500000 by omega) (by omega) hu f
    omega
theorem mx_rw {w : zW} (hS : zWf S) (hk : k < 6) {a v : Nat} (ha : a < zNv S) (hv : v < zNv S) (hM : zMX w 61 S) : ∃ u, fX7_reachWith w (nI k) (nI a) (nI v) = some (nI (zst (zRw S k a v) (zNv S)), u) ∧ zE (fun o => o = 63) w u := by
  have z9 : zN9 = 1000000000 := rfl
  have nv := hS.nv
  have dy := hS.dy
  have tb : (true && zBl S k) = zBl S k := Bool.true_and _
  obtain ⟨C, x, c1, c2, c3, c4, c5, c6⟩ := rx_all (Q := fun u _ => zRw S k a v u = true) hS hk ha (show zDy S ≤ 500000 by omega) true (zRw_R hS hk) (fun h => zRw_B hS hk (tb ▸ h)) (by
    show (zCm S k a a || (zGo S k a v && zCm S k v a)) = true
    rw [zCm_self]; rfl) hM
  rw [tb] at c6
  have hMx := hM.e63 c2
  obtain ⟨f1, B1, w1, a1, a2, a3, a4, a5⟩ := rx_tr (Q := fun u _ => zRw S k a v u = true) hS hMx c3 hk ha hv (show (1 : Nat) < 10 by omega) (fun x _ hg _ => by
    show (zCm S k a v || (zGo S k a v && zCm S k v v)) = true
    rw [hg, zCm_self]; simp)
  have hM1 := hMx.e63 a2
  have c1 : fX7_find w (nI k) (nI a) (nI (zDy S)) 1 = some x := c1
  have a1 : fX7_takesRoad x (nI k) (nI a) (nI v) 1 = some (if f1 = true then 1 else 0, w1) := a1
  have fin : ∃ E y, lpX7_reachWith_23 (nI k) (nI a) (nI v) zF w1 (if f1 = true then 1 else 0) = some y ∧ zE (fun o => o = 63) w1 y ∧ zBs y E ∧ zQI (fun u _ => zRw S k a v u = true) (zNv S) E ∧ E a ≤ zDy S ∧ zCl S k (zBl S k) E ∧ (zGo S k a v = true → E a < zN9 → E v ≤ E a + zNd k 1) := by
    cases f1 with
    | false =>
      have e := a4.2.2.1 rfl
      refine ⟨B1, w1, ?_, zE.rfl, a3, a4.2.1 c4, by rw [e]; exact c5, by rw [e]; exact c6, by rw [e]; exact a5 rfl⟩
      show lpX7_reachWith_23 (nI k) (nI a) (nI v) zF w1 0 = some w1
      rw [show zF = 999999999999 + 1 from rfl, lpX7_reachWith_23, if_pos rfl]
    | true =>
      have sm := zSm_bd (B := B1) (M := zN9) (fun i hi => (a3 i hi).2)
      obtain ⟨E, y, e1, e2, e3, e4, e5, e6, e7⟩ := rw_loop hS hk ha hv (zSm B1 12 + 1) B1 w1 (by omega) hM1 a3 (a4.2.1 c4) zF (by unfold zF; omega)
      exact ⟨E, y, e1, e2, e3, e4, Nat.le_trans (e5 a) (Nat.le_trans (a4.1 a) c5), e6, e7⟩
  obtain ⟨E, y, y1, y2, y3, y4, y5, y6, y7⟩ := fin
  refine ⟨y, ?_, (c2.trs a2).trs y2⟩
  have r := mx_reached (P := zRw S k a v) hS (hM1.e63 y2) (fun i hi => ⟨E i, (y3 i (by omega)).1, (y3 i (by omega)).2, ⟨fun h => y4 i hi h, fun h => rw_set hS hk ha hv dy y5 y6 y7 hi h⟩⟩)
  unfold fX7_reachWith
  rw [mx_4 hM, Option.bind_some, c1, Option.bind_some, a1, zb2_some, y1, Option.bind_some, r, Option.bind_some]
theorem zst_orr {P Q : Nat → Bool} (n : Nat) : zst P n ||| zst Q n = zst (fun i => P i || Q i) n := by
  apply Nat.eq_of_testBit_eq
  intro i
  rw [Nat.testBit_or, zst_bit, zst_bit, zst_bit]
  cases decide (i < n) <;> simp
theorem zct_cong {P Q : Nat → Bool} : ∀ n, (∀ i, i < n → P i = Q i) → zct P n = zct Q n := by
  intro n
  induction n with
  | zero => intro _; rfl
  | succ n ih =>
    intro h
    unfold zct
    rw [ih (fun i hi => h i (by omega)), h n (by omega)]
def zDg (S : zLd) (k a : Nat) : Nat → Int32 × Nat
  | 0 => (-1, zct (zCm S k a) (zNv S))
  | v + 1 => if v ≠ a ∧ (zDg S k a v).2 < zct (zRw S k a v) (zNv S) then (nI v, zct (zRw S k a v) (zNv S)) else zDg S k a v
theorem zDg_ge {a : Nat} : ∀ v, zct (zCm S k a) (zNv S) ≤ (zDg S k a v).2 := by
  intro v
  induction v with
  | zero => exact Nat.le_refl _
  | succ v ih =>
    rw [zDg]
    split
    · rename_i h
      show _ ≤ zct (zRw S k a v) (zNv S)
      omega
    · exact ih
theorem zDg_le {a : Nat} : ∀ v, (zDg S k a v).2 ≤ zNv S := by
  intro v
  induction v with
  | zero => exact zct_le _ _
  | succ v ih =>
    rw [zDg]
    split
    · exact zct_le _ _
    · exact ih
theorem wy_dig {w : zW} (hS : zWf S) (hk : k < 6) (h : zWy w S k) (hC : zCX w 10 S) {a : Nat} (ha : a < zNv S) : fX6_bestDigging w (nI k) (nI a) = some (zDg S k a (zNv S)).1 := by
  have hn := hS.nv
  have key : ∀ m v, v + m = zNv S → ∀ n, m < n → lpX6_bestDigging_21 w (nI k) (nI a) (nI (zst (zCm S k a) (zNv S))) n (zDg S k a v).1 (nI (zDg S k a v).2) (nI v) = some (zDg S k a (zNv S)).1 := by
    intro m
    induction m with
    | zero =>
      intro v hv n hn
      obtain ⟨n, rfl⟩ : ∃ z, n = z + 1 := ⟨n - 1, by omega⟩
      rw [lpX6_bestDigging_21, hC.1.1, if_pos ((nI_leI (by omega) (by omega)).mpr (by omega)), show v = zNv S by omega]
    | succ m ih =>
      intro v hv n hn
      obtain ⟨n, rfl⟩ : ∃ z, n = z + 1 := ⟨n - 1, by omega⟩
      have hv' : v < zNv S := by omega
      have i := ih (v + 1) (by omega) n (by omega)
      have p : (nI v = nI a) = (v = a) := propext (nI_eq (by omega) (by omega))
      have l := zDg_le (S := S) (k := k) (a := a) v
      have g := zDg_ge (S := S) (k := k) (a := a) v
      rw [lpX6_bestDigging_21, hC.1.1, if_neg (fun x => by have := (nI_leI (by omega) (by omega)).mp x; omega), cx_go hS hC hk ha hv', Option.bind_some, wy_from hS h hv', Option.bind_some, nx_or, zst_orr, cx_bits w (zst_4096 _ hS.nv), zpc_set _ hS.nv, Option.bind_some, nI_1]
      simp only [p]
      rw [zDg] at i
      by_cases c0 : v = a
      · rw [if_neg (fun q => q.1 c0)] at i
        rw [if_pos c0, zb2_some]
        exact i
      rw [if_neg c0]
      cases c1 : zGo S k a v
      · have e : zct (zRw S k a v) (zNv S) = zct (zCm S k a) (zNv S) := zct_cong _ (fun j _ => by unfold zRw; rw [c1]; simp)
        rw [if_neg (fun q => by rw [e] at q; omega)] at i
        rw [if_pos (by decide), zb2_some]
        exact i
      · have e : zct (fun i => zCm S k a i || zCm S k v i) (zNv S) = zct (zRw S k a v) (zNv S) := zct_cong _ (fun j _ => by unfold zRw; rw [c1]; simp)
        have l2 := zct_le (zRw S k a v) (zNv S)
        rw [if_neg (by decide), e]
        by_cases c2 : (zDg S k a v).2 < zct (zRw S k a v) (zNv S)
        · rw [if_pos ⟨c0, c2⟩] at i
          rw [if_neg (fun x => by have := (nI_leI (by omega) (by omega)).mp x; omega), zb2_some]
          exact i
        · rw [if_neg (fun q => c2 q.2)] at i
          rw [if_pos ((nI_leI (by omega) (by omega)).mpr (by omega)), zb2_some]
          exact i
  have this := key (zNv S) 0 (by omega) zF (by unfold zF; omega)
  have this : lpX6_bestDigging_21 w (nI k) (nI a) (nI (zst (zCm S k a) (zNv S))) zF (-1) (nI (zct (zCm S k a) (zNv S))) 0 = some (zDg S k a (zNv S)).1 := this
  unfold fX6_bestDigging
  rw [wy_from hS h ha, Option.bind_some, cx_bits w (zst_4096 _ hn), zpc_set _ hn, Option.bind_some, this, Option.bind_some]
theorem mx_dig (hS : zWf S) (hk : k < 6) {a : Nat} (ha : a < zNv S) : ∀ m v (w : zW), v + m = zNv S → zMX w 61 S → ∀ n, m < n → ∃ u, lpX7_dig_39 (nI k) (nI a) n w (nI (zDg S k a v).2) (zDg S k a v).1 (nI v) = some ((zDg S k a (zNv S)).1, u) ∧ zE (fun o => o = 63) w u := by
  have hn := hS.nv
  intro m
  induction m with
  | zero =>
    intro v w hv hM n hn
    obtain ⟨n, rfl⟩ : ∃ z, n = z + 1 := ⟨n - 1, by omega⟩
    rw [lpX7_dig_39, mx_0 hM, Option.bind_some, if_pos ((nI_leI (by omega) (by omega)).mpr (by omega)), show v = zNv S by omega]
    exact ⟨w, rfl, zE.rfl⟩
  | succ m ih =>
    intro v w hv hM n hn
    obtain ⟨n, rfl⟩ : ∃ z, n = z + 1 := ⟨n - 1, by omega⟩
    have hv' : v < zNv S := by omega
    have p : (nI v = nI a) = (v = a) := propext (nI_eq (by omega) (by omega))
    have l := zDg_le (S := S) (k := k) (a := a) v
    rw [lpX7_dig_39, mx_0 hM, Option.bind_some, if_neg (fun x => by have := (nI_leI (by omega) (by omega)).mp x; omega)]
    simp only [p, nI_1]
    by_cases c0 : v = a
    · obtain ⟨u, u1, u2⟩ := ih (v + 1) w (by omega) hM n (by omega)
      rw [zDg, if_neg (fun q => q.1 c0)] at u1
      have z0 : (0 : Int32) ≤ nI (zDg S k a v).2 := nI_pos' (by omega)
      rw [if_pos c0, zb2_some, if_pos z0, Option.bind_some, if_pos z0, Option.bind_some]
      exact ⟨u, u1, u2⟩
    · obtain ⟨y, y1, y2⟩ := mx_rw hS hk ha hv' hM
      obtain ⟨u, u1, u2⟩ := ih (v + 1) y (by omega) (hM.e63 y2) n (by omega)
      have l2 := zct_le (zRw S k a v) (zNv S)
      rw [if_neg c0, y1, zb2_some, mx_ones y (zst_4096 _ hS.nv), zpc_set _ hS.nv, Option.bind_some, zb2_some]
      refine ⟨u, ?_, y2.trs u2⟩
      rw [zDg] at u1
      by_cases c2 : (zDg S k a v).2 < zct (zRw S k a v) (zNv S)
      · rw [if_pos ⟨c0, c2⟩] at u1
        have c' : ¬ nI (zct (zRw S k a v) (zNv S)) ≤ nI (zDg S k a v).2 := fun x => by have := (nI_leI (by omega) (by omega)).mp x; omega
        rw [if_neg c', Option.bind_some, if_neg c', Option.bind_some]
        exact u1
      · rw [if_neg (fun q => c2 q.2)] at u1
        have c' : nI (zct (zRw S k a v) (zNv S)) ≤ nI (zDg S k a v).2 := (nI_leI (by omega) (by omega)).mpr (by omega)
        rw [if_pos c', Option.bind_some, if_pos c', Option.bind_some]
        exact u1
end DIG
theorem op_dig (a b : Int32) : zOp (fun w => fX6_dig w a b) (fun w => fX7_dig w a b) := by
  intro w hI
  show ∃ r u v, fX6_dig w a b = some (r, u) ∧ fX7_dig u a b = some (r, v) ∧ zInv v
  obtain ⟨S, hS, hC, hM⟩ := hI.1
  have hn := hS.nv
  have hF := zff_mx (k := 0) hM (by omega)
  rcases zor (x := a) (n := 6) (by omega) with ha | ⟨k, hk, rfl⟩
  · exact ⟨zB0, zff w 0, zfg (zff w 0) 0, by simp only [fX6_dig, ck_n ha, Option.bind_some, if_true, x6_f0, zb2_some], by simp only [fX7_dig, in_k_n ha, Option.bind_some, if_true, x7_f0, zb2_some], hI.find (k := 0) (by omega)⟩
  rcases zor (x := b) (n := zNv S) (by omega) with hb | ⟨x, hx, rfl⟩
  · exact ⟨zB0, zff w 0, zfg (zff w 0) 0, by simp only [fX6_dig, ck_y hk, cx_hv_n hC hb, Option.bind_some, if_neg h10, if_true, x6_f0, zb2_some], by simp only [fX7_dig, in_k_y hk, mx_hv_n hS hF hb, Option.bind_some, if_neg h10, if_true, x7_f0, zb2_some], hI.find (k := 0) (by omega)⟩
  obtain ⟨u, u1, u2, u3⟩ := lo (Or.inl rfl) hS hC hk (by omega)
  have U := zP40 u2
  have hCu := hC.pc U
  have hMu := hM.pc U
  have e1 := wy_dig hS hk u3 hCu hx
  by_cases q : 0 ≤ (zDg S k x (zNv S)).1
  · obtain ⟨y, y1, y2⟩ := mx_rair hS hk hx hMu
    have hMy := hMu.e63 y2
    obtain ⟨v, v1, v2⟩ := mx_dig hS hk hx (zNv S) 0 y (by omega) hMy zF (by unfold zF; omega)
    have v1 : lpX7_dig_39 (nI k) (nI x) zF y (nI (zct (zCm S k x) (zNv S))) (-1) 0 = some ((zDg S k x (zNv S)).1, v) := v1
    refine ⟨(zDg S k x (zNv S)).1, u, v, ?_, ?_, hI.calm (U.trs (zP63 (y2.trs v2)))⟩
    · simp only [fX6_dig, ck_y hk, cx_hv_y hS hC hx, Option.bind_some, if_neg h10, u1, e1, if_pos q]
    · simp only [fX7_dig, in_k_y hk, mx_hv_y hS hMu hx, Option.bind_some, if_neg h10, y1, zb2_some, mx_ones y (zst_4096 _ hn), zpc_set _ hn, v1, if_pos q]
  · have hMf : zMX (zff u 3) 61 S := zff_mx hMu (by omega)
    obtain ⟨y, y1, y2⟩ := mx_rair hS hk hx hMf
    have hMy := hMf.e63 y2
    obtain ⟨v, v1, v2⟩ := mx_dig hS hk hx (zNv S) 0 y (by omega) hMy zF (by unfold zF; omega)
    have v1 : lpX7_dig_39 (nI k) (nI x) zF y (nI (zct (zCm S k x) (zNv S))) (-1) 0 = some ((zDg S k x (zNv S)).1, v) := v1
    refine ⟨zB3, zff u 3, zfg v 3, ?_, ?_, hI.cf (by omega) U (zP63 (y2.trs v2))⟩
    · simp only [fX6_dig, ck_y hk, cx_hv_y hS hC hx, Option.bind_some, if_neg h10, u1, e1, if_neg q, x6_f3, zb2_some]
    · simp only [fX7_dig, in_k_y hk, mx_hv_y hS hMf hx, Option.bind_some, if_neg h10, y1, zb2_some, mx_ones y (zst_4096 _ hn), zpc_set _ hn, v1, if_neg q, x7_f3]
