/-! quiet: pairs that can't write -/
theorem zSm_add {f g : Nat → Nat} : ∀ n, zSm (fun i => f i + g i) n = zSm f n + zSm g n := by
  intro n
  induction n with
  | zero => rfl
  | succ n ih =>
    show zSm (fun i => f i + g i) n + (f n + g n) = (zSm f n + f n) + (zSm g n + g n)
    rw [ih]; omega
theorem zSm_cong {f g : Nat → Nat} : ∀ n, (∀ i, i < n → f i = g i) → zSm f n = zSm g n := by
  intro n
  induction n with
  | zero => intro _; rfl
  | succ n ih =>
    intro h
    show zSm f n + f n = zSm g n + g n
    rw [ih (fun i hi => h i (by omega)), h n (by omega)]
theorem zSm_one : ∀ n, zSm (fun _ => 1) n = n := by
  intro n
  induction n with
  | zero => rfl
  | succ n ih => show zSm (fun _ => 1) n + 1 = n + 1; rw [ih]
theorem zSm_zero {f : Nat → Nat} : ∀ n, (∀ i, i < n → f i = 0) → zSm f n = 0 := by
  intro n
  induction n with
  | zero => intro _; rfl
  | succ n ih =>
    intro h
    show zSm f n + f n = 0
    rw [ih (fun i hi => h i (by omega)), h n (by omega)]
theorem zSm_pairs {F : Nat → Nat → Nat} (h0 : ∀ a, F a a = 0) (h1 : ∀ a b, a < b → F a b + F b a = 1) : ∀ n, 2 * zSm (fun a => zSm (F a) n) n = n * (n - 1) := by
  intro n
  induction n with
  | zero => rfl
  | succ n ih =>
    have e1 : zSm (fun a => zSm (F a) (n + 1)) (n + 1) = zSm (fun a => zSm (F a) n + F a n) n + (zSm (F n) n + F n n) := rfl
    have e2 : zSm (fun a => F a n) n + zSm (F n) n = n := by
      rw [← zSm_add, zSm_cong (g := fun _ => 1) n (fun i hi => h1 i n hi), zSm_one]
    rw [e1, zSm_add, h0 n]
    have e3 : (n + 1) * (n + 1 - 1) = n * (n - 1) + 2 * n := by
      cases n with
      | zero => rfl
      | succ n =>
        show (n + 1 + 1) * (n + 1) = (n + 1) * n + 2 * (n + 1)
        rw [Nat.mul_comm (n + 1) n, ← Nat.add_mul]
    rw [e3]
    omega
/-- silent both ways -/
def zsl (c : Nat → Nat → Bool) (a i : Nat) : Nat := if a < i ∧ c a i = false ∧ c i a = false then 1 else 0
/-- joined, each pair once -/
def zjo (c : Nat → Nat → Bool) (a b : Nat) : Nat := if b ≠ a ∧ c a b = true ∧ (a < b ∨ c b a = false) then 1 else 0
theorem zquiet (c : Nat → Nat → Bool) (n : Nat) : zSm (fun a => zSm (zjo c a) n) n + zSm (fun a => zSm (zsl c a) n) n = n * (n - 1) / 2 := by
  have := zSm_pairs (F := fun a b => zjo c a b + zsl c a b) (fun a => by
    show (if a ≠ a ∧ c a a = true ∧ (a < a ∨ c a a = false) then 1 else 0) + (if a < a ∧ c a a = false ∧ c a a = false then 1 else 0) = 0
    rw [if_neg (fun q => q.1 rfl), if_neg (fun q => Nat.lt_irrefl _ q.1)]) (fun a b hab => by
    show ((if b ≠ a ∧ c a b = true ∧ (a < b ∨ c b a = false) then 1 else 0) + (if a < b ∧ c a b = false ∧ c b a = false then 1 else 0)) + ((if a ≠ b ∧ c b a = true ∧ (b < a ∨ c a b = false) then 1 else 0) + (if b < a ∧ c b a = false ∧ c a b = false then 1 else 0)) = 1
    have n1 : ¬ b < a := by omega
    have n2 : b ≠ a := by omega
    have n3 : a ≠ b := by omega
    cases c a b <;> cases c b a <;> simp [hab, n1, n2, n3]) n
  have e : zSm (fun a => zSm (fun b => zjo c a b + zsl c a b) n) n = zSm (fun a => zSm (zjo c a) n) n + zSm (fun a => zSm (zsl c a) n) n := by
    rw [← zSm_add]
    exact zSm_cong n (fun i _ => zSm_add n)
  have this : 2 * zSm (fun a => zSm (fun b => zjo c a b + zsl c a b) n) n = n * (n - 1) := this
  rw [e] at this
  omega
section QUIET
variable {S : zLd} {k : Nat}
theorem wy_sil_in {w : zW} (hS : zWf S) (h : zWy w S k) {a : Nat} (ha : a < zNv S) (c : Nat) : ∀ m v, v + m = zNv S → a < v → ∀ n, m < n → lpX5_silentPairs_16 w (nI a) n (nI (c + zSm (zsl (zCm S k) a) v)) (nI v) = some (nI (c + zSm (zsl (zCm S k) a) (zNv S))) := by
  have hn := hS.nv
  intro m
  induction m with
  | zero =>
    intro v hv hav n hn
    obtain ⟨n, rfl⟩ : ∃ z, n = z + 1 := ⟨n - 1, by omega⟩
    rw [lpX5_silentPairs_16, h.1, if_pos ((nI_leI (by omega) (by omega)).mpr (by omega)), show v = zNv S by omega]
  | succ m ih =>
    intro v hv hav n hn
    obtain ⟨n, rfl⟩ : ∃ z, n = z + 1 := ⟨n - 1, by omega⟩
    have i := ih (v + 1) (by omega) (by omega) n (by omega)
    have e : zSm (zsl (zCm S k) a) (v + 1) = zSm (zsl (zCm S k) a) v + (if a < v ∧ zCm S k a v = false ∧ zCm S k v a = false then 1 else 0) := rfl
    rw [lpX5_silentPairs_16, h.1, if_neg (fun x => by have := (nI_leI (by omega) (by omega)).mp x; omega), wy_cm hS h ha (show v < zNv S by omega), wy_cm hS h (show v < zNv S by omega) ha, Option.bind_some, Option.bind_some, nI_1, nI_1]
    rw [e] at i
    cases c1 : zCm S k a v
    · cases c2 : zCm S k v a
      · rw [if_pos ⟨hav, c1, c2⟩, ← Nat.add_assoc] at i
        exact i
      · rw [if_neg (fun q => by rw [c2] at q; exact absurd q.2.2 (by decide)), Nat.add_zero] at i
        exact i
    · rw [if_neg (fun q => by rw [c1] at q; exact absurd q.2.1 (by decide)), Nat.add_zero] at i
      exact i
theorem wy_sil {w : zW} (hS : zWf S) (h : zWy w S k) : fX5_silentPairs w = some (nI (zSm (fun a => zSm (zsl (zCm S k) a) (zNv S)) (zNv S))) := by
  have hn := hS.nv
  have key : ∀ m a, a + m = zNv S → ∀ n, m < n → lpX5_silentPairs_4 w n (nI (zSm (fun a => zSm (zsl (zCm S k) a) (zNv S)) a)) (nI a) = some (nI (zSm (fun a => zSm (zsl (zCm S k) a) (zNv S)) (zNv S))) := by
    intro m
    induction m with
    | zero =>
      intro a ha n hn
      obtain ⟨n, rfl⟩ : ∃ z, n = z + 1 := ⟨n - 1, by omega⟩
      rw [lpX5_silentPairs_4, h.1, if_pos ((nI_leI (by omega) (by omega)).mpr (by omega)), show a = zNv S by omega]
    | succ m ih =>
      intro a ha n hn
      obtain ⟨n, rfl⟩ : ∃ z, n = z + 1 := ⟨n - 1, by omega⟩
      have z0 : zSm (zsl (zCm S k) a) (a + 1) = 0 := zSm_zero (a + 1) (fun i hi => if_neg (fun q => by omega))
      have i1 := wy_sil_in hS h (a := a) (by omega) (zSm (fun a => zSm (zsl (zCm S k) a) (zNv S)) a) m (a + 1) (by omega) (by omega) zF (by unfold zF; omega)
      rw [z0, Nat.add_zero] at i1
      have i2 := ih (a + 1) (by omega) n (by omega)
      rw [lpX5_silentPairs_4, h.1, if_neg (fun x => by have := (nI_leI (by omega) (by omega)).mp x; omega), Option.bind_some, nI_1, i1, Option.bind_some]
      exact i2
  have this := key (zNv S) 0 (by omega) zF (by unfold zF; omega)
  have this : lpX5_silentPairs_4 w zF 0 0 = some (nI (zSm (fun a => zSm (zsl (zCm S k) a) (zNv S)) (zNv S))) := this
  unfold fX5_silentPairs
  rw [this, Option.bind_some]
theorem mx_q_in (hS : zWf S) (hk : k < 6) {a : Nat} (ha : a < zNv S) (c : Nat) : ∀ m v (w : zW), v + m = zNv S → zMX w 61 S → ∀ n, m < n → ∃ u, lpX7_quiet_40 (nI k) (nI a) (nI (zst (zCm S k a) (zNv S))) n w (nI (c + zSm (zjo (zCm S k) a) v)) (nI v) = some (nI (c + zSm (zjo (zCm S k) a) (zNv S)), u) ∧ zE (fun o => o = 63) w u := by
  have hn := hS.nv
  intro m
  induction m with
  | zero =>
    intro v w hv hM n hn
    obtain ⟨n, rfl⟩ : ∃ z, n = z + 1 := ⟨n - 1, by omega⟩
    rw [lpX7_quiet_40, mx_0 hM, Option.bind_some, if_pos ((nI_leI (by omega) (by omega)).mpr (by omega)), show v = zNv S by omega]
    exact ⟨w, rfl, zE.rfl⟩
  | succ m ih =>
    intro v w hv hM n hn
    obtain ⟨n, rfl⟩ : ∃ z, n = z + 1 := ⟨n - 1, by omega⟩
    have hv' : v < zNv S := by omega
    have e : zSm (zjo (zCm S k) a) (v + 1) = zSm (zjo (zCm S k) a) v + (if v ≠ a ∧ zCm S k a v = true ∧ (a < v ∨ zCm S k v a = false) then 1 else 0) := rfl
    have p : (nI v = nI a) = (v = a) := propext (nI_eq (by omega) (by omega))
    have pl : (nI a < nI v) = (a < v) := propext (nI_ltI (by omega) (by omega))
    have b1 : (zst (zCm S k a) (zNv S)).testBit v = zCm S k a v := by rw [zst_bit, show decide (v < zNv S) = true by simpa using hv', Bool.true_and]
    rw [lpX7_quiet_40, mx_0 hM, Option.bind_some, if_neg (fun x => by have := (nI_leI (by omega) (by omega)).mp x; omega), mx_has (by omega), b1]
    simp only [p, pl, Option.bind_some, nI_1]
    by_cases c0 : v = a
    · obtain ⟨u, u1, u2⟩ := ih (v + 1) w (by omega) hM n (by omega)
      rw [e, if_neg (fun q => q.1 c0), Nat.add_zero] at u1
      rw [if_pos c0, zb2_some, if_pos rfl, Option.bind_some, zL0, nI_add, Nat.add_zero]
      exact ⟨u, u1, u2⟩
    rw [if_neg c0]
    cases c1 : zCm S k a v
    · obtain ⟨u, u1, u2⟩ := ih (v + 1) w (by omega) hM n (by omega)
      rw [e, if_neg (fun q => by rw [c1] at q; exact absurd q.2.1 (by decide)), Nat.add_zero] at u1
      rw [if_pos (by decide), zb2_some, if_pos rfl, Option.bind_some, zL0, nI_add, Nat.add_zero]
      exact ⟨u, u1, u2⟩
    rw [if_neg (by decide)]
    by_cases c2 : a < v
    · obtain ⟨u, u1, u2⟩ := ih (v + 1) w (by omega) hM n (by omega)
      rw [e, if_pos ⟨c0, c1, Or.inl c2⟩] at u1
      rw [if_pos c2, zb2_some, if_neg h10, Option.bind_some, nI_1, Nat.add_assoc]
      exact ⟨u, u1, u2⟩
    rw [if_neg c2]
    obtain ⟨y, y1, y2⟩ := mx_rair hS hk hv' hM
    obtain ⟨u, u1, u2⟩ := ih (v + 1) y (by omega) (hM.e63 y2) n (by omega)
    have b2 : (zst (zCm S k v) (zNv S)).testBit a = zCm S k v a := by rw [zst_bit, show decide (a < zNv S) = true by simpa using ha, Bool.true_and]
    rw [y1, zb2_some, mx_has (by omega), b2, Option.bind_some]
    refine ⟨u, ?_, y2.trs u2⟩
    cases c3 : zCm S k v a
    · rw [e, if_pos ⟨c0, c1, Or.inr c3⟩] at u1
      rw [if_pos (by decide), zb2_some, if_neg h10, Option.bind_some, nI_1, Nat.add_assoc]
      exact u1
    · rw [e, if_neg (fun q => by rw [c3] at q; exact q.2.2.elim (fun h => c2 h) (fun h => absurd h (by decide))), Nat.add_zero] at u1
      rw [if_neg (by decide), zb2_some, if_pos rfl, Option.bind_some, zL0, nI_add, Nat.add_zero]
      exact u1
theorem mx_q_out (hS : zWf S) (hk : k < 6) : ∀ m a (w : zW), a + m = zNv S → zMX w 61 S → ∀ n, m < n → ∃ u, lpX7_quiet_18 (nI k) n w (nI (zSm (fun a => zSm (zjo (zCm S k) a) (zNv S)) a)) (nI a) = some (nI (zSm (fun a => zSm (zjo (zCm S k) a) (zNv S)) (zNv S)), u) ∧ zE (fun o => o = 63) w u := by
  have hn := hS.nv
  intro m
  induction m with
  | zero =>
    intro v w hv hM n hn
    obtain ⟨n, rfl⟩ : ∃ z, n = z + 1 := ⟨n - 1, by omega⟩
    rw [lpX7_quiet_18, mx_0 hM, Option.bind_some, if_pos ((nI_leI (by omega) (by omega)).mpr (by omega)), show v = zNv S by omega]
    exact ⟨w, rfl, zE.rfl⟩
  | succ m ih =>
    intro v w hv hM n hn
    obtain ⟨n, rfl⟩ : ∃ z, n = z + 1 := ⟨n - 1, by omega⟩
    have hv' : v < zNv S := by omega
    obtain ⟨y, y1, y2⟩ := mx_rair hS hk hv' hM
    obtain ⟨x, x1, x2⟩ := mx_q_in hS hk hv' (zSm (fun a => zSm (zjo (zCm S k) a) (zNv S)) v) (zNv S) 0 y (by omega) (hM.e63 y2) zF (by unfold zF; omega)
    have x1 : lpX7_quiet_40 (nI k) (nI v) (nI (zst (zCm S k v) (zNv S))) zF y (nI (zSm (fun a => zSm (zjo (zCm S k) a) (zNv S)) v)) 0 = some (nI (zSm (fun a => zSm (zjo (zCm S k) a) (zNv S)) v + zSm (zjo (zCm S k) v) (zNv S)), x) := x1
    obtain ⟨u, u1, u2⟩ := ih (v + 1) x (by omega) ((hM.e63 y2).e63 x2) n (by omega)
    refine ⟨u, ?_, (y2.trs x2).trs u2⟩
    rw [lpX7_quiet_18, mx_0 hM, Option.bind_some, if_neg (fun x => by have := (nI_leI (by omega) (by omega)).mp x; omega), y1, zb2_some, x1, zb2_some, nI_1]
    exact u1
end QUIET
theorem op_quiet (a : Int32) : zOp (fun w => fX6_quiet w a) (fun w => fX7_quiet w a) := by
  intro w hI
  show ∃ r u v, fX6_quiet w a = some (r, u) ∧ fX7_quiet u a = some (r, v) ∧ zInv v
  obtain ⟨S, hS, hC, hM⟩ := hI.1
  have hn := hS.nv
  have hF := zff_mx (k := 0) hM (by omega)
  rcases zor (x := a) (n := 6) (by omega) with ha | ⟨k, hk, rfl⟩
  · exact ⟨zB0, zff w 0, zfg (zff w 0) 0, by simp only [fX6_quiet, ck_n ha, Option.bind_some, if_true, x6_f0, zb2_some], by simp only [fX7_quiet, in_k_n ha, Option.bind_some, if_true, x7_f0, zb2_some], hI.find (k := 0) (by omega)⟩
  have two : ∀ x : Nat, x < 2 ^ 30 → zdiv (nI x) 2 = some (nI (x / 2)) := fun x hx => by rw [zL2, zdiv_nI (by omega) (by omega) (by omega)]
  by_cases n0 : zNv S = 0
  · obtain ⟨u, u1, u2, u3⟩ := lo0 (Or.inl rfl) hS hC hk n0
    have U := zP40 u2
    have hMu := hM.pc U
    obtain ⟨v, v1, v2⟩ := mx_q_out hS hk (zNv S) 0 u (by omega) hMu zF (by unfold zF; omega)
    have e0 : zSm (fun a => zSm (zjo (zCm S k) a) (zNv S)) (zNv S) = 0 := by rw [n0]; rfl
    rw [e0] at v1
    have v1 : lpX7_quiet_18 (nI k) zF u 0 0 = some (nI 0, v) := v1
    have s0 : fX5_silentPairs u = some (nI 0) := by
      unfold fX5_silentPairs
      rw [show zF = 999999999999 + 1 from rfl, lpX5_silentPairs_4, u3, if_pos (by decide), Option.bind_some]
      rfl
    have m0 : nI (zNv S) * (nI (zNv S) - 1) = nI 0 := by rw [n0]; decide
    refine ⟨nI 0, u, v, ?_, ?_, hI.calm (U.trs (zP63 v2))⟩
    · simp only [fX6_quiet, ck_y hk, Option.bind_some, if_neg h10, u1, s0]
    · simp only [fX7_quiet, in_k_y hk, Option.bind_some, if_neg h10, v1, zb2_some, mx_0 (hMu.e63 v2), m0, two 0 (by omega), pk_sub (Nat.zero_le 0)]
  · obtain ⟨u, u1, u2, u3⟩ := lo (Or.inl rfl) hS hC hk (by omega)
    have U := zP40 u2
    have hMu := hM.pc U
    obtain ⟨v, v1, v2⟩ := mx_q_out hS hk (zNv S) 0 u (by omega) hMu zF (by unfold zF; omega)
    have v1 : lpX7_quiet_18 (nI k) zF u 0 0 = some (nI (zSm (fun a => zSm (zjo (zCm S k) a) (zNv S)) (zNv S)), v) := v1
    have id := zquiet (zCm S k) (zNv S)
    have m1 : nI (zNv S) * (nI (zNv S) - 1) = nI (zNv S * (zNv S - 1)) := by rw [zL1, pk_sub (by omega), pk_mul]
    have b : zNv S * (zNv S - 1) ≤ 12 * 12 := Nat.mul_le_mul hn (by omega)
    have e9 : zNv S * (zNv S - 1) / 2 - zSm (fun a => zSm (zjo (zCm S k) a) (zNv S)) (zNv S) = zSm (fun a => zSm (zsl (zCm S k) a) (zNv S)) (zNv S) := by omega
    refine ⟨nI (zSm (fun a => zSm (zsl (zCm S k) a) (zNv S)) (zNv S)), u, v, ?_, ?_, hI.calm (U.trs (zP63 v2))⟩
    · simp only [fX6_quiet, ck_y hk, Option.bind_some, if_neg h10, u1, wy_sil hS u3]
    · simp only [fX7_quiet, in_k_y hk, Option.bind_some, if_neg h10, v1, zb2_some, mx_0 (hMu.e63 v2), m1, two _ (show zNv S * (zNv S - 1) < 2 ^ 30 by omega)]
      rw [pk_sub (by omega), e9]
