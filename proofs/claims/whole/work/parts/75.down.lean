/-! distances of a land, and the class's answers over its Ways -/
abbrev zEg (S : zLd) (k : Nat) : Nat → Nat → Nat := zEr S k (zNr S)
abbrev zDd (S : zLd) (k : Nat) : Nat → Nat → Nat := zDn (zEg S k) (zNv S)
theorem zNd_le {k d : Nat} (hk : k < 6) (hd : d < 10) : zNd k d ≤ 18 := by
  unfold zNd
  split
  · omega
  · split
    · omega
    · split <;> omega
theorem zNd_pos {k d : Nat} (hd : 1 ≤ d) : 1 ≤ zNd k d := by
  unfold zNd
  split
  · omega
  · split
    · omega
    · split <;> omega
/-- a step that there is, is one by a road -/
theorem zEr_fin {S : zLd} (hS : zWf S) {k : Nat} : ∀ n, n ≤ zNr S → ∀ a b, zEr S k n a b < zNV → ∃ r, r < n ∧ zJr S a b r ∧ zGo S k a b = true ∧ zEr S k n a b = zNd k (zLn S r) := by
  intro n
  induction n with
  | zero => intro _ a b h; rw [zEr_0] at h; omega
  | succ n ih =>
    intro hn a b h
    rw [zEr] at h ⊢
    by_cases c : (zOn S n = a ∧ zOt S n = b ∨ zOn S n = b ∧ zOt S n = a) ∧ zGo S k a b = true
    · exact ⟨n, by omega, c.1, c.2, if_pos c⟩
    · rw [if_neg c] at h ⊢
      obtain ⟨r, r1, r2, r3, r4⟩ := ih (by omega) a b h
      exact ⟨r, by omega, r2, r3, r4⟩
theorem zEg_fin {S : zLd} (hS : zWf S) {k a b : Nat} (h : zEg S k a b < zNV) : ∃ r, r < zNr S ∧ zJr S a b r ∧ zGo S k a b = true ∧ zEg S k a b = zNd k (zLn S r) := zEr_fin hS (zNr S) (Nat.le_refl _) a b h
theorem zEr_road {S : zLd} (hS : zWf S) {k a b r : Nat} (hj : zJr S a b r) (hg : zGo S k a b = true) : ∀ n, n ≤ zNr S → r < n → zEr S k n a b = zNd k (zLn S r) := by
  intro n
  induction n with
  | zero => intro _ h; omega
  | succ n ih =>
    intro hn hr
    rw [zEr]
    by_cases c : (zOn S n = a ∧ zOt S n = b ∨ zOn S n = b ∧ zOt S n = a) ∧ zGo S k a b = true
    · rw [if_pos c]
      have : r = n := hS.un r n (by omega) (by omega) (by unfold zJr at hj; omega)
      rw [this]
    · rw [if_neg c]
      by_cases e : r = n
      · subst e; exact absurd ⟨hj, hg⟩ c
      · exact ih (by omega) (by omega)
theorem zEg_road {S : zLd} (hS : zWf S) {k a b r : Nat} (hr : r < zNr S) (hj : zJr S a b r) (hg : zGo S k a b = true) : zEg S k a b = zNd k (zLn S r) := zEr_road hS hj hg (zNr S) (Nat.le_refl _) hr
theorem zEg_bd {S : zLd} (hS : zWf S) {k : Nat} (hk : k < 6) {a b : Nat} (h : zEg S k a b < zNV) : 1 ≤ zEg S k a b ∧ zEg S k a b ≤ 18 := by
  obtain ⟨r, r1, r2, r3, r4⟩ := zEg_fin hS h
  obtain ⟨_, _, _, g4, g5⟩ := hS.rd r r1
  have e1 := zNd_le hk (show zLn S r < 10 by omega)
  have e2 := zNd_pos (k := k) g4
  rw [r4]
  exact ⟨e2, e1⟩
theorem zEg_le {S : zLd} (hS : zWf S) {k a b : Nat} : zEg S k a b ≤ zNV := zEr_le hS (zNr S) (Nat.le_refl _) a b
theorem zD_0 {S : zLd} {k a : Nat} : zDd S k a a = 0 := zFW_0 (D := fun a b => if a = b then 0 else zEg S k a b) (if_pos rfl) (zNv S)
theorem zD_le {S : zLd} (hS : zWf S) {k a b : Nat} : zDd S k a b ≤ zNV := by
  have := zFW_le (D := fun a b => if a = b then 0 else zEg S k a b) (a := a) (b := b) (zNv S)
  refine Nat.le_trans this ?_
  show (if a = b then 0 else zEg S k a b) ≤ zNV
  have := zEg_le hS (k := k) (a := a) (b := b)
  split <;> omega
theorem zD_e {S : zLd} {k a b : Nat} : zDd S k a b ≤ zEg S k a b := by
  have := zFW_le (D := fun a b => if a = b then 0 else zEg S k a b) (a := a) (b := b) (zNv S)
  refine Nat.le_trans this ?_
  show (if a = b then 0 else zEg S k a b) ≤ zEg S k a b
  split <;> omega
theorem zD_tri {S : zLd} {k a b c : Nat} (hc : c < zNv S) : zDd S k a b ≤ zDd S k a c + zDd S k c b := zFW_tri (D := fun a b => if a = b then 0 else zEg S k a b) (N := zNv S) (fun a _ => if_pos rfl) (zNv S) (Nat.le_refl _) c hc a b
theorem zD_bd {S : zLd} (hS : zWf S) {k : Nat} (hk : k < 6) {a b : Nat} (h : zDd S k a b < zNV) : zDd S k a b ≤ 73728 := by
  have nv := hS.nv
  have := zFW_bd (D := fun a b => if a = b then 0 else zEg S k a b) (w := 18) (fun a b hab => by
    show (if a = b then 0 else zEg S k a b) ≤ 18
    have hab : (if a = b then 0 else zEg S k a b) < zNV := hab
    by_cases c : a = b
    · rw [if_pos c]; omega
    · rw [if_neg c] at hab ⊢
      exact (zEg_bd hS hk hab).2) (fun a b => by
    show (if a = b then 0 else zEg S k a b) ≤ zNV
    have := zEg_le hS (k := k) (a := a) (b := b)
    split <;> omega) (zNv S) a b h
  have e : 2 ^ zNv S ≤ 2 ^ 12 := Nat.pow_le_pow_right (by omega) nv
  have e2 : 2 ^ zNv S * 18 ≤ 2 ^ 12 * 18 := Nat.mul_le_mul_right 18 e
  exact Nat.le_trans this (Nat.le_trans e2 (by decide))
theorem zD_wk {S : zLd} {k a b : Nat} (ha : a < zNv S) (hb : b < zNv S) (h : zDd S k a b < zNV) : ∃ m, zWk (zEg S k) (zNv S) m a b (zDd S k a b) := zFW_wk (D := fun a b => if a = b then 0 else zEg S k a b) (fun a b ha hb hab => by
  have hab : (if a = b then 0 else zEg S k a b) < zNV := hab
  show ∃ m, zWk (zEg S k) (zNv S) m a b (if a = b then 0 else zEg S k a b)
  by_cases c : a = b
  · rw [if_pos c]; exact ⟨0, c, rfl⟩
  · rw [if_neg c] at hab ⊢
    exact ⟨1, a, ha, 0, ⟨rfl, rfl⟩, hab, by omega⟩) (zNv S) (Nat.le_refl _) a b ha hb h
/-- the balloon's first day from t on -/
def zFl (e t : Nat) : Nat := if t % e = 0 then t else t + e - t % e
theorem zFl_ge {e t : Nat} (he : 1 ≤ e) : t ≤ zFl e t := by
  have := Nat.mod_lt t (show e > 0 by omega)
  unfold zFl
  split <;> omega
theorem zFl_le {e t : Nat} (he : 1 ≤ e) : zFl e t ≤ t + e := by
  unfold zFl
  split <;> omega
theorem zFl_eq {e t : Nat} (he : 1 ≤ e) : zFl e t = e * ((t + (e - 1)) / e) := by
  have h1 := Nat.div_add_mod t e
  have h2 := Nat.mod_lt t (show e > 0 by omega)
  unfold zFl
  by_cases c : t % e = 0
  · rw [if_pos c]
    have : (t + (e - 1)) / e = t / e := by
      rw [show t + (e - 1) = (e - 1) + e * (t / e) by omega, Nat.add_mul_div_left _ _ (by omega), Nat.div_eq_of_lt (by omega)]
      omega
    rw [this]; omega
  · rw [if_neg c]
    have : (t + (e - 1)) / e = t / e + 1 := by
      rw [show t + (e - 1) = (t % e - 1) + e * (t / e + 1) by rw [Nat.mul_add]; omega, Nat.add_mul_div_left _ _ (by omega), Nat.div_eq_of_lt (by omega)]
      omega
    rw [this, Nat.mul_add]; omega
theorem zFl_mono {e s t : Nat} (he : 1 ≤ e) (h : s ≤ t) : zFl e s ≤ zFl e t := by
  rw [zFl_eq he, zFl_eq he]
  exact Nat.mul_le_mul_left _ (Nat.div_le_div_right (by omega))
/-- the first day on which post can be there; zNV: never -/
def zEx (S : zLd) (k : Nat) (air : Bool) (a b t : Nat) : Nat := if air = true ∧ zDd S k a (zSea S) < zNV ∧ zDd S k (zPeak S) b < zNV then min (if zDd S k a b < zNV then t + zDd S k a b else zNV) (zFl (zEv S) (t + zDd S k a (zSea S)) + 1 + zDd S k (zPeak S) b) else (if zDd S k a b < zNV then t + zDd S k a b else zNV)
abbrev zEa (S : zLd) (k a b t : Nat) : Nat := zEx S k (zBl S k) a b t
def zCm (S : zLd) (k a b : Nat) : Bool := decide (zDd S k a b < zNV) || (zBl S k && (decide (zDd S k a (zSea S) < zNV) && decide (zDd S k (zPeak S) b < zNV)))
theorem zEx_bd {S : zLd} (hS : zWf S) {k : Nat} (hk : k < 6) {air : Bool} {a b t : Nat} (ht : t ≤ 500000) (h : zEx S k air a b t < zNV) : zEx S k air a b t ≤ t + 147556 := by
  have z : zNV = 1000000 := rfl
  have ev := hS.ev
  unfold zEx at h ⊢
  have d1 := zD_bd hS hk (a := a) (b := b)
  have d2 := zD_bd hS hk (a := a) (b := zSea S)
  have d3 := zD_bd hS hk (a := zPeak S) (b := b)
  have d4 := zFl_le (t := t + zDd S k a (zSea S)) ev.1
  by_cases c : air = true ∧ zDd S k a (zSea S) < zNV ∧ zDd S k (zPeak S) b < zNV
  · rw [if_pos c]
    have := d2 c.2.1
    have := d3 c.2.2
    refine Nat.le_trans (Nat.min_le_right _ _) ?_
    omega
  · rw [if_neg c] at h ⊢
    by_cases e : zDd S k a b < zNV
    · rw [if_pos e]
      have := d1 e
      omega
    · rw [if_neg e] at h
      omega
theorem zEx_ge {S : zLd} (hS : zWf S) {k : Nat} {air : Bool} {a b t : Nat} (ht : t ≤ 500000) : t ≤ zEx S k air a b t := by
  have z : zNV = 1000000 := rfl
  have ev := hS.ev
  have d4 := zFl_ge (t := t + zDd S k a (zSea S)) ev.1
  unfold zEx
  by_cases c : air = true ∧ zDd S k a (zSea S) < zNV ∧ zDd S k (zPeak S) b < zNV
  · rw [if_pos c]
    by_cases e : zDd S k a b < zNV
    · rw [if_pos e]; omega
    · rw [if_neg e]; omega
  · rw [if_neg c]
    by_cases e : zDd S k a b < zNV
    · rw [if_pos e]; omega
    · rw [if_neg e]; omega
theorem zEx_fin {S : zLd} (hS : zWf S) {k : Nat} (hk : k < 6) {air : Bool} {a b t : Nat} (ht : t ≤ 500000) : zEx S k air a b t < zNV ↔ (zDd S k a b < zNV ∨ (air = true ∧ zDd S k a (zSea S) < zNV ∧ zDd S k (zPeak S) b < zNV)) := by
  have z : zNV = 1000000 := rfl
  have ev := hS.ev
  have d1 := zD_bd hS hk (a := a) (b := b)
  have d2 := zD_bd hS hk (a := a) (b := zSea S)
  have d3 := zD_bd hS hk (a := zPeak S) (b := b)
  have d4 := zFl_le (t := t + zDd S k a (zSea S)) ev.1
  unfold zEx
  by_cases c : air = true ∧ zDd S k a (zSea S) < zNV ∧ zDd S k (zPeak S) b < zNV
  · rw [if_pos c]
    have := d2 c.2.1
    have := d3 c.2.2
    exact ⟨fun _ => Or.inr c, fun _ => Nat.lt_of_le_of_lt (Nat.min_le_right _ _) (by omega)⟩
  · rw [if_neg c]
    by_cases e : zDd S k a b < zNV
    · rw [if_pos e]
      have := d1 e
      exact ⟨fun _ => Or.inl e, fun _ => by omega⟩
    · rw [if_neg e]
      exact ⟨fun h => by omega, fun h => h.elim (fun h => absurd h e) (fun h => absurd h c)⟩
theorem zEa_cm {S : zLd} (hS : zWf S) {k : Nat} (hk : k < 6) {a b t : Nat} (ht : t ≤ 500000) : zEa S k a b t < zNV ↔ zCm S k a b = true := by
  rw [zEx_fin hS hk ht]
  unfold zCm
  simp
theorem zEx_le {S : zLd} {k : Nat} {air : Bool} {a b t : Nat} (hS : zWf S) (hk : k < 6) (ht : t ≤ 500000) : zEx S k air a b t ≤ zNV := by
  by_cases c : zEx S k air a b t < zNV
  · omega
  · have h := fun q => c ((zEx_fin hS hk ht).mpr q)
    unfold zEx
    rw [if_neg (fun q => h (Or.inr q)), if_neg (fun q => h (Or.inl q))]
    exact Nat.le_refl _
section WAYS
variable {w : zW} {S : zLd} {k : Nat}
theorem zWy.keep {u : zW} (h : zWy w S k) (e0 : ∀ i, i < 7 → u.1 40 i = w.1 40 i) (e1 : u.1 41 = w.1 41) (e2 : u.1 42 = w.1 42) : zWy u S k := by
  unfold zWy zDA
  rw [e0 2 (by omega), e0 3 (by omega), e0 4 (by omega), e0 5 (by omega), e0 6 (by omega), e1, e2]
  exact h
theorem wy_down (hS : zWf S) (h : zWy w S k) {a b : Nat} (ha : a < zNv S) (hb : b < zNv S) : fX5_downDays w (nI a) (nI b) = some (nI (zDd S k a b)) := by
  have nv := hS.nv
  unfold fX5_downDays
  rw [hr_y nv h.1 ha hb, Option.bind_some, if_neg h10, ix12, zrd_nI (by omega) (by omega), Option.bind_some, h.2.2.2.2.2.2 a b ha hb]
theorem wy_step (hS : zWf S) (h : zWy w S k) {a b : Nat} (ha : a < zNv S) (hb : b < zNv S) : fX5_stepDays w (nI a) (nI b) = some (nI (zEg S k a b)) := by
  have nv := hS.nv
  unfold fX5_stepDays
  rw [hr_y nv h.1 ha hb, Option.bind_some, if_neg h10, ix12, zrd_nI (by omega) (by omega), Option.bind_some, h.2.2.2.2.2.1 a b ha hb]
theorem zrem_nI {a d : Nat} (ha : a < 2 ^ 31) (h0 : 0 < d) (hd : d < 2 ^ 31) : zrem (nI a) (nI d) = some (nI (a % d)) := by
  unfold zrem
  rw [if_neg (nI_ne0 h0 hd), pk_rem ha h0 hd]
theorem zdiv_nI {a d : Nat} (ha : a < 2 ^ 31) (h0 : 0 < d) (hd : d < 2 ^ 31) : zdiv (nI a) (nI d) = some (nI (a / d)) := by
  unfold zdiv
  rw [if_neg (nI_ne0 h0 hd), pk_div ha h0 hd]
theorem nI_z {a : Nat} (ha : a < 2 ^ 31) : (nI a = 0) = (a = 0) := propext (by rw [zL0]; exact nI_eq ha (by omega))
theorem wy_fl (hS : zWf S) (h : zWy w S k) {t : Nat} (ht : t < 2 ^ 30) : fX5_flightFrom w (nI t) = some (nI (zFl (zEv S) t)) := by
  have ev := hS.ev
  have m := Nat.mod_lt t (show zEv S > 0 by omega)
  unfold fX5_flightFrom zFl
  rw [h.2.2.2.1, if_neg (nI_nle (by omega) (by omega)), zrem_nI (by omega) (by omega) (by omega), Option.bind_some, Option.bind_some]
  simp only [nI_z (show t % zEv S < 2 ^ 31 by omega)]
  by_cases c : t % zEv S = 0
  · rw [if_pos c, if_pos c]
  · rw [if_neg c, if_neg c, nI_add, pk_sub (by omega)]
theorem le6 {x : Nat} (hx : x < 2 ^ 31) : ((1000000 : Int32) ≤ nI x) = (zNV ≤ x) := propext (by rw [zL1000000]; exact nI_leI (by omega) hx)
theorem lt6 {x : Nat} (hx : x < 2 ^ 31) : (nI x < (1000000 : Int32)) = (x < zNV) := propext (by rw [zL1000000]; exact nI_ltI hx (by omega))
theorem ifb0 (b : Bool) : ((if b = true then (1 : Int32) else 0) = 0) = (b = false) := by cases b <;> simp
theorem wy_ear (hS : zWf S) (hk : k < 6) (h : zWy w S k) {a b t : Nat} (ha : a < zNv S) (hb : b < zNv S) (ht : t ≤ 500000) : fX5_earliest w (nI a) (nI b) (nI t) = some (nI (zEa S k a b t)) := by
  have z : zNV = 1000000 := rfl
  have ev := hS.ev
  have n0 : 0 < zNv S := by omega
  have q1 := zD_le hS (k := k) (a := a) (b := b)
  have q2 := zD_le hS (k := k) (a := a) (b := zSea S)
  have q3 := zD_le hS (k := k) (a := zPeak S) (b := b)
  have d1 := zD_bd hS hk (a := a) (b := b)
  have d2 := zD_bd hS hk (a := a) (b := zSea S)
  have d3 := zD_bd hS hk (a := zPeak S) (b := b)
  have d4 := zFl_le (t := t + zDd S k a (zSea S)) ev.1
  unfold fX5_earliest zEa zEx
  rw [h.2.1, h.2.2.1, h.2.2.2.2.1]
  simp only [wy_down hS h ha hb, wy_down hS h ha (zSea_lt n0), wy_down hS h (zPeak_lt n0) hb, Option.bind_some, le6 (show zDd S k a b < 2 ^ 31 by omega), le6 (show zDd S k a (zSea S) < 2 ^ 31 by omega), le6 (show zDd S k (zPeak S) b < 2 ^ 31 by omega), ifb0, nI_add]
  have e1 : (if zNV ≤ zDd S k a b then some (1000000 : Int32) else some (nI (t + zDd S k a b))) = some (nI (if zDd S k a b < zNV then t + zDd S k a b else zNV)) := by
    by_cases c : zDd S k a b < zNV
    · rw [if_neg (by omega), if_pos c]
    · rw [if_pos (by omega), if_neg c]; rfl
  rw [e1, Option.bind_some]
  generalize hx : (if zDd S k a b < zNV then t + zDd S k a b else zNV) = x
  have bx : x < 2 ^ 30 := by
    rw [← hx]
    by_cases c : zDd S k a b < zNV
    · rw [if_pos c]; omega
    · rw [if_neg c]; omega
  by_cases c1 : zBl S k = true
  · by_cases c2 : zDd S k a (zSea S) < zNV
    · by_cases c3 : zDd S k (zPeak S) b < zNV
      · have := d2 c2
        have := d3 c3
        rw [if_neg (by rw [c1]; decide), if_neg (by omega), if_neg (by omega), if_pos ⟨c1, c2, c3⟩, wy_fl hS h (by omega), Option.bind_some, Option.bind_some, nI_1, nI_add, zmin_nI (by omega) (by omega)]
      · rw [if_neg (by rw [c1]; decide), if_neg (by omega), if_pos (by omega), if_neg (fun q => c3 q.2.2), Option.bind_some]
    · rw [if_neg (by rw [c1]; decide), if_pos (by omega), if_neg (fun q => c2 q.2.1), Option.bind_some]
  · rw [if_pos (by simpa using c1), if_neg (fun q => c1 q.1), Option.bind_some]
theorem wy_cd (hS : zWf S) (h : zWy w S k) {a b : Nat} (ha : a < zNv S) (hb : b < zNv S) : fX5_comesDown w (nI a) (nI b) = some (if decide (zDd S k a b < zNV) then 1 else 0) := by
  have z : zNV = 1000000 := rfl
  have q1 := zD_le hS (k := k) (a := a) (b := b)
  unfold fX5_comesDown
  rw [wy_down hS h ha hb, Option.bind_some]
  simp only [le6 (show zDd S k a b < 2 ^ 31 by omega)]
  by_cases c : zDd S k a b < zNV
  · rw [if_neg (by omega)]; simp [c]
  · rw [if_pos (by omega)]; simp [c]
theorem wy_cm (hS : zWf S) (h : zWy w S k) {a b : Nat} (ha : a < zNv S) (hb : b < zNv S) : fX5_comes w (nI a) (nI b) = some (if zCm S k a b then 1 else 0) := by
  have n0 : 0 < zNv S := by omega
  unfold fX5_comes zCm
  rw [h.2.1, h.2.2.1, h.2.2.2.2.1]
  simp only [wy_cd hS h ha hb, wy_cd hS h ha (zSea_lt n0), wy_cd hS h (zPeak_lt n0) hb, Option.bind_some, ifb0]
  cases decide (zDd S k a b < zNV) <;> cases zBl S k <;> cases decide (zDd S k a (zSea S) < zNV) <;> cases decide (zDd S k (zPeak S) b < zNV) <;> rfl
end WAYS
