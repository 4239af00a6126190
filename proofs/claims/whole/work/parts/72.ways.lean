/-- the row p of 144 holds D for the first N villages -/
def zDA (w : zW) (p N : Nat) (D : Nat → Nat → Nat) : Prop := ∀ a b, a < N → b < N → w.1 p (a * 12 + b) = nI (D a b)
theorem ix12 (a b : Nat) : nI a * (12 : Int32) + nI b = nI (a * 12 + b) := by rw [show (12 : Int32) = nI 12 from rfl, pk_mul, nI_add]
theorem zmin_nI {x y : Nat} (hx : x < 2 ^ 31) (hy : y < 2 ^ 31) : zmin (nI x) (nI y) = nI (min x y) := by
  unfold zmin
  by_cases c : y < x
  · rw [if_pos ((nI_ltI hy hx).mpr c), Nat.min_eq_right (by omega)]
  · rw [if_neg (fun q => c ((nI_ltI hy hx).mp q)), Nat.min_eq_left (by omega)]
theorem zmax_nI {x y : Nat} (hx : x < 2 ^ 31) (hy : y < 2 ^ 31) : zmax (nI x) (nI y) = nI (max x y) := by
  unfold zmax
  by_cases c : x < y
  · rw [if_pos ((nI_ltI hx hy).mpr c), Nat.max_eq_right (by omega)]
  · rw [if_neg (fun q => c ((nI_ltI hx hy).mp q)), Nat.max_eq_left (by omega)]
theorem hr_y {w : zW} {N a b : Nat} (hN : N ≤ 12) (h : w.1 40 2 = nI N) (ha : a < N) (hb : b < N) : fX5_areHere w (nI a) (nI b) = some 1 := by
  unfold fX5_areHere
  rw [h, if_neg (nI_pos (by omega)), if_neg (fun q => by have := (nI_leI (by omega) (by omega)).mp q; omega), if_neg (nI_pos (by omega)), if_neg (fun q => by have := (nI_leI (by omega) (by omega)).mp q; omega)]
theorem zDA.put {w : zW} {p N : Nat} {D : Nat → Nat → Nat} (h : zDA w p N D) (hN : N ≤ 12) {a b x : Nat} (hb : b < N) : zDA (zsf w p (a * 12 + b) (nI x)) p N (fun i j => if i = a ∧ j = b then x else D i j) := by
  intro i j hi hj
  show _ = nI (if i = a ∧ j = b then x else D i j)
  by_cases q : i = a ∧ j = b
  · rw [if_pos q, q.1, q.2, zsf_same]
  · rw [if_neg q, zsf_k (by omega), h i j hi hj]
theorem zDA.eq {w : zW} {p N : Nat} {D F : Nat → Nat → Nat} (h : zDA w p N D) (e : ∀ i j, i < N → j < N → D i j = F i j) : zDA w p N F := fun i j hi hj => by rw [h i j hi hj, e i j hi hj]
theorem shb_loop {N k f : Nat} {D : Nat → Nat → Nat} (hN : N ≤ 12) (hk : k < N) (hf : f < N) (hD : ∀ a b, D a b ≤ zNV) (w : zW) (h2 : w.1 40 2 = nI N) : ∀ m t u, t + m = N → zE (fun o => o = 42) w u → zDA u 42 N (fun a b => if a = f ∧ b < t then min (D a b) (D a k + D k b) else D a b) → ∀ q, m < q → ∃ v, lpX5_shortenBy_34 (nI (f * 12)) (nI (k * 12)) (nI (D f k)) q u (nI t) = some v ∧ zE (fun o => o = 42) w v ∧ zDA v 42 N (fun a b => if a = f then min (D a b) (D a k + D k b) else D a b) := by
  have z : zNV = 1000000 := rfl
  intro m
  induction m with
  | zero =>
    intro t u ht hE hA q hq
    obtain ⟨q, rfl⟩ : ∃ z, q = z + 1 := ⟨q - 1, by omega⟩
    rw [lpX5_shortenBy_34, (hE 40 (by omega)).1, h2, if_pos ((nI_leI (by omega) (by omega)).mpr (by omega))]
    refine ⟨u, rfl, hE, hA.eq (fun i j hi hj => ?_)⟩
    by_cases c : i = f
    · rw [if_pos ⟨c, by omega⟩, if_pos c]
    · rw [if_neg (fun x => c x.1), if_neg c]
  | succ m ih =>
    intro t u ht hE hA q hq
    obtain ⟨q, rfl⟩ : ∃ z, q = z + 1 := ⟨q - 1, by omega⟩
    have d1 := hD f t
    have d2 := hD f k
    have d3 := hD k t
    have a1 : u.1 42 (f * 12 + t) = nI (if f = f ∧ t < t then min (D f t) (D f k + D k t) else D f t) := hA f t hf (by omega)
    have a2 : u.1 42 (k * 12 + t) = nI (if k = f ∧ t < t then min (D k t) (D k k + D k t) else D k t) := hA k t hk (by omega)
    rw [if_neg (fun x => Nat.lt_irrefl _ x.2)] at a1
    rw [if_neg (fun x => Nat.lt_irrefl _ x.2)] at a2
    rw [lpX5_shortenBy_34, (hE 40 (by omega)).1, h2, if_neg (fun x => by have := (nI_leI (by omega) (by omega)).mp x; omega), nI_add, nI_add, zrd_nI (by omega) (by omega), zrd_nI (by omega) (by omega), Option.bind_some, Option.bind_some, a1, a2, nI_add, zmin_nI (by omega) (by omega), zwr_nI (by omega) (by omega), Option.bind_some, nI_1]
    refine ih (t + 1) _ (by omega) (hE.trs (zE.sf0 rfl)) ((hA.put hN (by omega)).eq (fun i j hi hj => ?_)) q (by omega)
    by_cases c : i = f ∧ j = t
    · obtain ⟨rfl, rfl⟩ := c
      rw [if_pos ⟨rfl, rfl⟩, if_pos ⟨rfl, by omega⟩]
    · rw [if_neg c]
      by_cases c2 : i = f ∧ j < t
      · rw [if_pos c2, if_pos ⟨c2.1, by omega⟩]
      · rw [if_neg c2, if_neg (by omega)]
theorem shb {N k f : Nat} {D : Nat → Nat → Nat} (hN : N ≤ 12) (hk : k < N) (hf : f < N) (hD : ∀ a b, D a b ≤ zNV) (w : zW) (h2 : w.1 40 2 = nI N) (hA : zDA w 42 N D) : ∃ v, fX5_shortenBy w (nI k) (nI f) = some v ∧ zE (fun o => o = 42) w v ∧ zDA v 42 N (fun a b => if a = f then min (D a b) (D a k + D k b) else D a b) := by
  obtain ⟨v, h3, h4, h5⟩ := shb_loop hN hk hf hD w h2 N 0 w (by omega) zE.rfl (hA.eq (fun i j hi hj => by rw [if_neg (by omega)])) zF (by unfold zF; omega)
  refine ⟨v, ?_, h4, h5⟩
  have e1 : nI f * (12 : Int32) = nI (f * 12) := by rw [show (12 : Int32) = nI 12 from rfl, pk_mul]
  have e2 : nI k * (12 : Int32) = nI (k * 12) := by rw [show (12 : Int32) = nI 12 from rfl, pk_mul]
  simp only [fX5_shortenBy, hr_y hN h2 hf hk, Option.bind_some, if_neg h10, e1, e2]
  rw [nI_add, zrd_nI (by omega) (by omega), Option.bind_some, hA f k hf hk, show (0 : Int32) = nI 0 from rfl, h3, Option.bind_some]
theorem js_in {N k : Nat} {D : Nat → Nat → Nat} (hN : N ≤ 12) (hk : k < N) (hD : ∀ a b, D a b ≤ zNV) (hkk : D k k = 0) (w : zW) (h2 : w.1 40 2 = nI N) : ∀ m f u, f + m = N → zE (fun o => o = 42) w u → zDA u 42 N (fun a b => if a < f then zstp D k a b else D a b) → ∀ q, m < q → ∃ v, lpX5_joinSteps_56 (nI k) q u (nI f) = some v ∧ zE (fun o => o = 42) w v ∧ zDA v 42 N (zstp D k) := by
  have z : zNV = 1000000 := rfl
  intro m
  induction m with
  | zero =>
    intro f u hf hE hA q hq
    obtain ⟨q, rfl⟩ : ∃ z, q = z + 1 := ⟨q - 1, by omega⟩
    rw [lpX5_joinSteps_56, (hE 40 (by omega)).1, h2, if_pos ((nI_leI (by omega) (by omega)).mpr (by omega))]
    exact ⟨u, rfl, hE, hA.eq (fun i j hi hj => by rw [if_pos (by omega)])⟩
  | succ m ih =>
    intro f u hf hE hA q hq
    obtain ⟨q, rfl⟩ : ∃ z, q = z + 1 := ⟨q - 1, by omega⟩
    have a1 : u.1 42 (f * 12 + k) = nI (if f < f then zstp D k f k else D f k) := hA f k (by omega) hk
    rw [if_neg (Nat.lt_irrefl _)] at a1
    have d1 := hD f k
    have h2u : u.1 40 2 = nI N := by rw [(hE 40 (by omega)).1, h2]
    rw [lpX5_joinSteps_56, h2u, if_neg (fun x => by have := (nI_leI (by omega) (by omega)).mp x; omega), ix12, zrd_nI (by omega) (by omega), Option.bind_some, a1, nI_1, show (1000000 : Int32) = nI 1000000 from rfl]
    by_cases c : 1000000 ≤ D f k
    · rw [if_pos ((nI_leI (by omega) (by omega)).mpr c), Option.bind_some]
      refine ih (f + 1) u (by omega) hE (hA.eq (fun i j hi hj => ?_)) q (by omega)
      by_cases c1 : i < f
      · rw [if_pos c1, if_pos (by omega)]
      · rw [if_neg c1]
        by_cases c2 : i = f
        · subst c2
          have := hD i j
          rw [if_pos (by omega)]
          show D i j = min (D i j) (D i k + D k j)
          omega
        · rw [if_neg (by omega)]
    · rw [if_neg (fun x => c ((nI_leI (by omega) (by omega)).mp x))]
      obtain ⟨v, v1, v2, v3⟩ := shb hN hk (show f < N by omega) (fun a b => by
        show (if a < f then zstp D k a b else D a b) ≤ zNV
        have := hD a b
        split
        · exact Nat.le_trans (Nat.min_le_left _ _) this
        · exact this) u h2u hA
      rw [v1, Option.bind_some, Option.bind_some]
      refine ih (f + 1) v (by omega) (hE.trs v2) (v3.eq (fun i j hi hj => ?_)) q (by omega)
      show (if i = f then min (if i < f then zstp D k i j else D i j) ((if i < f then zstp D k i k else D i k) + (if k < f then zstp D k k j else D k j)) else (if i < f then zstp D k i j else D i j)) = if i < f + 1 then zstp D k i j else D i j
      have e : (if k < f then zstp D k k j else D k j) = D k j := by
        split
        · show min (D k j) (D k k + D k j) = D k j
          omega
        · rfl
      rw [e]
      by_cases c2 : i = f
      · subst c2
        rw [if_pos rfl, if_neg (Nat.lt_irrefl _), if_neg (Nat.lt_irrefl _), if_pos (by omega)]
        rfl
      · rw [if_neg c2]
        by_cases c1 : i < f
        · rw [if_pos c1, if_pos (by omega)]
        · rw [if_neg c1, if_neg (by omega)]
theorem js_out {N : Nat} {D : Nat → Nat → Nat} (hN : N ≤ 12) (hD : ∀ a b, D a b ≤ zNV) (h0 : ∀ a, a < N → D a a = 0) (w : zW) (h2 : w.1 40 2 = nI N) : ∀ m k u, k + m = N → zE (fun o => o = 42) w u → zDA u 42 N (zFW D k) → ∀ q, m < q → ∃ v, lpX5_joinSteps_46 q u (nI k) = some v ∧ zE (fun o => o = 42) w v ∧ zDA v 42 N (zFW D N) := by
  intro m
  induction m with
  | zero =>
    intro k u hk hE hA q hq
    obtain ⟨q, rfl⟩ : ∃ z, q = z + 1 := ⟨q - 1, by omega⟩
    have : k = N := by omega
    subst this
    rw [lpX5_joinSteps_46, (hE 40 (by omega)).1, h2, if_pos ((nI_leI (by omega) (by omega)).mpr (by omega))]
    exact ⟨u, rfl, hE, hA⟩
  | succ m ih =>
    intro k u hk hE hA q hq
    obtain ⟨q, rfl⟩ : ∃ z, q = z + 1 := ⟨q - 1, by omega⟩
    have h2u : u.1 40 2 = nI N := by rw [(hE 40 (by omega)).1, h2]
    obtain ⟨v, v1, v2, v3⟩ := js_in (D := zFW D k) hN (show k < N by omega) (fun a b => Nat.le_trans (zFW_le k) (hD a b)) (zFW_0 (h0 k (by omega)) k) u h2u N 0 u (by omega) zE.rfl (hA.eq (fun i j hi hj => by rw [if_neg (Nat.not_lt_zero _)])) zF (by unfold zF; omega)
    rw [lpX5_joinSteps_46, h2u, if_neg (fun x => by have := (nI_leI (by omega) (by omega)).mp x; omega), show (0 : Int32) = nI 0 from rfl, v1, Option.bind_some, nI_1]
    exact ih (k + 1) v (by omega) (hE.trs v2) v3 q (by omega)
theorem js_dia {N : Nat} {D : Nat → Nat → Nat} (hN : N ≤ 12) (w : zW) (h2 : w.1 40 2 = nI N) : ∀ m k u, k + m = N → zE (fun o => o = 42) w u → zDA u 42 N (fun a b => if a = b ∧ a < k then 0 else D a b) → ∀ q, m < q → ∃ v, lpX5_joinSteps_18 q u (nI k) = some v ∧ zE (fun o => o = 42) w v ∧ zDA v 42 N (fun a b => if a = b then 0 else D a b) := by
  intro m
  induction m with
  | zero =>
    intro k u hk hE hA q hq
    obtain ⟨q, rfl⟩ : ∃ z, q = z + 1 := ⟨q - 1, by omega⟩
    rw [lpX5_joinSteps_18, (hE 40 (by omega)).1, h2, if_pos ((nI_leI (by omega) (by omega)).mpr (by omega))]
    refine ⟨u, rfl, hE, hA.eq (fun i j hi hj => ?_)⟩
    by_cases c : i = j
    · rw [if_pos ⟨c, by omega⟩, if_pos c]
    · rw [if_neg (fun x => c x.1), if_neg c]
  | succ m ih =>
    intro k u hk hE hA q hq
    obtain ⟨q, rfl⟩ : ∃ z, q = z + 1 := ⟨q - 1, by omega⟩
    rw [lpX5_joinSteps_18, (hE 40 (by omega)).1, h2, if_neg (fun x => by have := (nI_leI (by omega) (by omega)).mp x; omega), ix12, zwr_nI (by omega) (by omega), Option.bind_some, nI_1, show (0 : Int32) = nI 0 from rfl]
    refine ih (k + 1) _ (by omega) (hE.trs (zE.sf0 rfl)) ((hA.put hN (by omega)).eq (fun i j hi hj => ?_)) q (by omega)
    by_cases c : i = k ∧ j = k
    · rw [if_pos c, if_pos (by omega)]
    · rw [if_neg c]
      by_cases c2 : i = j ∧ i < k
      · rw [if_pos c2, if_pos (by omega)]
      · rw [if_neg c2, if_neg (by omega)]
/-- days on foot by roads that go down -/
def zDn (E : Nat → Nat → Nat) (N : Nat) : Nat → Nat → Nat := zFW (fun a b => if a = b then 0 else E a b) N
theorem js {N : Nat} {E : Nat → Nat → Nat} (hN : N ≤ 12) (hE : ∀ a b, E a b ≤ zNV) (w : zW) (h2 : w.1 40 2 = nI N) (hA : zDA w 41 N E) : ∃ v, fX5_joinSteps w = some v ∧ zE (fun o => o = 42) w v ∧ zDA v 42 N (zDn E N) := by
  have e1 : zcpi w 41 144 0 42 144 0 144 = some (zcf w 42 (va_cpy (w.1 41) (w.1 42) 0 0 144)) := zcpi_all (by omega)
  generalize hu : zcf w 42 (va_cpy (w.1 41) (w.1 42) 0 0 144) = u at e1
  have eu : zE (fun o => o = 42) w u := by rw [← hu]; exact zE.cf0 rfl
  have au : zDA u 42 N E := fun a b ha hb => by rw [← hu, zcf_same, cpy0 (by omega), hA a b ha hb]
  obtain ⟨x, x1, x2, x3⟩ := js_dia hN u (by rw [(eu 40 (by omega)).1, h2]) N 0 u (by omega) zE.rfl (au.eq (fun i j hi hj => by rw [if_neg (by omega)])) zF (by unfold zF; omega)
  have ex := eu.trs x2
  obtain ⟨v, v1, v2, v3⟩ := js_out (D := fun a b => if a = b then 0 else E a b) hN (fun a b => by
    show (if a = b then 0 else E a b) ≤ zNV
    split
    · exact Nat.zero_le _
    · exact hE a b) (fun a _ => if_pos rfl) x (by rw [(ex 40 (by omega)).1, h2]) N 0 x (by omega) zE.rfl x3 zF (by unfold zF; omega)
  refine ⟨v, ?_, ex.trs v2, v3⟩
  simp only [fX5_joinSteps, e1, Option.bind_some]
  rw [show (0 : Int32) = nI 0 from rfl, x1, Option.bind_some, v1, Option.bind_some]
