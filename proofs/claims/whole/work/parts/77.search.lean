/-! what the reference's search finds is what the class works out -/
theorem zEx_edge {S : zLd} (hS : zWf S) {k : Nat} (hk : k < 6) {air : Bool} {a p q t : Nat} (hp : p < zNv S) (ht : t ≤ 500000) (he : zEg S k p q < zNV) (h : zEx S k air a p t < zNV) : zEx S k air a q t < zNV ∧ zEx S k air a q t ≤ zEx S k air a p t + zEg S k p q := by
  have z : zNV = 1000000 := rfl
  have ev := hS.ev
  have eb := (zEg_bd hS hk he).2
  have t1 := zD_tri (S := S) (k := k) (a := a) (b := q) hp
  have t2 := zD_tri (S := S) (k := k) (a := zPeak S) (b := q) hp
  have t3 := zD_e (S := S) (k := k) (a := p) (b := q)
  have d1 := zD_bd hS hk (a := a) (b := p)
  have d2 := zD_bd hS hk (a := a) (b := zSea S)
  have d3 := zD_bd hS hk (a := zPeak S) (b := p)
  have d4 := zFl_le (t := t + zDd S k a (zSea S)) ev.1
  have f1 := (zEx_fin (air := air) (a := a) (b := p) hS hk ht).mp h
  have f2 : zDd S k a q < zNV ∨ (air = true ∧ zDd S k a (zSea S) < zNV ∧ zDd S k (zPeak S) q < zNV) := by
    rcases f1 with f | ⟨f, f', f''⟩
    · left; have := d1 f; omega
    · right; have := d3 f''; exact ⟨f, f', by omega⟩
  refine ⟨(zEx_fin (air := air) (a := a) (b := q) hS hk ht).mpr f2, ?_⟩
  unfold zEx
  by_cases c1 : zDd S k a p < zNV
  · have := d1 c1
    have c1' : zDd S k a q < zNV := by omega
    rw [if_pos c1, if_pos c1']
    by_cases c2 : air = true ∧ zDd S k a (zSea S) < zNV ∧ zDd S k (zPeak S) p < zNV
    · have := d3 c2.2.2
      have c2' : air = true ∧ zDd S k a (zSea S) < zNV ∧ zDd S k (zPeak S) q < zNV := ⟨c2.1, c2.2.1, by omega⟩
      rw [if_pos c2, if_pos c2']
      omega
    · rw [if_neg c2]
      split <;> omega
  · have c2 : air = true ∧ zDd S k a (zSea S) < zNV ∧ zDd S k (zPeak S) p < zNV := f1.resolve_left c1
    have := d3 c2.2.2
    have := d2 c2.2.1
    have c2' : air = true ∧ zDd S k a (zSea S) < zNV ∧ zDd S k (zPeak S) q < zNV := ⟨c2.1, c2.2.1, by omega⟩
    rw [if_pos c2, if_pos c2', if_neg c1]
    have : zFl (zEv S) (t + zDd S k a (zSea S)) + 1 + zDd S k (zPeak S) p < zNV := by omega
    omega
theorem zEx_sea {S : zLd} (hS : zWf S) {k : Nat} (hk : k < 6) {air : Bool} {a t : Nat} (ht : t ≤ 500000) (h : zEx S k air a (zSea S) t < zNV) : zDd S k a (zSea S) < zNV ∧ zEx S k air a (zSea S) t = t + zDd S k a (zSea S) := by
  have ev := hS.ev
  have d4 := zFl_ge (t := t + zDd S k a (zSea S)) ev.1
  have c : zDd S k a (zSea S) < zNV := by
    rcases (zEx_fin (air := air) (a := a) (b := zSea S) hS hk ht).mp h with f | ⟨_, f, _⟩
    · exact f
    · exact f
  refine ⟨c, ?_⟩
  unfold zEx
  rw [if_pos c]
  split <;> omega
theorem zEx_peak {S : zLd} (hS : zWf S) {k : Nat} (hk : k < 6) {a t : Nat} (ht : t ≤ 500000) (h : zDd S k a (zSea S) < zNV) : zEx S k true a (zPeak S) t < zNV ∧ zEx S k true a (zPeak S) t ≤ zFl (zEv S) (t + zDd S k a (zSea S)) + 1 := by
  have z : zNV = 1000000 := rfl
  have e0 := zD_0 (S := S) (k := k) (a := zPeak S)
  refine ⟨(zEx_fin hS hk ht).mpr (Or.inr ⟨rfl, h, by omega⟩), ?_⟩
  unfold zEx
  rw [if_pos ⟨rfl, h, by omega⟩, e0]
  omega
theorem zEx_self {S : zLd} (hS : zWf S) {k : Nat} {air : Bool} {a t : Nat} (ht : t ≤ 500000) : zEx S k air a a t = t := by
  have z : zNV = 1000000 := rfl
  have ev := hS.ev
  have e0 := zD_0 (S := S) (k := k) (a := a)
  have d4 := zFl_ge (t := t + zDd S k a (zSea S)) ev.1
  have e : (if zDd S k a a < zNV then t + zDd S k a a else zNV) = t := by rw [e0, if_pos (by omega)]; omega
  unfold zEx
  rw [e]
  split <;> omega
/-- Q of the search by days -/
def zQd (S : zLd) (k : Nat) (air : Bool) (a t : Nat) : Nat → Nat → Prop := fun v x => zEx S k air a v t < zNV ∧ zEx S k air a v t ≤ x
theorem zQd_R {S : zLd} (hS : zWf S) {k : Nat} (hk : k < 6) {air : Bool} {a t : Nat} (ht : t ≤ 500000) : zQR S k (zQd S k air a t) := by
  intro r hr p q hj x hx hg ⟨h1, h2⟩
  have z : zNV = 1000000 := rfl
  obtain ⟨g1, g2, g3, g4, g5⟩ := hS.rd r hr
  have e := zEg_road hS hr hj hg
  have nd := zNd_le hk (show zLn S r < 10 by omega)
  have hp : p < zNv S := by unfold zJr at hj; omega
  have := zEx_edge hS hk (air := air) (a := a) (p := p) (q := q) hp ht (by omega) h1
  exact ⟨this.1, by omega⟩
theorem zQd_B {S : zLd} (hS : zWf S) {k : Nat} (hk : k < 6) {a t : Nat} (ht : t ≤ 500000) : zQB S (zQd S k true a t) := by
  intro x hx ⟨h1, h2⟩
  have ev := hS.ev
  obtain ⟨s1, s2⟩ := zEx_sea hS hk ht h1
  obtain ⟨p1, p2⟩ := zEx_peak hS hk ht s1
  have := zFl_mono (s := t + zDd S k a (zSea S)) (t := x) ev.1 (by omega)
  exact ⟨p1, by omega⟩
theorem zCl_wk {S : zLd} (hS : zWf S) {k : Nat} {air : Bool} {C : Nat → Nat} (h : zCl S k air C) {p : Nat} : ∀ m q d, zWk (zEg S k) (zNv S) m p q d → C p + d < zN9 → C q ≤ C p + d := by
  intro m
  induction m with
  | zero =>
    intro q d ⟨h1, h2⟩ _
    subst h1
    omega
  | succ m ih =>
    intro q d ⟨c, hc, e, h1, h2, h3⟩ hd
    have i := ih c e h1 (by omega)
    obtain ⟨r, r1, r2, r3, r4⟩ := zEg_fin hS h2
    have cl := h.1 r r1
    rcases r2 with ⟨x, y⟩ | ⟨x, y⟩
    · subst x; subst y
      have := cl.1 r3 (by omega)
      omega
    · subst x; subst y
      have := cl.2 r3 (by omega)
      omega
def zMv (x : Nat) : Nat := if x < zNV then x else zN9
theorem zMv_le {x : Nat} : zMv x ≤ zN9 := by
  have z : zNV = 1000000 := rfl
  have z9 : zN9 = 1000000000 := rfl
  unfold zMv
  split <;> omega
theorem zMv_lt {x : Nat} : zMv x < zN9 ↔ x < zNV := by
  have z : zNV = 1000000 := rfl
  have z9 : zN9 = 1000000000 := rfl
  unfold zMv
  split <;> omega
theorem zMv_eq {x : Nat} : zMv x = zN9 ↔ ¬ x < zNV := by
  have z : zNV = 1000000 := rfl
  have z9 : zN9 = 1000000000 := rfl
  unfold zMv
  split <;> omega
theorem zMv_fin {x : Nat} (h : x < zNV) : zMv x = x := if_pos h
theorem zCl_le {S : zLd} (hS : zWf S) {k : Nat} (hk : k < 6) {air : Bool} {C : Nat → Nat} (h : zCl S k air C) {a t : Nat} (ha : a < zNv S) (ht : t ≤ 500000) (h0 : C a ≤ t) {v : Nat} (hv : v < zNv S) (hf : zEx S k air a v t < zNV) : C v ≤ zEx S k air a v t := by
  have z : zNV = 1000000 := rfl
  have z9 : zN9 = 1000000000 := rfl
  have ev := hS.ev
  have n0 : 0 < zNv S := by omega
  have d1 := zD_bd hS hk (a := a) (b := v)
  have d2 := zD_bd hS hk (a := a) (b := zSea S)
  have d3 := zD_bd hS hk (a := zPeak S) (b := v)
  have d4 := zFl_le (t := t + zDd S k a (zSea S)) ev.1
  have A : zDd S k a v < zNV → C v ≤ t + zDd S k a v := by
    intro c
    obtain ⟨m, hm⟩ := zD_wk ha hv c
    have := d1 c
    have := zCl_wk hS h m v _ hm (by omega)
    omega
  have B : air = true ∧ zDd S k a (zSea S) < zNV ∧ zDd S k (zPeak S) v < zNV → C v ≤ zFl (zEv S) (t + zDd S k a (zSea S)) + 1 + zDd S k (zPeak S) v := by
    intro ⟨c1, c2, c3⟩
    have := d2 c2
    have := d3 c3
    obtain ⟨m, hm⟩ := zD_wk ha (zSea_lt n0) c2
    have x1 := zCl_wk hS h m (zSea S) _ hm (by omega)
    have x2 := h.2 c1 (by omega)
    have x3 := zFl_mono (s := C (zSea S)) (t := t + zDd S k a (zSea S)) ev.1 (by omega)
    obtain ⟨m', hm'⟩ := zD_wk (zPeak_lt n0) hv c3
    have x4 := zCl_wk hS h m' v _ hm' (by omega)
    omega
  unfold zEx at hf ⊢
  by_cases c2 : air = true ∧ zDd S k a (zSea S) < zNV ∧ zDd S k (zPeak S) v < zNV
  · have b := B c2
    rw [if_pos c2] at hf ⊢
    by_cases c1 : zDd S k a v < zNV
    · have := A c1
      rw [if_pos c1]
      omega
    · rw [if_neg c1] at hf ⊢
      omega
  · rw [if_neg c2] at hf ⊢
    by_cases c1 : zDd S k a v < zNV
    · have := A c1
      rw [if_pos c1]
      omega
    · rw [if_neg c1] at hf
      omega
section SEARCH
variable {w : zW} {S : zLd} {k : Nat}
theorem mx_find (hS : zWf S) (hk : k < 6) {a t : Nat} (ha : a < zNv S) (ht : t ≤ 500000) (by' : Bool) (hM : zMX w 61 S) : ∃ u, fX7_find w (nI k) (nI a) (nI t) (if by' = true then 1 else 0) = some u ∧ zE (fun o => o = 63) w u ∧ (∀ v, v < zNv S → u.1 63 v = nI (zMv (zEx S k (by' && zBl S k) a v t))) ∧ ∃ C, zBs u C ∧ C a ≤ t ∧ ∀ v, v < zNv S → C v = zMv (zEx S k (by' && zBl S k) a v t) := by
  have z : zNV = 1000000 := rfl
  have z9 : zN9 = 1000000000 := rfl
  have nv := hS.nv
  obtain ⟨C, u, c1, c2, c3, c4, c5, c6⟩ := rx_all (Q := zQd S k (by' && zBl S k) a t) hS hk ha ht by' (zQd_R hS hk ht) (fun h => by rw [h]; exact zQd_B hS hk ht) ⟨by rw [zEx_self hS ht]; omega, by rw [zEx_self hS ht]; exact Nat.le_refl _⟩ hM
  have key : ∀ v, v < zNv S → C v = zMv (zEx S k (by' && zBl S k) a v t) := by
    intro v hv
    have b := (c3 v (by omega)).2
    by_cases c : zEx S k (by' && zBl S k) a v t < zNV
    · have l := zCl_le hS hk c6 ha ht c5 hv c
      have g := c4 v hv (by omega)
      rw [zMv_fin c]
      exact Nat.le_antisymm l g.2
    · rw [zMv_eq.mpr c]
      by_cases e : C v < zN9
      · exact absurd (c4 v hv e).1 c
      · omega
  refine ⟨u, c1, c2, fun v hv => ?_, C, c3, c5, key⟩
  rw [(c3 v (by omega)).1, key v hv]
theorem mx_ear (hS : zWf S) (hk : k < 6) {a b t : Nat} (ha : a < zNv S) (hb : b < zNv S) (ht : t ≤ 500000) (hM : zMX w 61 S) : ∃ u, fX7_earliest w (nI k) (nI a) (nI b) (nI t) = some (nI (zMv (zEa S k a b t)), u) ∧ zE (fun o => o = 63) w u := by
  have nv := hS.nv
  obtain ⟨u, u1, u2, u3, _⟩ := mx_find hS hk ha ht true hM
  refine ⟨u, ?_, u2⟩
  have u1' : fX7_find w (nI k) (nI a) (nI t) 1 = some u := u1
  unfold fX7_earliest
  rw [u1', Option.bind_some, zrd_nI (by omega) (by omega), Option.bind_some, u3 b hb]
  rfl
theorem mx_reached {P : Nat → Bool} (hS : zWf S) (hM : zMX w 61 S) (h : ∀ v, v < zNv S → ∃ x, w.1 63 v = nI x ∧ x ≤ zN9 ∧ (x < zN9 ↔ P v = true)) : fX7_reached w = some (nI (zst P (zNv S))) := by
  have z9 : zN9 = 1000000000 := rfl
  have hn := hS.nv
  have key : ∀ m v, v + m = zNv S → ∀ n, m < n → lpX7_reached_4 w n (nI (zst P v)) (nI v) = some (nI (zst P (zNv S))) := by
    intro m
    induction m with
    | zero =>
      intro v hv n hn
      obtain ⟨n, rfl⟩ : ∃ z, n = z + 1 := ⟨n - 1, by omega⟩
      rw [lpX7_reached_4, mx_0 hM, Option.bind_some, if_pos ((nI_leI (by omega) (by omega)).mpr (by omega)), show v = zNv S by omega]
    | succ m ih =>
      intro v hv n hn
      obtain ⟨n, rfl⟩ : ∃ z, n = z + 1 := ⟨n - 1, by omega⟩
      obtain ⟨x, x1, x2, x3⟩ := h v (by omega)
      rw [lpX7_reached_4, mx_0 hM, Option.bind_some, if_neg (fun x => by have := (nI_leI (by omega) (by omega)).mp x; omega), zrd_nI (by omega) (by omega), Option.bind_some, x1]
      simp only [le9 (show x < 2 ^ 31 by omega), nI_1]
      by_cases c : P v = true
      · have := x3.mpr c
        rw [if_neg (by omega), Option.bind_some, Option.bind_some, zst_set (by omega) c]
        exact ih (v + 1) (by omega) n (by omega)
      · have c' : ¬ x < zN9 := fun q => c (x3.mp q)
        rw [if_pos (by omega), Option.bind_some, Option.bind_some]
        have e : nI (zst P v) ||| (0 : Int32) = nI (zst P (v + 1)) := by
          rw [zst_non (by simpa using c), zL0, nx_or, Nat.or_zero]
        rw [e]
        exact ih (v + 1) (by omega) n (by omega)
  unfold fX7_reached
  have := key (zNv S) 0 (by omega) zF (by unfold zF; omega)
  have this : lpX7_reached_4 w zF 0 0 = some (nI (zst P (zNv S))) := this
  rw [this, Option.bind_some]
theorem mx_rof (hS : zWf S) (hk : k < 6) {a : Nat} (ha : a < zNv S) (by' : Bool) (hM : zMX w 61 S) : ∃ u, fX7_reachOf w (nI k) (nI a) (if by' = true then 1 else 0) = some (nI (zst (fun v => decide (zEx S k (by' && zBl S k) a v (zDy S) < zNV)) (zNv S)), u) ∧ zE (fun o => o = 63) w u := by
  have nv := hS.nv
  have dy := hS.dy
  obtain ⟨u, u1, u2, u3, _⟩ := mx_find hS hk ha (show zDy S ≤ 500000 by omega) by' hM
  refine ⟨u, ?_, u2⟩
  unfold fX7_reachOf
  rw [mx_4 hM, Option.bind_some, u1, Option.bind_some, mx_reached (P := fun v => decide (zEx S k (by' && zBl S k) a v (zDy S) < zNV)) hS (hM.e63 u2) (fun v hv => ⟨_, u3 v hv, zMv_le, by rw [zMv_lt]; simp⟩), Option.bind_some]
theorem mx_rair (hS : zWf S) (hk : k < 6) {a : Nat} (ha : a < zNv S) (hM : zMX w 61 S) : ∃ u, fX7_reachOf w (nI k) (nI a) 1 = some (nI (zst (zCm S k a) (zNv S)), u) ∧ zE (fun o => o = 63) w u := by
  have dy := hS.dy
  obtain ⟨u, u1, u2⟩ := mx_rof hS hk ha true hM
  refine ⟨u, ?_, u2⟩
  rw [zst_cong (Q := zCm S k a) (zNv S) (fun v hv => by
    have := zEa_cm hS hk (a := a) (b := v) (show zDy S ≤ 500000 by omega)
    show decide (zEa S k a v (zDy S) < zNV) = zCm S k a v
    by_cases q : zEa S k a v (zDy S) < zNV
    · rw [this.mp q]; simpa using q
    · have e : zCm S k a v = false := by
        cases h : zCm S k a v
        · rfl
        · exact absurd (this.mpr h) q
      rw [e]; simpa using q)] at u1
  exact u1
theorem mx_rdn (hS : zWf S) (hk : k < 6) {a : Nat} (ha : a < zNv S) (hM : zMX w 61 S) : ∃ u, fX7_reachOf w (nI k) (nI a) 0 = some (nI (zst (fun v => decide (zDd S k a v < zNV)) (zNv S)), u) ∧ zE (fun o => o = 63) w u := by
  have dy := hS.dy
  obtain ⟨u, u1, u2⟩ := mx_rof hS hk ha false hM
  refine ⟨u, ?_, u2⟩
  rw [zst_cong (Q := fun v => decide (zDd S k a v < zNV)) (zNv S) (fun v hv => by
    have := zEx_fin (air := false) (a := a) (b := v) hS hk (show zDy S ≤ 500000 by omega)
    show decide (zEx S k false a v (zDy S) < zNV) = decide (zDd S k a v < zNV)
    rw [decide_eq_decide]
    rw [this]
    simp)] at u1
  exact u1
end SEARCH
theorem zEa_le {S : zLd} {k a b t : Nat} (hS : zWf S) (hk : k < 6) (ht : t ≤ 500000) : zEa S k a b t ≤ zNV := zEx_le hS hk ht
theorem zEa_bd {S : zLd} {k a b t : Nat} (hS : zWf S) (hk : k < 6) (ht : t ≤ 500000) (h : zEa S k a b t < zNV) : zEa S k a b t ≤ t + 147556 := zEx_bd hS hk ht h
theorem zEa_ge {S : zLd} {k a b t : Nat} (hS : zWf S) (ht : t ≤ 500000) : t ≤ zEa S k a b t := zEx_ge hS ht
