/-! where a letter goes next -/
theorem zSea_min {S : zLd} : ∀ j, j < zNv S → zHt S (zSea S) ≤ zHt S j := by
  intro j hj
  have := zfl_inv (g := fun k a => if zHt S a ≤ zHt S k then a else k) (fun k a => ∀ j, j < k → zHt S a ≤ zHt S j) (N := zNv S) (fun k a hk ha j hj => by
    show zHt S (if zHt S a ≤ zHt S k then a else k) ≤ zHt S j
    by_cases c : zHt S a ≤ zHt S k
    · rw [if_pos c]
      by_cases e : j = k
      · subst e; exact c
      · exact ha j (by omega)
    · rw [if_neg c]
      by_cases e : j = k
      · subst e; exact Nat.le_refl _
      · have := ha j (by omega)
        omega) (zNv S - 1) 1 0 (by omega) (fun j hj => by rw [show j = 0 by omega]; exact Nat.le_refl _)
  exact this j (by omega)
theorem zPeak_max {S : zLd} : ∀ j, j < zNv S → zHt S j ≤ zHt S (zPeak S) := by
  intro j hj
  have := zfl_inv (g := fun k a => if zHt S k ≤ zHt S a then a else k) (fun k a => ∀ j, j < k → zHt S j ≤ zHt S a) (N := zNv S) (fun k a hk ha j hj => by
    show zHt S j ≤ zHt S (if zHt S k ≤ zHt S a then a else k)
    by_cases c : zHt S k ≤ zHt S a
    · rw [if_pos c]
      by_cases e : j = k
      · subst e; exact c
      · exact ha j (by omega)
    · rw [if_neg c]
      by_cases e : j = k
      · subst e; exact Nat.le_refl _
      · have := ha j (by omega)
        omega) (zNv S - 1) 1 0 (by omega) (fun j hj => by rw [show j = 0 by omega]; exact Nat.le_refl _)
  exact this j (by omega)
theorem zSP {S : zLd} (h0 : 0 < zNv S) (h : zSea S ≠ zPeak S) : zHt S (zSea S) < zHt S (zPeak S) := by
  rcases Nat.lt_or_ge (zHt S (zSea S)) (zHt S (zPeak S)) with g | g
  · exact g
  · exfalso
    apply h
    have all : ∀ j, j < zNv S → zHt S j = zHt S (zSea S) := fun j hj => by
      have := zSea_min (S := S) j hj
      have := zPeak_max (S := S) j hj
      omega
    have e0 := all 0 h0
    have s0 : zSea S = 0 := zfl_inv (g := fun k a => if zHt S a ≤ zHt S k then a else k) (fun _ a => a = 0) (N := zNv S) (fun k a hk ha => by
      subst ha
      show (if zHt S 0 ≤ zHt S k then 0 else k) = 0
      rw [if_pos (by rw [all k hk, e0]; exact Nat.le_refl _)]) (zNv S - 1) 1 0 (by omega) rfl
    have p0 : zPeak S = 0 := zfl_inv (g := fun k a => if zHt S k ≤ zHt S a then a else k) (fun _ a => a = 0) (N := zNv S) (fun k a hk ha => by
      subst ha
      show (if zHt S k ≤ zHt S 0 then 0 else k) = 0
      rw [if_pos (by rw [all k hk, e0]; exact Nat.le_refl _)]) (zNv S - 1) 1 0 (by omega) rfl
    rw [s0, p0]
theorem zEg_sp {S : zLd} (hS : zWf S) (h0 : 0 < zNv S) {k : Nat} (h : zSea S ≠ zPeak S) : ¬ zEg S k (zSea S) (zPeak S) < zNV := by
  intro q
  obtain ⟨r, _, _, g, _⟩ := zEg_fin hS q
  have := zSP h0 h
  unfold zGo at g
  rw [Bool.and_eq_true] at g
  have := of_decide_eq_true g.2
  omega
/-- days into village v, of post that lies in p on day t -/
def zDi (S : zLd) (k p t v : Nat) : Nat := if zBl S k = true ∧ p = zSea S ∧ v = zPeak S ∧ zSea S ≠ zPeak S ∧ t % zEv S = 0 then 1 else zEg S k p v
def zOk (S : zLd) (k p g t v : Nat) : Bool := decide (zDi S k p t v < zNV ∧ zEa S k v g (t + zDi S k p t v) = zEa S k p g t)
def zFs (P : Nat → Bool) : Nat → Option Nat
  | 0 => none
  | n + 1 => if (zFs P n).isSome = true then zFs P n else if P n = true then some n else none
theorem zFs_keep {P : Nat → Bool} {n x : Nat} (h : zFs P n = some x) : ∀ m, zFs P (n + m) = some x := by
  intro m
  induction m with
  | zero => exact h
  | succ m ih =>
    show zFs P (n + m + 1) = some x
    rw [zFs, ih]
    rfl
theorem zFs_y {P : Nat → Bool} {n : Nat} (h : zFs P n = none) (hp : P n = true) : zFs P (n + 1) = some n := by
  rw [zFs, h, hp]; rfl
theorem zFs_n {P : Nat → Bool} {n : Nat} (h : zFs P n = none) (hp : P n = false) : zFs P (n + 1) = none := by
  rw [zFs, h, hp]; rfl
theorem zFs_lt {P : Nat → Bool} : ∀ n x, zFs P n = some x → x < n ∧ P x = true := by
  intro n
  induction n with
  | zero => intro x h; cases h
  | succ n ih =>
    intro x h
    rw [zFs] at h
    by_cases c : (zFs P n).isSome = true
    · rw [if_pos c] at h
      have := ih x h
      exact ⟨by omega, this.2⟩
    · rw [if_neg c] at h
      by_cases d : P n = true
      · rw [if_pos d] at h
        have := Option.some.inj h
        subst this
        exact ⟨by omega, d⟩
      · rw [if_neg d] at h
        cases h
def zSt : Option Nat → Int32
  | none => -1
  | some v => nI v
/-- the village into which post goes on -/
def zNy (S : zLd) (k p g t : Nat) : Option Nat := if p = g ∨ ¬ zEa S k p g t < zNV then none else zFs (zOk S k p g t) (zNv S)
theorem zDi_bd {S : zLd} (hS : zWf S) {k : Nat} (hk : k < 6) {p t v : Nat} (h : zDi S k p t v < zNV) : 1 ≤ zDi S k p t v ∧ zDi S k p t v ≤ 18 := by
  unfold zDi at h ⊢
  split
  · omega
  · rename_i c
    rw [if_neg c] at h
    exact zEg_bd hS hk h
theorem zDi_le {S : zLd} (hS : zWf S) {k p t v : Nat} : zDi S k p t v ≤ zNV := by
  have z : zNV = 1000000 := rfl
  unfold zDi
  split
  · omega
  · exact zEg_le hS
theorem zNy_lt {S : zLd} (hS : zWf S) {k : Nat} (hk : k < 6) {p g t v : Nat} (h : zNy S k p g t = some v) : v < zNv S ∧ 1 ≤ zDi S k p t v ∧ zDi S k p t v ≤ 18 := by
  unfold zNy at h
  by_cases c : p = g ∨ ¬ zEa S k p g t < zNV
  · rw [if_pos c] at h; cases h
  · rw [if_neg c] at h
    have := zFs_lt _ _ h
    have q := of_decide_eq_true this.2
    exact ⟨this.1, zDi_bd hS hk q.1⟩
theorem zE40 {u : zW} {k : Nat} {x : Int32} : zE (fun o => o = 40) u (zsf u 40 k x) := zE.sf0 rfl
section NEXT
variable {S : zLd} {k : Nat}
theorem zFl_id {e t : Nat} (he : 1 ≤ e) : zFl e t = t ↔ t % e = 0 := by
  have := Nat.mod_lt t (show e > 0 by omega)
  unfold zFl
  split
  · rename_i c; exact ⟨fun _ => c, fun _ => rfl⟩
  · rename_i c; exact ⟨fun h => by omega, fun h => absurd h c⟩
theorem wy_di {w : zW} (hS : zWf S) (h : zWy w S k) {p v t : Nat} (hp : p < zNv S) (hv : v < zNv S) (ht : t < 2 ^ 29) : fX5_daysInto w (nI v) (nI p) (nI t) = some (nI (zDi S k p t v)) := by
  have nv := hS.nv
  have ev := hS.ev
  have n0 : 0 < zNv S := by omega
  have s1 := zSea_lt n0
  have s2 := zPeak_lt n0
  have fl := zFl_le (t := t) ev.1
  have p1 : (nI p = nI (zSea S)) = (p = zSea S) := propext (nI_eq (by omega) (by omega))
  have p2 : (nI v = nI (zPeak S)) = (v = zPeak S) := propext (nI_eq (by omega) (by omega))
  have p3 : (nI (zSea S) = nI (zPeak S)) = (zSea S = zPeak S) := propext (nI_eq (by omega) (by omega))
  have p4 : (nI (zFl (zEv S) t) = nI t) = (t % zEv S = 0) := propext (by rw [nI_eq (by omega) (by omega)]; exact zFl_id ev.1)
  unfold fX5_daysInto zDi
  rw [h.2.1, h.2.2.1, h.2.2.2.2.1, wy_fl hS h (by omega), wy_step hS h hp hv]
  simp only [Option.bind_some, ifb0, p1, p2, p3, p4]
  by_cases c1 : zBl S k = true
  · rw [if_neg (by rw [c1]; decide)]
    by_cases c2 : p = zSea S
    · rw [if_pos c2]
      by_cases c3 : v = zPeak S
      · rw [if_pos c3]
        by_cases c4 : zSea S = zPeak S
        · rw [if_pos c4, Option.bind_some, if_pos rfl, if_neg (fun q => q.2.2.2.1 c4)]
        · rw [if_neg c4]
          by_cases c5 : t % zEv S = 0
          · rw [if_pos c5, Option.bind_some, if_neg h10, if_pos ⟨c1, c2, c3, c4, c5⟩]; rfl
          · rw [if_neg c5, Option.bind_some, if_pos rfl, if_neg (fun q => c5 q.2.2.2.2)]
      · rw [if_neg c3, Option.bind_some, if_pos rfl, if_neg (fun q => c3 q.2.2.1)]
    · rw [if_neg c2, Option.bind_some, if_pos rfl, if_neg (fun q => c2 q.2.1)]
  · rw [if_pos (by simpa using c1), Option.bind_some, if_pos rfl, if_neg (fun q => c1 q.1)]
theorem wy_la_loop (hS : zWf S) (hk : k < 6) {p g t : Nat} (hp : p < zNv S) (hg : g < zNv S) (ht : t ≤ 100000) : ∀ m v (w : zW), v + m = zNv S → zWy w S k → w.1 40 7 = zSt (zFs (zOk S k p g t) v) → (∀ x, zFs (zOk S k p g t) v = some x → w.1 40 8 = nI (zDi S k p t x)) → ∀ n, m < n → ∃ u, lpX5_lookAhead_40 (nI p) (nI g) (nI t) (nI (zEa S k p g t)) n w (nI v) = some u ∧ zE (fun o => o = 40) w u ∧ zWy u S k ∧ u.1 40 7 = zSt (zFs (zOk S k p g t) (zNv S)) ∧ (∀ x, zFs (zOk S k p g t) (zNv S) = some x → u.1 40 8 = nI (zDi S k p t x)) := by
  have z : zNV = 1000000 := rfl
  have nv := hS.nv
  intro m
  induction m with
  | zero =>
    intro v w hv hW h7 h8 n hn
    obtain ⟨n, rfl⟩ : ∃ z, n = z + 1 := ⟨n - 1, by omega⟩
    rw [lpX5_lookAhead_40, hW.1, if_pos ((nI_leI (by omega) (by omega)).mpr (by omega))]
    rw [show v = zNv S by omega] at h7 h8
    exact ⟨w, rfl, zE.rfl, hW, h7, h8⟩
  | succ m ih =>
    intro v w hv hW h7 h8 n hn
    obtain ⟨n, rfl⟩ : ∃ z, n = z + 1 := ⟨n - 1, by omega⟩
    have hv' : v < zNv S := by omega
    rw [lpX5_lookAhead_40, hW.1, if_neg (fun x => by have := (nI_leI (by omega) (by omega)).mp x; omega), h7]
    cases e : zFs (zOk S k p g t) v with
    | some x =>
      have xl := (zFs_lt _ _ e).1
      rw [e] at h7
      have kp := zFs_keep e (m + 1)
      rw [hv] at kp
      have z0 : (0 : Int32) ≤ zSt (some x) := nI_pos' (by omega)
      rw [if_pos z0]
      exact ⟨w, rfl, zE.rfl, hW, by rw [kp]; exact h7, fun y hy => by
        rw [kp] at hy
        have := Option.some.inj hy
        subst this
        exact h8 x e⟩
    | none =>
      have z0 : ¬ (0 : Int32) ≤ zSt none := by decide
      have dl := zDi_le hS (k := k) (p := p) (t := t) (v := v)
      rw [if_neg z0, wy_di hS hW hp hv' (by omega), Option.bind_some]
      simp only [le6 (show zDi S k p t v < 2 ^ 31 by omega), nI_add, nI_1]
      by_cases c1 : zDi S k p t v < zNV
      · have db := zDi_bd hS hk c1
        have el := zEa_le (S := S) (k := k) (a := v) (b := g) (t := t + zDi S k p t v) hS hk (by omega)
        have el2 := zEa_le (S := S) (k := k) (a := p) (b := g) (t := t) hS hk (by omega)
        have pe : (nI (zEa S k v g (t + zDi S k p t v)) = nI (zEa S k p g t)) = (zEa S k v g (t + zDi S k p t v) = zEa S k p g t) := propext (nI_eq (by omega) (by omega))
        rw [if_neg (by omega), wy_ear hS hk hW hv' hg (by omega), Option.bind_some]
        simp only [pe, Option.bind_some]
        by_cases c2 : zEa S k v g (t + zDi S k p t v) = zEa S k p g t
        · have ok : zOk S k p g t v = true := decide_eq_true ⟨c1, c2⟩
          rw [if_pos c2, Option.bind_some]
          have fy := zFs_y e ok
          obtain ⟨u, u1, u2, u3⟩ := ih (v + 1) (zsf (zsf w 40 7 (nI v)) 40 8 (nI (zDi S k p t v))) (by omega) (hW.keep (fun i hi => by rw [zsf_k (by omega), zsf_k (by omega)]) (by rw [zsf_o (by omega), zsf_o (by omega)]) (by rw [zsf_o (by omega), zsf_o (by omega)])) (by rw [fy, zsf_k (by omega), zsf_same]; rfl) (fun x hx => by
            rw [fy] at hx
            have := Option.some.inj hx
            subst this
            rw [zsf_same]) n (by omega)
          exact ⟨u, u1, (zE40.trs zE40).trs u2, u3⟩
        · have ok : zOk S k p g t v = false := decide_eq_false (fun q => c2 q.2)
          rw [if_neg c2, Option.bind_some]
          have fn := zFs_n e ok
          exact ih (v + 1) w (by omega) hW (by rw [h7, e, fn]) (fun x hx => by rw [fn] at hx; cases hx) n (by omega)
      · have ok : zOk S k p g t v = false := decide_eq_false (fun q => c1 q.1)
        rw [if_pos (by omega), Option.bind_some]
        have fn := zFs_n e ok
        exact ih (v + 1) w (by omega) hW (by rw [h7, e, fn]) (fun x hx => by rw [fn] at hx; cases hx) n (by omega)
theorem wy_la {w : zW} (hS : zWf S) (hk : k < 6) (hW : zWy w S k) {p g t : Nat} (hp : p < zNv S) (hg : g < zNv S) (ht : t ≤ 100000) : ∃ u, fX5_lookAhead w (nI p) (nI g) (nI t) = some u ∧ zE (fun o => o = 40) w u ∧ zWy u S k ∧ u.1 40 7 = zSt (zNy S k p g t) ∧ (∀ x, zNy S k p g t = some x → u.1 40 8 = nI (zDi S k p t x)) := by
  have z : zNV = 1000000 := rfl
  have nv := hS.nv
  have E3 : zE (fun o => o = 40) w (zsf (zsf w 40 7 (-1)) 40 8 0) := zE40.trs zE40
  have W3 : zWy (zsf (zsf w 40 7 (-1)) 40 8 0) S k := hW.keep (fun i hi => by rw [zsf_k (by omega), zsf_k (by omega)]) (E3 41 (by omega)).1 (E3 42 (by omega)).1
  have F7 : (zsf (zsf w 40 7 (-1)) 40 8 0).1 40 7 = -1 := by rw [zsf_k (by omega), zsf_same]
  unfold fX5_lookAhead
  rw [Option.bind_some, Option.bind_some]
  generalize zsf (zsf w 40 7 (-1)) 40 8 0 = w3 at E3 W3 F7
  by_cases c0 : p = g
  · have nx : zNy S k p g t = none := if_pos (Or.inl c0)
    rw [if_pos (by rw [c0]), Option.bind_some, if_neg (by decide)]
    exact ⟨w3, rfl, E3, W3, by rw [nx, F7]; rfl, fun x hx => by rw [nx] at hx; cases hx⟩
  · have el := zEa_le (S := S) (k := k) (a := p) (b := g) (t := t) hS hk (by omega)
    have lt := lt6 (show zEa S k p g t < 2 ^ 31 by omega)
    rw [if_neg (fun q => c0 ((nI_eq (by omega) (by omega)).mp q)), wy_ear hS hk W3 hp hg (by omega), Option.bind_some, Option.bind_some]
    by_cases c1 : zEa S k p g t < zNV
    · have nx : zNy S k p g t = zFs (zOk S k p g t) (zNv S) := if_neg (fun q => q.elim c0 (fun h => h c1))
      obtain ⟨u, u1, u2, u3, u4, u5⟩ := wy_la_loop hS hk hp hg ht (zNv S) 0 w3 (by omega) W3 F7 (fun x hx => by cases hx) zF (by unfold zF; omega)
      have u1 : lpX5_lookAhead_40 (nI p) (nI g) (nI t) (nI (zEa S k p g t)) zF w3 0 = some u := u1
      rw [if_pos (lt.mpr c1), u1, Option.bind_some, nx]
      exact ⟨u, rfl, E3.trs u2, u3, u4, u5⟩
    · have nx : zNy S k p g t = none := if_pos (Or.inr c1)
      rw [if_neg (fun q => c1 (lt.mp q))]
      exact ⟨w3, rfl, E3, W3, by rw [nx, F7]; rfl, fun x hx => by rw [nx] at hx; cases hx⟩
end NEXT
