/-! the reference's day, and n of them -/
def zLu (S : zLd) (F : Nat → Nat × Nat) (i : Nat) : zLd := (S.1, S.2.1, S.2.2.1, S.2.2.2.1, fun l => if l < i then (zKd S l, (F l).1, zTo S l, zSn S l, (F l).2) else S.2.2.2.2 l)
section LU
variable {S : zLd} {F : Nat → Nat × Nat}
theorem zLu_ge {i : Nat} : zGe (zLu S F i) = zGe S := rfl
theorem lu_lt {i l : Nat} (h : l < i) : (zLu S F i).2.2.2.2 l = (zKd S l, (F l).1, zTo S l, zSn S l, (F l).2) := if_pos h
theorem lu_nl {i l : Nat} (h : ¬ l < i) : (zLu S F i).2.2.2.2 l = S.2.2.2.2 l := if_neg h
theorem zLu_0 : zLu S F 0 = S := by
  have q : (fun l => if l < 0 then (zKd S l, (F l).1, zTo S l, zSn S l, (F l).2) else S.2.2.2.2 l) = S.2.2.2.2 := by
    funext l
    rw [if_neg (Nat.not_lt_zero _)]
  show (S.1, S.2.1, S.2.2.1, S.2.2.2.1, _) = S
  rw [q]
theorem zLu_step {i : Nat} : zS_at (zLu S F i) i (F i).1 (F i).2 = zLu S F (i + 1) := by
  have e := lu_nl (S := S) (F := F) (Nat.lt_irrefl i)
  have q : (fun x => if x = i then (((zLu S F i).2.2.2.2 i).1, (F i).1, ((zLu S F i).2.2.2.2 i).2.2.1, ((zLu S F i).2.2.2.2 i).2.2.2.1, (F i).2) else (zLu S F i).2.2.2.2 x) = (fun l => if l < i + 1 then (zKd S l, (F l).1, zTo S l, zSn S l, (F l).2) else S.2.2.2.2 l) := by
    funext x
    by_cases c : x = i
    · subst c
      rw [if_pos rfl, if_pos (by omega), e]
    · rw [if_neg c]
      by_cases d : x < i
      · rw [lu_lt d, if_pos (by omega)]
      · rw [lu_nl d, if_neg (by omega)]
  exact congrArg (fun g => (S.1, S.2.1, S.2.2.1, S.2.2.2.1, g)) q
theorem wf_lu (h : zWf S) (hF : ∀ l, l < zNl S → (F l).1 < zNv S ∧ (F l).2 ≤ 18) {i : Nat} : zWf (zLu S F i) := by
  refine ⟨h.1, h.2.1, h.2.2.1, h.2.2.2.1, h.2.2.2.2.1, h.2.2.2.2.2.1, h.2.2.2.2.2.2.1, h.2.2.2.2.2.2.2.1, fun x hx => ?_⟩
  show (((zLu S F i).2.2.2.2 x).1 < 6 ∧ ((zLu S F i).2.2.2.2 x).2.1 < zNv S ∧ ((zLu S F i).2.2.2.2 x).2.2.1 < zNv S ∧ ((zLu S F i).2.2.2.2 x).2.2.2.1 ≤ 9999 ∧ ((zLu S F i).2.2.2.2 x).2.2.2.2 ≤ 18)
  have := h.lt x hx
  by_cases c : x < i
  · rw [lu_lt c]
    exact ⟨this.1, (hF x hx).1, this.2.2.1, this.2.2.2.1, (hF x hx).2⟩
  · rw [lu_nl c]
    exact this
end LU
theorem mx_at {w u : zW} {p l a f : Nat} {S : zLd} (hS : zWf S) (h : zMX w p S) (hl : l < zNl S) (E : ∀ i, i ≠ 101 + 5 * l + 1 → i ≠ 101 + 5 * l + 4 → u.1 p i = w.1 p i) (h1 : u.1 p (101 + 5 * l + 1) = nI a) (h4 : u.1 p (101 + 5 * l + 4) = nI f) : zMX u p (zS_at S l a f) := by
  have nv := hS.nv
  have nr := hS.nr
  refine ⟨by rw [E 0 (by omega) (by omega), E 1 (by omega) (by omega), E 2 (by omega) (by omega), E 3 (by omega) (by omega), E 4 (by omega) (by omega)]; exact h.1, fun v hv => ?_, fun r hr => ?_, fun x hx => ?_⟩
  · have hv : v < zNv S := hv
    rw [E _ (by omega) (by omega), E _ (by omega) (by omega)]; exact h.2.1 v hv
  · have hr : r < zNr S := hr
    rw [E _ (by omega) (by omega), E _ (by omega) (by omega), E _ (by omega) (by omega)]; exact h.2.2.1 r hr
  · have c := h.2.2.2 x hx
    by_cases q : x = l
    · subst q
      rw [at_kd, at_pl, at_to, at_sn, at_lf, E (101 + 5 * x) (by omega) (by omega), E (101 + 5 * x + 2) (by omega) (by omega), E (101 + 5 * x + 3) (by omega) (by omega)]
      exact ⟨c.1, h1, c.2.2.1, c.2.2.2.1, h4⟩
    · have e := at_ne (S := S) (a := a) (f := f) q
      show u.1 p (101 + 5 * x) = nI ((zS_at S l a f).2.2.2.2 x).1 ∧ u.1 p (101 + 5 * x + 1) = nI ((zS_at S l a f).2.2.2.2 x).2.1 ∧ u.1 p (101 + 5 * x + 2) = nI ((zS_at S l a f).2.2.2.2 x).2.2.1 ∧ u.1 p (101 + 5 * x + 3) = nI ((zS_at S l a f).2.2.2.2 x).2.2.2.1 ∧ u.1 p (101 + 5 * x + 4) = nI ((zS_at S l a f).2.2.2.2 x).2.2.2.2
      rw [e, E _ (by omega) (by omega), E _ (by omega) (by omega), E _ (by omega) (by omega), E _ (by omega) (by omega), E _ (by omega) (by omega)]
      exact c
def zE7 (w u : zW) : Prop := zE (fun o => o = 60 ∨ o = 61 ∨ o = 63) w u ∧ ∀ i, i ≠ 3 → i ≠ 4 → u.1 60 i = w.1 60 i
theorem zE7.rfl {w : zW} : zE7 w w := ⟨zE.rfl, fun _ _ _ => Eq.refl _⟩
theorem zE7.trs {w u v : zW} (h : zE7 w u) (k : zE7 u v) : zE7 w v := ⟨h.1.trs k.1, fun i h1 h2 => (k.2 i h1 h2).trans (h.2 i h1 h2)⟩
theorem zE7.s {w u : zW} (h : zE6 w u) : zE7 w u := ⟨h.1.mono (fun o h => by omega), h.2⟩
theorem zE7.f {w : zW} {k : Nat} {x : Int32} : zE7 w (zsf w 61 k x) := ⟨zE.sf0 (Or.inr (Or.inl (Eq.refl _))), fun i _ _ => by rw [zsf_o (by omega)]⟩
abbrev zM1 (S : zLd) (l : Nat) : Nat × Nat := zMd S (zKd S l) (zTo S l) (zDy S) (zPl S l, zLf S l)
abbrev zM2 (S : zLd) (l : Nat) : Nat × Nat := (zPl S l, zLf S l - 1)
section ADAY
variable {S : zLd}
theorem zM1_ok (hS : zWf S) : ∀ l, l < zNl S → (zM1 S l).1 < zNv S ∧ (zM1 S l).2 ≤ 18 := fun l hl => by
  obtain ⟨hk, hp, hg, _, hf⟩ := hS.lt l hl
  exact zMd_ok hS hk hp hf
theorem zM2_ok (hS : zWf S) : ∀ l, l < zNl S → (zM2 S l).1 < zNv S ∧ (zM2 S l).2 ≤ 18 := fun l hl => by
  obtain ⟨hk, hp, hg, _, hf⟩ := hS.lt l hl
  exact ⟨hp, by show zLf S l - 1 ≤ 18; omega⟩
theorem ad1 (hS : zWf S) : ∀ m i (w : zW), i + m = zNl S → zMX w 61 (zLu S (zM1 S) i) → ∀ n, m < n → ∃ u, lpX7_aDay_2 n w (nI i) = some u ∧ zE7 w u ∧ zMX u 61 (zLu S (zM1 S) (zNl S)) := by
  have nl := hS.nl
  have nv := hS.nv
  intro m
  induction m with
  | zero =>
    intro i w hi hM n hn
    obtain ⟨n, rfl⟩ : ∃ z, n = z + 1 := ⟨n - 1, by omega⟩
    have m2 : zrd w 61 151 2 = some (nI (zNl S)) := (mx_2 hM :)
    rw [lpX7_aDay_2, m2, Option.bind_some, if_pos ((nI_leI (by omega) (by omega)).mpr (by omega))]
    rw [show i = zNl S by omega] at hM
    exact ⟨w, rfl, zE7.rfl, hM⟩
  | succ m ih =>
    intro i w hi hM n hn
    obtain ⟨n, rfl⟩ : ∃ z, n = z + 1 := ⟨n - 1, by omega⟩
    have hl : i < zNl S := by omega
    obtain ⟨hk, hp, hg, _, hf⟩ := hS.lt i hl
    have hT : zWf (zLu S (zM1 S) i) := wf_lu hS (zM1_ok hS)
    have m2 : zrd w 61 151 2 = some (nI (zNl S)) := (mx_2 hM :)
    have e := lu_nl (S := S) (F := zM1 S) (Nat.lt_irrefl i)
    have ek : zKd (zLu S (zM1 S) i) i = zKd S i := congrArg (fun x => x.1) e
    have ep : zPl (zLu S (zM1 S) i) i = zPl S i := congrArg (fun x => x.2.1) e
    have et : zTo (zLu S (zM1 S) i) i = zTo S i := congrArg (fun x => x.2.2.1) e
    have ef : zLf (zLu S (zM1 S) i) i = zLf S i := congrArg (fun x => x.2.2.2.2) e
    have i4 := mx_its4 hT hM hl
    rw [ef] at i4
    rw [lpX7_aDay_2, m2, Option.bind_some, if_neg (fun x => by have := (nI_leI (by omega) (by omega)).mp x; omega), i4, Option.bind_some, nI_1]
    have p0 : (nI (zLf S i) = 0) = (zLf S i = 0) := nI_z (by omega)
    by_cases f0 : zLf S i = 0
    · obtain ⟨u, u1, u2, u3, u4⟩ := mx_fw hT hM hl
      rw [ek, ep, et] at u3 u4
      have dd : zDy (zLu S (zM1 S) i) = zDy S := rfl
      rw [dd, zNy_s (S := S) zLu_ge] at u3 u4
      rw [if_pos (p0.mpr f0), u1, Option.bind_some, u3]
      have hMu := hM.e6 u2
      cases x : zNy S (zKd S i) (zPl S i) (zTo S i) (zDy S) with
      | none =>
        have m1 : zM1 S i = (zPl S i, zLf S i) := by
          unfold zM1 zMd
          rw [if_pos f0, show zNy S (zKd S i) (zPl S i, zLf S i).1 (zTo S i) (zDy S) = none from x]
          show (zPl S i, 0) = (zPl S i, zLf S i)
          rw [f0]
        have hM1 : zMX u 61 (zLu S (zM1 S) (i + 1)) := by
          rw [← zLu_step, m1]
          show zMX u 61 (zS_at (zLu S (zM1 S) i) i (zPl S i) (zLf S i))
          rw [← ep, ← ef, zS_at_self]
          exact hMu
        obtain ⟨v, v1, v2, v3⟩ := ih (i + 1) u (by omega) hM1 n (by omega)
        rw [if_pos (by decide), Option.bind_some]
        exact ⟨v, v1, (zE7.s u2).trs v2, v3⟩
      | some y =>
        have nb := zNy_lt hS hk x
        have e8 := u4 y x
        rw [zDi_s (S := S) zLu_ge] at e8
        have m1 : zM1 S i = (y, zDi S (zKd S i) (zPl S i) (zDy S) y) := by
          unfold zM1 zMd
          rw [if_pos f0, show zNy S (zKd S i) (zPl S i, zLf S i).1 (zTo S i) (zDy S) = some y from x]
        have s1 : fX7_sets u (nI i) 1 (nI y) = some (zsf u 61 (101 + 5 * i + 1) (nI y)) := mx_sets (j := 1) (by omega) (by omega)
        have w4 : (zsf u 61 (101 + 5 * i + 1) (nI y)).1 60 4 = nI (zDi S (zKd S i) (zPl S i) (zDy S) y) := by rw [zsf_o (by omega), e8]
        have s4 : ∀ q : Int32, fX7_sets (zsf u 61 (101 + 5 * i + 1) (nI y)) (nI i) 4 q = some (zsf (zsf u 61 (101 + 5 * i + 1) (nI y)) 61 (101 + 5 * i + 4) q) := fun q => mx_sets (j := 4) (by omega) (by omega)
        have hM1 : zMX (zsf (zsf u 61 (101 + 5 * i + 1) (nI y)) 61 (101 + 5 * i + 4) (nI (zDi S (zKd S i) (zPl S i) (zDy S) y))) 61 (zLu S (zM1 S) (i + 1)) := by
          rw [← zLu_step, m1]
          exact mx_at hT hMu hl (fun j h1 h4 => by rw [zsf_k h4, zsf_k h1]) (by rw [zsf_k (by omega), zsf_same]) (by rw [zsf_same])
        obtain ⟨v, v1, v2, v3⟩ := ih (i + 1) _ (by omega) hM1 n (by omega)
        have sv : zSt (some y) = nI y := rfl
        rw [sv, if_neg (nI_pos (by omega)), s1, Option.bind_some, w4, s4, Option.bind_some, Option.bind_some]
        exact ⟨v, v1, (((zE7.s u2).trs zE7.f).trs zE7.f).trs v2, v3⟩
    · have m1 : zM1 S i = (zPl S i, zLf S i) := by
        unfold zM1 zMd
        rw [if_neg f0]
      have hM1 : zMX w 61 (zLu S (zM1 S) (i + 1)) := by
        rw [← zLu_step, m1]
        show zMX w 61 (zS_at (zLu S (zM1 S) i) i (zPl S i) (zLf S i))
        rw [← ep, ← ef, zS_at_self]
        exact hM
      obtain ⟨v, v1, v2, v3⟩ := ih (i + 1) w (by omega) hM1 n (by omega)
      rw [if_neg (fun q => f0 (p0.mp q)), Option.bind_some]
      exact ⟨v, v1, v2, v3⟩
theorem ad2 (hS : zWf S) : ∀ m i (w : zW), i + m = zNl S → zMX w 61 (zLu S (zM2 S) i) → ∀ n, m < n → ∃ u, lpX7_aDay_61 n w (nI i) = some u ∧ zE7 w u ∧ zMX u 61 (zLu S (zM2 S) (zNl S)) := by
  have nl := hS.nl
  have nv := hS.nv
  intro m
  induction m with
  | zero =>
    intro i w hi hM n hn
    obtain ⟨n, rfl⟩ : ∃ z, n = z + 1 := ⟨n - 1, by omega⟩
    have m2 : zrd w 61 151 2 = some (nI (zNl S)) := (mx_2 hM :)
    rw [lpX7_aDay_61, m2, Option.bind_some, if_pos ((nI_leI (by omega) (by omega)).mpr (by omega))]
    rw [show i = zNl S by omega] at hM
    exact ⟨w, rfl, zE7.rfl, hM⟩
  | succ m ih =>
    intro i w hi hM n hn
    obtain ⟨n, rfl⟩ : ∃ z, n = z + 1 := ⟨n - 1, by omega⟩
    have hl : i < zNl S := by omega
    obtain ⟨hk, hp, hg, _, hf⟩ := hS.lt i hl
    have hT : zWf (zLu S (zM2 S) i) := wf_lu hS (zM2_ok hS)
    have m2 : zrd w 61 151 2 = some (nI (zNl S)) := (mx_2 hM :)
    have e := lu_nl (S := S) (F := zM2 S) (Nat.lt_irrefl i)
    have ep : zPl (zLu S (zM2 S) i) i = zPl S i := congrArg (fun x => x.2.1) e
    have ef : zLf (zLu S (zM2 S) i) i = zLf S i := congrArg (fun x => x.2.2.2.2) e
    have i4 := mx_its4 hT hM hl
    rw [ef] at i4
    have x37 : (if nI (zLf S i) ≤ 0 then some (0 : Int32) else some (nI (zLf S i) - 1)) = some (nI (zLf S i - 1)) := by
      by_cases c : zLf S i = 0
      · rw [c, if_pos (by decide)]; rfl
      · rw [if_neg (nI_nle (by omega) (by omega)), zL1, pk_sub (by omega)]
    have s4 : ∀ q : Int32, fX7_sets w (nI i) 4 q = some (zsf w 61 (101 + 5 * i + 4) q) := fun q => mx_sets (j := 4) (by omega) (by omega)
    have hM1 : zMX (zsf w 61 (101 + 5 * i + 4) (nI (zLf S i - 1))) 61 (zLu S (zM2 S) (i + 1)) := by
      rw [← zLu_step]
      have c1 := (hM.2.2.2 i hl).2.1
      rw [ep] at c1
      exact mx_at hT hM hl (fun j h1 h4 => by rw [zsf_k h4]) (by rw [zsf_k (by omega)]; exact c1) (by rw [zsf_same])
    obtain ⟨v, v1, v2, v3⟩ := ih (i + 1) _ (by omega) hM1 n (by omega)
    rw [lpX7_aDay_61, m2, Option.bind_some, if_neg (fun x => by have := (nI_leI (by omega) (by omega)).mp x; omega), i4, Option.bind_some, x37, Option.bind_some, s4, Option.bind_some, nI_1]
    exact ⟨v, v1, zE7.f.trs v2, v3⟩
/-- the land after n days -/
def zAd (S : zLd) (n : Nat) : zLd := zS_dy (zLu S (fun l => zLP S l n) (zNl S)) (zDy S + n)
theorem zAd_lt {l n : Nat} (hl : l < zNl S) : (zAd S n).2.2.2.2 l = (zKd S l, (zLP S l n).1, zTo S l, zSn S l, (zLP S l n).2) := if_pos hl
theorem zAd_0 : zAd S 0 = S := by
  have q : (fun l => if l < zNl S then (zKd S l, (zLP S l 0).1, zTo S l, zSn S l, (zLP S l 0).2) else S.2.2.2.2 l) = S.2.2.2.2 := by
    funext l
    split <;> rfl
  show (S.1, S.2.1, S.2.2.1, S.2.2.2.1, _) = S
  rw [q]
theorem zAd_ge {n : Nat} : zGe (zAd S n) = zGe S := rfl
theorem wf_ad (hS : zWf S) {n : Nat} (h : zDy S + n ≤ 9999) : zWf (zAd S n) := wf_dy (wf_lu hS (fun l hl => by
  obtain ⟨hk, hp, hg, _, hf⟩ := hS.lt l hl
  exact zPn_ok hS hk (x := (zPl S l, zLf S l)) hp hf n)) h
theorem zAd_step {n : Nat} : zS_dy (zLu (zLu (zAd S n) (zM1 (zAd S n)) (zNl S)) (zM2 (zLu (zAd S n) (zM1 (zAd S n)) (zNl S))) (zNl S)) (zDy S + n + 1) = zAd S (n + 1) := by
  have q : (zLu (zLu (zAd S n) (zM1 (zAd S n)) (zNl S)) (zM2 (zLu (zAd S n) (zM1 (zAd S n)) (zNl S))) (zNl S)).2.2.2.2 = (zLu S (fun l => zLP S l (n + 1)) (zNl S)).2.2.2.2 := by
    funext l
    by_cases hl : l < zNl S
    · rw [lu_lt hl, lu_lt hl]
      have a1 := zAd_lt (n := n) hl
      have a2 := lu_lt (S := zAd S n) (F := zM1 (zAd S n)) hl
      show (((zLu (zAd S n) (zM1 (zAd S n)) (zNl S)).2.2.2.2 l).1, ((zLu (zAd S n) (zM1 (zAd S n)) (zNl S)).2.2.2.2 l).2.1, ((zLu (zAd S n) (zM1 (zAd S n)) (zNl S)).2.2.2.2 l).2.2.1, ((zLu (zAd S n) (zM1 (zAd S n)) (zNl S)).2.2.2.2 l).2.2.2.1, ((zLu (zAd S n) (zM1 (zAd S n)) (zNl S)).2.2.2.2 l).2.2.2.2 - 1) = _
      rw [a2]
      show (((zAd S n).2.2.2.2 l).1, (zM1 (zAd S n) l).1, ((zAd S n).2.2.2.2 l).2.2.1, ((zAd S n).2.2.2.2 l).2.2.2.1, (zM1 (zAd S n) l).2 - 1) = _
      have m1 : zM1 (zAd S n) l = zMd S (zKd S l) (zTo S l) (zDy S + n) (zLP S l n) := by
        show zMd (zAd S n) ((zAd S n).2.2.2.2 l).1 ((zAd S n).2.2.2.2 l).2.2.1 (zDy S + n) (((zAd S n).2.2.2.2 l).2.1, ((zAd S n).2.2.2.2 l).2.2.2.2) = _
        rw [a1, zMd_s zAd_ge]
      rw [m1, a1]
      rfl
    · rw [lu_nl hl, lu_nl hl, lu_nl hl]
      exact lu_nl hl
  exact congrArg (fun g => ((S.1.1, S.1.2.1, S.1.2.2.1, S.1.2.2.2.1, zDy S + n + 1), S.2.1, S.2.2.1, S.2.2.2.1, g)) q
theorem mx_aday {w : zW} {n : Nat} (hS : zWf S) (h : zDy S + n ≤ 9999) (hM : zMX w 61 (zAd S n)) : ∃ u, fX7_aDay w = some u ∧ zE7 w u ∧ zMX u 61 (zAd S (n + 1)) := by
  have nl := hS.nl
  have hT := wf_ad hS h
  obtain ⟨x, x1, x2, x3⟩ := ad1 hT (zNl S) 0 w (by show 0 + zNl S = zNl S; omega) (by rw [zLu_0]; exact hM) zF (by unfold zF; omega)
  have hT2 : zWf (zLu (zAd S n) (zM1 (zAd S n)) (zNl S)) := wf_lu hT (zM1_ok hT)
  obtain ⟨y, y1, y2, y3⟩ := ad2 hT2 (zNl S) 0 x (by show 0 + zNl S = zNl S; omega) (by rw [zLu_0]; exact x3) zF (by unfold zF; omega)
  have x1 : lpX7_aDay_2 zF w 0 = some x := x1
  have y1 : lpX7_aDay_61 zF x 0 = some y := y1
  have d4 : zrd y 61 151 4 = some (nI (zDy S + n)) := (mx_4 y3 :)
  have w4 : ∀ q : Int32, zwr y 61 151 4 q = some (zsf y 61 4 q) := fun q => by rw [zL4, zwr_nI (by omega) (by omega)]
  refine ⟨zsf y 61 4 (nI (zDy S + n + 1)), ?_, (x2.trs y2).trs zE7.f, ?_⟩
  · unfold fX7_aDay
    rw [x1, Option.bind_some, y1, Option.bind_some, d4, Option.bind_some, nI_1, w4, Option.bind_some]
  · rw [← zAd_step]
    exact mx_dy y3 (zDy S + n + 1)
theorem mx_days_lp {p v6 : Int32} {n : Nat} (hp : p = nI n) (hS : zWf S) (h : zDy S + n ≤ 9999) : ∀ m i (w : zW), i + m = n → zMX w 61 (zAd S i) → ∀ q, m < q → ∃ u, lpX7_days_46 p v6 q w (nI i) = some u ∧ zE7 w u ∧ zMX u 61 (zAd S n) := by
  subst hp
  intro m
  induction m with
  | zero =>
    intro i w hi hM q hq
    obtain ⟨q, rfl⟩ : ∃ z, q = z + 1 := ⟨q - 1, by omega⟩
    rw [lpX7_days_46, if_pos ((nI_leI (by omega) (by omega)).mpr (by omega))]
    rw [show i = n by omega] at hM
    exact ⟨w, rfl, zE7.rfl, hM⟩
  | succ m ih =>
    intro i w hi hM q hq
    obtain ⟨q, rfl⟩ : ∃ z, q = z + 1 := ⟨q - 1, by omega⟩
    obtain ⟨u, u1, u2, u3⟩ := mx_aday hS (show zDy S + i ≤ 9999 by omega) hM
    obtain ⟨v, v1, v2, v3⟩ := ih (i + 1) u (by omega) u3 q (by omega)
    rw [lpX7_days_46, if_neg (fun x => by have := (nI_leI (by omega) (by omega)).mp x; omega), u1, Option.bind_some, nI_1]
    exact ⟨v, v1, u2.trs v2, v3⟩
theorem mx_on_lp {p a : Int32} {n : Nat} (hp : p = nI n) (hS : zWf S) (h : zDy S + n ≤ 9999) : ∀ m i (w : zW), i + m = n → zMX w 61 (zAd S i) → ∀ q, m < q → ∃ u, lpX7_on_58 a p q w (nI i) = some u ∧ zE7 w u ∧ zMX u 61 (zAd S n) := by
  subst hp
  intro m
  induction m with
  | zero =>
    intro i w hi hM q hq
    obtain ⟨q, rfl⟩ : ∃ z, q = z + 1 := ⟨q - 1, by omega⟩
    rw [lpX7_on_58, if_pos ((nI_leI (by omega) (by omega)).mpr (by omega))]
    rw [show i = n by omega] at hM
    exact ⟨w, rfl, zE7.rfl, hM⟩
  | succ m ih =>
    intro i w hi hM q hq
    obtain ⟨q, rfl⟩ : ∃ z, q = z + 1 := ⟨q - 1, by omega⟩
    obtain ⟨u, u1, u2, u3⟩ := mx_aday hS (show zDy S + i ≤ 9999 by omega) hM
    obtain ⟨v, v1, v2, v3⟩ := ih (i + 1) u (by omega) u3 q (by omega)
    rw [lpX7_on_58, if_neg (fun x => by have := (nI_leI (by omega) (by omega)).mp x; omega), u1, Option.bind_some, nI_1]
    exact ⟨v, v1, u2.trs v2, v3⟩
end ADAY
