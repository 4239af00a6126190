/-! days of letters: the land's shape, without letters and day -/
def zGe (S : zLd) : zLd := ((S.1.1, S.1.2.1, 0, S.1.2.2.2.1, 0), S.2.1, S.2.2.1, S.2.2.2.1, fun _ => (0, 0, 0, 0, 0))
theorem zEr_ge {S : zLd} {k a b : Nat} : ∀ n, zEr (zGe S) k n a b = zEr S k n a b := by
  intro n
  induction n with
  | zero => rw [zEr_0, zEr_0]
  | succ n ih =>
    rw [zEr, zEr, ih]
    rfl
theorem zEg_ge {S : zLd} {k : Nat} : zEg (zGe S) k = zEg S k := by
  funext a b
  exact zEr_ge (zNr S)
theorem zDd_ge {S : zLd} {k : Nat} : zDd (zGe S) k = zDd S k := by
  show zDn (zEg (zGe S) k) (zNv S) = zDn (zEg S k) (zNv S)
  rw [zEg_ge]
theorem zEx_g {S : zLd} {k : Nat} {air : Bool} {a b t : Nat} : zEx (zGe S) k air a b t = zEx S k air a b t := by
  unfold zEx
  rw [zDd_ge]
  rfl
theorem zEa_g {S : zLd} {k a b t : Nat} : zEa (zGe S) k a b t = zEa S k a b t := zEx_g
theorem zDi_g {S : zLd} {k p t v : Nat} : zDi (zGe S) k p t v = zDi S k p t v := by
  unfold zDi
  rw [zEg_ge]
  rfl
theorem zOk_g {S : zLd} {k p g t : Nat} : zOk (zGe S) k p g t = zOk S k p g t := by
  funext v
  unfold zOk
  rw [zDi_g, zEa_g, zEa_g]
theorem zNy_g {S : zLd} {k p g t : Nat} : zNy (zGe S) k p g t = zNy S k p g t := by
  unfold zNy
  rw [zOk_g, zEa_g]
  rfl
theorem zWy_g {w : zW} {S : zLd} {k : Nat} : zWy w (zGe S) k = zWy w S k := by
  have e : zEr (zGe S) k (zNr (zGe S)) = zEr S k (zNr S) := zEg_ge
  unfold zWy
  rw [e]
  rfl
theorem zNy_s {S T : zLd} (h : zGe T = zGe S) {k p g t : Nat} : zNy T k p g t = zNy S k p g t := by rw [← zNy_g, h, zNy_g]
theorem zDi_s {S T : zLd} (h : zGe T = zGe S) {k p t v : Nat} : zDi T k p t v = zDi S k p t v := by rw [← zDi_g, h, zDi_g]
theorem zWy_s {S T : zLd} (h : zGe T = zGe S) {w : zW} {k : Nat} (hw : zWy w S k) : zWy w T k := by rw [← zWy_g, h, zWy_g]; exact hw
/-- a letter (where, left) goes a day: on its way, then one day less -/
def zMd (S : zLd) (k g t : Nat) (x : Nat × Nat) : Nat × Nat := if x.2 = 0 then (match zNy S k x.1 g t with | some v => (v, zDi S k x.1 t v) | none => (x.1, 0)) else x
def zPs (S : zLd) (k g t : Nat) (x : Nat × Nat) : Nat × Nat := ((zMd S k g t x).1, (zMd S k g t x).2 - 1)
def zPn (S : zLd) (k g t : Nat) (x : Nat × Nat) : Nat → Nat × Nat
  | 0 => x
  | i + 1 => zPs S k g (t + i) (zPn S k g t x i)
theorem zMd_s {S T : zLd} (h : zGe T = zGe S) {k g t : Nat} {x : Nat × Nat} : zMd T k g t x = zMd S k g t x := by
  unfold zMd
  rw [zNy_s h]
  by_cases c : x.2 = 0
  · rw [if_pos c, if_pos c]
    cases zNy S k x.1 g t with
    | none => rfl
    | some v => show (v, zDi T k x.1 t v) = (v, zDi S k x.1 t v); rw [zDi_s h]
  · rw [if_neg c, if_neg c]
theorem zPs_s {S T : zLd} (h : zGe T = zGe S) {k g t : Nat} {x : Nat × Nat} : zPs T k g t x = zPs S k g t x := by unfold zPs; rw [zMd_s h]
theorem zPn_s {S T : zLd} (h : zGe T = zGe S) {k g t : Nat} {x : Nat × Nat} : ∀ n, zPn T k g t x n = zPn S k g t x n := by
  intro n
  induction n with
  | zero => rfl
  | succ n ih => rw [zPn, zPn, ih, zPs_s h]
theorem zMd_ok {S : zLd} (hS : zWf S) {k : Nat} (hk : k < 6) {g t : Nat} {x : Nat × Nat} (h1 : x.1 < zNv S) (h2 : x.2 ≤ 18) : (zMd S k g t x).1 < zNv S ∧ (zMd S k g t x).2 ≤ 18 := by
  unfold zMd
  by_cases c : x.2 = 0
  · rw [if_pos c]
    cases e : zNy S k x.1 g t with
    | none => exact ⟨h1, Nat.zero_le _⟩
    | some v =>
      have := zNy_lt hS hk e
      exact ⟨this.1, this.2.2⟩
  · rw [if_neg c]
    exact ⟨h1, h2⟩
theorem zPn_ok {S : zLd} (hS : zWf S) {k : Nat} (hk : k < 6) {g t : Nat} {x : Nat × Nat} (h1 : x.1 < zNv S) (h2 : x.2 ≤ 18) : ∀ n, (zPn S k g t x n).1 < zNv S ∧ (zPn S k g t x n).2 ≤ 18 := by
  intro n
  induction n with
  | zero => exact ⟨h1, h2⟩
  | succ n ih =>
    have := zMd_ok hS hk (g := g) (t := t + n) ih.1 ih.2
    exact ⟨this.1, by show (zMd S k g (t + n) (zPn S k g t x n)).2 - 1 ≤ 18; omega⟩
theorem zPn_th {S : zLd} {k g t : Nat} {x : Nat × Nat} (h1 : x.1 = g) (h2 : x.2 = 0) : ∀ n, zPn S k g t x n = x := by
  intro n
  induction n with
  | zero => rfl
  | succ n ih =>
    rw [zPn, ih]
    have nx : zNy S k x.1 g (t + n) = none := if_pos (Or.inl h1)
    unfold zPs zMd
    rw [if_pos h2, nx]
    show (x.1, 0 - 1) = x
    rw [show (0 : Nat) - 1 = x.2 by omega]
theorem zS_at_ge {S : zLd} {l a f : Nat} : zGe (zS_at S l a f) = zGe S := rfl
theorem zS_at_at {S : zLd} {l a f b e : Nat} : zS_at (zS_at S l a f) l b e = zS_at S l b e := by
  have q : (fun x => if x = l then (zKd (zS_at S l a f) l, b, zTo (zS_at S l a f) l, zSn (zS_at S l a f) l, e) else (zS_at S l a f).2.2.2.2 x) = (fun x => if x = l then (zKd S l, b, zTo S l, zSn S l, e) else S.2.2.2.2 x) := by
    funext x
    by_cases c : x = l
    · rw [if_pos c, if_pos c]
      have e1 : zKd (zS_at S l a f) l = zKd S l := by show (if l = l then _ else _ : Nat × Nat × Nat × Nat × Nat).1 = _; rw [if_pos rfl]
      have e2 : zTo (zS_at S l a f) l = zTo S l := by show (if l = l then _ else _ : Nat × Nat × Nat × Nat × Nat).2.2.1 = _; rw [if_pos rfl]
      have e3 : zSn (zS_at S l a f) l = zSn S l := by show (if l = l then _ else _ : Nat × Nat × Nat × Nat × Nat).2.2.2.1 = _; rw [if_pos rfl]
      rw [e1, e2, e3]
    · rw [if_neg c, if_neg c]
      show (if x = l then _ else S.2.2.2.2 x) = S.2.2.2.2 x
      rw [if_neg c]
  show (S.1, S.2.1, S.2.2.1, S.2.2.2.1, _) = (S.1, S.2.1, S.2.2.1, S.2.2.2.1, _)
  exact congrArg (fun g => (S.1, S.2.1, S.2.2.1, S.2.2.2.1, g)) q
theorem zS_at_self {S : zLd} {l : Nat} : zS_at S l (zPl S l) (zLf S l) = S := by
  have q : (fun x => if x = l then (zKd S l, zPl S l, zTo S l, zSn S l, zLf S l) else S.2.2.2.2 x) = S.2.2.2.2 := by
    funext x
    by_cases c : x = l
    · subst c; rw [if_pos rfl]
    · rw [if_neg c]
  show (S.1, S.2.1, S.2.2.1, S.2.2.2.1, _) = S
  rw [q]
theorem at_kd {S : zLd} {l a f : Nat} : zKd (zS_at S l a f) l = zKd S l := by show (if l = l then _ else _ : Nat × Nat × Nat × Nat × Nat).1 = _; rw [if_pos rfl]
theorem at_pl {S : zLd} {l a f : Nat} : zPl (zS_at S l a f) l = a := by show (if l = l then _ else _ : Nat × Nat × Nat × Nat × Nat).2.1 = _; rw [if_pos rfl]
theorem at_to {S : zLd} {l a f : Nat} : zTo (zS_at S l a f) l = zTo S l := by show (if l = l then _ else _ : Nat × Nat × Nat × Nat × Nat).2.2.1 = _; rw [if_pos rfl]
theorem at_sn {S : zLd} {l a f : Nat} : zSn (zS_at S l a f) l = zSn S l := by show (if l = l then _ else _ : Nat × Nat × Nat × Nat × Nat).2.2.2.1 = _; rw [if_pos rfl]
theorem at_lf {S : zLd} {l a f : Nat} : zLf (zS_at S l a f) l = f := by show (if l = l then _ else _ : Nat × Nat × Nat × Nat × Nat).2.2.2.2 = _; rw [if_pos rfl]
theorem at_ne {S : zLd} {l a f x : Nat} (h : x ≠ l) : (zS_at S l a f).2.2.2.2 x = S.2.2.2.2 x := if_neg h
theorem wf_at {S : zLd} (h : zWf S) {l a f : Nat} (ha : a < zNv S) (hf : f ≤ 18) : zWf (zS_at S l a f) := by
  refine ⟨h.1, h.2.1, h.2.2.1, h.2.2.2.1, h.2.2.2.2.1, h.2.2.2.2.2.1, h.2.2.2.2.2.2.1, h.2.2.2.2.2.2.2.1, fun x hx => ?_⟩
  by_cases c : x = l
  · subst c
    rw [at_kd, at_pl, at_to, at_sn, at_lf]
    have := h.lt x hx
    exact ⟨this.1, ha, this.2.2.1, this.2.2.2.1, hf⟩
  · have e := at_ne (S := S) (a := a) (f := f) c
    show (((zS_at S l a f).2.2.2.2 x).1 < 6 ∧ ((zS_at S l a f).2.2.2.2 x).2.1 < zNv S ∧ ((zS_at S l a f).2.2.2.2 x).2.2.1 < zNv S ∧ ((zS_at S l a f).2.2.2.2 x).2.2.2.1 ≤ 9999 ∧ ((zS_at S l a f).2.2.2.2 x).2.2.2.2 ≤ 18)
    rw [e]
    exact h.lt x hx
theorem cx_at {w u : zW} {o l a f : Nat} {S : zLd} (h : zCX w o S) (E : ∀ j, j < 10 → j ≠ 6 → j ≠ 9 → u.1 (o + j) = w.1 (o + j)) (h6 : ∀ i, u.1 (o + 6) i = if i = l then nI a else w.1 (o + 6) i) (h9 : ∀ i, u.1 (o + 9) i = if i = l then nI f else w.1 (o + 9) i) : zCX u o (zS_at S l a f) := by
  have e0 := E 0 (by omega) (by omega) (by omega)
  rw [Nat.add_zero] at e0
  refine ⟨by rw [e0]; exact h.1, fun v hv => by rw [e0, E 1 (by omega) (by omega) (by omega)]; exact h.2.1 v hv, fun r hr => by rw [E 2 (by omega) (by omega) (by omega), E 3 (by omega) (by omega) (by omega), E 4 (by omega) (by omega) (by omega)]; exact h.2.2.1 r hr, fun x hx => ?_⟩
  have c := h.2.2.2 x hx
  rw [E 5 (by omega) (by omega) (by omega), E 7 (by omega) (by omega) (by omega), E 8 (by omega) (by omega) (by omega), h6, h9]
  by_cases q : x = l
  · subst q
    rw [at_kd, at_pl, at_to, at_sn, at_lf, if_pos rfl, if_pos rfl]
    exact ⟨c.1, rfl, c.2.2.1, c.2.2.2.1, rfl⟩
  · rw [if_neg q, if_neg q]
    have e := at_ne (S := S) (a := a) (f := f) q
    show w.1 (o + 5) x = nI ((zS_at S l a f).2.2.2.2 x).1 ∧ w.1 (o + 6) x = nI ((zS_at S l a f).2.2.2.2 x).2.1 ∧ w.1 (o + 7) x = nI ((zS_at S l a f).2.2.2.2 x).2.2.1 ∧ w.1 (o + 8) x = nI ((zS_at S l a f).2.2.2.2 x).2.2.2.1 ∧ w.1 (o + 9) x = nI ((zS_at S l a f).2.2.2.2 x).2.2.2.2
    rw [e]
    exact c
section CARRY
variable {S : zLd}
theorem cx_pd {w : zW} {o l t : Nat} (ho : o = 10 ∨ o = 20 ∨ o = 30) (hS : zWf S) (hC : zCX w o S) (hl : l < zNl S) (hW : zWy w S (zKd S l)) (ht : t ≤ 100000) : ∃ u, fX0_passDay w o (nI l) (nI t) = some u ∧ zE (fun x => x = 40 ∨ x = o + 6 ∨ x = o + 9) w u ∧ zCX u o (zS_at S l (zPs S (zKd S l) (zTo S l) t (zPl S l, zLf S l)).1 (zPs S (zKd S l) (zTo S l) t (zPl S l, zLf S l)).2) ∧ zWy u S (zKd S l) := by
  have nl := hS.nl
  have nv := hS.nv
  obtain ⟨hk, hp, hg, _, hf⟩ := hS.lt l hl
  have c := hC.2.2.2 l hl
  have p0 : (nI (zLf S l) = 0) = (zLf S l = 0) := nI_z (by omega)
  unfold fX0_passDay
  rw [cx_hl_y hS hC hl, Option.bind_some, if_neg h10, zrd_nI (by omega) (by omega), Option.bind_some, c.2.2.2.2]
  by_cases f0 : zLf S l = 0
  · rw [if_pos (p0.mpr f0), zrd_nI (by omega) (by omega), Option.bind_some, c.2.1, zrd_nI (by omega) (by omega), Option.bind_some, c.2.2.1]
    obtain ⟨x, x1, x2, x3, x4, x5⟩ := wy_la hS hk hW hp hg ht
    rw [x1, Option.bind_some, x4]
    cases e : zNy S (zKd S l) (zPl S l) (zTo S l) t with
    | none =>
      have ps : zPs S (zKd S l) (zTo S l) t (zPl S l, zLf S l) = (zPl S l, zLf S l) := by
        unfold zPs zMd
        rw [if_pos f0, show zNy S (zKd S l) (zPl S l, zLf S l).1 (zTo S l) t = none from e]
        show (zPl S l, 0 - 1) = (zPl S l, zLf S l)
        rw [f0]
      have hCx : zCX x o S := hC.keep (fun j hj => (x2 _ (by omega)).1)
      have cx := hCx.2.2.2 l hl
      have le0 : zLf S l = 0 → nI (zLf S l) ≤ 0 := fun h => by rw [h]; decide
      rw [if_pos (by decide), Option.bind_some, zrd_nI (by omega) (by omega), Option.bind_some, cx.2.2.2.2, if_pos (le0 f0), ps, zS_at_self]
      exact ⟨x, rfl, x2.mono (fun o h => Or.inl h), hCx, x3⟩
    | some v =>
      have nb := zNy_lt hS hk e
      have e8 := x5 v e
      have ps : zPs S (zKd S l) (zTo S l) t (zPl S l, zLf S l) = (v, zDi S (zKd S l) (zPl S l) t v - 1) := by
        unfold zPs zMd
        rw [if_pos f0, show zNy S (zKd S l) (zPl S l, zLf S l).1 (zTo S l) t = some v from e]
      have w8 : (zsf x (o + 6) l (nI v)).1 40 8 = nI (zDi S (zKd S l) (zPl S l) t v) := by rw [zsf_o (by omega), e8]
      have neg : ¬ zSt (some v) < 0 := nI_pos (by omega)
      have sv : zSt (some v) = nI v := rfl
      rw [if_neg neg, sv, zwr_nI (by omega) (by omega), Option.bind_some, w8, zwr_nI (by omega) (by omega), Option.bind_some, Option.bind_some, zrd_nI (by omega) (by omega), Option.bind_some, zsf_same, if_neg (nI_nle (by omega) (by omega)), Option.bind_some, zL1, pk_sub (by omega), zwr_nI (by omega) (by omega), Option.bind_some, ps]
      refine ⟨_, rfl, ?_, ?_, ?_⟩
      · exact (x2.mono (fun o h => Or.inl h)).trs (((zE.sf0 (Or.inr (Or.inl rfl))).trs (zE.sf0 (Or.inr (Or.inr rfl)))).trs (zE.sf0 (Or.inr (Or.inr rfl))))
      · refine cx_at hC (fun j hj j6 j9 => by rw [zsf_o (by omega), zsf_o (by omega), zsf_o (by omega), (x2 _ (by omega)).1]) (fun i => ?_) (fun i => ?_)
        · rw [zsf_o (by omega), zsf_o (by omega)]
          by_cases q : i = l
          · subst q; rw [zsf_same, if_pos rfl]
          · rw [zsf_k q, if_neg q, (x2 _ (by omega)).1]
        · by_cases q : i = l
          · subst q; rw [zsf_same, if_pos rfl]
          · rw [zsf_k q, zsf_k q, if_neg q, zsf_o (by omega), (x2 _ (by omega)).1]
      · exact x3.keep (fun i hi => by rw [zsf_o (by omega), zsf_o (by omega), zsf_o (by omega)]) (by rw [zsf_o (by omega), zsf_o (by omega), zsf_o (by omega)]) (by rw [zsf_o (by omega), zsf_o (by omega), zsf_o (by omega)])
  · have ps : zPs S (zKd S l) (zTo S l) t (zPl S l, zLf S l) = (zPl S l, zLf S l - 1) := by
      unfold zPs zMd
      rw [if_neg f0]
    rw [if_neg (fun q => f0 (p0.mp q)), Option.bind_some, zrd_nI (by omega) (by omega), Option.bind_some, c.2.2.2.2, if_neg (nI_nle (by omega) (by omega)), Option.bind_some, zL1, pk_sub (by omega), zwr_nI (by omega) (by omega), Option.bind_some, ps]
    refine ⟨_, rfl, zE.sf0 (Or.inr (Or.inr rfl)), ?_, hW.keep (fun i hi => by rw [zsf_o (by omega)]) (by rw [zsf_o (by omega)]) (by rw [zsf_o (by omega)])⟩
    refine cx_at hC (fun j hj j6 j9 => by rw [zsf_o (by omega)]) (fun i => ?_) (fun i => ?_)
    · rw [zsf_o (by omega)]
      by_cases q : i = l
      · subst q; rw [if_pos rfl]; exact c.2.1
      · rw [if_neg q]
    · by_cases q : i = l
      · subst q; rw [zsf_same, if_pos rfl]
      · rw [zsf_k q, if_neg q]
abbrev zLP (S : zLd) (l n : Nat) : Nat × Nat := zPn S (zKd S l) (zTo S l) (zDy S) (zPl S l, zLf S l) n
/-- a day more of one letter, in a land where it has gone i days -/
theorem cx_pd_i {w : zW} {o l i : Nat} (ho : o = 10 ∨ o = 20 ∨ o = 30) (hS : zWf S) (hl : l < zNl S) (hC : zCX w o (zS_at S l (zLP S l i).1 (zLP S l i).2)) (hW : zWy w S (zKd S l)) (hi : i ≤ 200) : ∃ u, fX0_passDay w o (nI l) (nI (zDy S + i)) = some u ∧ zE (fun x => x = 40 ∨ x = o + 6 ∨ x = o + 9) w u ∧ zCX u o (zS_at S l (zLP S l (i + 1)).1 (zLP S l (i + 1)).2) ∧ zWy u S (zKd S l) := by
  have dy := hS.dy
  obtain ⟨hk, hp, hg, _, hf⟩ := hS.lt l hl
  have ok := zPn_ok hS hk (g := zTo S l) (t := zDy S) (x := (zPl S l, zLf S l)) hp hf i
  have hT := wf_at (l := l) hS ok.1 ok.2
  obtain ⟨u, u1, u2, u3, u4⟩ := cx_pd (t := zDy S + i) ho hT hC hl (by rw [at_kd]; exact zWy_s zS_at_ge hW) (by omega)
  refine ⟨u, u1, u2, ?_, ?_⟩
  · rw [at_kd, at_to, at_pl, at_lf, zPs_s zS_at_ge, zS_at_at] at u3
    exact u3
  · rw [at_kd] at u4
    exact zWy_s (S := zS_at S l (zLP S l i).1 (zLP S l i).2) zS_at_ge.symm u4
theorem cx_carry_lp {o l n : Nat} (ho : o = 10 ∨ o = 20 ∨ o = 30) (hS : zWf S) (hl : l < zNl S) (hn : n ≤ 200) : ∀ m i (w : zW), i + m = n → zCX w o (zS_at S l (zLP S l i).1 (zLP S l i).2) → zWy w S (zKd S l) → ∀ q, m < q → ∃ u, lpX6_carryOn_34 o (nI l) (nI n) q w (nI i) = some u ∧ zE (fun x => x = 40 ∨ x = o + 6 ∨ x = o + 9) w u ∧ zCX u o (zS_at S l (zLP S l n).1 (zLP S l n).2) := by
  have dy := hS.dy
  intro m
  induction m with
  | zero =>
    intro i w hi hC hW q hq
    obtain ⟨q, rfl⟩ : ∃ z, q = z + 1 := ⟨q - 1, by omega⟩
    rw [lpX6_carryOn_34, if_pos ((nI_leI (by omega) (by omega)).mpr (by omega))]
    rw [show i = n by omega] at hC
    exact ⟨w, rfl, zE.rfl, hC⟩
  | succ m ih =>
    intro i w hi hC hW q hq
    obtain ⟨q, rfl⟩ : ∃ z, q = z + 1 := ⟨q - 1, by omega⟩
    obtain ⟨u, u1, u2, u3, u4⟩ := cx_pd_i ho hS hl hC hW (show i ≤ 200 by omega)
    obtain ⟨v, v1, v2, v3⟩ := ih (i + 1) u (by omega) u3 u4 q (by omega)
    have d8 : w.1 o 8 = nI (zDy S) := hC.1.2.2.2.2
    rw [lpX6_carryOn_34, if_neg (fun x => by have := (nI_leI (by omega) (by omega)).mp x; omega), d8, nI_add, u1, Option.bind_some, nI_1]
    exact ⟨v, v1, u2.trs v2, v3⟩
theorem cx_carry {w : zW} {o l n : Nat} (ho : o = 10 ∨ o = 20 ∨ o = 30) (hS : zWf S) (hC : zCX w o S) (hl : l < zNl S) (hn : n ≤ 200) : ∃ u, fX6_carryOn w o (nI l) (nI n) = some u ∧ zE (fun x => x = 40 ∨ x = 41 ∨ x = 42 ∨ x = o + 6 ∨ x = o + 9) w u ∧ zCX u o (zS_at S l (zLP S l n).1 (zLP S l n).2) := by
  have nl := hS.nl
  obtain ⟨hk, hp, hg, _, hf⟩ := hS.lt l hl
  have c := hC.2.2.2 l hl
  unfold fX6_carryOn
  rw [cx_hl_y hS hC hl, Option.bind_some, if_neg h10, cx_th hS hC hl, Option.bind_some]
  cases e : zTh S l with
  | true =>
    have e : (decide (zLf S l = 0) && decide (zPl S l = zTo S l)) = true := e
    rw [Bool.and_eq_true] at e
    have st : zLP S l n = (zPl S l, zLf S l) := zPn_th (x := (zPl S l, zLf S l)) (of_decide_eq_true e.2) (of_decide_eq_true e.1) n
    rw [if_neg (by decide), st, zS_at_self]
    exact ⟨w, rfl, zE.rfl, hC⟩
  | false =>
    rw [if_pos (by decide), zrd_nI (by omega) (by omega), Option.bind_some, c.1]
    obtain ⟨u, u1, u2, u3⟩ := lo ho hS hC hk (by omega)
    have hCu : zCX u o S := hC.keep (fun j hj => (u2 _ (by omega)).1)
    have hC0 : zCX u o (zS_at S l (zLP S l 0).1 (zLP S l 0).2) := by
      have : zS_at S l (zLP S l 0).1 (zLP S l 0).2 = S := zS_at_self
      rw [this]; exact hCu
    obtain ⟨v, v1, v2, v3⟩ := cx_carry_lp ho hS hl hn n 0 u (by omega) hC0 u3 zF (by unfold zF; omega)
    have v1 : lpX6_carryOn_34 o (nI l) (nI n) zF u 0 = some v := v1
    rw [u1, Option.bind_some, v1, Option.bind_some]
    exact ⟨v, rfl, (u2.mono (fun o h => by omega)).trs (v2.mono (fun o h => by omega)), v3⟩
end CARRY
