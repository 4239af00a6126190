/-! when, first -/
theorem zTh_at {S : zLd} {l a f : Nat} : zTh (zS_at S l a f) l = (decide (f = 0) && decide (a = zTo S l)) := by
  unfold zTh zLi
  rw [at_lf, at_pl, at_to]
def zAh : Option Nat → Int32
  | some x => nI x
  | none => 1000000
def zDt : Option Nat → Int32
  | some x => nI x
  | none => -1
def zE8 (w u : zW) : Prop := zE (fun o => o = 60 ∨ o = 61 ∨ o = 63 ∨ o = 64) w u ∧ ∀ i, i ≠ 3 → i ≠ 4 → u.1 60 i = w.1 60 i
section WHEN
variable {S : zLd}
theorem cx_ah_lp {l : Nat} (hS : zWf S) (hl : l < zNl S) : ∀ m i (w : zW), i + m = 200 → zCX w 30 (zS_at S l (zLP S l i).1 (zLP S l i).2) → zWy w S (zKd S l) → zFs (zTn S l) i = none → ∀ q, m < q → (∃ x u, lpX6_daysAhead_47 (nI l) q w (nI i) = some (.inl (nI x, u)) ∧ zE zPq w u ∧ zFs (zTn S l) 201 = some x) ∨ (∃ u, lpX6_daysAhead_47 (nI l) q w (nI i) = some (.inr u) ∧ zE zPq w u ∧ zCX u 30 (zS_at S l (zLP S l 200).1 (zLP S l 200).2) ∧ zFs (zTn S l) 200 = none) := by
  have nl := hS.nl
  have dy := hS.dy
  obtain ⟨hk, hp, hg, _, hf⟩ := hS.lt l hl
  intro m
  induction m with
  | zero =>
    intro i w hi hC hW h0 q hq
    obtain ⟨q, rfl⟩ : ∃ z, q = z + 1 := ⟨q - 1, by omega⟩
    have e : i = 200 := by omega
    subst e
    right
    rw [lpX6_daysAhead_47, if_pos (by decide)]
    exact ⟨w, rfl, zE.rfl, hC, h0⟩
  | succ m ih =>
    intro i w hi hC hW h0 q hq
    obtain ⟨q, rfl⟩ : ∃ z, q = z + 1 := ⟨q - 1, by omega⟩
    have ok := zPn_ok hS hk (g := zTo S l) (t := zDy S) (x := (zPl S l, zLf S l)) hp hf i
    have hT := wf_at (l := l) hS ok.1 ok.2
    have th := cx_th hT hC hl
    have te : zTh (zS_at S l (zLP S l i).1 (zLP S l i).2) l = zTn S l i := zTh_at
    rw [te] at th
    have d8 : w.1 30 8 = nI (zDy S) := hC.1.2.2.2.2
    rw [lpX6_daysAhead_47, zL200, if_neg (fun x => by have := (nI_leI (by omega) (by omega)).mp x; omega), th, Option.bind_some]
    cases c : zTn S l i with
    | true =>
      left
      rw [if_neg (by decide)]
      have fy := zFs_keep (zFs_y h0 c) (200 - i)
      rw [show i + 1 + (200 - i) = 201 by omega] at fy
      exact ⟨i, w, rfl, zE.rfl, fy⟩
    | false =>
      obtain ⟨u, u1, u2, u3, u4⟩ := cx_pd_i (Or.inr (Or.inr rfl)) hS hl hC hW (show i ≤ 200 by omega)
      have U : zE zPq w u := u2.mono (fun o h => by omega)
      rw [if_pos (by decide), d8, nI_add, u1, Option.bind_some, nI_1]
      rcases ih (i + 1) u (by omega) u3 u4 (zFs_n h0 c) q (by omega) with ⟨x, v, v1, v2, v3⟩ | ⟨v, v1, v2, v3⟩
      · exact Or.inl ⟨x, v, v1, U.trs v2, v3⟩
      · exact Or.inr ⟨v, v1, U.trs v2, v3⟩
theorem cx_ah {w : zW} {l : Nat} (hS : zWf S) (hC : zCX w 10 S) (hl : l < zNl S) : ∃ u, fX6_daysAhead w (nI l) = some (zAh (zFs (zTn S l) 201), u) ∧ zE zPq w u := by
  have nl := hS.nl
  obtain ⟨hk, hp, hg, _, hf⟩ := hS.lt l hl
  obtain ⟨d, d1, d2, d3⟩ := cx_become (a := 30) hS hC (by omega)
  have c := d2.2.2.2 l hl
  obtain ⟨u, u1, u2, u3⟩ := lo (Or.inr (Or.inr rfl)) hS d2 hk (by omega)
  have hCu : zCX u 30 S := d2.keep (fun j hj => (u2 _ (by omega)).1)
  have U : zE zPq w u := (d3.mono (fun o h => by omega)).trs (zP40 u2)
  have hC0 : zCX u 30 (zS_at S l (zLP S l 0).1 (zLP S l 0).2) := by
    have : zS_at S l (zLP S l 0).1 (zLP S l 0).2 = S := zS_at_self
    rw [this]; exact hCu
  unfold fX6_daysAhead
  rw [d1, Option.bind_some, cx_hl_y hS d2 hl, Option.bind_some, if_neg h10, zrd_nI (by omega) (by omega), Option.bind_some, c.1, u1, Option.bind_some]
  rcases cx_ah_lp hS hl 200 0 u (by omega) hC0 u3 rfl zF (by unfold zF; omega) with ⟨x, v, v1, v2, v3⟩ | ⟨v, v1, v2, v3, v4⟩
  · have v1 : lpX6_daysAhead_47 (nI l) zF u 0 = some (.inl (nI x, v)) := v1
    rw [v1, v3]
    exact ⟨v, rfl, U.trs v2⟩
  · have v1 : lpX6_daysAhead_47 (nI l) zF u 0 = some (.inr v) := v1
    have ok := zPn_ok hS hk (g := zTo S l) (t := zDy S) (x := (zPl S l, zLf S l)) hp hf 200
    have hT := wf_at (l := l) hS ok.1 ok.2
    have th := cx_th hT v3 hl
    have te : zTh (zS_at S l (zLP S l 200).1 (zLP S l 200).2) l = zTn S l 200 := zTh_at
    rw [te] at th
    rw [v1]
    show ∃ u, (Option.bind (fX0_isThere v 30 (nI l)) fun v22 => (if v22 = 0 then (some ((1000000 : Int32), v)) else (some ((200 : Int32), v)))) = some (zAh (zFs (zTn S l) 201), u) ∧ zE zPq w u
    rw [th, Option.bind_some]
    cases c2 : zTn S l 200 with
    | true =>
      rw [zFs_y v4 c2]
      exact ⟨v, rfl, U.trs v2⟩
    | false =>
      rw [zFs_n v4 c2]
      exact ⟨v, rfl, U.trs v2⟩
theorem mx_dt_lp {l : Nat} (hS : zWf S) (hl : l < zNl S) (hd : zDy S + 200 ≤ 9999) : ∀ m i (w : zW), i + m = 200 → zMX w 61 (zAd S i) → zFs (zTn S l) i = none → ∀ q, m < q → ∃ j u, lpX7_daysTill_11 (nI l) q w (nI i) = some (nI j, u) ∧ zE7 w u ∧ zMX u 61 (zAd S j) ∧ j ≤ 200 ∧ zFs (zTn S l) j = none ∧ (j = 200 ∨ zTn S l j = true) := by
  intro m
  induction m with
  | zero =>
    intro i w hi hM h0 q hq
    obtain ⟨q, rfl⟩ : ∃ z, q = z + 1 := ⟨q - 1, by omega⟩
    rw [lpX7_daysTill_11, zL200, if_pos ((nI_leI (by omega) (by omega)).mpr (by omega))]
    exact ⟨i, w, rfl, zE7.rfl, hM, by omega, h0, Or.inl (by omega)⟩
  | succ m ih =>
    intro i w hi hM h0 q hq
    obtain ⟨q, rfl⟩ : ∃ z, q = z + 1 := ⟨q - 1, by omega⟩
    have th := mx_th (wf_ad hS (show zDy S + i ≤ 9999 by omega)) hM hl
    rw [zTh_ad hl] at th
    rw [lpX7_daysTill_11, zL200, if_neg (fun x => by have := (nI_leI (by omega) (by omega)).mp x; omega), th, Option.bind_some]
    cases c : zTn S l i with
    | true =>
      rw [if_neg (by decide)]
      exact ⟨i, w, rfl, zE7.rfl, hM, by omega, h0, Or.inr c⟩
    | false =>
      obtain ⟨u, u1, u2, u3⟩ := mx_aday hS (show zDy S + i ≤ 9999 by omega) hM
      obtain ⟨j, v, v1, v2, v3⟩ := ih (i + 1) u (by omega) u3 (zFs_n h0 c) q (by omega)
      rw [if_pos (by decide), u1, Option.bind_some, nI_1]
      exact ⟨j, v, v1, u2.trs v2, v3⟩
theorem mx_dt {w : zW} {l : Nat} (hS : zWf S) (hM : zMX w 61 S) (hl : l < zNl S) (hd : zDy S + 200 ≤ 9999) : ∃ v, fX7_daysTill w (nI l) = some (zDt (zFs (zTn S l) 201), v) ∧ zMX v 61 S ∧ zE8 w v := by
  obtain ⟨x, x1, x2, x3⟩ := mv_all (p := 1) (o := 64) (by omega) w
  have x2 : zE (fun o => o = 64) w x := x2
  have x3 : ∀ i, i < 151 → x.1 64 i = w.1 61 i := x3
  have hMx : zMX x 61 S := hM.keep (x2 61 (by omega)).1
  obtain ⟨j, y, y1, y2, y3, y4, y5, y6⟩ := mx_dt_lp hS hl hd 200 0 x (by omega) (by rw [zAd_0]; exact hMx) rfl zF (by unfold zF; omega)
  have y1 : lpX7_daysTill_11 (nI l) zF x 0 = some (nI j, y) := y1
  have th := mx_th (wf_ad hS (show zDy S + j ≤ 9999 by omega)) y3 hl
  rw [zTh_ad hl] at th
  obtain ⟨v, v1, v2, v3⟩ := mv_all (p := 0) (o := 64) (by omega) y
  have v2 : zE (fun o => o = 61) y v := v2
  have v3 : ∀ i, i < 151 → v.1 61 i = y.1 64 i := v3
  have hMv : zMX v 61 S := zMX.copy hS hM (fun i hi => by rw [v3 i hi, (y2.1 64 (by omega)).1, x3 i hi])
  refine ⟨v, ?_, hMv, ((x2.mono (fun o h => by omega)).trs (y2.1.mono (fun o h => by omega))).trs (v2.mono (fun o h => by omega)), fun i h3 h4 => by rw [(v2 60 (by omega)).1, y2.2 i h3 h4, (x2 60 (by omega)).1]⟩
  unfold fX7_daysTill
  rw [x1, Option.bind_some, y1, zb2_some, th, Option.bind_some, v1]
  cases c : zTn S l j with
  | true =>
    have fy := zFs_keep (zFs_y y5 c) (200 - j)
    rw [show j + 1 + (200 - j) = 201 by omega] at fy
    rw [fy, if_neg (by decide), Option.bind_some, Option.bind_some]
    rfl
  | false =>
    have e : j = 200 := y6.resolve_right (by rw [c]; decide)
    subst e
    rw [zFs_n y5 c, if_pos (by decide), Option.bind_some, Option.bind_some]
    rfl
end WHEN
theorem zInv.cl6 {w x y : zW} {S : zLd} {k : Nat} (hI : zInv w) (hk : k < 7) (hS : zWf S) (hC : zCX w 10 S) (hM : zMX y 61 S) (E1 : zE zPq w x) (E2 : zE8 (zff x k) y) : zInv (zfg y k) := by
  have h1 := (hI.calm E1).find hk
  have hCy : zCX (zfg y k) 10 S := hC.keep (fun j hj => by
    have e1 : (zfg y k).1 (10 + j) = y.1 (10 + j) := by unfold zfg; rw [zsf_o (by omega)]
    have e2 : (zff x k).1 (10 + j) = x.1 (10 + j) := by unfold zff; rw [zsf_o (by omega)]
    rw [e1, (E2.1 _ (by omega)).1, e2, (E1 _ (by omega)).1])
  have hMy : zMX (zfg y k) 61 S := hM.keep (by unfold zfg; rw [zsf_o (by omega)])
  have f60 : ∀ i, i ≠ 3 → i ≠ 4 → (zfg y k).1 60 i = (zfg (zff x k) k).1 60 i := fun i h3 h4 => by
    unfold zfg
    rw [zsf_o (by omega), zsf_o (by omega), E2.2 i h3 h4]
  refine h1.land6 hS hCy hMy (fun o ho => ?_) (f60 7 (by omega) (by omega)) (f60 20 (by omega) (by omega))
  have e := E2.1 o (by omega)
  by_cases c : o = 62
  · subst c
    refine ⟨?_, ?_⟩
    · funext j
      by_cases d : j = k
      · subst d
        show (zsf y 62 j (y.1 62 j + 1)).1 62 j = (zsf (zff x j) 62 j ((zff x j).1 62 j + 1)).1 62 j
        rw [zsf_same, zsf_same, e.1]
      · show (zsf y 62 k (y.1 62 k + 1)).1 62 j = (zsf (zff x k) 62 k ((zff x k).1 62 k + 1)).1 62 j
        rw [zsf_k d, zsf_k d, e.1]
    · exact e.2
  · refine ⟨?_, e.2⟩
    show (zsf y 62 k (y.1 62 k + 1)).1 o = (zsf (zff x k) 62 k ((zff x k).1 62 k + 1)).1 o
    rw [zsf_o c, zsf_o c, e.1]
theorem zInv.d8 {w u v : zW} {S : zLd} (hI : zInv w) (hS : zWf S) (hC : zCX w 10 S) (U : zE zPq w u) (hM : zMX v 61 S) (V : zE8 u v) : zInv v :=
  hI.land6 hS (hC.keep (fun j hj => by rw [(V.1 _ (by omega)).1, (U _ (by omega)).1])) hM ((U.mono (fun o h => by omega)).trs (V.1.mono (fun o h => by omega))) (by rw [V.2 7 (by omega) (by omega), (U 60 (by omega)).1]) (by rw [V.2 20 (by omega) (by omega), (U 60 (by omega)).1])
theorem zE8.trs {w u v : zW} (h : zE8 w u) (k : zE8 u v) : zE8 w v := ⟨h.1.trs k.1, fun i h1 h2 => (k.2 i h1 h2).trans (h.2 i h1 h2)⟩
theorem op_when (a : Int32) : zOp (fun w => fX6_when w a) (fun w => fX7_when w a) := by
  intro w hI
  show ∃ r u v, fX6_when w a = some (r, u) ∧ fX7_when u a = some (r, v) ∧ zInv v
  obtain ⟨S, hS, hC, hM⟩ := hI.1
  have nl := hS.nl
  have dy := hS.dy
  have hF := zff_mx (k := 0) hM (by omega)
  have hF4 := zff_mx (k := 4) hM (by omega)
  rcases zor (x := a) (n := zNl S) (by omega) with ha | ⟨l, hl, rfl⟩
  · exact ⟨zB0, zff w 0, zfg (zff w 0) 0, by simp only [fX6_when, cx_hl_n hC ha, Option.bind_some, if_true, x6_f0, zb2_some], by simp only [fX7_when, mx_hl_n hS hF ha, Option.bind_some, if_true, x7_f0, zb2_some], hI.find (k := 0) (by omega)⟩
  have p1 : (nI (zDy S) + (200 : Int32) ≤ (9999 : Int32)) = (zDy S + 200 ≤ 9999) := propext (by rw [zL200, nI_add, zL9999]; exact nI_leI (by omega) (by omega))
  have p2 : (nI (zDy S) ≤ (9799 : Int32)) = (zDy S + 200 ≤ 9999) := propext (by rw [zL9799, nI_leI (by omega) (by omega)]; omega)
  by_cases hd : zDy S + 200 ≤ 9999
  · obtain ⟨u, u1, U⟩ := cx_ah hS hC hl
    have hMu := hM.pc U
    cases e : zFs (zTn S l) 201 with
    | some x =>
      have xl := (zFs_lt _ _ e).1
      obtain ⟨v, v1, v2, v3⟩ := mx_dt hS hMu hl hd
      rw [e] at u1 v1
      have u1 : fX6_daysAhead w (nI l) = some (nI x, u) := u1
      have v1 : fX7_daysTill u (nI l) = some (nI x, v) := v1
      have z0 : (0 : Int32) ≤ nI x := nI_pos' (by omega)
      have z6 : nI x < (1000000 : Int32) := by rw [zL1000000]; exact nI_lt (by omega) (by omega)
      exact ⟨nI x, u, v, by simp only [fX6_when, cx_hl_y hS hC hl, Option.bind_some, if_neg h10, hC.1.2.2.2.2, p1, if_pos hd, u1, zb2_some, if_pos z6], by simp only [fX7_when, mx_hl_y hS hMu hl, Option.bind_some, if_neg h10, mx_4 hMu, p2, if_pos hd, v1, zb2_some, if_pos z0], hI.d8 hS hC U v2 v3⟩
    | none =>
      have hMf : zMX (zff u 3) 61 S := zff_mx hMu (by omega)
      obtain ⟨v, v1, v2, v3⟩ := mx_dt hS hMf hl hd
      rw [e] at u1 v1
      have u1 : fX6_daysAhead w (nI l) = some ((1000000 : Int32), u) := u1
      have v1 : fX7_daysTill (zff u 3) (nI l) = some ((-1 : Int32), v) := v1
      have z0 : ¬ (0 : Int32) ≤ -1 := by decide
      have z6 : ¬ (1000000 : Int32) < (1000000 : Int32) := by decide
      exact ⟨zB3, zff u 3, zfg v 3, by simp only [fX6_when, cx_hl_y hS hC hl, Option.bind_some, if_neg h10, hC.1.2.2.2.2, p1, if_pos hd, u1, zb2_some, if_neg z6, x6_f3], by simp only [fX7_when, mx_hl_y hS hMf hl, Option.bind_some, if_neg h10, mx_4 hMf, p2, if_pos hd, v1, zb2_some, if_neg z0, x7_f3], hI.cl6 (by omega) hS hC v2 U v3⟩
  · exact ⟨zB4, zff w 4, zfg (zff w 4) 4, by simp only [fX6_when, cx_hl_y hS hC hl, Option.bind_some, if_neg h10, hC.1.2.2.2.2, p1, if_neg hd, x6_f4, zb2_some], by simp only [fX7_when, mx_hl_y hS hF4 hl, Option.bind_some, if_neg h10, mx_4 hF4, p2, if_neg hd, x7_f4, zb2_some], hI.find (k := 4) (by omega)⟩
theorem op_first (a b : Int32) : zOp (fun w => fX6_first w a b) (fun w => fX7_first w a b) := by
  intro w hI
  show ∃ r u v, fX6_first w a b = some (r, u) ∧ fX7_first u a b = some (r, v) ∧ zInv v
  obtain ⟨S, hS, hC, hM⟩ := hI.1
  have nl := hS.nl
  have dy := hS.dy
  have hF := zff_mx (k := 0) hM (by omega)
  have hF4 := zff_mx (k := 4) hM (by omega)
  rcases zor (x := a) (n := zNl S) (by omega) with ha | ⟨l, hl, rfl⟩
  · exact ⟨zB0, zff w 0, zfg (zff w 0) 0, by simp only [fX6_first, cx_hl_n hC ha, Option.bind_some, if_true, x6_f0, zb2_some], by simp only [fX7_first, mx_hl_n hS hF ha, Option.bind_some, if_true, x7_f0, zb2_some], hI.find (k := 0) (by omega)⟩
  rcases zor (x := b) (n := zNl S) (by omega) with hb | ⟨m, hm, rfl⟩
  · exact ⟨zB0, zff w 0, zfg (zff w 0) 0, by simp only [fX6_first, cx_hl_y hS hC hl, cx_hl_n hC hb, Option.bind_some, if_neg h10, if_true, x6_f0, zb2_some], by simp only [fX7_first, mx_hl_y hS hF hl, mx_hl_n hS hF hb, Option.bind_some, if_neg h10, if_true, x7_f0, zb2_some], hI.find (k := 0) (by omega)⟩
  by_cases elm : l = m
  · subst elm
    exact ⟨zB0, zff w 0, zfg (zff w 0) 0, by simp only [fX6_first, cx_hl_y hS hC hl, Option.bind_some, if_neg h10, if_true, x6_f0, zb2_some], by simp only [fX7_first, mx_hl_y hS hF hl, Option.bind_some, if_neg h10, if_true, x7_f0, zb2_some], hI.find (k := 0) (by omega)⟩
  have plm : ¬ nI l = nI m := fun q => elm ((nI_eq (by omega) (by omega)).mp q)
  have p1 : (nI (zDy S) + (200 : Int32) ≤ (9999 : Int32)) = (zDy S + 200 ≤ 9999) := propext (by rw [zL200, nI_add, zL9999]; exact nI_leI (by omega) (by omega))
  have p2 : (nI (zDy S) ≤ (9799 : Int32)) = (zDy S + 200 ≤ 9999) := propext (by rw [zL9799, nI_leI (by omega) (by omega)]; omega)
  by_cases hd : zDy S + 200 ≤ 9999
  · obtain ⟨u1, a1, U1⟩ := cx_ah hS hC hl
    obtain ⟨u, a2, U2⟩ := cx_ah hS (hC.pc U1) hm
    have U := U1.trs U2
    have hMu := hM.pc U
    have hMf : zMX (zff u 3) 61 S := zff_mx hMu (by omega)
    have n1 : ¬ (1000000 : Int32) < (1000000 : Int32) := by decide
    have n2 : ¬ (0 : Int32) ≤ -1 := by decide
    have n3 : (-1 : Int32) < 0 := by decide
    have lt6' : ∀ x : Nat, x < 201 → nI x < (1000000 : Int32) := fun x hx => by rw [zL1000000]; exact nI_lt (by omega) (by omega)
    have ne6 : ∀ x : Nat, x < 201 → ¬ nI x = (1000000 : Int32) := fun x hx q => by rw [zL1000000] at q; have := (nI_eq (by omega) (by omega)).mp q; omega
    have ne6' : ∀ x : Nat, x < 201 → ¬ (1000000 : Int32) = nI x := fun x hx q => ne6 x hx q.symm
    have le6' : ∀ x : Nat, x < 201 → ¬ (1000000 : Int32) ≤ nI x := fun x hx q => by rw [zL1000000] at q; have := (nI_leI (by omega) (by omega)).mp q; omega
    have le6'' : ∀ x : Nat, x < 201 → nI x ≤ (1000000 : Int32) := fun x hx => by rw [zL1000000]; exact nI_le (by omega) (by omega)
    have z0 : ∀ x : Nat, x < 201 → (0 : Int32) ≤ nI x := fun x hx => nI_pos' (by omega)
    have z1 : ∀ x : Nat, x < 201 → ¬ nI x < (0 : Int32) := fun x hx => nI_pos (by omega)
    have nm : ∀ x : Nat, x < 201 → ¬ nI x = (-1 : Int32) := fun x hx q => z1 x hx (by rw [q]; decide)
    have nm' : ∀ x : Nat, x < 201 → ¬ (-1 : Int32) = nI x := fun x hx q => nm x hx q.symm
    have run : ∀ q : zW, zMX q 61 S → ∃ v1 v, fX7_daysTill q (nI l) = some (zDt (zFs (zTn S l) 201), v1) ∧ fX7_daysTill v1 (nI m) = some (zDt (zFs (zTn S m) 201), v) ∧ zMX v 61 S ∧ zE8 q v := fun q hq => by
      obtain ⟨v1, b1, b2, b3⟩ := mx_dt hS hq hl hd
      obtain ⟨v, c1, c2, c3⟩ := mx_dt hS b2 hm hd
      exact ⟨v1, v, b1, c1, c2, b3.trs c3⟩
    cases e1 : zFs (zTn S l) 201 with
    | some x =>
      have xl := (zFs_lt _ _ e1).1
      obtain ⟨v1, v, b1, b2, b3, b4⟩ := run u hMu
      rw [e1] at a1 b1
      have a1 : fX6_daysAhead w (nI l) = some (nI x, u1) := a1
      have b1 : fX7_daysTill u (nI l) = some (nI x, v1) := b1
      cases e2 : zFs (zTn S m) 201 with
      | some y =>
        have yl := (zFs_lt _ _ e2).1
        rw [e2] at a2 b2
        have a2 : fX6_daysAhead u1 (nI m) = some (nI y, u) := a2
        have b2 : fX7_daysTill v1 (nI m) = some (nI y, v) := b2
        have pe : (nI x = nI y) = (x = y) := propext (nI_eq (by omega) (by omega))
        have pl : (nI y ≤ nI x) = (y ≤ x) := propext (nI_leI (by omega) (by omega))
        refine ⟨if x = y then 0 else if y ≤ x then 2 else 1, u, v, ?_, ?_, hI.d8 hS hC U b3 b4⟩
        · simp only [fX6_first, cx_hl_y hS hC hl, cx_hl_y hS hC hm, Option.bind_some, if_neg h10, if_neg plm, hC.1.2.2.2.2, p1, if_pos hd, a1, a2, zb2_some, pe, pl, if_pos (lt6' x xl)]
          by_cases c1 : x = y
          · rw [if_pos c1, if_pos c1]
          · rw [if_neg c1, if_neg c1]
            by_cases c2 : y ≤ x
            · rw [if_pos c2, if_pos c2]
            · rw [if_neg c2, if_neg c2]
        · simp only [fX7_first, mx_hl_y hS hMu hl, mx_hl_y hS hMu hm, Option.bind_some, if_neg h10, if_neg plm, mx_4 hMu, p2, if_pos hd, b1, b2, zb2_some, if_pos (z0 x xl), if_neg (z1 x xl), if_neg (z1 y yl), pe, pl]
          by_cases c1 : x = y
          · rw [if_pos c1, if_pos c1]
          · rw [if_neg c1, if_neg c1]
            by_cases c2 : y ≤ x
            · rw [if_pos c2, if_pos c2]
            · rw [if_neg c2, if_neg c2]
      | none =>
        rw [e2] at a2 b2
        have a2 : fX6_daysAhead u1 (nI m) = some ((1000000 : Int32), u) := a2
        have b2 : fX7_daysTill v1 (nI m) = some ((-1 : Int32), v) := b2
        exact ⟨1, u, v, by simp only [fX6_first, cx_hl_y hS hC hl, cx_hl_y hS hC hm, Option.bind_some, if_neg h10, if_neg plm, hC.1.2.2.2.2, p1, if_pos hd, a1, a2, zb2_some, if_neg (ne6 x xl), if_neg (le6' x xl)], by simp only [fX7_first, mx_hl_y hS hMu hl, mx_hl_y hS hMu hm, Option.bind_some, if_neg h10, if_neg plm, mx_4 hMu, p2, if_pos hd, b1, b2, zb2_some, if_pos (z0 x xl), if_neg (nm x xl), if_pos n3], hI.d8 hS hC U b3 b4⟩
    | none =>
      cases e2 : zFs (zTn S m) 201 with
      | some y =>
        have yl := (zFs_lt _ _ e2).1
        obtain ⟨v1, v, b1, b2, b3, b4⟩ := run u hMu
        rw [e1] at a1 b1
        rw [e2] at a2 b2
        have a1 : fX6_daysAhead w (nI l) = some ((1000000 : Int32), u1) := a1
        have b1 : fX7_daysTill u (nI l) = some ((-1 : Int32), v1) := b1
        have a2 : fX6_daysAhead u1 (nI m) = some (nI y, u) := a2
        have b2 : fX7_daysTill v1 (nI m) = some (nI y, v) := b2
        exact ⟨2, u, v, by simp only [fX6_first, cx_hl_y hS hC hl, cx_hl_y hS hC hm, Option.bind_some, if_neg h10, if_neg plm, hC.1.2.2.2.2, p1, if_pos hd, a1, a2, zb2_some, if_neg (ne6' y yl), if_pos (le6'' y yl)], by simp only [fX7_first, mx_hl_y hS hMu hl, mx_hl_y hS hMu hm, Option.bind_some, if_neg h10, if_neg plm, mx_4 hMu, p2, if_pos hd, b1, b2, zb2_some, if_neg n2, if_pos (z0 y yl), if_neg (nm' y yl), if_neg (z1 y yl), if_pos n3], hI.d8 hS hC U b3 b4⟩
      | none =>
        obtain ⟨v1, v, b1, b2, b3, b4⟩ := run (zff u 3) hMf
        rw [e1] at a1 b1
        rw [e2] at a2 b2
        have a1 : fX6_daysAhead w (nI l) = some ((1000000 : Int32), u1) := a1
        have b1 : fX7_daysTill (zff u 3) (nI l) = some ((-1 : Int32), v1) := b1
        have a2 : fX6_daysAhead u1 (nI m) = some ((1000000 : Int32), u) := a2
        have b2 : fX7_daysTill v1 (nI m) = some ((-1 : Int32), v) := b2
        exact ⟨zB3, zff u 3, zfg v 3, by simp only [fX6_first, cx_hl_y hS hC hl, cx_hl_y hS hC hm, Option.bind_some, if_neg h10, if_neg plm, hC.1.2.2.2.2, p1, if_pos hd, a1, a2, zb2_some, if_true, if_neg n1, x6_f3], by simp only [fX7_first, mx_hl_y hS hMf hl, mx_hl_y hS hMf hm, Option.bind_some, if_neg h10, if_neg plm, mx_4 hMf, p2, if_pos hd, b1, b2, zb2_some, if_neg n2, x7_f3], hI.cl6 (by omega) hS hC b3 U b4⟩
  · exact ⟨zB4, zff w 4, zfg (zff w 4) 4, by simp only [fX6_first, cx_hl_y hS hC hl, cx_hl_y hS hC hm, Option.bind_some, if_neg h10, if_neg plm, hC.1.2.2.2.2, p1, if_neg hd, x6_f4, zb2_some], by simp only [fX7_first, mx_hl_y hS hF4 hl, mx_hl_y hS hF4 hm, Option.bind_some, if_neg h10, if_neg plm, mx_4 hF4, p2, if_neg hd, x7_f4, zb2_some], hI.find (k := 4) (by omega)⟩
