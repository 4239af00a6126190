/-! days, on, when, first -/
theorem zInv.land6 {w v : zW} {S : zLd} (hI : zInv w) (hS : zWf S) (hC : zCX v 10 S) (hM : zMX v 61 S) (E : zE (fun o => (10 ≤ o ∧ o < 20) ∨ zPq o ∨ o = 60 ∨ o = 61) w v) (h7 : v.1 60 7 = w.1 60 7) (h20 : v.1 60 20 = w.1 60 20) : zInv v := by
  obtain ⟨_, d, e, f, g⟩ := hI
  exact ⟨⟨S, hS, hC, hM⟩, d.keep (E 46 (by omega)).1 (E 62 (by omega)).1, e.keep (E 43 (by omega)).1 (E 44 (by omega)).1 h7 (E 65 (by omega)).1, f.keep (fun o h1 h2 => E o (by omega)) (E 66 (by omega)).1 (E 67 (by omega)).1 (E 68 (by omega)).2, g.keep (by rw [(E 0 (by omega)).1]) h20 (fun j hj => (E _ (by omega)).1) (E 70 (by omega)).1⟩
theorem zct_diff {P Q : Nat → Bool} : ∀ n, (∀ i, i < n → P i = true → Q i = true) → zct Q n = zct P n + zct (fun i => Q i && !P i) n := by
  intro n
  induction n with
  | zero => intro _; rfl
  | succ n ih =>
    intro h
    have i := ih (fun i hi => h i (by omega))
    have q := h n (by omega)
    show zct Q n + (if Q n = true then 1 else 0) = (zct P n + (if P n = true then 1 else 0)) + (zct (fun i => Q i && !P i) n + (if (Q n && !P n) = true then 1 else 0))
    rw [i]
    cases hp : P n
    · cases hq : Q n <;> simp <;> omega
    · rw [q hp]
      simp
      omega
theorem zst_minus {P Q : Nat → Bool} {n : Nat} : nI (zst Q n) &&& (nI (zst P n) ^^^ (-1 : Int32)) = nI (zst (fun i => Q i && !P i) n) := by
  apply b_ext
  intro i hi
  rw [b_and, b_xor, bt_nI hi, bt_nI hi, bt_nI hi, b_m1 i hi, zst_bit, zst_bit, zst_bit]
  cases decide (i < n) <;> cases P i <;> cases Q i <;> rfl
section DAYS
variable {S : zLd}
theorem cx_days_lp {n : Nat} {v5 : Int32} (hS : zWf S) (hn : n ≤ 200) : ∀ m i (w : zW), i + m = zNl S → zCX w 10 (zLu S (fun l => zLP S l n) i) → ∀ q, m < q → ∃ u, lpX6_days_51 (nI n) v5 q w (nI i) = some u ∧ zE (fun x => (10 ≤ x ∧ x < 20) ∨ zPq x) w u ∧ zCX u 10 (zLu S (fun l => zLP S l n) (zNl S)) := by
  have nl := hS.nl
  have okF : ∀ l, l < zNl S → ((fun l => zLP S l n) l).1 < zNv S ∧ ((fun l => zLP S l n) l).2 ≤ 18 := fun l hl => by
    obtain ⟨hk, hp, hg, _, hf⟩ := hS.lt l hl
    exact zPn_ok hS hk (x := (zPl S l, zLf S l)) hp hf n
  intro m
  induction m with
  | zero =>
    intro i w hi hC q hq
    obtain ⟨q, rfl⟩ : ∃ z, q = z + 1 := ⟨q - 1, by omega⟩
    have c9 : w.1 10 9 = nI (zNl S) := hC.1.2.2.1
    rw [lpX6_days_51, c9, if_pos ((nI_leI (by omega) (by omega)).mpr (by omega))]
    rw [show i = zNl S by omega] at hC
    exact ⟨w, rfl, zE.rfl, hC⟩
  | succ m ih =>
    intro i w hi hC q hq
    obtain ⟨q, rfl⟩ : ∃ z, q = z + 1 := ⟨q - 1, by omega⟩
    have hl : i < zNl S := by omega
    have c9 : w.1 10 9 = nI (zNl S) := hC.1.2.2.1
    have hT : zWf (zLu S (fun l => zLP S l n) i) := wf_lu hS okF
    obtain ⟨u, u1, u2, u3⟩ := cx_carry (Or.inl rfl) hT hC hl hn
    have e := lu_nl (S := S) (F := fun l => zLP S l n) (Nat.lt_irrefl i)
    have ek : zKd (zLu S (fun l => zLP S l n) i) i = zKd S i := congrArg (fun x => x.1) e
    have ep : zPl (zLu S (fun l => zLP S l n) i) i = zPl S i := congrArg (fun x => x.2.1) e
    have et : zTo (zLu S (fun l => zLP S l n) i) i = zTo S i := congrArg (fun x => x.2.2.1) e
    have ef : zLf (zLu S (fun l => zLP S l n) i) i = zLf S i := congrArg (fun x => x.2.2.2.2) e
    have lp : zLP (zLu S (fun l => zLP S l n) i) i n = zLP S i n := by
      unfold zLP
      rw [ek, ep, et, ef]
      exact zPn_s zLu_ge n
    rw [lp] at u3
    have st := zLu_step (S := S) (F := fun l => zLP S l n) (i := i)
    rw [st] at u3
    obtain ⟨v, v1, v2, v3⟩ := ih (i + 1) u (by omega) u3 q (by omega)
    rw [lpX6_days_51, c9, if_neg (fun x => by have := (nI_leI (by omega) (by omega)).mp x; omega), u1, Option.bind_some, nI_1]
    exact ⟨v, v1, (u2.mono (fun o h => by omega)).trs v2, v3⟩
/-- whether a letter is there after i days -/
def zTn (S : zLd) (l i : Nat) : Bool := decide ((zLP S l i).2 = 0) && decide ((zLP S l i).1 = zTo S l)
theorem zTh_ad {l n : Nat} (hl : l < zNl S) : zTh (zAd S n) l = zTn S l n := by
  have a1 := zAd_lt (n := n) hl
  unfold zTh zLi zTn
  show (decide (((zAd S n).2.2.2.2 l).2.2.2.2 = 0) && decide (((zAd S n).2.2.2.2 l).2.1 = ((zAd S n).2.2.2.2 l).2.2.1)) = _
  rw [a1]
theorem zTh_keep {l n : Nat} (h : zTh S l = true) : zTn S l n = true := by
  have h : (decide (zLf S l = 0) && decide (zPl S l = zTo S l)) = true := h
  have h' := h
  rw [Bool.and_eq_true] at h'
  have st : zLP S l n = (zPl S l, zLf S l) := zPn_th (x := (zPl S l, zLf S l)) (of_decide_eq_true h'.2) (of_decide_eq_true h'.1) n
  unfold zTn
  rw [st]
  exact h
end DAYS
theorem op_days (a : Int32) : zOp (fun w => fX6_days w a) (fun w => fX7_days w a) := by
  intro w hI
  show ∃ r u v, fX6_days w a = some (r, u) ∧ fX7_days u a = some (r, v) ∧ zInv v
  obtain ⟨S, hS, hC, hM⟩ := hI.1
  have nl := hS.nl
  have dy := hS.dy
  have hF4 := zff_mx (k := 4) hM (by omega)
  by_cases h1 : a < 1
  · exact ⟨zB0, zff w 0, zfg (zff w 0) 0, by simp only [fX6_days, if_pos h1, x6_f0, zb2_some], by simp only [fX7_days, fX7_in, if_pos h1, Option.bind_some, if_true, x7_f0, zb2_some], hI.find (k := 0) (by omega)⟩
  by_cases h2' : ¬ a ≤ 200
  · have h2 := h2'
    have h3 : (200 : Int32) < a := Int32.not_le.mp h2
    exact ⟨zB0, zff w 0, zfg (zff w 0) 0, by simp only [fX6_days, if_neg h1, if_neg h2, x6_f0, zb2_some], by simp only [fX7_days, fX7_in, if_neg h1, if_pos h3, Option.bind_some, if_true, x7_f0, zb2_some], hI.find (k := 0) (by omega)⟩
  have h2 : a ≤ 200 := Decidable.not_not.mp h2'
  have h3 : ¬ (200 : Int32) < a := Int32.not_lt.mpr h2
  have n1 : ¬ a < 0 := fun q => h1 (Int32.lt_of_lt_of_le q (by decide))
  obtain ⟨n, hn, rfl⟩ := nI_of n1
  have j2 : n ≤ 200 := by rw [zL200, nI_leI hn (by omega)] at h2; exact h2
  have p9 : (nI (zDy S) + nI n ≤ (9999 : Int32)) = (zDy S + n ≤ 9999) := propext (by rw [nI_add, zL9999]; exact nI_leI (by omega) (by omega))
  by_cases h4' : ¬ zDy S + n ≤ 9999
  · have h4 := h4'
    exact ⟨zB4, zff w 4, zfg (zff w 4) 4, by simp only [fX6_days, if_neg h1, if_pos h2, hC.1.2.2.2.2, p9, if_neg h4, x6_f4, zb2_some], by simp only [fX7_days, fX7_in, if_neg h1, if_neg h3, Option.bind_some, if_neg h10, mx_4 hF4, p9, if_neg h4, x7_f4, zb2_some], hI.find (k := 4) (by omega)⟩
  have h4 : zDy S + n ≤ 9999 := Decidable.not_not.mp h4'
  have hT := wf_ad (n := n) hS h4
  have ct := cx_there hS hC
  obtain ⟨u, u1, u2, u3⟩ := cx_days_lp (n := n) (v5 := nI (zct (zTh S) (zNl S))) hS j2 (zNl S) 0 w (by omega) (by rw [zLu_0]; exact hC) zF (by unfold zF; omega)
  have u1 : lpX6_days_51 (nI n) (nI (zct (zTh S) (zNl S))) zF w 0 = some u := u1
  have u8 : u.1 10 8 = nI (zDy S) := u3.1.2.2.2.2
  have hC2 : zCX (zsf u 10 8 (nI (zDy S + n))) 10 (zAd S n) := cx_dy u3 (zDy S + n)
  have ct2 := cx_there hT hC2
  have E2 : zE (fun x => (10 ≤ x ∧ x < 20) ∨ zPq x) w (zsf u 10 8 (nI (zDy S + n))) := u2.trs (zE.sf0 (Or.inl (by omega)))
  have e8 : (zsf u 10 8 (nI (zDy S) + nI n)) = zsf u 10 8 (nI (zDy S + n)) := by rw [nI_add]
  generalize zsf u 10 8 (nI (zDy S + n)) = u2' at hC2 ct2 E2 e8
  have hM2 : zMX u2' 61 S := hM.keep (E2 61 (by omega)).1
  obtain ⟨v, v1, v2, v3⟩ := mx_days_lp (v6 := nI (zst (zTh S) (zNl S))) (n := n) rfl hS h4 n 0 u2' (by omega) (by rw [zAd_0]; exact hM2) zF (by unfold zF; omega)
  have v1 : lpX7_days_46 (nI n) (nI (zst (zTh S) (zNl S))) zF u2' 0 = some v := v1
  have nn : zNl (zAd S n) = zNl S := rfl
  rw [nn] at ct2
  have mt2 := mx_there hT v3
  rw [nn] at mt2
  have c1 : zct (zTh (zAd S n)) (zNl S) = zct (zTn S · n) (zNl S) := zct_cong _ (fun l hl => zTh_ad hl)
  have c2 : zst (zTh (zAd S n)) (zNl S) = zst (zTn S · n) (zNl S) := zst_cong _ (fun l hl => zTh_ad hl)
  rw [c1] at ct2
  rw [c2] at mt2
  have df := zct_diff (P := zTh S) (Q := fun l => zTn S l n) (zNl S) (fun l _ h => zTh_keep h)
  have n12 : zNl S ≤ 12 := by omega
  refine ⟨nI (zct (fun l => zTn S l n && !zTh S l) (zNl S)), u2', v, ?_, ?_, hI.land6 hT (hC2.keep (fun j hj => (v2.1 _ (by omega)).1)) v3 ((E2.mono (fun o h => by omega)).trs (v2.1.mono (fun o h => by omega))) (by rw [v2.2 7 (by omega) (by omega), (E2 60 (by omega)).1]) (by rw [v2.2 20 (by omega) (by omega), (E2 60 (by omega)).1])⟩
  · simp only [fX6_days, if_neg h1, if_pos h2, hC.1.2.2.2.2, p9, if_pos h4, ct, Option.bind_some, u1, u8, e8, ct2]
    rw [pk_sub (by omega)]
    congr 2
    congr 1
    omega
  · simp only [fX7_days, fX7_in, if_neg h1, if_neg h3, Option.bind_some, if_neg h10, mx_4 hM2, p9, if_pos h4, mx_there hS hM2, v1, mt2, zst_minus, mx_ones v (zst_4096 _ n12), zpc_set _ n12]
theorem op_on (a b : Int32) : zOp (fun w => fX6_on w a b) (fun w => fX7_on w a b) := by
  intro w hI
  show ∃ r u v, fX6_on w a b = some (r, u) ∧ fX7_on u a b = some (r, v) ∧ zInv v
  obtain ⟨S, hS, hC, hM⟩ := hI.1
  have nl := hS.nl
  have nv := hS.nv
  have dy := hS.dy
  have hF := zff_mx (k := 0) hM (by omega)
  have hF4 := zff_mx (k := 4) hM (by omega)
  rcases zor (x := a) (n := zNl S) (by omega) with ha | ⟨l, hl, rfl⟩
  · exact ⟨zB0, zff w 0, zfg (zff w 0) 0, by simp only [fX6_on, cx_hl_n hC ha, Option.bind_some, if_true, x6_f0, zb2_some], by simp only [fX7_on, mx_hl_n hS hF ha, Option.bind_some, if_true, x7_f0, zb2_some], hI.find (k := 0) (by omega)⟩
  by_cases h1 : b < 0
  · exact ⟨zB0, zff w 0, zfg (zff w 0) 0, by simp only [fX6_on, cx_hl_y hS hC hl, Option.bind_some, if_neg h10, if_pos h1, x6_f0, zb2_some], by simp only [fX7_on, mx_hl_y hS hF hl, fX7_in, if_pos h1, Option.bind_some, if_neg h10, if_true, x7_f0, zb2_some], hI.find (k := 0) (by omega)⟩
  by_cases h2' : ¬ b ≤ 200
  · have h2 := h2'
    have h3 : (200 : Int32) < b := Int32.not_le.mp h2
    exact ⟨zB0, zff w 0, zfg (zff w 0) 0, by simp only [fX6_on, cx_hl_y hS hC hl, Option.bind_some, if_neg h10, if_neg h1, if_neg h2, x6_f0, zb2_some], by simp only [fX7_on, mx_hl_y hS hF hl, fX7_in, if_neg h1, if_pos h3, Option.bind_some, if_neg h10, if_true, x7_f0, zb2_some], hI.find (k := 0) (by omega)⟩
  have h2 : b ≤ 200 := Decidable.not_not.mp h2'
  have h3 : ¬ (200 : Int32) < b := Int32.not_lt.mpr h2
  obtain ⟨n, hn, rfl⟩ := nI_of h1
  have j2 : n ≤ 200 := by rw [zL200, nI_leI hn (by omega)] at h2; exact h2
  have p9 : (nI (zDy S) + nI n ≤ (9999 : Int32)) = (zDy S + n ≤ 9999) := propext (by rw [nI_add, zL9999]; exact nI_leI (by omega) (by omega))
  by_cases h4' : ¬ zDy S + n ≤ 9999
  · have h4 := h4'
    exact ⟨zB4, zff w 4, zfg (zff w 4) 4, by simp only [fX6_on, cx_hl_y hS hC hl, Option.bind_some, if_neg h10, if_neg h1, if_pos h2, hC.1.2.2.2.2, p9, if_neg h4, x6_f4, zb2_some], by simp only [fX7_on, mx_hl_y hS hF4 hl, fX7_in, if_neg h1, if_neg h3, Option.bind_some, if_neg h10, mx_4 hF4, p9, if_neg h4, x7_f4, zb2_some], hI.find (k := 4) (by omega)⟩
  have h4 : zDy S + n ≤ 9999 := Decidable.not_not.mp h4'
  have hT := wf_ad (n := n) hS h4
  obtain ⟨d, d1, d2, d3⟩ := cx_become (a := 30) hS hC (by omega)
  obtain ⟨u, u1, u2, u3⟩ := cx_carry (n := n) (Or.inr (Or.inr rfl)) hS d2 hl j2
  have U : zE zPq w u := (d3.mono (fun o h => by omega)).trs (u2.mono (fun o h => by omega))
  have c6 : u.1 (30 + 6) l = nI (zLP S l n).1 := by
    have := (u3.2.2.2 l hl).2.1
    rw [at_pl] at this
    exact this
  have r6 : zrd u (30 + 6) 10 (nI l) = some (nI (zLP S l n).1) := by rw [zrd_nI (by omega) (by omega), c6]
  have hMu := hM.pc U
  obtain ⟨x, x1, x2, x3⟩ := mv_all (p := 1) (o := 64) (by omega) u
  have x2 : zE (fun o => o = 64) u x := x2
  have x3 : ∀ i, i < 151 → x.1 64 i = u.1 61 i := x3
  have hMx : zMX x 61 S := hMu.keep (x2 61 (by omega)).1
  obtain ⟨y, y1, y2, y3⟩ := mx_on_lp (a := nI l) (n := n) rfl hS h4 n 0 x (by omega) (by rw [zAd_0]; exact hMx) zF (by unfold zF; omega)
  have y1 : lpX7_on_58 (nI l) (nI n) zF x 0 = some y := y1
  have i1 : fX7_its y (nI l) 1 = some (nI (zLP S l n).1) := by
    have := mx_its1 hT y3 hl
    rw [this]
    have a1 : zPl (zAd S n) l = (zLP S l n).1 := congrArg (fun x => x.2.1) (zAd_lt hl)
    rw [a1]
  obtain ⟨v, v1, v2, v3⟩ := mv_all (p := 0) (o := 64) (by omega) y
  have v2 : zE (fun o => o = 61) y v := v2
  have v3 : ∀ i, i < 151 → v.1 61 i = y.1 64 i := v3
  have hMv : zMX v 61 S := zMX.copy hS hMu (fun i hi => by rw [v3 i hi, (y2.1 64 (by omega)).1, x3 i hi])
  have EV : zE (fun o => (10 ≤ o ∧ o < 20) ∨ zPq o ∨ o = 60 ∨ o = 61) w v := (((U.mono (fun o h => by omega)).trs (x2.mono (fun o h => by omega))).trs (y2.1.mono (fun o h => by omega))).trs (v2.mono (fun o h => by omega))
  have f60 : ∀ i, i ≠ 3 → i ≠ 4 → v.1 60 i = w.1 60 i := fun i h3 h4 => by rw [(v2 60 (by omega)).1, y2.2 i h3 h4, (x2 60 (by omega)).1, (U 60 (by omega)).1]
  have CV : zCX v 10 S := hC.keep (fun j hj => by rw [(v2 _ (by omega)).1, (y2.1 _ (by omega)).1, (x2 _ (by omega)).1, (U _ (by omega)).1])
  refine ⟨nI (zLP S l n).1, u, v, ?_, ?_, hI.land6 hS CV hMv EV (f60 7 (by omega) (by omega)) (f60 20 (by omega) (by omega))⟩
  · simp only [fX6_on, cx_hl_y hS hC hl, Option.bind_some, if_neg h10, if_neg h1, if_pos h2, hC.1.2.2.2.2, p9, if_pos h4, d1, u1, r6]
  · simp only [fX7_on, mx_hl_y hS hMu hl, fX7_in, if_neg h1, if_neg h3, Option.bind_some, if_neg h10, mx_4 hMu, p9, if_pos h4, x1, y1, i1, v1]
