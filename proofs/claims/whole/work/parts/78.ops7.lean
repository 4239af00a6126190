/-! least, reach, below, whence, round, fall -/
abbrev zPq : Nat → Prop := fun o => (30 ≤ o ∧ o < 43) ∨ o = 63 ∨ o = 64 ∨ o = 71
theorem zInv.cf {w x y : zW} {k : Nat} (hI : zInv w) (hk : k < 7) (E1 : zE zPq w x) (E2 : zE zPq (zff x k) y) : zInv (zfg y k) := by
  have h1 := (hI.calm E1).find hk
  refine h1.calm (fun o ho => ?_)
  have e := E2 o ho
  by_cases c : o = 62
  · subst c
    refine ⟨?_, ?_⟩
    · funext j
      by_cases d : j = k
      · subst d
        show (zsf y 62 j (y.1 62 j + 1)).1 62 j = (zsf (zff x j) 62 j ((zff x j).1 62 j + 1)).1 62 j
        rw [zsf_same, zsf_same, e.1]
      · show (zsf y 62 k (y.1 62 k + 1)).1 62 j = (zsf (zff x k) 62 k ((zff x k).1 62 k + 1)).1 62 j
        rw [zsf_k d, zsf_k d, e.1]
    · exact e.2
  · refine ⟨?_, e.2⟩
    show (zsf y 62 k (y.1 62 k + 1)).1 o = (zsf (zff x k) 62 k ((zff x k).1 62 k + 1)).1 o
    rw [zsf_o c, zsf_o c, e.1]
theorem zP40 {w u : zW} (h : zE (fun x => x = 40 ∨ x = 41 ∨ x = 42) w u) : zE zPq w u := h.mono (fun o h => by omega)
theorem zP63 {w u : zW} (h : zE (fun x => x = 63) w u) : zE zPq w u := h.mono (fun o h => by omega)
theorem zMX.pc {w u : zW} {S : zLd} (h : zMX w 61 S) (e : zE zPq w u) : zMX u 61 S := h.keep (e 61 (by omega)).1
theorem zCX.pc {w u : zW} {S : zLd} (h : zCX w 10 S) (e : zE zPq w u) : zCX u 10 S := h.keep (fun j hj => (e _ (by omega)).1)
theorem op_least (a b c : Int32) : zOp (fun w => fX6_least w a b c) (fun w => fX7_least w a b c) := by
  intro w hI
  show ∃ r u v, fX6_least w a b c = some (r, u) ∧ fX7_least u a b c = some (r, v) ∧ zInv v
  obtain ⟨S, hS, hC, hM⟩ := hI.1
  have z : zNV = 1000000 := rfl
  have hn := hS.nv
  have dy := hS.dy
  have hF := zff_mx (k := 0) hM (by omega)
  rcases zor (x := a) (n := 6) (by omega) with ha | ⟨k, hk, rfl⟩
  · exact ⟨zB0, zff w 0, zfg (zff w 0) 0, by simp only [fX6_least, ck_n ha, Option.bind_some, if_true, x6_f0, zb2_some], by simp only [fX7_least, mx_asked_k ha, Option.bind_some, if_true, x7_f0, zb2_some], hI.find (k := 0) (by omega)⟩
  rcases zor2 (x := b) (y := c) (n := zNv S) (by omega) with hb | ⟨x, y, hx, hy, rfl, rfl⟩
  · exact ⟨zB0, zff w 0, zfg (zff w 0) 0, by simp only [fX6_least, ck_y hk, cx_av2_n hS hC hb, Option.bind_some, if_neg h10, if_true, x6_f0, zb2_some], by simp only [fX7_least, mx_asked_n hS hF hk hb, Option.bind_some, if_true, x7_f0, zb2_some], hI.find (k := 0) (by omega)⟩
  obtain ⟨u, u1, u2, u3⟩ := lo (Or.inl rfl) hS hC hk (by omega)
  have U := zP40 u2
  have hCu := hC.pc U
  have hMu := hM.pc U
  have e1 := wy_ear hS hk u3 hx hy (show zDy S ≤ 500000 by omega)
  have bd := zEa_le (a := x) (b := y) hS hk (show zDy S ≤ 500000 by omega)
  by_cases q : zEa S k x y (zDy S) < zNV
  · obtain ⟨v, v1, v2⟩ := mx_ear hS hk hx hy (show zDy S ≤ 500000 by omega) hMu
    have q9 : ¬ zEa S k x y (zDy S) = zN9 := by have z9 : zN9 = 1000000000 := rfl; omega
    refine ⟨nI (zEa S k x y (zDy S)) - nI (zDy S), u, v, ?_, ?_, hI.calm (U.trs (zP63 v2))⟩
    · simp only [fX6_least, ck_y hk, cx_av2 hS hC hx hy, Option.bind_some, if_neg h10, u1, hCu.1.2.2.2.2, e1, fX6_daysUntil, lt6 (show zEa S k x y (zDy S) < 2 ^ 31 by omega), if_pos q, zb2_some]
    · rw [zMv_fin q] at v1
      simp only [fX7_least, mx_asked_y hS hMu hk hx hy, Option.bind_some, if_neg h10, mx_4 hMu, v1, zb2_some, eq9 (show zEa S k x y (zDy S) ≤ zN9 by have z9 : zN9 = 1000000000 := rfl; omega), if_neg q9, mx_4 (hMu.e63 v2)]
  · have hMf : zMX (zff u 3) 61 S := zff_mx hMu (by omega)
    obtain ⟨v, v1, v2⟩ := mx_ear hS hk hx hy (show zDy S ≤ 500000 by omega) hMf
    refine ⟨zB3, zff u 3, zfg v 3, ?_, ?_, hI.cf (by omega) U (zP63 v2)⟩
    · simp only [fX6_least, ck_y hk, cx_av2 hS hC hx hy, Option.bind_some, if_neg h10, u1, hCu.1.2.2.2.2, e1, fX6_daysUntil, lt6 (show zEa S k x y (zDy S) < 2 ^ 31 by omega), if_neg q, zb2_some, x6_f3]
    · rw [zMv_eq.mpr q] at v1
      simp only [fX7_least, mx_asked_y hS hMf hk hx hy, Option.bind_some, if_neg h10, mx_4 hMf, v1, zb2_some, eq9 (Nat.le_refl zN9), if_true, x7_f3]
/-- sets that the class gathers -/
theorem wy_fold {L : Nat → Int32 → Int32 → Option Int32} {N : Nat} {P : Nat → Bool} (hN : N ≤ 12) (hend : ∀ n x, L (n + 1) x (nI N) = some x) (hstep : ∀ n v x, v < N → L (n + 1) x (nI v) = L n (if P v = true then x ||| ((1 : Int32) <<< (nI v &&& 31)) else x) (nI (v + 1))) : ∀ m v, v + m = N → ∀ n, m < n → L n (nI (zst P v)) (nI v) = some (nI (zst P N)) := by
  intro m
  induction m with
  | zero =>
    intro v hv n hn
    obtain ⟨n, rfl⟩ : ∃ z, n = z + 1 := ⟨n - 1, by omega⟩
    rw [show v = N by omega, hend]
  | succ m ih =>
    intro v hv n hn
    obtain ⟨n, rfl⟩ : ∃ z, n = z + 1 := ⟨n - 1, by omega⟩
    rw [hstep n v _ (by omega)]
    by_cases c : P v = true
    · rw [if_pos c, zst_set (by omega) c]
      exact ih (v + 1) (by omega) n (by omega)
    · rw [if_neg c, ← zst_non (n := v) (show P v = false by simpa using c)]
      exact ih (v + 1) (by omega) n (by omega)
section GATHER
variable {w : zW} {S : zLd} {k : Nat}
theorem wy_from (hS : zWf S) (h : zWy w S k) {a : Nat} (ha : a < zNv S) : fX5_allFrom w (nI a) = some (nI (zst (zCm S k a) (zNv S))) := by
  have hn := hS.nv
  have := wy_fold (L := lpX5_allFrom_4 w (nI a)) (N := zNv S) (P := zCm S k a) hn
    (fun n x => by rw [lpX5_allFrom_4, h.1, if_pos ((nI_leI (by omega) (by omega)).mpr (by omega))])
    (fun n v x hv => by
      rw [lpX5_allFrom_4, h.1, if_neg (fun x => by have := (nI_leI (by omega) (by omega)).mp x; omega), wy_cm hS h ha hv, Option.bind_some, nI_1]
      cases zCm S k a v <;> rfl) (zNv S) 0 (by omega) zF (by unfold zF; omega)
  have this : lpX5_allFrom_4 w (nI a) zF 0 0 = some (nI (zst (zCm S k a) (zNv S))) := this
  unfold fX5_allFrom
  rw [this, Option.bind_some]
theorem wy_into (hS : zWf S) (h : zWy w S k) {a : Nat} (ha : a < zNv S) : fX5_allInto w (nI a) = some (nI (zst (fun v => zCm S k v a) (zNv S))) := by
  have hn := hS.nv
  have := wy_fold (L := lpX5_allInto_4 w (nI a)) (N := zNv S) (P := fun v => zCm S k v a) hn
    (fun n x => by rw [lpX5_allInto_4, h.1, if_pos ((nI_leI (by omega) (by omega)).mpr (by omega))])
    (fun n v x hv => by
      rw [lpX5_allInto_4, h.1, if_neg (fun x => by have := (nI_leI (by omega) (by omega)).mp x; omega), wy_cm hS h hv ha, Option.bind_some, nI_1]
      cases zCm S k v a <;> rfl) (zNv S) 0 (by omega) zF (by unfold zF; omega)
  have this : lpX5_allInto_4 w (nI a) zF 0 0 = some (nI (zst (fun v => zCm S k v a) (zNv S))) := this
  unfold fX5_allInto
  rw [this, Option.bind_some]
theorem wy_dn (hS : zWf S) (h : zWy w S k) {a : Nat} (ha : a < zNv S) : fX5_allDownFrom w (nI a) = some (nI (zst (fun v => decide (zDd S k a v < zNV)) (zNv S))) := by
  have hn := hS.nv
  have := wy_fold (L := lpX5_allDownFrom_4 w (nI a)) (N := zNv S) (P := fun v => decide (zDd S k a v < zNV)) hn
    (fun n x => by rw [lpX5_allDownFrom_4, h.1, if_pos ((nI_leI (by omega) (by omega)).mpr (by omega))])
    (fun n v x hv => by
      rw [lpX5_allDownFrom_4, h.1, if_neg (fun x => by have := (nI_leI (by omega) (by omega)).mp x; omega), wy_cd hS h ha hv, Option.bind_some, nI_1]
      cases decide (zDd S k a v < zNV) <;> rfl) (zNv S) 0 (by omega) zF (by unfold zF; omega)
  have this : lpX5_allDownFrom_4 w (nI a) zF 0 0 = some (nI (zst (fun v => decide (zDd S k a v < zNV)) (zNv S))) := this
  unfold fX5_allDownFrom
  rw [this, Option.bind_some]
end GATHER
theorem op_reach (a b : Int32) : zOp (fun w => fX6_reach w a b) (fun w => fX7_reach w a b) := by
  intro w hI
  show ∃ r u v, fX6_reach w a b = some (r, u) ∧ fX7_reach u a b = some (r, v) ∧ zInv v
  obtain ⟨S, hS, hC, hM⟩ := hI.1
  have hn := hS.nv
  have hF := zff_mx (k := 0) hM (by omega)
  rcases zor (x := a) (n := 6) (by omega) with ha | ⟨k, hk, rfl⟩
  · exact ⟨zB0, zff w 0, zfg (zff w 0) 0, by simp only [fX6_reach, ck_n ha, Option.bind_some, if_true, x6_f0, zb2_some], by simp only [fX7_reach, in_k_n ha, Option.bind_some, if_true, x7_f0, zb2_some], hI.find (k := 0) (by omega)⟩
  rcases zor (x := b) (n := zNv S) (by omega) with hb | ⟨x, hx, rfl⟩
  · exact ⟨zB0, zff w 0, zfg (zff w 0) 0, by simp only [fX6_reach, ck_y hk, cx_hv_n hC hb, Option.bind_some, if_neg h10, if_true, x6_f0, zb2_some], by simp only [fX7_reach, in_k_y hk, mx_hv_n hS hF hb, Option.bind_some, if_neg h10, if_true, x7_f0, zb2_some], hI.find (k := 0) (by omega)⟩
  obtain ⟨u, u1, u2, u3⟩ := lo (Or.inl rfl) hS hC hk (by omega)
  have U := zP40 u2
  have hMu := hM.pc U
  obtain ⟨v, v1, v2⟩ := mx_rair hS hk hx hMu
  exact ⟨nI (zst (zCm S k x) (zNv S)), u, v, by simp only [fX6_reach, ck_y hk, cx_hv_y hS hC hx, Option.bind_some, if_neg h10, u1, wy_from hS u3 hx], by simp only [fX7_reach, in_k_y hk, mx_hv_y hS hMu hx, Option.bind_some, if_neg h10, v1, zb2_some], hI.calm (U.trs (zP63 v2))⟩
theorem op_below (a b : Int32) : zOp (fun w => fX6_below w a b) (fun w => fX7_below w a b) := by
  intro w hI
  show ∃ r u v, fX6_below w a b = some (r, u) ∧ fX7_below u a b = some (r, v) ∧ zInv v
  obtain ⟨S, hS, hC, hM⟩ := hI.1
  have hn := hS.nv
  have hF := zff_mx (k := 0) hM (by omega)
  rcases zor (x := a) (n := 6) (by omega) with ha | ⟨k, hk, rfl⟩
  · exact ⟨zB0, zff w 0, zfg (zff w 0) 0, by simp only [fX6_below, ck_n ha, Option.bind_some, if_true, x6_f0, zb2_some], by simp only [fX7_below, in_k_n ha, Option.bind_some, if_true, x7_f0, zb2_some], hI.find (k := 0) (by omega)⟩
  rcases zor (x := b) (n := zNv S) (by omega) with hb | ⟨x, hx, rfl⟩
  · exact ⟨zB0, zff w 0, zfg (zff w 0) 0, by simp only [fX6_below, ck_y hk, cx_hv_n hC hb, Option.bind_some, if_neg h10, if_true, x6_f0, zb2_some], by simp only [fX7_below, in_k_y hk, mx_hv_n hS hF hb, Option.bind_some, if_neg h10, if_true, x7_f0, zb2_some], hI.find (k := 0) (by omega)⟩
  obtain ⟨u, u1, u2, u3⟩ := lo (Or.inl rfl) hS hC hk (by omega)
  have U := zP40 u2
  have hMu := hM.pc U
  obtain ⟨v, v1, v2⟩ := mx_rdn hS hk hx hMu
  exact ⟨nI (zst (fun v => decide (zDd S k x v < zNV)) (zNv S)), u, v, by simp only [fX6_below, ck_y hk, cx_hv_y hS hC hx, Option.bind_some, if_neg h10, u1, wy_dn hS u3 hx], by simp only [fX7_below, in_k_y hk, mx_hv_y hS hMu hx, Option.bind_some, if_neg h10, v1, zb2_some], hI.calm (U.trs (zP63 v2))⟩
theorem mx_whl {S : zLd} (hS : zWf S) {k b : Nat} (hk : k < 6) (hb : b < zNv S) : ∀ m v (w : zW), v + m = zNv S → zMX w 61 S → ∀ n, m < n → ∃ u, lpX7_whence_27 (nI k) (nI b) n w (nI (zst (fun v => zCm S k v b) v)) (nI v) = some (nI (zst (fun v => zCm S k v b) (zNv S)), u) ∧ zE (fun o => o = 63) w u := by
  have hn := hS.nv
  intro m
  induction m with
  | zero =>
    intro v w hv hM n hn
    obtain ⟨n, rfl⟩ : ∃ z, n = z + 1 := ⟨n - 1, by omega⟩
    rw [lpX7_whence_27, mx_0 hM, Option.bind_some, if_pos ((nI_leI (by omega) (by omega)).mpr (by omega)), show v = zNv S by omega]
    exact ⟨w, rfl, zE.rfl⟩
  | succ m ih =>
    intro v w hv hM n hn
    obtain ⟨n, rfl⟩ : ∃ z, n = z + 1 := ⟨n - 1, by omega⟩
    obtain ⟨u, u1, u2⟩ := mx_rair hS hk (show v < zNv S by omega) hM
    have hMu := hM.e63 u2
    obtain ⟨x, x1, x2⟩ := ih (v + 1) u (by omega) hMu n (by omega)
    refine ⟨x, ?_, u2.trs x2⟩
    rw [lpX7_whence_27, mx_0 hM, Option.bind_some, if_neg (fun x => by have := (nI_leI (by omega) (by omega)).mp x; omega), u1, zb2_some, mx_has (by omega), Option.bind_some, zst_bit, show decide (b < zNv S) = true by simpa using hb, Bool.true_and]
    simp only [ifb0, nI_1]
    by_cases c : zCm S k v b = true
    · rw [if_neg (by rw [c]; decide), Option.bind_some, Option.bind_some, zst_set (P := fun v => zCm S k v b) (by omega) c]
      exact x1
    · have c' : zCm S k v b = false := by simpa using c
      rw [if_pos c', Option.bind_some, Option.bind_some]
      have e : nI (zst (fun v => zCm S k v b) v) ||| (0 : Int32) = nI (zst (fun v => zCm S k v b) (v + 1)) := by
        rw [zst_non (P := fun v => zCm S k v b) c', zL0, nx_or, Nat.or_zero]
      rw [e]
      exact x1
theorem op_whence (a b : Int32) : zOp (fun w => fX6_whence w a b) (fun w => fX7_whence w a b) := by
  intro w hI
  show ∃ r u v, fX6_whence w a b = some (r, u) ∧ fX7_whence u a b = some (r, v) ∧ zInv v
  obtain ⟨S, hS, hC, hM⟩ := hI.1
  have hn := hS.nv
  have hF := zff_mx (k := 0) hM (by omega)
  rcases zor (x := a) (n := 6) (by omega) with ha | ⟨k, hk, rfl⟩
  · exact ⟨zB0, zff w 0, zfg (zff w 0) 0, by simp only [fX6_whence, ck_n ha, Option.bind_some, if_true, x6_f0, zb2_some], by simp only [fX7_whence, in_k_n ha, Option.bind_some, if_true, x7_f0, zb2_some], hI.find (k := 0) (by omega)⟩
  rcases zor (x := b) (n := zNv S) (by omega) with hb | ⟨x, hx, rfl⟩
  · exact ⟨zB0, zff w 0, zfg (zff w 0) 0, by simp only [fX6_whence, ck_y hk, cx_hv_n hC hb, Option.bind_some, if_neg h10, if_true, x6_f0, zb2_some], by simp only [fX7_whence, in_k_y hk, mx_hv_n hS hF hb, Option.bind_some, if_neg h10, if_true, x7_f0, zb2_some], hI.find (k := 0) (by omega)⟩
  obtain ⟨u, u1, u2, u3⟩ := lo (Or.inl rfl) hS hC hk (by omega)
  have U := zP40 u2
  have hMu := hM.pc U
  obtain ⟨v, v1, v2⟩ := mx_whl hS hk hx (zNv S) 0 u (by omega) hMu zF (by unfold zF; omega)
  have v1 : lpX7_whence_27 (nI k) (nI x) zF u 0 0 = some (nI (zst (fun v => zCm S k v x) (zNv S)), v) := v1
  exact ⟨nI (zst (fun v => zCm S k v x) (zNv S)), u, v, by simp only [fX6_whence, ck_y hk, cx_hv_y hS hC hx, Option.bind_some, if_neg h10, u1, wy_into hS u3 hx], by simp only [fX7_whence, in_k_y hk, mx_hv_y hS hMu hx, Option.bind_some, if_neg h10, v1, zb2_some], hI.calm (U.trs (zP63 v2))⟩
/-- the day of the answer -/
def zRo (S : zLd) (k a b t : Nat) : Nat := if zEa S k a b t < zNV then zEa S k b a (zEa S k a b t) else zNV
theorem zRo_le {S : zLd} (hS : zWf S) {k : Nat} (hk : k < 6) {a b t : Nat} (ht : t ≤ 300000) : zRo S k a b t ≤ zNV := by
  unfold zRo
  by_cases c : zEa S k a b t < zNV
  · have := zEa_bd hS hk (show t ≤ 500000 by omega) c
    rw [if_pos c]
    exact zEa_le hS hk (by omega)
  · rw [if_neg c]; exact Nat.le_refl _
theorem wy_ans {w : zW} {S : zLd} {k : Nat} (hS : zWf S) (hk : k < 6) (h : zWy w S k) {a b t : Nat} (ha : a < zNv S) (hb : b < zNv S) (ht : t ≤ 300000) : fX5_answered w (nI a) (nI b) (nI t) = some (nI (zRo S k a b t)) := by
  have z : zNV = 1000000 := rfl
  have l := zEa_le (a := a) (b := b) hS hk (show t ≤ 500000 by omega)
  unfold fX5_answered zRo
  rw [wy_ear hS hk h ha hb (by omega), Option.bind_some]
  simp only [lt6 (show zEa S k a b t < 2 ^ 31 by omega)]
  by_cases c : zEa S k a b t < zNV
  · have := zEa_bd hS hk (show t ≤ 500000 by omega) c
    rw [if_pos c, if_pos c, wy_ear hS hk h hb ha (by omega), Option.bind_some]
  · rw [if_neg c, if_neg c]; rfl
theorem mx_back {w : zW} {S : zLd} {k : Nat} (hS : zWf S) (hk : k < 6) {a b : Nat} (ha : a < zNv S) (hb : b < zNv S) (hM : zMX w 61 S) : ∃ u, fX7_back w (nI k) (nI a) (nI b) = some (nI (zMv (zRo S k a b (zDy S))), u) ∧ zE (fun o => o = 63) w u := by
  have z : zNV = 1000000 := rfl
  have z9 : zN9 = 1000000000 := rfl
  have dy := hS.dy
  obtain ⟨u, u1, u2⟩ := mx_ear hS hk ha hb (show zDy S ≤ 500000 by omega) hM
  have hMu := hM.e63 u2
  by_cases c : zEa S k a b (zDy S) < zNV
  · have bd := zEa_bd hS hk (show zDy S ≤ 500000 by omega) c
    obtain ⟨v, v1, v2⟩ := mx_ear hS hk hb ha (show zEa S k a b (zDy S) ≤ 500000 by omega) hMu
    refine ⟨v, ?_, u2.trs v2⟩
    rw [zMv_fin c] at u1
    have q9 : ¬ zEa S k a b (zDy S) = zN9 := by omega
    simp only [fX7_back, mx_4 hM, Option.bind_some, u1, zb2_some, eq9 (show zEa S k a b (zDy S) ≤ zN9 by omega), if_neg q9, v1, zRo, if_pos c]
  · refine ⟨u, ?_, u2⟩
    rw [zMv_eq.mpr c] at u1
    simp only [fX7_back, mx_4 hM, Option.bind_some, u1, zb2_some, eq9 (Nat.le_refl zN9), if_true, zRo, if_neg c, zMv_eq.mpr (Nat.lt_irrefl zNV)]
    rfl
theorem op_round (a b c : Int32) : zOp (fun w => fX6_round w a b c) (fun w => fX7_round w a b c) := by
  intro w hI
  show ∃ r u v, fX6_round w a b c = some (r, u) ∧ fX7_round u a b c = some (r, v) ∧ zInv v
  obtain ⟨S, hS, hC, hM⟩ := hI.1
  have z : zNV = 1000000 := rfl
  have z9 : zN9 = 1000000000 := rfl
  have hn := hS.nv
  have dy := hS.dy
  have hF := zff_mx (k := 0) hM (by omega)
  rcases zor (x := a) (n := 6) (by omega) with ha | ⟨k, hk, rfl⟩
  · exact ⟨zB0, zff w 0, zfg (zff w 0) 0, by simp only [fX6_round, ck_n ha, Option.bind_some, if_true, x6_f0, zb2_some], by simp only [fX7_round, mx_asked_k ha, Option.bind_some, if_true, x7_f0, zb2_some], hI.find (k := 0) (by omega)⟩
  rcases zor2 (x := b) (y := c) (n := zNv S) (by omega) with hb | ⟨x, y, hx, hy, rfl, rfl⟩
  · exact ⟨zB0, zff w 0, zfg (zff w 0) 0, by simp only [fX6_round, ck_y hk, cx_av2_n hS hC hb, Option.bind_some, if_neg h10, if_true, x6_f0, zb2_some], by simp only [fX7_round, mx_asked_n hS hF hk hb, Option.bind_some, if_true, x7_f0, zb2_some], hI.find (k := 0) (by omega)⟩
  obtain ⟨u, u1, u2, u3⟩ := lo (Or.inl rfl) hS hC hk (by omega)
  have U := zP40 u2
  have hCu := hC.pc U
  have hMu := hM.pc U
  have e1 := wy_ans hS hk u3 hx hy (show zDy S ≤ 300000 by omega)
  have bd := zRo_le hS hk (a := x) (b := y) (show zDy S ≤ 300000 by omega)
  by_cases q : zRo S k x y (zDy S) < zNV
  · obtain ⟨v, v1, v2⟩ := mx_back hS hk hx hy hMu
    have q9 : ¬ zRo S k x y (zDy S) = zN9 := by omega
    refine ⟨nI (zRo S k x y (zDy S)) - nI (zDy S), u, v, ?_, ?_, hI.calm (U.trs (zP63 v2))⟩
    · simp only [fX6_round, ck_y hk, cx_av2 hS hC hx hy, Option.bind_some, if_neg h10, u1, hCu.1.2.2.2.2, e1, fX6_daysUntil, lt6 (show zRo S k x y (zDy S) < 2 ^ 31 by omega), if_pos q, zb2_some]
    · rw [zMv_fin q] at v1
      simp only [fX7_round, mx_asked_y hS hMu hk hx hy, Option.bind_some, if_neg h10, v1, zb2_some, eq9 (show zRo S k x y (zDy S) ≤ zN9 by omega), if_neg q9, mx_4 (hMu.e63 v2)]
  · have hMf : zMX (zff u 3) 61 S := zff_mx hMu (by omega)
    obtain ⟨v, v1, v2⟩ := mx_back hS hk hx hy hMf
    refine ⟨zB3, zff u 3, zfg v 3, ?_, ?_, hI.cf (by omega) U (zP63 v2)⟩
    · simp only [fX6_round, ck_y hk, cx_av2 hS hC hx hy, Option.bind_some, if_neg h10, u1, hCu.1.2.2.2.2, e1, fX6_daysUntil, lt6 (show zRo S k x y (zDy S) < 2 ^ 31 by omega), if_neg q, zb2_some, x6_f3]
    · rw [zMv_eq.mpr q] at v1
      simp only [fX7_round, mx_asked_y hS hMf hk hx hy, Option.bind_some, if_neg h10, v1, zb2_some, eq9 (Nat.le_refl zN9), if_true, x7_f3]
theorem op_fall (a b c : Int32) : zOp (fun w => fX6_fall w a b c) (fun w => fX7_fall w a b c) := by
  intro w hI
  show ∃ r u v, fX6_fall w a b c = some (r, u) ∧ fX7_fall u a b c = some (r, v) ∧ zInv v
  obtain ⟨S, hS, hC, hM⟩ := hI.1
  have hn := hS.nv
  have hF := zff_mx (k := 0) hM (by omega)
  rcases zor (x := a) (n := 6) (by omega) with ha | ⟨k, hk, rfl⟩
  · exact ⟨zB0, zff w 0, zfg (zff w 0) 0, by simp only [fX6_fall, ck_n ha, Option.bind_some, if_true, x6_f0, zb2_some], by simp only [fX7_fall, mx_asked_k ha, Option.bind_some, if_true, x7_f0, zb2_some], hI.find (k := 0) (by omega)⟩
  rcases zor2 (x := b) (y := c) (n := zNv S) (by omega) with hb | ⟨x, y, hx, hy, rfl, rfl⟩
  · exact ⟨zB0, zff w 0, zfg (zff w 0) 0, by simp only [fX6_fall, ck_y hk, cx_av2_n hS hC hb, Option.bind_some, if_neg h10, if_true, x6_f0, zb2_some], by simp only [fX7_fall, mx_asked_n hS hF hk hb, Option.bind_some, if_true, x7_f0, zb2_some], hI.find (k := 0) (by omega)⟩
  obtain ⟨u, u1, u2, u3⟩ := lo (Or.inl rfl) hS hC hk (by omega)
  have U := zP40 u2
  have hCu := hC.pc U
  have hMu := hM.pc U
  have bit : (zst (fun v => decide (zDd S k x v < zNV)) (zNv S)).testBit y = decide (zDd S k x y < zNV) := by rw [zst_bit, show decide (y < zNv S) = true by simpa using hy, Bool.true_and]
  by_cases q : zDd S k x y < zNV
  · have q' : decide (zDd S k x y < zNV) = true := by simpa using q
    obtain ⟨v, v1, v2⟩ := mx_rdn hS hk hx hMu
    have hMv := hMu.e63 v2
    refine ⟨nI (zHt S x) - nI (zHt S y), u, v, ?_, ?_, hI.calm (U.trs (zP63 v2))⟩
    · simp only [fX6_fall, ck_y hk, cx_av2 hS hC hx hy, Option.bind_some, if_neg h10, u1, wy_cd hS u3 hx hy, q', if_true, cx_ht hS hCu hx, cx_ht hS hCu hy]
    · simp only [fX7_fall, mx_asked_y hS hMu hk hx hy, Option.bind_some, if_neg h10, v1, zb2_some, mx_has (show y < 32 by omega), bit, q', if_true, mx_ht hS hMv hx, mx_ht hS hMv hy]
  · have q' : decide (zDd S k x y < zNV) = false := by simpa using q
    have hMf : zMX (zff u 3) 61 S := zff_mx hMu (by omega)
    obtain ⟨v, v1, v2⟩ := mx_rdn hS hk hx hMf
    refine ⟨zB3, zff u 3, zfg v 3, ?_, ?_, hI.cf (by omega) U (zP63 v2)⟩
    · simp only [fX6_fall, ck_y hk, cx_av2 hS hC hx hy, Option.bind_some, if_neg h10, u1, wy_cd hS u3 hx hy, q', Bool.false_eq_true, if_false, if_true, x6_f3, zb2_some]
    · simp only [fX7_fall, mx_asked_y hS hMf hk hx hy, Option.bind_some, if_neg h10, v1, zb2_some, mx_has (show y < 32 by omega), bit, q', Bool.false_eq_true, if_false, if_true, x7_f3]
