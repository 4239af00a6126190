/-! table -/
def zNar (b : Nat) (x : Int64) : Int64 := (fX7_narrow zw0 (nI b) x).getD 0
theorem zNar_eq {w : zW} {b : Nat} {x : Int64} : fX7_narrow w (nI b) x = some (zNar b x) := by
  have e : ∃ y, fX7_narrow zw0 (nI b) x = some y := by
    unfold fX7_narrow
    split
    · exact ⟨_, rfl⟩
    · split
      · exact ⟨_, rfl⟩
      · exact ⟨_, rfl⟩
  obtain ⟨y, hy⟩ := e
  have q : zNar b x = y := by unfold zNar; rw [hy]; rfl
  rw [q]
  exact hy
def zTv (S : zLd) (k a i : Nat) : Int64 := if zEa S k a i (zDy S) < zNV then (nI (zEa S k a i (zDy S)) - nI (zDy S)).toInt64 else -1
section TABLE
variable {S : zLd} {k : Nat}
theorem tb6 {s n b a r : Nat} (hS : zWf S) (hk : k < 6) (ha : a < zNv S) (hs : s < 4) (hn : n ≤ 40) (hr : r = min n (zNv S)) (w : zW) (hC : zCX w 10 S) (hW : zWy w S k) (k1 : w.1 (50 + 2 * s) 0 = nI b) (k3 : w.1 (50 + 2 * s) 1 = nI n) : ∀ m v (u : zW), v + m = r → u.1 = w.1 → zE (fun o => o = 50 + 2 * s + 1) w u → (∀ i, i < 40 → u.2 (50 + 2 * s + 1) i = if i < v then zNar b (zTv S k a i) else w.2 (50 + 2 * s + 1) i) → ∀ q, m < q → ∃ x, lpX6_table_92 (nI a) (50 + 2 * s) (nI r) q u (nI v) = some x ∧ x.1 = w.1 ∧ zE (fun o => o = 50 + 2 * s + 1) w x ∧ (∀ i, i < 40 → x.2 (50 + 2 * s + 1) i = if i < r then zNar b (zTv S k a i) else w.2 (50 + 2 * s + 1) i) := by
  have z : zNV = 1000000 := rfl
  have nv := hS.nv
  have dy := hS.dy
  intro m
  induction m with
  | zero =>
    intro v u hv h1 hE hA q hq
    obtain ⟨q, rfl⟩ : ∃ z, q = z + 1 := ⟨q - 1, by omega⟩
    rw [lpX6_table_92, if_pos ((nI_leI (by omega) (by omega)).mpr (by omega))]
    rw [show v = r by omega] at hA
    exact ⟨u, rfl, h1, hE, hA⟩
  | succ m ih =>
    intro v u hv h1 hE hA q hq
    obtain ⟨q, rfl⟩ : ∃ z, q = z + 1 := ⟨q - 1, by omega⟩
    have hvN : v < zNv S := by omega
    have hvn : v < n := by omega
    have hCu : zCX u 10 S := hC.keep (fun j hj => by rw [h1])
    have hWu : zWy u S k := hW.keep (fun i hi => by rw [h1]) (by rw [h1]) (by rw [h1])
    have el := zEa_le (S := S) (k := k) (a := a) (b := v) (t := zDy S) hS hk (by omega)
    have z1 : fX3_has u (50 + 2 * s) (nI v) = some 1 := by
      unfold fX3_has
      rw [if_neg (nI_pos (by omega)), h1, k3, if_neg (fun x => by have := (nI_leI (by omega) (by omega)).mp x; omega)]
    have z3 : fX3_put u (50 + 2 * s) (nI v) (zTv S k a v) = some (zsg u (50 + 2 * s + 1) v (zNar b (zTv S k a v))) := by
      simp only [fX3_put, z1, Option.bind_some, if_neg h10, nar_eq (u := u) (show u.1 (50 + 2 * s) 0 = nI b by rw [h1, k1]), zNar_eq, zwl_nI (show v < 40 by omega) (show 40 < 2 ^ 31 by omega)]
    have x25 : (if nI (zEa S k a v (zDy S)) < (1000000 : Int32) then some ((nI (zEa S k a v (zDy S)) - nI (zDy S)).toInt64) else some (-1 : Int64)) = some (zTv S k a v) := by
      simp only [lt6 (show zEa S k a v (zDy S) < 2 ^ 31 by omega)]
      unfold zTv
      by_cases c : zEa S k a v (zDy S) < zNV
      · rw [if_pos c, if_pos c]
      · rw [if_neg c, if_neg c]
    obtain ⟨x, x1, x2⟩ := ih (v + 1) (zsg u (50 + 2 * s + 1) v (zNar b (zTv S k a v))) (by omega) h1 (hE.trs (zE.sg0 rfl)) (fun i hi => by
      by_cases c : i = v
      · subst c; rw [zsg_same, if_pos (by omega)]
      · rw [zsg_k c, hA i hi]
        by_cases d : i < v
        · rw [if_pos d, if_pos (by omega)]
        · rw [if_neg d, if_neg (by omega)]) q (by omega)
    rw [lpX6_table_92, if_neg (fun x => by have := (nI_leI (by omega) (by omega)).mp x; omega), hCu.1.2.2.2.2, wy_ear hS hk hWu ha hvN (by omega), Option.bind_some, x25, Option.bind_some, z3, Option.bind_some, nI_1]
    exact ⟨x, x1, x2⟩
theorem tb7 {s n b a r : Nat} (hS : zWf S) (hk : k < 6) (ha : a < zNv S) (hs : s < 4) (hn : n ≤ 40) (hr : r = min n (zNv S)) (w : zW) (hM : zMX w 61 S) (k2 : w.1 66 s = nI b) (k4 : w.1 67 s = nI n) (h63 : ∀ v, v < zNv S → w.1 63 v = nI (zMv (zEa S k a v (zDy S)))) : ∀ m v (u : zW), v + m = r → u.1 = w.1 → zE (fun o => o = 68) w u → (∀ t, t < 4 → t ≠ s → ∀ i, i < 40 → u.2 68 (40 * t + i) = w.2 68 (40 * t + i)) → (∀ i, i < 40 → u.2 68 (40 * s + i) = if i < v then zNar b (zTv S k a i) else w.2 68 (40 * s + i)) → ∀ q, m < q → ∃ x, lpX7_table_78 (nI s) q u (nI v) = some (nI r, x) ∧ x.1 = w.1 ∧ zE (fun o => o = 68) w x ∧ (∀ t, t < 4 → t ≠ s → ∀ i, i < 40 → x.2 68 (40 * t + i) = w.2 68 (40 * t + i)) ∧ (∀ i, i < 40 → x.2 68 (40 * s + i) = if i < r then zNar b (zTv S k a i) else w.2 68 (40 * s + i)) := by
  have z : zNV = 1000000 := rfl
  have nv := hS.nv
  have dy := hS.dy
  intro m
  induction m with
  | zero =>
    intro v u hv h1 hE hO hA q hq
    obtain ⟨q, rfl⟩ : ∃ z, q = z + 1 := ⟨q - 1, by omega⟩
    have hMu : zMX u 61 S := hM.keep (by rw [h1])
    have e : v = r := by omega
    subst e
    rw [lpX7_table_78, mx_0 hMu, Option.bind_some]
    by_cases c : zNv S ≤ v
    · rw [if_pos ((nI_leI (by omega) (by omega)).mpr c)]
      exact ⟨u, rfl, h1, hE, hO, hA⟩
    · rw [if_neg (fun x => c ((nI_leI (by omega) (by omega)).mp x)), zrd_nI hs (by omega), Option.bind_some, h1, k4, if_pos ((nI_leI (by omega) (by omega)).mpr (by omega))]
      exact ⟨u, rfl, h1, hE, hO, hA⟩
  | succ m ih =>
    intro v u hv h1 hE hO hA q hq
    obtain ⟨q, rfl⟩ : ∃ z, q = z + 1 := ⟨q - 1, by omega⟩
    have hvN : v < zNv S := by omega
    have hvn : v < n := by omega
    have hMu : zMX u 61 S := hM.keep (by rw [h1])
    have b1 := zMv_le (x := zEa S k a v (zDy S))
    have r63 : zrd u 63 12 (nI v) = some (nI (zMv (zEa S k a v (zDy S)))) := by rw [zrd_nI (by omega) (by omega), h1, h63 v hvN]
    have x44 : (if nI (zMv (zEa S k a v (zDy S))) = (1000000000 : Int32) then some (-1 : Int64) else (Option.bind (some (nI (zMv (zEa S k a v (zDy S))))) fun v47 => Option.bind (zrd u 61 151 (4 : Int32)) fun v49 => some ((v47 - v49).toInt64))) = some (zTv S k a v) := by
      simp only [eq9 b1, mx_4 hMu, Option.bind_some]
      unfold zTv
      by_cases c : zEa S k a v (zDy S) < zNV
      · rw [if_pos c, if_neg (fun q => zMv_eq.mp q c), zMv_fin c]
      · rw [if_neg c, if_pos (zMv_eq.mpr c)]
    obtain ⟨x, x1, x2⟩ := ih (v + 1) (zsg u 68 (40 * s + v) (zNar b (zTv S k a v))) (by omega) h1 (hE.trs (zE.sg0 rfl)) (fun t ht hts i hi => by rw [zsg_k (by omega), hO t ht hts i hi]) (fun i hi => by
      by_cases c : i = v
      · subst c; rw [zsg_same, if_pos (by omega)]
      · rw [zsg_k (by omega), hA i hi]
        by_cases d : i < v
        · rw [if_pos d, if_pos (by omega)]
        · rw [if_neg d, if_neg (by omega)]) q (by omega)
    rw [lpX7_table_78, mx_0 hMu, Option.bind_some, if_neg (fun x => by have := (nI_leI (by omega) (by omega)).mp x; omega), zrd_nI hs (by omega), Option.bind_some, h1, k4, if_neg (fun x => by have := (nI_leI (by omega) (by omega)).mp x; omega), zrd_nI hs (by omega), Option.bind_some, h1, k2, r63, Option.bind_some, x44, Option.bind_some, zNar_eq, Option.bind_some, ix40, zwl_nI (by omega) (by omega), Option.bind_some, nI_1]
    exact ⟨x, x1, x2⟩
end TABLE
theorem op_table (a p c : Int32) : zOp (fun w => fX6_table w a p c) (fun w => fX7_table w a p c) := by
  intro w hI
  show ∃ r u v, fX6_table w a p c = some (r, u) ∧ fX7_table u a p c = some (r, v) ∧ zInv v
  have nb0 : ¬ (-1000000001 : Int32) = 0 := by decide
  have nb5 : ¬ (-1000000006 : Int32) = 0 := by decide
  rcases sh_yn a with h | ⟨s, hs, rfl⟩
  · exact ⟨zB0, zff w 0, zfg (zff w 0) 0, by simp only [fX6_table, (sh_n h).1, zbo_n, x6_f0, zb2_some], by simp only [fX7_table, (sh_n h).2, Option.bind_some, if_true, if_neg nb0, x7_f0, zb2_some], hI.find (k := 0) (by omega)⟩
  have y1 := fun w => (sh_y (w := w) hs).1
  have y2 := fun w => (sh_y (w := w) hs).2
  have hI0 := hI
  obtain ⟨⟨S, hS, hC, hM⟩, d, e, f, g⟩ := hI
  have nv := hS.nv
  have dy := hS.dy
  obtain ⟨b, n, hb, hn, hbn, k1, k2, k3, k4, k5⟩ := f s hs
  have r66 : ∀ u : zW, u.1 66 = w.1 66 → zrd u 66 4 (nI s) = some (nI b) := fun u h => by rw [zrd_nI hs (by omega), h, k2]
  have hF := zff_mx (k := 0) hM (by omega)
  by_cases b0 : nI b = 0
  · exact ⟨zB5, zff w 5, zfg (zff w 5) 5, by simp only [fX6_table, y1, zbo_s, fX3_isMissing, k1, if_pos b0, Option.bind_some, if_neg h10, x6_f5, zb2_some], by simp only [fX7_table, y2, Option.bind_some, if_neg h10, r66 _ (zff_o (show 66 ≠ 46 by omega)), if_pos b0, if_neg nb5, x7_f5, zb2_some], hI0.find (k := 5) (by omega)⟩
  rcases zor (x := p) (n := 6) (by omega) with hp | ⟨k, hk, rfl⟩
  · exact ⟨zB0, zff w 0, zfg (zff w 0) 0, by simp only [fX6_table, y1, zbo_s, fX3_isMissing, k1, if_neg b0, Option.bind_some, if_true, ck_n hp, x6_f0, zb2_some], by simp only [fX7_table, y2, Option.bind_some, if_neg h10, r66 _ (zff_o (show 66 ≠ 46 by omega)), if_neg b0, in_k_n hp, if_true, if_neg nb0, x7_f0, zb2_some], hI0.find (k := 0) (by omega)⟩
  rcases zor (x := c) (n := zNv S) (by omega) with hc | ⟨x, hx, rfl⟩
  · exact ⟨zB0, zff w 0, zfg (zff w 0) 0, by simp only [fX6_table, y1, zbo_s, fX3_isMissing, k1, if_neg b0, Option.bind_some, if_true, ck_y hk, if_neg h10, cx_hv_n hC hc, x6_f0, zb2_some], by simp only [fX7_table, y2, Option.bind_some, if_neg h10, r66 _ (zff_o (show 66 ≠ 46 by omega)), if_neg b0, in_k_y hk, mx_hv_n hS hF hc, if_true, if_neg nb0, x7_f0, zb2_some], hI0.find (k := 0) (by omega)⟩
  obtain ⟨u, u1, u2, u3⟩ := lo (Or.inl rfl) hS hC hk (by omega)
  have U := zP40 u2
  have hCu := hC.pc U
  have l1 : u.1 (50 + 2 * s) 0 = nI b := by rw [(u2 _ (by omega)).1, k1]
  have l3 : u.1 (50 + 2 * s) 1 = nI n := by rw [(u2 _ (by omega)).1, k3]
  have zm : zmin (u.1 (50 + 2 * s) 1) (u.1 10 0) = nI (min n (zNv S)) := by rw [l3, hCu.1.1, zmin_nI (by omega) (by omega)]
  obtain ⟨y, e1, e2, e3, e4⟩ := tb6 (b := b) (r := min n (zNv S)) hS hk hx hs hn rfl u hCu u3 l1 l3 (min n (zNv S)) 0 u (by omega) rfl zE.rfl (fun i hi => by rw [if_neg (by omega)]) zF (by unfold zF; omega)
  have e1 : lpX6_table_92 (nI x) (50 + 2 * s) (nI (min n (zNv S))) zF u 0 = some y := e1
  have Y : ∀ o, ¬ zPq o → y.1 o = w.1 o := fun o ho => by rw [e2, (U o ho).1]
  have hMy : zMX y 61 S := hM.keep (Y _ (by omega))
  obtain ⟨q, q1, q2, q3, _⟩ := mx_find hS hk hx (show zDy S ≤ 500000 by omega) true hMy
  have q1 : fX7_find y (nI k) (nI x) (nI (zDy S)) 1 = some q := q1
  have q3 : ∀ v, v < zNv S → q.1 63 v = nI (zMv (zEa S k x v (zDy S))) := q3
  have hMq := hMy.e63 q2
  obtain ⟨v, v1, v2, v3, v4, v5⟩ := tb7 (b := b) (n := n) (r := min n (zNv S)) hS hk hx hs hn rfl q hMq (by rw [(q2 66 (by omega)).1, Y _ (by omega), k2]) (by rw [(q2 67 (by omega)).1, Y _ (by omega), k4]) q3 (min n (zNv S)) 0 q (by omega) rfl zE.rfl (fun _ _ _ _ _ => rfl) (fun i hi => by rw [if_neg (by omega)]) zF (by unfold zF; omega)
  have v1 : lpX7_table_78 (nI s) zF q 0 = some (nI (min n (zNv S)), v) := v1
  have V : ∀ o, ¬ zPq o → v.1 o = w.1 o := fun o ho => by rw [v2, (q2 o (by omega)).1, Y o ho]
  have V2 : ∀ o, ¬ zPq o → o ≠ 50 + 2 * s + 1 → o ≠ 68 → v.2 o = w.2 o := fun o ho h1 h2 => by rw [(v3 o h2).2, (q2 o (by omega)).2, (e3 o h1).2, (U o ho).2]
  refine ⟨nI (min n (zNv S)), y, v, ?_, ?_, ⟨S, hS, hC.keep (fun j hj => V _ (by omega)), hM.keep (V _ (by omega))⟩, d.keep (V _ (by omega)) (V _ (by omega)), e.keep (V _ (by omega)) (V _ (by omega)) (by rw [V _ (by omega)]) (V _ (by omega)), ?_, g.keep (by rw [V _ (by omega)]) (by rw [V _ (by omega)]) (fun j hj => V _ (by omega)) (V _ (by omega))⟩
  · simp only [fX6_table, y1, zbo_s, fX3_isMissing, k1, if_neg b0, Option.bind_some, if_true, ck_y hk, if_neg h10, cx_hv_y hS hC hx, u1, zm, e1]
  · simp only [fX7_table, y2, Option.bind_some, if_neg h10, r66 y (Y _ (by omega)), if_neg b0, in_k_y hk, mx_hv_y hS hMy hx, if_true, mx_4 hMy, q1, v1, zb2_some]
  · refine f.upd hs (fun t ht hts => ⟨V _ (by omega), V2 _ (by omega) (by omega) (by omega), by rw [V _ (by omega)], by rw [V _ (by omega)], fun j hj => ?_⟩) ⟨b, n, hb, hn, hbn, by rw [V _ (by omega), k1], by rw [V _ (by omega), k2], by rw [V _ (by omega), k3], by rw [V _ (by omega), k4], fun j hj => ?_⟩
    · rw [v4 t ht hts j hj, (q2 68 (by omega)).2, (e3 68 (by omega)).2, (U 68 (by omega)).2]
    · rw [v5 j hj, (v3 _ (by omega)).2, (q2 _ (by omega)).2, e4 j hj]
      by_cases c : j < min n (zNv S)
      · rw [if_pos c, if_pos c]
      · rw [if_neg c, if_neg c, (U _ (by omega)).2, k5 j hj, (q2 68 (by omega)).2, (e3 68 (by omega)).2, (U 68 (by omega)).2]
