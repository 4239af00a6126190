def zpt (n : Nat) (x y : Int32) : Int32 := if x < 0 then 0 else if y < 0 then 0 else if nI n < y then 0 else if nI n - y < x then 0 else 1
theorem hr_pt {w : zW} {o n : Nat} {x y : Int32} (h : w.1 o 1 = nI n) : fX3_hasRun w o x y = some (zpt n x y) := by
  unfold fX3_hasRun zpt
  rw [h]
  split
  · rfl
  split
  · rfl
  split
  · rfl
  split <;> rfl
theorem ip_pt {w : zW} {s n : Nat} {x y : Int32} (hs : s < 4) (h : w.1 67 s = nI n) : fX7_isPart w (nI s) x y = some (zpt n x y) := by
  unfold fX7_isPart zpt
  simp only [zrd_nI hs (show 4 < 2 ^ 31 by omega), h, Option.bind_some]
  split
  · rfl
  split
  · rfl
  split
  · rfl
  split <;> rfl
theorem zpt_1 {n : Nat} {x y : Int32} (hn : n ≤ 40) (h : ¬ zpt n x y = 0) : ∃ i k, x = nI i ∧ y = nI k ∧ i + k ≤ n := by
  unfold zpt at h
  by_cases c1 : x < 0
  · rw [if_pos c1] at h; exact absurd rfl h
  rw [if_neg c1] at h
  by_cases c2 : y < 0
  · rw [if_pos c2] at h; exact absurd rfl h
  rw [if_neg c2] at h
  by_cases c3 : nI n < y
  · rw [if_pos c3] at h; exact absurd rfl h
  rw [if_neg c3] at h
  by_cases c4 : nI n - y < x
  · rw [if_pos c4] at h; exact absurd rfl h
  obtain ⟨i, hi, rfl⟩ := nI_of c1
  obtain ⟨k, hk, rfl⟩ := nI_of c2
  rw [nI_ltI (by omega) hk] at c3
  rw [pk_sub (by omega), nI_ltI (by omega) hi] at c4
  exact ⟨i, k, rfl, rfl, by omega⟩
theorem zcg_same {w : zW} {o : Nat} {f : Nat → Int64} : (zcg w o f).2 o = f := by funext b; simp [zcg]
theorem zcg_o {w : zW} {o a : Nat} {f : Nat → Int64} (h : a ≠ o) : (zcg w o f).2 a = w.2 a := by funext b; simp [zcg, h]
theorem zcp_step {w : zW} {src dst sb db j : Nat} : zsg (zcg w dst (va_cpy (w.2 src) (w.2 dst) sb db j)) dst (db + j) (w.2 src (sb + j)) = zcg w dst (va_cpy (w.2 src) (w.2 dst) sb db (j + 1)) := by
  apply Prod.ext
  · rfl
  · funext a b
    show (if a = dst ∧ b = db + j then _ else _) = _
    by_cases h : a = dst
    · subst h
      rw [zcg_same, zcg_same]
      by_cases q : b = db + j
      · subst q
        rw [if_pos ⟨rfl, rfl⟩, pk_cpy_in (by omega) (by omega), Nat.add_sub_cancel_left]
      · rw [if_neg (fun z => q z.2)]
        by_cases r : db ≤ b ∧ b < db + j
        · rw [pk_cpy_in r.1 r.2, pk_cpy_in r.1 (by omega)]
        · rw [pk_cpy_out (by omega), pk_cpy_out (by omega)]
    · rw [if_neg (fun z => h z.1), zcg_o h, zcg_o h]
theorem zcp_0 {w : zW} {src dst sb db : Nat} : zcg w dst (va_cpy (w.2 src) (w.2 dst) sb db 0) = w := by
  apply Prod.ext
  · rfl
  · funext a b
    by_cases h : a = dst
    · subst h
      rw [zcg_same, pk_cpy_out (by omega)]
    · rw [zcg_o h]
theorem cp_l1 {s a k : Nat} {p3 p4 : Int32} (hs : s < 4) (hk : a + k ≤ 40) (w : zW) : ∀ n j, j ≤ k → k - j < n → lpX7_copy_102 (nI s) (nI a) p3 p4 (nI k) n (zcg w 69 (va_cpy (w.2 68) (w.2 69) (40 * s + a) 0 j)) (nI j) = some (zcg w 69 (va_cpy (w.2 68) (w.2 69) (40 * s + a) 0 k)) := by
  intro n
  induction n with
  | zero => intro j _ h; omega
  | succ n ih =>
    intro j hj hn
    rw [lpX7_copy_102]
    by_cases c : k ≤ j
    · have : j = k := by omega
      subst this
      rw [if_pos ((nI_leI (by omega) (by omega)).mpr c)]
    · rw [if_neg (fun q => c ((nI_leI (by omega) (by omega)).mp q)), ix40, nI_add, zrl_nI (by omega) (by omega), zcg_o (by omega), Option.bind_some, zwl_nI (by omega) (by omega), Option.bind_some, nI_1]
      have := zcp_step (w := w) (src := 68) (dst := 69) (sb := 40 * s + a) (db := 0) (j := j)
      rw [Nat.zero_add] at this
      rw [this]
      exact ih (j + 1) (by omega) (by omega)
theorem cp_l2 {t c k : Nat} (ht : t < 4) (hk : c + k ≤ 40) (w : zW) : ∀ n j, j ≤ k → k - j < n → lpX7_copy_139 (nI t) (nI c) (nI k) n (zcg w 68 (va_cpy (w.2 69) (w.2 68) 0 (40 * t + c) j)) (nI j) = some (zcg w 68 (va_cpy (w.2 69) (w.2 68) 0 (40 * t + c) k)) := by
  intro n
  induction n with
  | zero => intro j _ h; omega
  | succ n ih =>
    intro j hj hn
    rw [lpX7_copy_139]
    by_cases cc : k ≤ j
    · have : j = k := by omega
      subst this
      rw [if_pos ((nI_leI (by omega) (by omega)).mpr cc)]
    · rw [if_neg (fun q => cc ((nI_leI (by omega) (by omega)).mp q)), ix40, nI_add, zrl_nI (by omega) (by omega), zcg_o (by omega), Option.bind_some, zwl_nI (by omega) (by omega), Option.bind_some, nI_1]
      have := zcp_step (w := w) (src := 69) (dst := 68) (sb := 0) (db := 40 * t + c) (j := j)
      rw [Nat.zero_add] at this
      rw [this]
      exact ih (j + 1) (by omega) (by omega)
theorem zcpl_ok {w : zW} {o1 o2 a c k : Nat} (h1 : a + k ≤ 40) (h2 : c + k ≤ 40) : zcpl w o1 40 (nI a) o2 40 (nI c) (nI k) = some (zcg w o2 (va_cpy (w.2 o1) (w.2 o2) a c k)) := by
  unfold zcpl
  rw [nI_clamp (by omega), nI_clamp (by omega), nI_clamp (by omega), if_neg]
  rintro (q | q | q | q | q)
  · exact absurd q (nI_pos (by omega))
  · exact absurd q (nI_pos (by omega))
  · exact absurd q (nI_pos (by omega))
  · omega
  · omega
theorem op_copy (a p c q k : Int32) : zOp (fun w => fX6_copy w a p c q k) (fun w => fX7_copy w a p c q k) := by
  intro w hI
  show ∃ r u v, fX6_copy w a p c q k = some (r, u) ∧ fX7_copy u a p c q k = some (r, v) ∧ zInv v
  rcases sh_yn a with h | ⟨s, hs, rfl⟩
  · refine ⟨zB0, zff w 0, zfg (zff w 0) 0, ?_, by simp only [fX7_copy, (sh_n h).2, Option.bind_some, if_true, x7_f0, zb2_some], hI.find (k := 0) (by omega)⟩
    rcases sh_yn c with h' | ⟨t, ht, rfl⟩
    · simp only [fX6_copy, (sh_n h).1, (sh_n h').1, zbo_n, x6_f0, zb2_some]
    · simp only [fX6_copy, (sh_n h).1, (sh_y ht).1, zbo_n, zbo_s, x6_f0, zb2_some]
  have y1 := fun w => (sh_y (w := w) hs).1
  have y2 := fun w => (sh_y (w := w) hs).2
  rcases sh_yn c with h | ⟨t, ht, rfl⟩
  · exact ⟨zB0, zff w 0, zfg (zff w 0) 0, by simp only [fX6_copy, y1, (sh_n h).1, zbo_s, zbo_n, x6_f0, zb2_some], by simp only [fX7_copy, y2, (sh_n h).2, Option.bind_some, if_neg h10, if_true, x7_f0, zb2_some], hI.find (k := 0) (by omega)⟩
  have y3 := fun w => (sh_y (w := w) ht).1
  have y4 := fun w => (sh_y (w := w) ht).2
  have hI0 := hI
  obtain ⟨⟨S, hS, hC, hM⟩, d, e, f, g⟩ := hI
  obtain ⟨b, n, hb, hn, hbn, k1, k2, k3, k4, k5⟩ := f s hs
  obtain ⟨b', n', hb', hn', hbn', l1, l2, l3, l4, l5⟩ := f t ht
  have r66 : ∀ i, zrd (zff w i) 66 4 (nI s) = some (nI b) := fun i => by rw [zrd_nI hs (by omega), zff_o (by omega), k2]
  have t66 : ∀ i, zrd (zff w i) 66 4 (nI t) = some (nI b') := fun i => by rw [zrd_nI ht (by omega), zff_o (by omega), l2]
  have r67 : ∀ i, (zff w i).1 67 s = nI n := fun i => by rw [zff_o (by omega), k4]
  have t67 : ∀ i, (zff w i).1 67 t = nI n' := fun i => by rw [zff_o (by omega), l4]
  by_cases b0 : nI b = 0
  · exact ⟨zB5, zff w 5, zfg (zff w 5) 5, by simp only [fX6_copy, y1, y3, zbo_s, fX3_isMissing, k1, if_pos b0, Option.bind_some, if_neg h10, x6_f5, zb2_some], by simp only [fX7_copy, y2, y4, Option.bind_some, if_neg h10, r66, if_pos b0, x7_f5, zb2_some], hI0.find (k := 5) (by omega)⟩
  by_cases b1 : nI b' = 0
  · exact ⟨zB5, zff w 5, zfg (zff w 5) 5, by simp only [fX6_copy, y1, y3, zbo_s, fX3_isMissing, k1, l1, if_neg b0, if_true, if_pos b1, Option.bind_some, if_neg h10, x6_f5, zb2_some], by simp only [fX7_copy, y2, y4, Option.bind_some, if_neg h10, r66, t66, if_neg b0, if_pos b1, x7_f5, zb2_some], hI0.find (k := 5) (by omega)⟩
  by_cases b2 : nI b = nI b'
  · by_cases z1 : zpt n p k = 0
    · exact ⟨zB0, zff w 0, zfg (zff w 0) 0, by simp only [fX6_copy, y1, y3, zbo_s, fX3_isMissing, k1, l1, if_neg b0, if_true, if_neg b1, if_pos b2, Option.bind_some, hr_pt k3, if_pos z1, x6_f0, zb2_some], by simp only [fX7_copy, y2, y4, Option.bind_some, if_neg h10, r66, t66, if_neg b0, if_neg b1, if_pos b2, ip_pt hs (r67 0), if_pos z1, x7_f0, zb2_some], hI0.find (k := 0) (by omega)⟩
    by_cases z2 : zpt n' q k = 0
    · exact ⟨zB0, zff w 0, zfg (zff w 0) 0, by simp only [fX6_copy, y1, y3, zbo_s, fX3_isMissing, k1, l1, if_neg b0, if_true, if_neg b1, if_pos b2, Option.bind_some, hr_pt k3, hr_pt l3, if_neg z1, if_pos z2, x6_f0, zb2_some], by simp only [fX7_copy, y2, y4, Option.bind_some, if_neg h10, r66, t66, if_neg b0, if_neg b1, if_pos b2, ip_pt hs (r67 0), ip_pt ht (t67 0), if_neg z1, if_pos z2, x7_f0, zb2_some], hI0.find (k := 0) (by omega)⟩
    obtain ⟨i, m, rfl, rfl, him⟩ := zpt_1 hn z1
    obtain ⟨j, m', rfl, e2, hjm⟩ := zpt_1 hn' z2
    have hm : m < 2 ^ 31 ∧ m' < 2 ^ 31 := by omega
    have mm : m = m' := by
      have := congrArg Int32.toNatClampNeg e2
      rw [nI_clamp hm.1, nI_clamp hm.2] at this
      exact this
    subst mm
    generalize hu : zcg w (50 + 2 * t + 1) (va_cpy (w.2 (50 + 2 * s + 1)) (w.2 (50 + 2 * t + 1)) i j m) = u
    have u1 : u.1 = w.1 := by rw [← hu]; rfl
    generalize hx : zcg u 69 (va_cpy (u.2 68) (u.2 69) (40 * s + i) 0 m) = x
    have x1 : x.1 = w.1 := by rw [← hx]; exact u1
    generalize hv : zcg x 68 (va_cpy (x.2 69) (x.2 68) 0 (40 * t + j) m) = v
    have v1 : v.1 = w.1 := by rw [← hv]; exact x1
    have lo1 : lpX7_copy_102 (nI s) (nI i) (nI t) (nI j) (nI m) zF u 0 = some x := by
      have := cp_l1 (p3 := nI t) (p4 := nI j) hs (show i + m ≤ 40 by omega) u zF 0 (by omega) (by unfold zF; omega)
      rw [zcp_0, hx] at this
      exact this
    have lo2 : lpX7_copy_139 (nI t) (nI j) (nI m) zF x 0 = some v := by
      have := cp_l2 ht (show j + m ≤ 40 by omega) x zF 0 (by omega) (by unfold zF; omega)
      rw [zcp_0, hv] at this
      exact this
    have r66 : zrd u 66 4 (nI s) = some (nI b) := by rw [zrd_nI hs (by omega), u1, k2]
    have t66 : zrd u 66 4 (nI t) = some (nI b') := by rw [zrd_nI ht (by omega), u1, l2]
    have r67 : u.1 67 s = nI n := by rw [u1, k4]
    have t67 : u.1 67 t = nI n' := by rw [u1, l4]
    have vo : ∀ o, o ≠ 50 + 2 * t + 1 → o ≠ 68 → o ≠ 69 → v.2 o = w.2 o := fun o h1 h2 h3 => by rw [← hv, zcg_o h2, ← hx, zcg_o h3, ← hu, zcg_o h1]
    have v68 : v.2 68 = va_cpy (x.2 69) (w.2 68) 0 (40 * t + j) m := by
      rw [← hv, zcg_same, ← hx, zcg_o (show 68 ≠ 69 by omega), ← hu, zcg_o (show 68 ≠ 50 + 2 * t + 1 by omega)]
    have x69 : ∀ y, y < m → x.2 69 y = w.2 68 (40 * s + i + y) := fun y hy => by
      rw [← hx, zcg_same, pk_cpy_in (by omega) (by omega), ← hu, zcg_o (show 68 ≠ 50 + 2 * t + 1 by omega)]
      congr 1
    have vt : v.2 (50 + 2 * t + 1) = va_cpy (w.2 (50 + 2 * s + 1)) (w.2 (50 + 2 * t + 1)) i j m := by
      rw [← hv, zcg_o (by omega), ← hx, zcg_o (by omega), ← hu, zcg_same]
    refine ⟨nI m, u, v, by simp only [fX6_copy, y1, y3, zbo_s, fX3_isMissing, k1, l1, if_neg b0, if_true, if_neg b1, if_pos b2, Option.bind_some, hr_pt k3, hr_pt l3, if_neg z1, if_neg z2, zcpl_ok (show i + m ≤ 40 by omega) (show j + m ≤ 40 by omega), hu], by simp only [fX7_copy, y2, y4, Option.bind_some, if_neg h10, r66, t66, if_neg b0, if_neg b1, if_pos b2, ip_pt hs r67, ip_pt ht t67, if_neg z1, if_neg z2, lo1, lo2], ⟨S, hS, hC.keep (fun j hj => by rw [v1]), hM.keep (by rw [v1])⟩, d.keep (by rw [v1]) (by rw [v1]), e.keep (by rw [v1]) (by rw [v1]) (by rw [v1]) (by rw [v1]), ?_, g.keep (by rw [v1]) (by rw [v1]) (fun j hj => by rw [v1]) (by rw [v1])⟩
    refine f.upd ht (fun t' ht' hts => ⟨by rw [v1], vo _ (by omega) (by omega) (by omega), by rw [v1], by rw [v1], fun y hy => ?_⟩) ⟨b', n', hb', hn', hbn', by rw [v1]; exact l1, by rw [v1]; exact l2, by rw [v1]; exact l3, by rw [v1]; exact l4, fun y hy => ?_⟩
    · rw [v68, pk_cpy_out (by omega)]
    · rw [v68, vt]
      by_cases r : j ≤ y ∧ y < j + m
      · rw [pk_cpy_in r.1 r.2, pk_cpy_in (by omega) (by omega), x69 _ (by omega), k5 _ (by omega), show 40 * s + (i + (y - j)) = 40 * s + i + (0 + (40 * t + y - (40 * t + j))) by omega]
      · rw [pk_cpy_out (by omega), pk_cpy_out (by omega), l5 y hy]
  · exact ⟨zB2, zff w 2, zfg (zff w 2) 2, by simp only [fX6_copy, y1, y3, zbo_s, fX3_isMissing, k1, l1, if_neg b0, if_true, if_neg b1, if_neg b2, Option.bind_some, x6_f2, zb2_some], by simp only [fX7_copy, y2, y4, Option.bind_some, if_neg h10, r66, t66, if_neg b0, if_neg b1, if_neg b2, x7_f2, zb2_some], hI0.find (k := 2) (by omega)⟩
