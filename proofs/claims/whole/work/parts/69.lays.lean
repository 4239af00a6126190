abbrev zhok (x : Int64) : Prop := 0 ≤ x ∧ x ≤ 9999
def zly (f : Nat → Int64) (S : zLd) : Nat → zLd × Nat
  | 0 => (S, 0)
  | k + 1 => if zhok (f k) then (zS_ht (zly f S k).1 k (f k).toInt.toNat, (zly f S k).2 + 1) else zly f S k
theorem zly_nv {f : Nat → Int64} {S : zLd} : ∀ k, zNv (zly f S k).1 = zNv S := by
  intro k
  induction k with
  | zero => rfl
  | succ k ih =>
    rw [zly]
    split
    · exact ih
    · exact ih
theorem zhok_nI {x : Int64} (h : zhok x) : x.toInt32 = nI x.toInt.toNat ∧ x.toInt.toNat ≤ 9999 := by
  obtain ⟨h0, h1⟩ := h
  rw [Int64.le_iff_toInt_le] at h0 h1
  have e0 : (0 : Int64).toInt = 0 := by decide
  have e9 : (9999 : Int64).toInt = 9999 := by decide
  rw [e0] at h0
  rw [e9] at h1
  refine ⟨?_, by omega⟩
  apply Int32.toInt_inj.mp
  rw [Int64.toInt_toInt32]
  have : (nI x.toInt.toNat).toInt = (x.toInt.toNat : Int) := nI_toInt (by omega)
  rw [this, Int.toNat_of_nonneg h0, Int.bmod_def]
  omega
theorem zly_wf {f : Nat → Int64} {S : zLd} (hS : zWf S) : ∀ k, zWf (zly f S k).1 := by
  intro k
  induction k with
  | zero => exact hS
  | succ k ih =>
    rw [zly]
    split
    · rename_i h
      exact wf_ht ih (zhok_nI h).2
    · exact ih
theorem zly_le {f : Nat → Int64} {S : zLd} : ∀ k, (zly f S k).2 ≤ k := by
  intro k
  induction k with
  | zero => exact Nat.le_refl 0
  | succ k ih =>
    rw [zly]
    split
    · show (zly f S k).2 + 1 ≤ k + 1
      omega
    · omega
theorem ly6 {s n : Nat} {S : zLd} (hS : zWf S) (hs : s < 4) (hn : n ≤ 40) (w : zW) (f : Nat → Int64) (hf : ∀ i, i < 40 → w.2 (50 + 2 * s + 1) i = f i) (h1 : w.1 (50 + 2 * s) 1 = nI n) : ∀ q k u, k ≤ min n (zNv S) → min n (zNv S) - k < q → zCX u 10 (zly f S k).1 → zE (fun o => o = 11) w u → ∃ v, lpX6_lays_37 (50 + 2 * s) q u (nI (zly f S k).2) (nI k) = some (nI (zly f S (min n (zNv S))).2, v) ∧ zCX v 10 (zly f S (min n (zNv S))).1 ∧ zE (fun o => o = 11) w v := by
  have nv := hS.nv
  intro q
  induction q with
  | zero => intro k u _ h; omega
  | succ q ih =>
    intro k u hk hq hc hE
    have e1 : u.1 (50 + 2 * s) 1 = nI n := by rw [(hE _ (by omega)).1, h1]
    have e2 : u.1 10 0 = nI (zNv S) := by rw [hc.1.1, zly_nv]
    rw [lpX6_lays_37, e1, e2]
    by_cases c1 : n ≤ k
    · have : k = min n (zNv S) := by omega
      rw [if_pos ((nI_leI (by omega) (by omega)).mpr c1), ← this]
      exact ⟨u, rfl, hc, hE⟩
    rw [if_neg (fun z => c1 ((nI_leI (by omega) (by omega)).mp z))]
    by_cases c2 : zNv S ≤ k
    · have : k = min n (zNv S) := by omega
      rw [if_pos ((nI_leI (by omega) (by omega)).mpr c2), ← this]
      exact ⟨u, rfl, hc, hE⟩
    rw [if_neg (fun z => c2 ((nI_leI (by omega) (by omega)).mp z))]
    have z1 : fX3_has u (50 + 2 * s) (nI k) = some 1 := by unfold fX3_has; rw [if_neg (nI_pos (by omega)), e1, if_neg (fun z => c1 ((nI_leI (by omega) (by omega)).mp z))]
    have z2 : fX3_number u (50 + 2 * s) (nI k) = some (f k) := by simp only [fX3_number, z1, Option.bind_some, if_neg h10, zrl_nI (show k < 40 by omega) (by omega), (hE (50 + 2 * s + 1) (by omega)).2, hf k (by omega)]
    rw [z2, Option.bind_some, nI_1 k]
    by_cases c3 : zhok (f k)
    · have z3 : fX0_setHeight u 10 (nI k) ((f k).toInt32) = some (zsf u 11 k (nI (f k).toInt.toNat)) := by
        simp only [fX0_setHeight, cx_hv_y (zly_wf hS k) hc (show k < zNv (zly f S k).1 by rw [zly_nv]; omega), Option.bind_some, if_neg h10, zwr_nI (show k < 12 by omega) (by omega), (zhok_nI c3).1]
      have g1 : ¬ lg_cmp (f k) 0 < 0 := by rw [lg_cmp_lt]; exact Int64.not_lt.mpr c3.1
      have g2 : ¬ 0 < lg_cmp (f k) 9999 := by rw [lg_cmp_gt]; exact Int64.not_lt.mpr c3.2
      rw [if_neg g1, if_neg g2, z3, Option.bind_some, zb2_some, nI_1]
      have e : zly f S (k + 1) = (zS_ht (zly f S k).1 k (f k).toInt.toNat, (zly f S k).2 + 1) := by rw [zly, if_pos c3]
      have := ih (k + 1) (zsf u 11 k (nI (f k).toInt.toNat)) (by omega) (by omega) (by rw [e]; exact cx_hts hc k _) (hE.trs (zE.sf0 rfl))
      rw [e] at this
      exact this
    · have e : zly f S (k + 1) = zly f S k := by rw [zly, if_neg c3]
      have g : (if lg_cmp (f k) 0 < 0 then some (nI (zly f S k).2, u) else if 0 < lg_cmp (f k) 9999 then some (nI (zly f S k).2, u) else Option.bind (fX0_setHeight u 10 (nI k) ((f k).toInt32)) fun w24 => some (nI (zly f S k).2 + 1, w24)) = some (nI (zly f S k).2, u) := by
        by_cases g1 : lg_cmp (f k) 0 < 0
        · rw [if_pos g1]
        · rw [if_neg g1]
          by_cases g2 : 0 < lg_cmp (f k) 9999
          · rw [if_pos g2]
          · rw [lg_cmp_lt] at g1
            rw [lg_cmp_gt] at g2
            exact absurd ⟨Int64.not_lt.mp g1, Int64.not_lt.mp g2⟩ c3
      rw [g, zb2_some]
      have := ih (k + 1) u (by omega) (by omega) (by rw [e]; exact hc) hE
      rw [e] at this
      exact this
theorem ly7 {s n : Nat} {S : zLd} (hS : zWf S) (hs : s < 4) (hn : n ≤ 40) (w : zW) (f : Nat → Int64) (hf : ∀ i, i < 40 → w.2 68 (40 * s + i) = f i) (h1 : w.1 67 s = nI n) : ∀ q k u, k ≤ min n (zNv S) → min n (zNv S) - k < q → zMX u 61 (zly f S k).1 → zE (fun o => o = 61) w u → ∃ v, lpX7_lays_35 (nI s) q u (nI (zly f S k).2) (nI k) = some (nI (zly f S (min n (zNv S))).2, v) ∧ zMX v 61 (zly f S (min n (zNv S))).1 ∧ zE (fun o => o = 61) w v := by
  have nv := hS.nv
  intro q
  induction q with
  | zero => intro k u _ h; omega
  | succ q ih =>
    intro k u hk hq hc hE
    have e1 : zrd u 67 4 (nI s) = some (nI n) := by rw [zrd_nI hs (by omega), (hE _ (by omega)).1, h1]
    have e2 : zrd u 61 151 0 = some (nI (zNv S)) := by rw [show (0 : Int32) = nI 0 from rfl, zrd_nI (by omega) (by omega), hc.1.1, zly_nv]
    rw [lpX7_lays_35, e2, Option.bind_some]
    by_cases c2 : zNv S ≤ k
    · have : k = min n (zNv S) := by omega
      rw [if_pos ((nI_leI (by omega) (by omega)).mpr c2), ← this]
      exact ⟨u, rfl, hc, hE⟩
    rw [if_neg (fun z => c2 ((nI_leI (by omega) (by omega)).mp z)), e1, Option.bind_some]
    by_cases c1 : n ≤ k
    · have : k = min n (zNv S) := by omega
      rw [if_pos ((nI_leI (by omega) (by omega)).mpr c1), ← this]
      exact ⟨u, rfl, hc, hE⟩
    rw [if_neg (fun z => c1 ((nI_leI (by omega) (by omega)).mp z)), ix40, zrl_nI (by omega) (by omega), (hE 68 (by omega)).2, hf k (by omega), Option.bind_some, nI_1 k]
    by_cases c3 : zhok (f k)
    · have z3 : zwr u 61 151 ((5 : Int32) + ((2 : Int32) * nI k)) ((f k).toInt32) = some (zsf u 61 (5 + 2 * k) (nI (f k).toInt.toNat)) := by
        rw [ix2, zwr_nI (by omega) (by omega), (zhok_nI c3).1]
      have g1 : ¬ lg_cmp (f k) 0 < 0 := by rw [lg_cmp_lt]; exact Int64.not_lt.mpr c3.1
      have g2 : ¬ 0 < lg_cmp (f k) 9999 := by rw [lg_cmp_gt]; exact Int64.not_lt.mpr c3.2
      rw [if_neg g1, if_neg g2, z3, Option.bind_some, zb2_some, nI_1]
      have e : zly f S (k + 1) = (zS_ht (zly f S k).1 k (f k).toInt.toNat, (zly f S k).2 + 1) := by rw [zly, if_pos c3]
      have := ih (k + 1) (zsf u 61 (5 + 2 * k) (nI (f k).toInt.toNat)) (by omega) (by omega) (by rw [e]; exact mx_hts (zly_wf hS k) hc _ (by rw [zly_nv]; omega)) (hE.trs (zE.sf0 rfl))
      rw [e] at this
      exact this
    · have e : zly f S (k + 1) = zly f S k := by rw [zly, if_neg c3]
      have g : (if lg_cmp (f k) 0 < 0 then some (nI (zly f S k).2, u) else if 0 < lg_cmp (f k) 9999 then some (nI (zly f S k).2, u) else Option.bind (zwr u 61 151 ((5 : Int32) + ((2 : Int32) * nI k)) ((f k).toInt32)) fun w24 => some (nI (zly f S k).2 + 1, w24)) = some (nI (zly f S k).2, u) := by
        by_cases g1 : lg_cmp (f k) 0 < 0
        · rw [if_pos g1]
        · rw [if_neg g1]
          by_cases g2 : 0 < lg_cmp (f k) 9999
          · rw [if_pos g2]
          · rw [lg_cmp_lt] at g1
            rw [lg_cmp_gt] at g2
            exact absurd ⟨Int64.not_lt.mp g1, Int64.not_lt.mp g2⟩ c3
      rw [g, zb2_some]
      have := ih (k + 1) u (by omega) (by omega) (by rw [e]; exact hc) hE
      rw [e] at this
      exact this
theorem op_lays (a : Int32) : zOp (fun w => fX6_lays w a) (fun w => fX7_lays w a) := by
  intro w hI
  show ∃ r u v, fX6_lays w a = some (r, u) ∧ fX7_lays u a = some (r, v) ∧ zInv v
  rcases sh_yn a with h | ⟨s, hs, rfl⟩
  · exact ⟨zB0, zff w 0, zfg (zff w 0) 0, by simp only [fX6_lays, (sh_n h).1, zbo_n, x6_f0, zb2_some], by simp only [fX7_lays, (sh_n h).2, Option.bind_some, if_true, x7_f0, zb2_some], hI.find (k := 0) (by omega)⟩
  have y1 := fun w => (sh_y (w := w) hs).1
  have y2 := fun w => (sh_y (w := w) hs).2
  have hI0 := hI
  obtain ⟨⟨S, hS, hC, hM⟩, d, e, f, g⟩ := hI
  obtain ⟨b, n, hb, hn, hbn, k1, k2, k3, k4, k5⟩ := f s hs
  by_cases b0 : nI b = 0
  · have r66 : zrd (zff w 5) 66 4 (nI s) = some (nI b) := by rw [zrd_nI hs (by omega), zff_o (by omega), k2]
    exact ⟨zB5, zff w 5, zfg (zff w 5) 5, by simp only [fX6_lays, y1, zbo_s, fX3_isMissing, k1, if_pos b0, Option.bind_some, if_neg h10, x6_f5, zb2_some], by simp only [fX7_lays, y2, Option.bind_some, if_neg h10, r66, if_pos b0, x7_f5, zb2_some], hI0.find (k := 5) (by omega)⟩
  obtain ⟨u, u1, u2, u3⟩ := ly6 hS hs hn w (fun i => w.2 (50 + 2 * s + 1) i) (fun i _ => rfl) k3 zF 0 w (by omega) (by have := hS.nv; unfold zF; omega) hC zE.rfl
  have r66 : zrd u 66 4 (nI s) = some (nI b) := by rw [zrd_nI hs (by omega), (u3 _ (by omega)).1, k2]
  obtain ⟨v, v1, v2, v3⟩ := ly7 hS hs hn u (fun i => w.2 (50 + 2 * s + 1) i) (fun i hi => by rw [(u3 _ (by omega)).2, k5 i hi]) (by rw [(u3 _ (by omega)).1, k4]) zF 0 u (by omega) (by have := hS.nv; unfold zF; omega) (hM.keep (u3 _ (by omega)).1) zE.rfl
  have E : zE (fun o => o = 11 ∨ o = 61) w v := (u3.mono (fun o h => Or.inl h)).trs (v3.mono (fun o h => Or.inr h))
  have E2 : ∀ o, ¬ (o = 11 ∨ o = 61) → v.1 o = w.1 o := fun o h => (E o h).1
  have u1' : lpX6_lays_37 (50 + 2 * s) zF w 0 0 = _ := u1
  have v1' : lpX7_lays_35 (nI s) zF u 0 0 = _ := v1
  exact ⟨nI (zly (fun i => w.2 (50 + 2 * s + 1) i) S (min n (zNv S))).2, u, v, by simp only [fX6_lays, y1, zbo_s, fX3_isMissing, k1, if_neg b0, Option.bind_some, if_true, u1', zb2_some], by simp only [fX7_lays, y2, Option.bind_some, if_neg h10, r66, if_neg b0, v1', zb2_some], ⟨_, zly_wf hS _, u2.keep (fun j hj => (v3 _ (by omega)).1), v2⟩, d.keep (E2 _ (by omega)) (E2 _ (by omega)), e.keep (E2 _ (by omega)) (E2 _ (by omega)) (by rw [E2 _ (by omega)]) (E2 _ (by omega)), f.keep (fun o h1 h2 => ⟨E2 _ (by omega), (E _ (by omega)).2⟩) (E2 _ (by omega)) (E2 _ (by omega)) (E _ (by omega)).2, g.keep (by rw [E2 _ (by omega)]) (by rw [E2 _ (by omega)]) (fun j hj => E2 _ (by omega)) (E2 _ (by omega))⟩
