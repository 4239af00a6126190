theorem sh_n {w : zW} {x : Int32} (h : x < 0 ∨ (4 : Int32) ≤ x) : fX6_sheetAt w x = some none ∧ fX7_isSheet w x = some 0 := by
  have z : zgb 0 = some 0 := by decide
  by_cases c : x < 0
  · exact ⟨by simp only [fX6_sheetAt, if_pos c], by simp only [fX7_isSheet, fX7_in, if_pos c, Option.bind_some, z]⟩
  · have c4 := h.resolve_left c
    have c5 : (3 : Int32) < x := Int32.lt_of_lt_of_le (by decide) c4
    exact ⟨by simp only [fX6_sheetAt, if_neg c, if_pos c4], by simp only [fX7_isSheet, fX7_in, if_neg c, if_pos c5, Option.bind_some, z]⟩
theorem sh_y {w : zW} {s : Nat} (h : s < 4) : fX6_sheetAt w (nI s) = some (some (50 + 2 * s)) ∧ fX7_isSheet w (nI s) = some 1 := by
  have z : zgb 1 = some 1 := by decide
  have c : ¬ nI s < 0 := nI_pos (by omega)
  have c4 : ¬ (4 : Int32) ≤ nI s := by rw [zL4, nI_leI (by omega) (by omega)]; omega
  have c5 : ¬ (3 : Int32) < nI s := by rw [zL3, nI_ltI (by omega) (by omega)]; omega
  have e : zix 4 (nI s) = some s := by
    unfold zix
    rw [nI_clamp (by omega), if_neg (by rintro (q | q); exact c q; omega)]
  exact ⟨by simp only [fX6_sheetAt, if_neg c, if_neg c4, e, Option.bind_some], by simp only [fX7_isSheet, fX7_in, if_neg c, if_neg c5, Option.bind_some, z]⟩
theorem sh_yn (x : Int32) : (x < 0 ∨ (4 : Int32) ≤ x) ∨ ∃ s, s < 4 ∧ x = nI s := by
  by_cases c : x < 0
  · exact Or.inl (Or.inl c)
  by_cases c4 : (4 : Int32) ≤ x
  · exact Or.inl (Or.inr c4)
  obtain ⟨s, hs, rfl⟩ := nI_of c
  refine Or.inr ⟨s, ?_, rfl⟩
  rw [zL4, nI_leI (by omega) hs] at c4
  omega
theorem ix40 (s i : Nat) : (40 : Int32) * nI s + nI i = nI (40 * s + i) := by rw [show (40 : Int32) = nI 40 from rfl, pk_mul, nI_add]
theorem zSh.upd {w v : zW} {s : Nat} (h : zSh w) (hs : s < 4) (e1 : ∀ t, t < 4 → t ≠ s → v.1 (50 + 2 * t) = w.1 (50 + 2 * t) ∧ v.2 (50 + 2 * t + 1) = w.2 (50 + 2 * t + 1) ∧ v.1 66 t = w.1 66 t ∧ v.1 67 t = w.1 67 t ∧ ∀ i, i < 40 → v.2 68 (40 * t + i) = w.2 68 (40 * t + i)) (e2 : ∃ b n : Nat, (b = 0 ∨ b = 8 ∨ b = 16 ∨ b = 64) ∧ n ≤ 40 ∧ (b = 0 → n = 0) ∧ v.1 (50 + 2 * s) 0 = nI b ∧ v.1 66 s = nI b ∧ v.1 (50 + 2 * s) 1 = nI n ∧ v.1 67 s = nI n ∧ ∀ i, i < 40 → v.2 (50 + 2 * s + 1) i = v.2 68 (40 * s + i)) : zSh v := by
  intro t ht
  by_cases q : t = s
  · subst q; exact e2
  · obtain ⟨a1, a2, a3, a4, a5⟩ := e1 t ht q
    obtain ⟨b, n, g1, g2, g3, g4, g5, g6, g7, g8⟩ := h t ht
    exact ⟨b, n, g1, g2, g3, by rw [a1, g4], by rw [a3, g5], by rw [a1, g6], by rw [a4, g7], fun i hi => by rw [a2, a5 i hi, g8 i hi]⟩
theorem rn_loop {o : Nat} (w : zW) : ∀ n k u, k ≤ 40 → 40 - k < n → zE (fun x => x = o + 1) w u → u.1 = w.1 → (∀ i, i < k → u.2 (o + 1) i = 0) → ∃ v, lpX3_renew_29 o n u (nI k) = some v ∧ zE (fun x => x = o + 1) w v ∧ v.1 = w.1 ∧ ∀ i, i < 40 → v.2 (o + 1) i = 0 := by
  intro n
  induction n with
  | zero => intro k u _ h; omega
  | succ n ih =>
    intro k u hk hn hE h1 hc
    rw [lpX3_renew_29, show (40 : Int32) = nI 40 from rfl]
    by_cases c : 40 ≤ k
    · rw [if_pos ((nI_leI (by omega) (by omega)).mpr c)]
      exact ⟨u, rfl, hE, h1, fun i hi => hc i (by omega)⟩
    · rw [if_neg (fun q => c ((nI_leI (by omega) (by omega)).mp q)), zwl_nI (by omega) (by omega), Option.bind_some, nI_1]
      refine ih (k + 1) _ (by omega) (by omega) (hE.trs (zE.sg0 rfl)) h1 (fun i hi => ?_)
      by_cases q : i = k
      · subst q; rw [zsg_same]
      · rw [zsg_k q, hc i (by omega)]
theorem rn_loop7 {s : Nat} (hs : s < 4) (w : zW) : ∀ n k u, k ≤ 40 → 40 - k < n → zE (fun x => x = 68) w u → u.1 = w.1 → (∀ t, t < 4 → t ≠ s → ∀ i, i < 40 → u.2 68 (40 * t + i) = w.2 68 (40 * t + i)) → (∀ i, i < k → u.2 68 (40 * s + i) = 0) → ∃ v, lpX7_sheet_86 (nI s) n u (nI k) = some v ∧ zE (fun x => x = 68) w v ∧ v.1 = w.1 ∧ (∀ t, t < 4 → t ≠ s → ∀ i, i < 40 → v.2 68 (40 * t + i) = w.2 68 (40 * t + i)) ∧ ∀ i, i < 40 → v.2 68 (40 * s + i) = 0 := by
  intro n
  induction n with
  | zero => intro k u _ h; omega
  | succ n ih =>
    intro k u hk hn hE h1 h2 hc
    rw [lpX7_sheet_86, ix40, show (40 : Int32) = nI 40 from rfl]
    by_cases c : 40 ≤ k
    · rw [if_pos ((nI_leI (by omega) (by omega)).mpr c)]
      exact ⟨u, rfl, hE, h1, h2, fun i hi => hc i (by omega)⟩
    · rw [if_neg (fun q => c ((nI_leI (by omega) (by omega)).mp q)), zwl_nI (by omega) (by omega), Option.bind_some, nI_1]
      refine ih (k + 1) _ (by omega) (by omega) (hE.trs (zE.sg0 rfl)) h1 (fun t ht hts i hi => ?_) (fun i hi => ?_)
      · rw [zsg_k (by omega), h2 t ht hts i hi]
      · by_cases q : i = k
        · subst q; rw [zsg_same]
        · rw [zsg_k (by omega), hc i (by omega)]
def zcore (w : zW) (p1 p2 p3 : Int32) : Option (Int32 × zW) := Option.bind (zwr w 66 4 p1 p2) fun w6 => Option.bind (if p2 = 0 then (some (0 : Int32)) else (some p3)) fun x8 => Option.bind (zwr w6 67 4 p1 x8) fun w11 => Option.bind (lpX7_sheet_86 p1 zF w11 (0 : Int32)) fun w21 => Option.bind (zrd w21 67 4 p1) fun v22 => some (v22, w21)
theorem zcore_def (w : zW) (p1 p2 p3 : Int32) : (Option.bind (zwr w 66 4 p1 p2) fun w6 => Option.bind (if p2 = 0 then (some (0 : Int32)) else (some p3)) fun x8 => Option.bind (zwr w6 67 4 p1 x8) fun w11 => Option.bind (lpX7_sheet_86 p1 zF w11 (0 : Int32)) fun w21 => Option.bind (zrd w21 67 4 p1) fun v22 => some (v22, w21)) = zcore w p1 p2 p3 := rfl
theorem op_sheet_core {w : zW} (hI : zInv w) {s b n : Nat} (hs : s < 4) (hb : b = 0 ∨ b = 8 ∨ b = 16 ∨ b = 64) (hn : n ≤ 40) : ∃ r u v, fX3_renew w (50 + 2 * s) (nI b) (nI n) = some u ∧ u.1 (50 + 2 * s) 1 = r ∧ zcore u (nI s) (nI b) (nI n) = some (r, v) ∧ zInv v := by
  obtain ⟨⟨S, hS, hC, hM⟩, d, e, f, g⟩ := hI
  generalize hm : (if b = 0 then 0 else n) = m
  have hm40 : m ≤ 40 := by rw [← hm]; split <;> omega
  have hb0 : (nI b = 0) ↔ b = 0 := by
    rcases hb with rfl | rfl | rfl | rfl <;> decide
  have e3 : (if nI b = 0 then (some (0 : Int32)) else (some (zmax (0 : Int32) (zmin (nI n) (40 : Int32))))) = some (nI m) := by
    rw [← hm]
    by_cases q : b = 0
    · rw [if_pos (hb0.mpr q), if_pos q]; rfl
    · rw [if_neg (fun h => q (hb0.mp h)), if_neg q]
      have z1 : zmin (nI n) 40 = nI n := by
        unfold zmin
        rw [if_neg (by rw [show (40 : Int32) = nI 40 from rfl, nI_ltI (by omega) (by omega)]; omega)]
      rw [z1]
      unfold zmax
      by_cases z : (0 : Int32) < nI n
      · rw [if_pos z]
      · rw [if_neg z]
        have : n = 0 := by rw [show (0 : Int32) = nI 0 from rfl, nI_ltI (by omega) (by omega)] at z; omega
        subst this; rfl
  have e4 : (if nI b = 0 then (some (0 : Int32)) else (some (nI n))) = some (nI m) := by
    rw [← hm]
    by_cases q : b = 0
    · rw [if_pos (hb0.mpr q), if_pos q]; rfl
    · rw [if_neg (fun h => q (hb0.mp h)), if_neg q]
  obtain ⟨u, u1, u2, u3, u4⟩ := rn_loop (o := 50 + 2 * s) (zsf (zsf w (50 + 2 * s) 0 (nI b)) (50 + 2 * s) 1 (nI m)) zF 0 _ (by omega) (by unfold zF; omega) zE.rfl rfl (fun i hi => absurd hi (by omega))
  have hu : fX3_renew w (50 + 2 * s) (nI b) (nI n) = some u := by
    simp only [fX3_renew, Option.bind_some, e3]
    rw [show (0 : Int32) = nI 0 from rfl, u1, Option.bind_some]
  have Eu : zE (fun o => o = 50 + 2 * s ∨ o = 50 + 2 * s + 1) w u := ((zE.sf0 (Or.inl rfl)).trs (zE.sf0 (Or.inl rfl))).trs (u2.mono (fun o h => Or.inr h))
  obtain ⟨v, v1, v2, v3, v4, v5⟩ := rn_loop7 hs (zsf (zsf u 66 s (nI b)) 67 s (nI m)) zF 0 _ (by omega) (by unfold zF; omega) zE.rfl rfl (fun _ _ _ _ _ => rfl) (fun i hi => absurd hi (by omega))
  have f67 : v.1 67 s = nI m := by rw [v3, zsf_same]
  have hv : zcore u (nI s) (nI b) (nI n) = some (nI m, v) := by
    simp only [zcore, zwr_nI (show s < 4 by omega) (by omega), Option.bind_some, e4]
    rw [show (0 : Int32) = nI 0 from rfl, v1, Option.bind_some, zrd_nI hs (by omega), Option.bind_some, f67]
  have Ev : zE (fun o => o = 66 ∨ o = 67 ∨ o = 68) u v := ((zE.sf0 (by omega)).trs (zE.sf0 (by omega))).trs (v2.mono (fun o h => by omega))
  have E : zE (fun o => o = 50 + 2 * s ∨ o = 50 + 2 * s + 1 ∨ o = 66 ∨ o = 67 ∨ o = 68) w v := (Eu.mono (fun o h => by omega)).trs (Ev.mono (fun o h => by omega))
  have E2 : ∀ o, ¬ (o = 50 + 2 * s ∨ o = 50 + 2 * s + 1 ∨ o = 66 ∨ o = 67 ∨ o = 68) → v.1 o = w.1 o := fun o h => (E o h).1
  refine ⟨nI m, u, v, hu, by rw [u3, zsf_same], hv, ⟨S, hS, hC.keep (fun j hj => E2 _ (by omega)), hM.keep (E2 _ (by omega))⟩, d.keep (E2 _ (by omega)) (E2 _ (by omega)), e.keep (E2 _ (by omega)) (E2 _ (by omega)) (by rw [E2 _ (by omega)]) (E2 _ (by omega)), ?_, g.keep (by rw [E2 _ (by omega)]) (by rw [E2 _ (by omega)]) (fun j hj => E2 _ (by omega)) (E2 _ (by omega))⟩
  refine f.upd hs (fun t ht hts => ⟨E2 _ (by omega), (E _ (by omega)).2, ?_, ?_, fun i hi => ?_⟩) ⟨b, m, hb, hm40, ?_, ?_, ?_, ?_, f67, fun i hi => ?_⟩
  · rw [v3, zsf_o (by omega), zsf_k (by omega), (Eu 66 (by omega)).1]
  · rw [v3, zsf_k (by omega), zsf_o (by omega), (Eu 67 (by omega)).1]
  · rw [v4 t ht hts i hi]
    show u.2 68 _ = _
    rw [(Eu 68 (by omega)).2]
  · intro q; rw [← hm, if_pos q]
  · rw [(Ev _ (by omega)).1, u3, zsf_k (by omega), zsf_same]
  · rw [v3, zsf_o (by omega), zsf_same]
  · rw [(Ev _ (by omega)).1, u3, zsf_same]
  · rw [(Ev _ (by omega)).2, u4 i hi, v5 i hi]
theorem zbo_n {γ : Type} {a : Option γ} {f : Nat → Option γ} : zbo (some none) a f = a := rfl
theorem zbo_s {γ : Type} {a : Option γ} {f : Nat → Option γ} {o : Nat} : zbo (some (some o)) a f = f o := rfl
theorem op_sheet (a b c : Int32) : zOp (fun w => fX6_sheet w a b c) (fun w => fX7_sheet w a b c) := by
  intro w hI
  show ∃ r u v, fX6_sheet w a b c = some (r, u) ∧ fX7_sheet u a b c = some (r, v) ∧ zInv v
  rcases sh_yn a with h | ⟨s, hs, rfl⟩
  · exact ⟨zB0, zff w 0, zfg (zff w 0) 0, by simp only [fX6_sheet, (sh_n h).1, zbo_n, x6_f0, zb2_some], by simp only [fX7_sheet, (sh_n h).2, Option.bind_some, if_true, x7_f0, zb2_some], hI.find (k := 0) (by omega)⟩
  have y1 := fun w => (sh_y (w := w) hs).1
  have y2 := fun w => (sh_y (w := w) hs).2
  by_cases hb : b = 0 ∨ b = 8 ∨ b = 16 ∨ b = 64
  · have hw : fX3_isWidth w b = some 1 := by
      rcases hb with rfl | rfl | rfl | rfl <;> rfl
    have hx : ∀ u, fX7_sheet u (nI s) b c = (if 0 ≤ c then ((if c ≤ (40 : Int32) then zcore u (nI s) b c else (zb2 (fX7_finds u (-1000000001 : Int32)) fun v26 w27 => some (v26, w27)))) else (zb2 (fX7_finds u (-1000000007 : Int32)) fun v30 w31 => some (v30, w31))) := by
      intro u
      simp only [fX7_sheet, y2, Option.bind_some, if_neg h10, zcore_def]
      rcases hb with rfl | rfl | rfl | rfl
      · rw [if_pos rfl]
      · rw [if_neg (by decide), if_pos rfl]
      · rw [if_neg (by decide), if_neg (by decide), if_pos rfl]
      · rw [if_neg (by decide), if_neg (by decide), if_neg (by decide), if_pos rfl]
    by_cases c1 : 0 ≤ c
    · by_cases c2 : c ≤ (40 : Int32)
      · obtain ⟨n, hn, rfl⟩ := nI_of (Int32.not_lt.mpr c1)
        have hn40 : n ≤ 40 := by rw [show (40 : Int32) = nI 40 from rfl, nI_leI hn (by omega)] at c2; exact c2
        obtain ⟨k, hk, rfl⟩ : ∃ k : Nat, (k = 0 ∨ k = 8 ∨ k = 16 ∨ k = 64) ∧ b = nI k := by
          rcases hb with rfl | rfl | rfl | rfl
          · exact ⟨0, by omega, rfl⟩
          · exact ⟨8, by omega, rfl⟩
          · exact ⟨16, by omega, rfl⟩
          · exact ⟨64, by omega, rfl⟩
        obtain ⟨r, u, v, g1, g2, g3, g4⟩ := op_sheet_core hI hs hk hn40
        exact ⟨r, u, v, by simp only [fX6_sheet, y1, zbo_s, hw, Option.bind_some, if_neg h10, if_pos c1, if_pos c2, g1, g2], by rw [hx, if_pos c1, if_pos c2, g3], g4⟩
      · exact ⟨zB0, zff w 0, zfg (zff w 0) 0, by simp only [fX6_sheet, y1, zbo_s, hw, Option.bind_some, if_neg h10, if_pos c1, if_neg c2, x6_f0, zb2_some], by rw [hx, if_pos c1, if_neg c2, x7_f0, zb2_some], hI.find (k := 0) (by omega)⟩
    · exact ⟨zB6, zff w 6, zfg (zff w 6) 6, by simp only [fX6_sheet, y1, zbo_s, hw, Option.bind_some, if_neg h10, if_neg c1, x6_f6, zb2_some], by rw [hx, if_neg c1, x7_f6, zb2_some], hI.find (k := 6) (by omega)⟩
  · have b0 : ¬ b = 0 := fun h => hb (Or.inl h)
    have b1 : ¬ b = 8 := fun h => hb (Or.inr (Or.inl h))
    have b2 : ¬ b = 16 := fun h => hb (Or.inr (Or.inr (Or.inl h)))
    have b3 : ¬ b = 64 := fun h => hb (Or.inr (Or.inr (Or.inr h)))
    exact ⟨zB0, zff w 0, zfg (zff w 0) 0, by simp only [fX6_sheet, y1, zbo_s, fX3_isWidth, if_neg b0, if_neg b1, if_neg b2, if_neg b3, Option.bind_some, if_true, x6_f0, zb2_some], by simp only [fX7_sheet, y2, Option.bind_some, if_neg h10, if_neg b0, if_neg b1, if_neg b2, if_neg b3, x7_f0, zb2_some], hI.find (k := 0) (by omega)⟩
