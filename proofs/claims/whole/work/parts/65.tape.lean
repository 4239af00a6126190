def zby (p : Int32) (k : Nat) : Int32 := (p >>> (((8 : Int32) * nI k) &&& 31)) &&& (255 : Int32)
theorem and255 (x : Int32) : ∃ b : Nat, b < 256 ∧ x &&& (255 : Int32) = nI b := by
  have h : (x &&& (255 : Int32)).toBitVec.toNat < 256 := by
    rw [Int32.toBitVec_and, BitVec.toNat_and]
    have := Nat.and_le_right (n := x.toBitVec.toNat) (m := (255 : Int32).toBitVec.toNat)
    have e : (255 : Int32).toBitVec.toNat = 255 := by decide
    omega
  refine ⟨_, h, ?_⟩
  apply Int32.toBitVec_inj.mp
  apply BitVec.eq_of_toNat_eq
  show _ = (Int32.ofNat _).toBitVec.toNat
  rw [Int32.toBitVec_ofNat', BitVec.toNat_ofNat]
  omega
theorem nI_back {k : Nat} : nI (k + 1) - 1 = nI k := by
  rw [show nI (k + 1) = nI k + 1 from (nI_1 k).symm, Int32.add_sub_cancel]
theorem nI_back' {k : Nat} : nI k + (-1) = nI k - 1 := by
  rw [Int32.sub_eq_add_neg]
theorem fd6 {p : Int32} : ∀ k n (w : zW) (m : Nat), k < n → k ≤ 4 → m + k ≤ 120 → w.1 43 1 = nI m → ∃ u, lpX6_feed_42 p n w (nI k - 1) = some u ∧ zE (fun o => o = 43 ∨ o = 44) w u ∧ u.1 43 1 = nI (m + k) ∧ (∀ i, i < m → u.1 44 i = w.1 44 i) ∧ ∀ j, j < k → u.1 44 (m + j) = zby p (k - 1 - j) := by
  intro k
  induction k with
  | zero =>
    intro n w m hn _ _ h
    obtain ⟨n, rfl⟩ : ∃ q, n = q + 1 := ⟨n - 1, by omega⟩
    exact ⟨w, by rw [lpX6_feed_42, if_pos (by decide)], zE.rfl, h, fun _ _ => rfl, fun j hj => absurd hj (by omega)⟩
  | succ k ih =>
    intro n w m hn hk hm h
    obtain ⟨n, rfl⟩ : ∃ q, n = q + 1 := ⟨n - 1, by omega⟩
    have a : fX4_append w (zby p k) = some (zsf (zsf w 43 1 (nI (m + 1))) 44 m (zby p k)) := by
      have q1 : ¬ nI m < 0 := nI_pos (by omega)
      have q2 : ¬ (120 : Int32) ≤ nI m := by rw [zL120, nI_leI (by omega) (by omega)]; omega
      simp only [fX4_append, h, if_neg q1, if_neg q2, Option.bind_some, zwr_nI (show m < 120 by omega) (by omega), nI_1]
    obtain ⟨u, h1, h2, h3, h4, h5⟩ := ih n (zsf (zsf w 43 1 (nI (m + 1))) 44 m (zby p k)) (m + 1) (by omega) (by omega) (by omega) (by rw [zsf_o (by omega), zsf_same])
    refine ⟨u, ?_, ((zE.sf0 (Or.inl rfl)).trs (zE.sf0 (Or.inr rfl))).trs h2, by rw [h3]; congr 1; omega, fun i hi => ?_, fun j hj => ?_⟩
    · rw [lpX6_feed_42, nI_back, if_neg (nI_pos (by omega))]
      show Option.bind (fX4_append w (zby p k)) _ = _
      rw [a, Option.bind_some, nI_back', h1]
    · rw [h4 i (by omega), zsf_k (by omega), zsf_o (by omega)]
    · by_cases q : j = 0
      · subst q
        have : u.1 44 m = _ := h4 m (by omega)
        rw [Nat.add_zero, this, zsf_same]
        rfl
      · have := h5 (j - 1) (by omega)
        rw [show m + 1 + (j - 1) = m + j by omega] at this
        rw [this]
        congr 1
        omega
theorem fd7 {p : Int32} : ∀ k n (w : zW) (m : Nat), k < n → k ≤ 4 → m + k ≤ 120 → w.1 60 7 = nI m → ∃ u, lpX7_feed_38 p n w (nI k - 1) = some u ∧ zE (fun o => o = 60 ∨ o = 65) w u ∧ u.1 60 20 = w.1 60 20 ∧ u.1 60 7 = nI (m + k) ∧ (∀ i, i < m → u.1 65 i = w.1 65 i) ∧ ∀ j, j < k → u.1 65 (m + j) = zby p (k - 1 - j) := by
  intro k
  induction k with
  | zero =>
    intro n w m hn _ _ h
    obtain ⟨n, rfl⟩ : ∃ q, n = q + 1 := ⟨n - 1, by omega⟩
    exact ⟨w, by rw [lpX7_feed_38, if_pos (by decide)], zE.rfl, rfl, h, fun _ _ => rfl, fun j hj => absurd hj (by omega)⟩
  | succ k ih =>
    intro n w m hn hk hm h
    obtain ⟨n, rfl⟩ : ∃ q, n = q + 1 := ⟨n - 1, by omega⟩
    have e7 : (zsf w 65 m (zby p k)).1 60 7 = nI m := by rw [zsf_o (by omega), h]
    obtain ⟨u, h1, h2, h2', h3, h4, h5⟩ := ih n (zsf (zsf w 65 m (zby p k)) 60 7 (nI (m + 1))) (m + 1) (by omega) (by omega) (by omega) (by rw [zsf_same])
    refine ⟨u, ?_, ((zE.sf0 (Or.inr rfl)).trs (zE.sf0 (Or.inl rfl))).trs h2, by rw [h2', zsf_k (by omega), zsf_o (by omega)], by rw [h3]; congr 1; omega, fun i hi => ?_, fun j hj => ?_⟩
    · rw [lpX7_feed_38, nI_back, if_neg (nI_pos (by omega)), h, zwr_nI (show m < 120 by omega) (by omega), Option.bind_some, Option.bind_some]
      show lpX7_feed_38 p n (zsf (zsf w 65 m (zby p k)) 60 7 ((zsf w 65 m (zby p k)).1 60 7 + 1)) _ = _
      rw [e7, nI_1, nI_back', h1]
    · rw [h4 i (by omega), zsf_o (by omega), zsf_k (by omega)]
    · by_cases q : j = 0
      · subst q
        have : u.1 65 m = _ := h4 m (by omega)
        rw [Nat.add_zero, this, zsf_o (by omega), zsf_same]
        rfl
      · have := h5 (j - 1) (by omega)
        rw [show m + 1 + (j - 1) = m + j by omega] at this
        rw [this]
        congr 1
        omega
theorem op_feed (p q : Int32) : zOp (fun w => fX6_feed w p q) (fun w => fX7_feed w p q) := by
  intro w hI
  show ∃ r u v, fX6_feed w p q = some (r, u) ∧ fX7_feed u p q = some (r, v) ∧ zInv v
  have hI0 := hI
  obtain ⟨⟨S, hS, hC, hM⟩, d, ⟨n, hn, t1, t2, t3⟩, f, g⟩ := hI
  by_cases c1 : q < 1
  · exact ⟨zB0, zff w 0, zfg (zff w 0) 0, by simp only [fX6_feed, if_pos c1, x6_f0, zb2_some], by simp only [fX7_feed, fX7_in, if_pos c1, Option.bind_some, if_true, x7_f0, zb2_some], hI0.find (k := 0) (by omega)⟩
  by_cases c2 : ¬ q ≤ 4
  · have c3 : (4 : Int32) < q := Int32.not_le.mp c2
    exact ⟨zB0, zff w 0, zfg (zff w 0) 0, by simp only [fX6_feed, if_neg c1, if_neg c2, x6_f0, zb2_some], by simp only [fX7_feed, fX7_in, if_neg c1, if_pos c3, Option.bind_some, if_true, x7_f0, zb2_some], hI0.find (k := 0) (by omega)⟩
  have c2 : q ≤ 4 := Decidable.not_not.mp c2
  have c3 : ¬ (4 : Int32) < q := Int32.not_lt.mpr c2
  have c0 : ¬ q < 0 := fun h => c1 (Int32.lt_trans h (by decide))
  obtain ⟨k, hk, rfl⟩ := nI_of c0
  have hk4 : k ≤ 4 := by rw [zL4, nI_leI hk (by omega)] at c2; exact c2
  by_cases c4 : n + k ≤ 120
  · have b4 : nI n + nI k ≤ (120 : Int32) := by rw [nI_add, zL120, nI_leI (by omega) (by omega)]; exact c4
    obtain ⟨u, h1, h2, h3, h4, h5⟩ := fd6 (p := p) k zF w n (by unfold zF; omega) hk4 c4 t1
    have t2' : u.1 60 7 = nI n := by rw [(h2 60 (by omega)).1, t2]
    obtain ⟨v, g1, g2, g2', g3, g4, g5⟩ := fd7 (p := p) k zF u n (by unfold zF; omega) hk4 c4 t2'
    have E : zE (fun o => o = 43 ∨ o = 44 ∨ o = 60 ∨ o = 65) w v := (h2.mono (by intro o h; omega)).trs (g2.mono (by intro o h; omega))
    have E2 : ∀ o, ¬ (o = 43 ∨ o = 44 ∨ o = 60 ∨ o = 65) → v.1 o = w.1 o := fun o h => (E o h).1
    refine ⟨nI (n + k), u, v, by simp only [fX6_feed, t1, if_neg c1, if_pos c2, if_pos b4, Option.bind_some, h1, h3], by simp only [fX7_feed, fX7_in, t2', if_neg c1, if_neg c3, if_neg h10, if_pos b4, Option.bind_some, g1, g3], ⟨S, hS, hC.keep (fun j hj => E2 _ (by omega)), hM.keep (E2 _ (by omega))⟩, d.keep (E2 _ (by omega)) (E2 _ (by omega)), ⟨n + k, c4, ?_, g3, fun i hi => ?_⟩, f.keep (fun o h1 h2 => ⟨E2 _ (by omega), (E _ (by omega)).2⟩) (E2 _ (by omega)) (E2 _ (by omega)) (E _ (by omega)).2, g.keep (by rw [E2 _ (by omega)]) (by rw [g2', (h2 60 (by omega)).1]) (fun j hj => E2 _ (by omega)) (E2 _ (by omega))⟩
    · rw [(g2 43 (by omega)).1, h3]
    · by_cases z : i < n
      · obtain ⟨b, hb, e1, e2⟩ := t3 i z
        exact ⟨b, hb, by rw [(g2 44 (by omega)).1, h4 i z, e1], by rw [g4 i z, (h2 65 (by omega)).1, e2]⟩
      · obtain ⟨b, hb, e⟩ := and255 (p >>> (((8 : Int32) * nI (k - 1 - (i - n))) &&& 31))
        have h5 := h5 (i - n) (by omega)
        have g5 := g5 (i - n) (by omega)
        rw [show n + (i - n) = i by omega] at h5 g5
        exact ⟨b, hb, by rw [(g2 44 (by omega)).1, h5]; exact e, by rw [g5]; exact e⟩
  · have b4 : ¬ nI n + nI k ≤ (120 : Int32) := by rw [nI_add, zL120, nI_leI (by omega) (by omega)]; exact c4
    have t2' : (zff w 1).1 60 7 = nI n := by unfold zff; rw [zsf_o (by omega), t2]
    exact ⟨zB1, zff w 1, zfg (zff w 1) 1, by simp only [fX6_feed, t1, if_neg c1, if_pos c2, if_neg b4, x6_f1, zb2_some], by simp only [fX7_feed, fX7_in, t2', if_neg c1, if_neg c3, if_neg h10, if_neg b4, Option.bind_some, x7_f1, zb2_some], hI0.find (k := 1) (by omega)⟩
