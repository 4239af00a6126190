/-! the reference's tokens; words and numbers -/
theorem zsrt : ∀ b, b < 257 → (if 0 ≤ zBi b then (if (if zSo b = 1 then (1 : Int32) else 0) = 0 then (if (if zSo b = 2 then (1 : Int32) else 0) = 0 then some (3 : Int32) else some (2 : Int32)) else some (1 : Int32)) else some (0 : Int32)) = some (nI (min (zSo b) 3)) := by decide +kernel
section RADV
variable {T : zTape}
theorem m_blank (hT : zWt T) : ∀ n i (w : zW), T.1 ≤ i + n → i ≤ T.1 → zT7 w T → w.1 60 9 = nI i → ∀ q, n < q → ∃ u, lpX7_advance_8 q w = some u ∧ zF1 60 (fun k => k = 9) w u ∧ u.1 60 9 = nI (zSc (zIsB T) n i) := by
  have l := hT.1
  intro n
  induction n with
  | zero =>
    intro i w h1 h2 hw h3 q hq
    obtain ⟨q, rfl⟩ : ∃ z, q = z + 1 := ⟨q - 1, by omega⟩
    have b : zByt T i = 256 := zByt_end (by omega)
    rw [lpX7_advance_8, h3, mx_by hT hw (by omega), Option.bind_some, b, if_neg (by decide)]
    exact ⟨w, rfl, zF1.rfl, h3⟩
  | succ n ih =>
    intro i w h1 h2 hw h3 q hq
    obtain ⟨q, rfl⟩ : ∃ z, q = z + 1 := ⟨q - 1, by omega⟩
    have b := zByt_le hT (i := i)
    rw [lpX7_advance_8, h3, zSc, mx_by hT hw (by omega), Option.bind_some]
    by_cases d : zByt T i = 32
    · have p : zIsB T i = true := decide_eq_true d
      have c : i < T.1 := by
        rcases Nat.lt_or_ge i T.1 with q | q
        · exact q
        · rw [zByt_end q] at d; omega
      obtain ⟨u, u1, u2, u3⟩ := ih (i + 1) (zsf w 60 9 (nI (i + 1))) (by omega) (by omega) (hw.k (K := fun k => k = 9) (zF1.f (Eq.refl _)) (by omega)) zsf_same q (by omega)
      rw [if_pos ((zBi32 _ b).mpr d), Option.bind_some, nI_1, if_pos p]
      exact ⟨u, u1, (zF1.f (K := fun k => k = 9) (Eq.refl _)).trs u2, u3⟩
    · have p : ¬ zIsB T i = true := fun q => d (of_decide_eq_true q)
      rw [if_neg (fun x => d ((zBi32 _ b).mp x)), if_neg p]
      exact ⟨w, rfl, zF1.rfl, h3⟩
theorem m_word (hT : zWt T) {st : Nat} (hs : st ≤ T.1) : ∀ n j (w : zW), T.1 ≤ st + j + n → st + j ≤ T.1 → zT7 w T → w.1 60 8 = 1 → w.1 60 9 = nI st → w.1 60 10 = nI (st + j) → w.2 60 11 = zWw (fun x => zByt T (st + x)) j → ∀ q, n < q → ∃ u, lpX7_advance_126 q w = some u ∧ zF1 60 (fun k => k = 10) w u ∧ u.1 60 10 = nI (zSc (zIsL T) n (st + j)) ∧ u.2 60 11 = zWw (fun x => zByt T (st + x)) (zSc (zIsL T) n (st + j) - st) := by
  have l := hT.1
  have stop : ∀ n j (w : zW) q, zT7 w T → w.1 60 8 = 1 → w.1 60 10 = nI (st + j) → st + j ≤ T.1 → ¬ zSo (zByt T (st + j)) = 1 → zSc (zIsL T) n (st + j) = st + j → w.2 60 11 = zWw (fun x => zByt T (st + x)) j → ∃ u, lpX7_advance_126 (q + 1) w = some u ∧ zF1 60 (fun k => k = 10) w u ∧ u.1 60 10 = nI (zSc (zIsL T) n (st + j)) ∧ u.2 60 11 = zWw (fun x => zByt T (st + x)) (zSc (zIsL T) n (st + j) - st) := by
    intro n j w q hw h8 h10 hl d e h11
    have b := zByt_le hT (i := st + j)
    rw [lpX7_advance_126, if_pos h8, h10, mx_by hT hw (by omega), Option.bind_some, mx_il w b, Option.bind_some, if_neg d, if_pos rfl, e, show st + j - st = j by omega]
    exact ⟨w, rfl, zF1.rfl, h10, h11⟩
  intro n
  induction n with
  | zero =>
    intro j w h1 h2 hw h8 h9 h10' h11 q hq
    obtain ⟨q, rfl⟩ : ∃ z, q = z + 1 := ⟨q - 1, by omega⟩
    exact stop 0 j w q hw h8 h10' h2 (by rw [zByt_end (by omega)]; decide) rfl h11
  | succ n ih =>
    intro j w h1 h2 hw h8 h9 h10' h11 q hq
    obtain ⟨q, rfl⟩ : ∃ z, q = z + 1 := ⟨q - 1, by omega⟩
    have b := zByt_le hT (i := st + j)
    by_cases d : zSo (zByt T (st + j)) = 1
    · have p : zIsL T (st + j) = true := decide_eq_true d
      have c : st + j < T.1 := by
        rcases Nat.lt_or_ge (st + j) T.1 with q | q
        · exact q
        · rw [zByt_end q] at d; exact absurd d (by decide)
      obtain ⟨e1, e2, e3⟩ := zBi_let _ b d
      have pj : nI (st + j) - nI st = nI j := by rw [pk_sub (by omega)]; congr 1; omega
      have pl : ((12 : Int32) ≤ nI j) = (12 ≤ j) := propext (by rw [zL12]; exact nI_leI (by omega) (by omega))
      have wd : (if (12 : Int32) ≤ nI j then some (-1 : Int64) else some (((27 : Int64) * zWw (fun x => zByt T (st + x)) j + (nI (zByt T (st + j))).toInt64) - (96 : Int64))) = some (zWw (fun x => zByt T (st + x)) (j + 1)) := by
        simp only [pl]
        unfold zWw
        by_cases q : 12 ≤ j
        · rw [if_pos q, if_neg (by omega)]
        · rw [if_neg q, if_pos (by omega), if_pos (by omega), show (27 : Int64) = lN 27 from rfl, lN_mul, nI_l (by omega), lN_add, show (96 : Int64) = lN 96 from rfl, lN_sub (by omega)]
          show some (lN (27 * zWc (fun x => zByt T (st + x)) j + zByt T (st + j) - 96)) = some (lN (27 * zWc (fun x => zByt T (st + x)) j + (zByt T (st + j) - 96)))
          congr 2
          omega
      have F : zF1 60 (fun k => k = 10) w (zsf (zsg w 60 11 (zWw (fun x => zByt T (st + x)) (j + 1))) 60 10 (nI (st + j + 1))) := zF1.g.trs (zF1.f (K := fun k => k = 10) (Eq.refl _))
      obtain ⟨u, u1, u2, u3, u4⟩ := ih (j + 1) (zsf (zsg w 60 11 (zWw (fun x => zByt T (st + x)) (j + 1))) 60 10 (nI (st + j + 1))) (by omega) (by omega) (hw.k F (by omega)) (by rw [F.2 8 (by omega), h8]) (by rw [F.2 9 (by omega), h9]) zsf_same (by rw [zsf_2, zsg_same]) q (by omega)
      have w10 : (zsg w 60 11 (zWw (fun x => zByt T (st + x)) (j + 1))).1 60 10 = nI (st + j) := h10'
      have s1 : zSc (zIsL T) (n + 1) (st + j) = zSc (zIsL T) n (st + (j + 1)) := by rw [zSc, if_pos p]; rfl
      rw [lpX7_advance_126, if_pos h8, h10', h9, mx_by hT hw (by omega), Option.bind_some, mx_il w b, Option.bind_some, if_pos d, if_neg h10, pj, Option.bind_some, e1, h11, wd, Option.bind_some, Option.bind_some, w10, nI_1, Option.bind_some, s1]
      exact ⟨u, u1, F.trs u2, u3, u4⟩
    · have p : ¬ zIsL T (st + j) = true := fun q => d (of_decide_eq_true q)
      exact stop (n + 1) j w q hw h8 h10' h2 d (by rw [zSc, if_neg p]) h11
theorem m_num (hT : zWt T) : ∀ n i a (w : zW), T.1 ≤ i + n → i ≤ T.1 → a ≤ 10000 → zT7 w T → w.1 60 8 = 2 → w.1 60 10 = nI i → w.1 60 12 = nI a → ∀ q, n < q → ∃ u, lpX7_advance_207 q w = some u ∧ zF1 60 (fun k => k = 10 ∨ k = 12) w u ∧ u.1 60 10 = nI (zSc (zIsD T) n i) ∧ u.1 60 12 = nI (zVl T n i a) := by
  have l := hT.1
  intro n
  induction n with
  | zero =>
    intro i a w h1 h2 ha hw h8 h10' h12' q hq
    obtain ⟨q, rfl⟩ : ∃ z, q = z + 1 := ⟨q - 1, by omega⟩
    have b := zByt_le hT (i := i)
    have d : ¬ zSo (zByt T i) = 2 := by rw [zByt_end (by omega)]; decide
    rw [lpX7_advance_207, if_pos h8, h10', mx_by hT hw (by omega), Option.bind_some, mx_id w b, Option.bind_some, if_neg d, if_pos rfl]
    exact ⟨w, rfl, zF1.rfl, h10', h12'⟩
  | succ n ih =>
    intro i a w h1 h2 ha hw h8 h10' h12' q hq
    obtain ⟨q, rfl⟩ : ∃ z, q = z + 1 := ⟨q - 1, by omega⟩
    have b := zByt_le hT (i := i)
    rw [lpX7_advance_207, if_pos h8, h10', mx_by hT hw (by omega), Option.bind_some, mx_id w b, Option.bind_some, zSc, zVl]
    by_cases d : zSo (zByt T i) = 2
    · have p : zIsD T i = true := decide_eq_true d
      have c : i < T.1 := by
        rcases Nat.lt_or_ge i T.1 with q | q
        · exact q
        · rw [zByt_end q] at d; exact absurd d (by decide)
      obtain ⟨e1, e2, e3⟩ := zBi_dig _ b d
      have x79 : (if nI a ≤ (999 : Int32) then (Option.bind (some (zBi (zByt T i))) fun v83 => some ((((10 : Int32) * nI a) + v83) - (48 : Int32))) else (some (10000 : Int32))) = some (nI (min (a * 10 + zByt T i - 48) 10000)) := by
        have pl : (nI a ≤ (999 : Int32)) = (a ≤ 999) := propext (by rw [show (999 : Int32) = nI 999 from rfl]; exact nI_leI (by omega) (by omega))
        simp only [pl]
        by_cases q : a ≤ 999
        · rw [if_pos q, Option.bind_some, e1, zL10, pk_mul, nI_add, show (48 : Int32) = nI 48 from rfl, pk_sub (by omega), Nat.min_eq_left (by omega), Nat.mul_comm]
        · rw [if_neg q, Nat.min_eq_right (by omega)]; rfl
      have F : zF1 60 (fun k => k = 10 ∨ k = 12) w (zsf (zsf w 60 12 (nI (min (a * 10 + zByt T i - 48) 10000))) 60 10 (nI (i + 1))) := (zF1.f (K := fun k => k = 10 ∨ k = 12) (Or.inr (Eq.refl _))).trs (zF1.f (Or.inl (Eq.refl _)))
      obtain ⟨u, u1, u2, u3⟩ := ih (i + 1) (min (a * 10 + zByt T i - 48) 10000) _ (by omega) (by omega) (Nat.min_le_right _ _) (hw.k F (by omega)) (by rw [F.2 8 (by omega), h8]) zsf_same (by rw [zsf_k (by omega), zsf_same]) q (by omega)
      have w10 : (zsf w 60 12 (nI (min (a * 10 + zByt T i - 48) 10000))).1 60 10 = nI i := by rw [zsf_k (by omega), h10']
      rw [if_pos d, if_neg h10, h12', x79, Option.bind_some, Option.bind_some, w10, nI_1, Option.bind_some, if_pos p, if_pos p]
      exact ⟨u, u1, F.trs u2, u3⟩
    · have p : ¬ zIsD T i = true := fun q => d (of_decide_eq_true q)
      rw [if_neg d, if_pos rfl, if_neg p, if_neg p]
      exact ⟨w, rfl, zF1.rfl, h10', h12'⟩
theorem mx_adv {w : zW} {e : Nat} (hT : zWt T) (hw : zT7 w T) (h10' : w.1 60 10 = nI e) (he : e ≤ T.1) : ∃ u, fX7_advance w = some u ∧ zF1 60 (fun k => 8 ≤ k ∧ k ≤ 12) w u ∧ zC7 u T e := by
  have l := hT.1
  unfold fX7_advance
  rw [Option.bind_some, h10']
  obtain ⟨x, x1, x2, x3⟩ := m_blank hT 120 e (zsf w 60 9 (nI e)) (by omega) he (hw.k (K := fun k => k = 9) (zF1.f (Eq.refl _)) (by omega)) zsf_same zF (by unfold zF; omega)
  have x3 : x.1 60 9 = nI (zAs T e) := x3
  have sl := zAs_le he
  have bl := zByt_le hT (i := zAs T e)
  have X : zF1 60 (fun k => k = 9 ∨ k = 10) w (zsf x 60 10 (nI (zAs T e))) := (((zF1.f (K := fun k => k = 9) (Eq.refl _)).trs x2).mono (J := fun k => k = 9 ∨ k = 10) (fun i h => Or.inl h)).trs (zF1.f (Or.inr (Eq.refl _)))
  have hx := hw.k X (by omega)
  have X9 : (zsf x 60 10 (nI (zAs T e))).1 60 9 = nI (zAs T e) := by rw [zsf_k (by omega), x3]
  have X10 : (zsf x 60 10 (nI (zAs T e))).1 60 10 = nI (zAs T e) := zsf_same
  rw [x1, Option.bind_some, x3, Option.bind_some]
  generalize zsf x 60 10 (nI (zAs T e)) = y at X hx X9 X10
  have oe : zSo (zByt T (zAs T e)) = zAo T e := rfl
  have ol := zSo_le (b := zByt T (zAs T e))
  rw [X9, mx_by hT hx (by omega), Option.bind_some, mx_il y bl, Option.bind_some, mx_id y bl, Option.bind_some, zsrt _ bl, Option.bind_some, Option.bind_some, Option.bind_some, oe]
  rw [oe] at ol
  have Y : zF1 60 (fun k => 8 ≤ k ∧ k ≤ 12) w (zsg (zsf y 60 8 (nI (min (zAo T e) 3))) 60 11 0) := ((X.mono (J := fun k => 8 ≤ k ∧ k ≤ 12) (fun i h => by omega)).trs (zF1.f (by omega))).trs zF1.g
  have Y8 : (zsg (zsf y 60 8 (nI (min (zAo T e) 3))) 60 11 0).1 60 8 = nI (min (zAo T e) 3) := by rw [zsg_1, zsf_same]
  have Y9 : (zsg (zsf y 60 8 (nI (min (zAo T e) 3))) 60 11 0).1 60 9 = nI (zAs T e) := by rw [zsg_1, zsf_k (by omega), X9]
  have Y10 : (zsg (zsf y 60 8 (nI (min (zAo T e) 3))) 60 11 0).1 60 10 = nI (zAs T e) := by rw [zsg_1, zsf_k (by omega), X10]
  have Y11 : (zsg (zsf y 60 8 (nI (min (zAo T e) 3))) 60 11 0).2 60 11 = 0 := zsg_same
  generalize zsg (zsf y 60 8 (nI (min (zAo T e) 3))) 60 11 0 = z at Y Y8 Y9 Y10 Y11
  have q2 : (nI (min (zAo T e) 3) = 2) = (zAo T e = 2) := propext (by rw [zL2, nI_eq (by omega) (by omega)]; omega)
  have q3 : (nI (min (zAo T e) 3) = 3) = (3 ≤ zAo T e) := propext (by rw [zL3, nI_eq (by omega) (by omega)]; omega)
  have q1 : (nI (min (zAo T e) 3) = 1) = (zAo T e = 1) := propext (by rw [zL1, nI_eq (by omega) (by omega)]; omega)
  have x36 : (if nI (min (zAo T e) 3) = 2 then some (0 : Int32) else some (zBi (zByt T (zAs T e)))) = some (if zAo T e = 2 then 0 else zBi (zByt T (zAs T e))) := by
    by_cases c : zAo T e = 2
    · rw [if_pos (q2.mpr c), if_pos c]
    · rw [if_neg (fun q => c (q2.mp q)), if_neg c]
  rw [Y8, x36, Option.bind_some, Option.bind_some]
  have A : zF1 60 (fun k => 8 ≤ k ∧ k ≤ 12) w (zsf z 60 12 (if zAo T e = 2 then 0 else zBi (zByt T (zAs T e)))) := Y.trs (zF1.f (by omega))
  have A8 : (zsf z 60 12 (if zAo T e = 2 then 0 else zBi (zByt T (zAs T e)))).1 60 8 = nI (min (zAo T e) 3) := by rw [zsf_k (by omega), Y8]
  have A9 : (zsf z 60 12 (if zAo T e = 2 then 0 else zBi (zByt T (zAs T e)))).1 60 9 = nI (zAs T e) := by rw [zsf_k (by omega), Y9]
  have A10 : (zsf z 60 12 (if zAo T e = 2 then 0 else zBi (zByt T (zAs T e)))).1 60 10 = nI (zAs T e) := by rw [zsf_k (by omega), Y10]
  have A11 : (zsf z 60 12 (if zAo T e = 2 then 0 else zBi (zByt T (zAs T e)))).2 60 11 = 0 := Y11
  have A12 : (zsf z 60 12 (if zAo T e = 2 then 0 else zBi (zByt T (zAs T e)))).1 60 12 = if zAo T e = 2 then 0 else zBi (zByt T (zAs T e)) := zsf_same
  generalize zsf z 60 12 (if zAo T e = 2 then 0 else zBi (zByt T (zAs T e))) = a at A A8 A9 A10 A11 A12
  have ha := hw.k A (by omega)
  rw [A8]
  have no1 : ∀ (v : zW) q, v.1 60 8 = nI (min (zAo T e) 3) → ¬ zAo T e = 1 → lpX7_advance_126 (q + 1) v = some v := fun v q hv c => by rw [lpX7_advance_126, hv, if_neg (fun x => c (q1.mp x))]
  have no2 : ∀ (v : zW) q, v.1 60 8 = nI (min (zAo T e) 3) → ¬ zAo T e = 2 → lpX7_advance_207 (q + 1) v = some v := fun v q hv c => by rw [lpX7_advance_207, hv, if_neg (fun x => c (q2.mp x))]
  have fz : zF = 999999999999 + 1 := rfl
  by_cases c3 : 3 ≤ zAo T e
  · have en : zAe T e = zAs T e + 1 := by unfold zAe; rw [if_neg (by omega), if_neg (by omega), if_neg (by omega)]
    have B8 : (zsf a 60 10 (nI (zAs T e + 1))).1 60 8 = nI (min (zAo T e) 3) := by rw [zsf_k (by omega), A8]
    have B : zF1 60 (fun k => 8 ≤ k ∧ k ≤ 12) w (zsf a 60 10 (nI (zAs T e + 1))) := A.trs (zF1.f (by omega))
    rw [if_pos (q3.mpr c3), A10, nI_1, Option.bind_some, Option.bind_some, fz, no1 _ _ B8 (by omega), Option.bind_some, no2 _ _ B8 (by omega), Option.bind_some]
    refine ⟨_, rfl, B, hw.k B (by omega), by rw [zsf_k (by omega), A9], by rw [zsf_same, en], B8, fun c => by omega, fun _ => ?_, fun c => by omega⟩
    rw [zsf_k (by omega), A12, if_neg (by omega), zBi_oth _ bl (by rw [oe]; exact c3)]
  · rw [if_neg (fun q => c3 (q3.mp q)), Option.bind_some]
    by_cases c1 : zAo T e = 1
    · have en : zAe T e = zSc (zIsL T) 120 (zAs T e) := by unfold zAe; rw [if_neg (by omega), if_pos c1]
      obtain ⟨u, u1, u2, u3, u4⟩ := m_word hT sl 120 0 a (by omega) sl ha (by rw [A8, c1]; rfl) A9 A10 (by rw [A11]; rfl) zF (by unfold zF; omega)
      have U8 : u.1 60 8 = nI (min (zAo T e) 3) := by rw [u2.2 8 (by omega), A8]
      have U : zF1 60 (fun k => 8 ≤ k ∧ k ≤ 12) w u := A.trs (u2.mono (fun i h => by omega))
      have n2 := no2 u 999999999999 U8 (by omega)
      rw [← fz] at n2
      rw [u1, Option.bind_some, n2, Option.bind_some]
      refine ⟨u, rfl, U, hw.k U (by omega), by rw [u2.2 9 (by omega), A9], ?_, U8, fun c => by omega, fun c => by omega, fun _ => ?_⟩
      · rw [en]; exact u3
      · rw [en]; exact u4
    · have n1 := no1 a 999999999999 A8 c1
      rw [← fz] at n1
      rw [n1, Option.bind_some]
      by_cases c2 : zAo T e = 2
      · have en : zAe T e = zSc (zIsD T) 120 (zAs T e) := by unfold zAe; rw [if_neg (by omega), if_neg c1, if_pos c2]
        obtain ⟨u, u1, u2, u3, u4⟩ := m_num hT 120 (zAs T e) 0 a (by omega) sl (by omega) ha (by rw [A8, c2]; rfl) A10 (by rw [A12, if_pos c2]; rfl) zF (by unfold zF; omega)
        have U : zF1 60 (fun k => 8 ≤ k ∧ k ≤ 12) w u := A.trs (u2.mono (fun i h => by omega))
        rw [u1, Option.bind_some]
        exact ⟨u, rfl, U, hw.k U (by omega), by rw [u2.2 9 (by omega), A9], by rw [u3, en], by rw [u2.2 8 (by omega), A8], fun _ => u4, fun c => by omega, fun c => absurd c c1⟩
      · have en : zAe T e = zAs T e := by unfold zAe; rw [if_pos (by omega)]
        have n2 := no2 a 999999999999 A8 c2
        rw [← fz] at n2
        rw [n2, Option.bind_some]
        exact ⟨a, rfl, A, ha, A9, by rw [A10, en], A8, fun c => absurd c c2, fun c => absurd c c3, fun c => absurd c c1⟩
end RADV
