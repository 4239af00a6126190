def zSea (S : zLd) : Nat := zfl (fun k a => if zHt S a ≤ zHt S k then a else k) 1 (zNv S - 1) 0
def zPeak (S : zLd) : Nat := zfl (fun k a => if zHt S k ≤ zHt S a then a else k) 1 (zNv S - 1) 0
theorem zSea_lt {S : zLd} (h : 0 < zNv S) : zSea S < zNv S := by
  have := zfl_inv (g := fun k a => if zHt S a ≤ zHt S k then a else k) (fun _ a => a < zNv S) (N := zNv S) (fun k a hk ha => by show (if _ then _ else _) < _; split <;> assumption) (zNv S - 1) 1 0 (by omega) h
  exact this
theorem zPeak_lt {S : zLd} (h : 0 < zNv S) : zPeak S < zNv S := by
  have := zfl_inv (g := fun k a => if zHt S k ≤ zHt S a then a else k) (fun _ a => a < zNv S) (N := zNv S) (fun k a hk ha => by show (if _ then _ else _) < _; split <;> assumption) (zNv S - 1) 1 0 (by omega) h
  exact this
section SEA
variable {w : zW} {o : Nat} {S : zLd}
theorem cx_sea (hS : zWf S) (h : zCX w o S) : fX0_lowest w o = some (nI (zSea S)) := by
  have hn := hS.nv
  unfold fX0_lowest
  by_cases h0 : zNv S = 0
  · rw [show zF = 999999999999 + 1 from rfl, lpX0_lowest_4, h.1.1, h0, if_pos (by decide)]
    unfold zSea
    rw [h0]
    rfl
  · have := zfold (L := lpX0_lowest_4 w o) (N := zNv S) (c := nI) (g := fun k a => if zHt S a ≤ zHt S k then a else k) (fun _ a => a < zNv S)
      (fun n a _ => by rw [lpX0_lowest_4, h.1.1, if_pos (by rw [nI_leI (by omega) (by omega)]; omega)])
      (fun k a hk ha => by show (if _ then _ else _) < _; split <;> assumption)
      (fun n k a hk ha => by
        have x1 := hS.ht a ha
        have x2 := hS.ht k hk
        have p : (nI (zHt S a) ≤ nI (zHt S k)) = (zHt S a ≤ zHt S k) := propext (nI_leI (by omega) (by omega))
        rw [lpX0_lowest_4, h.1.1, if_neg (by rw [nI_leI (by omega) (by omega)]; omega), zrd_nI (by omega) (by omega), Option.bind_some, zrd_nI (by omega) (by omega), Option.bind_some, (h.2.1 a ha).1, (h.2.1 k hk).1, nI_1]
        simp only [p]
        by_cases c : zHt S a ≤ zHt S k <;> simp [c]) zF 1 0 (by omega) (by unfold zF; omega) (by omega)
    rw [show lpX0_lowest_4 w o zF 0 1 = lpX0_lowest_4 w o zF (nI 0) (nI 1) from rfl, this]
    rfl
theorem cx_peak (hS : zWf S) (h : zCX w o S) : fX0_highest w o = some (nI (zPeak S)) := by
  have hn := hS.nv
  unfold fX0_highest
  by_cases h0 : zNv S = 0
  · rw [show zF = 999999999999 + 1 from rfl, lpX0_highest_4, h.1.1, h0, if_pos (by decide)]
    unfold zPeak
    rw [h0]
    rfl
  · have := zfold (L := lpX0_highest_4 w o) (N := zNv S) (c := nI) (g := fun k a => if zHt S k ≤ zHt S a then a else k) (fun _ a => a < zNv S)
      (fun n a _ => by rw [lpX0_highest_4, h.1.1, if_pos (by rw [nI_leI (by omega) (by omega)]; omega)])
      (fun k a hk ha => by show (if _ then _ else _) < _; split <;> assumption)
      (fun n k a hk ha => by
        have x1 := hS.ht a ha
        have x2 := hS.ht k hk
        have p : (nI (zHt S k) ≤ nI (zHt S a)) = (zHt S k ≤ zHt S a) := propext (nI_leI (by omega) (by omega))
        rw [lpX0_highest_4, h.1.1, if_neg (by rw [nI_leI (by omega) (by omega)]; omega), zrd_nI (by omega) (by omega), Option.bind_some, zrd_nI (by omega) (by omega), Option.bind_some, (h.2.1 a ha).1, (h.2.1 k hk).1, nI_1]
        simp only [p]
        by_cases c : zHt S k ≤ zHt S a <;> simp [c]) zF 1 0 (by omega) (by unfold zF; omega) (by omega)
    rw [show lpX0_highest_4 w o zF 0 1 = lpX0_highest_4 w o zF (nI 0) (nI 1) from rfl, this]
    rfl
theorem mx_sea (hS : zWf S) (h : zMX w 61 S) : fX7_theSea w = some (nI (zSea S)) := by
  have hn := hS.nv
  unfold fX7_theSea
  by_cases h0 : zNv S = 0
  · rw [show zF = 999999999999 + 1 from rfl, lpX7_theSea_4, mx_0 h, Option.bind_some, h0, if_pos (by decide)]
    unfold zSea
    rw [h0]
    rfl
  · have := zfold (L := lpX7_theSea_4 w) (N := zNv S) (c := nI) (g := fun k a => if zHt S a ≤ zHt S k then a else k) (fun _ a => a < zNv S)
      (fun n a _ => by rw [lpX7_theSea_4, mx_0 h, Option.bind_some, if_pos (by rw [nI_leI (by omega) (by omega)]; omega)])
      (fun k a hk ha => by show (if _ then _ else _) < _; split <;> assumption)
      (fun n k a hk ha => by
        have x1 := hS.ht a ha
        have x2 := hS.ht k hk
        have p : (nI (zHt S a) ≤ nI (zHt S k)) = (zHt S a ≤ zHt S k) := propext (nI_leI (by omega) (by omega))
        rw [lpX7_theSea_4, mx_0 h, Option.bind_some, if_neg (by rw [nI_leI (by omega) (by omega)]; omega), mx_ht hS h hk, Option.bind_some, mx_ht hS h ha, Option.bind_some, nI_1]
        simp only [p]
        by_cases c : zHt S a ≤ zHt S k <;> simp [c]) zF 1 0 (by omega) (by unfold zF; omega) (by omega)
    rw [show lpX7_theSea_4 w zF 0 1 = lpX7_theSea_4 w zF (nI 0) (nI 1) from rfl, this]
    rfl
theorem mx_peak (hS : zWf S) (h : zMX w 61 S) : fX7_thePeak w = some (nI (zPeak S)) := by
  have hn := hS.nv
  unfold fX7_thePeak
  by_cases h0 : zNv S = 0
  · rw [show zF = 999999999999 + 1 from rfl, lpX7_thePeak_4, mx_0 h, Option.bind_some, h0, if_pos (by decide)]
    unfold zPeak
    rw [h0]
    rfl
  · have := zfold (L := lpX7_thePeak_4 w) (N := zNv S) (c := nI) (g := fun k a => if zHt S k ≤ zHt S a then a else k) (fun _ a => a < zNv S)
      (fun n a _ => by rw [lpX7_thePeak_4, mx_0 h, Option.bind_some, if_pos (by rw [nI_leI (by omega) (by omega)]; omega)])
      (fun k a hk ha => by show (if _ then _ else _) < _; split <;> assumption)
      (fun n k a hk ha => by
        have x1 := hS.ht a ha
        have x2 := hS.ht k hk
        have p : (nI (zHt S k) ≤ nI (zHt S a)) = (zHt S k ≤ zHt S a) := propext (nI_leI (by omega) (by omega))
        rw [lpX7_thePeak_4, mx_0 h, Option.bind_some, if_neg (by rw [nI_leI (by omega) (by omega)]; omega), mx_ht hS h hk, Option.bind_some, mx_ht hS h ha, Option.bind_some, nI_1]
        simp only [p]
        by_cases c : zHt S k ≤ zHt S a <;> simp [c]) zF 1 0 (by omega) (by unfold zF; omega) (by omega)
    rw [show lpX7_thePeak_4 w zF 0 1 = lpX7_thePeak_4 w zF (nI 0) (nI 1) from rfl, this]
    rfl
end SEA
theorem op_sea : zOp (fun w => fX6_sea w) (fun w => fX7_sea w) := by
  intro w hI
  show ∃ r u v, fX6_sea w = some (r, u) ∧ fX7_sea u = some (r, v) ∧ zInv v
  obtain ⟨S, hS, hC, hM⟩ := hI.1
  have hn := hS.nv
  have hF := zff_mx (k := 3) hM (by omega)
  by_cases h0 : nI (zNv S) = 0
  · exact ⟨zB3, zff w 3, zfg (zff w 3) 3, by simp only [fX6_sea, hC.1.1, if_pos h0, x6_f3, zb2_some], by simp only [fX7_sea, mx_0 hF, Option.bind_some, if_pos h0, x7_f3, zb2_some], hI.find (k := 3) (by omega)⟩
  · exact ⟨nI (zSea S), w, w, by simp only [fX6_sea, hC.1.1, if_neg h0, cx_sea hS hC, Option.bind_some], by simp only [fX7_sea, mx_0 hM, Option.bind_some, if_neg h0, mx_sea hS hM], hI⟩
theorem op_peak : zOp (fun w => fX6_peak w) (fun w => fX7_peak w) := by
  intro w hI
  show ∃ r u v, fX6_peak w = some (r, u) ∧ fX7_peak u = some (r, v) ∧ zInv v
  obtain ⟨S, hS, hC, hM⟩ := hI.1
  have hn := hS.nv
  have hF := zff_mx (k := 3) hM (by omega)
  by_cases h0 : nI (zNv S) = 0
  · exact ⟨zB3, zff w 3, zfg (zff w 3) 3, by simp only [fX6_peak, hC.1.1, if_pos h0, x6_f3, zb2_some], by simp only [fX7_peak, mx_0 hF, Option.bind_some, if_pos h0, x7_f3, zb2_some], hI.find (k := 3) (by omega)⟩
  · exact ⟨nI (zPeak S), w, w, by simp only [fX6_peak, hC.1.1, if_neg h0, cx_peak hS hC, Option.bind_some], by simp only [fX7_peak, mx_0 hM, Option.bind_some, if_neg h0, mx_peak hS hM], hI⟩
