/-! small functions of class and reference, over a land -/
theorem zgb_0 : zgb 0 = some 0 := rfl
theorem zgb_1 : zgb 1 = some 1 := rfl
theorem in_y {w : zW} {n v : Nat} (h : v < n) (hn : n < 2 ^ 30) : fX7_in w (nI v) 0 (nI n - 1) = some 1 := by
  unfold fX7_in
  rw [if_neg (nI_pos (by omega)), if_neg]
  rw [Int32.lt_iff_toInt_lt, zL1, pk_sub_toInt hn (by omega), nI_toInt (by omega)]
  omega
theorem in_n {w : zW} {n : Nat} {x : Int32} (h : x < 0 ∨ nI n ≤ x) (hn : n < 2 ^ 30) : fX7_in w x 0 (nI n - 1) = some 0 := by
  unfold fX7_in
  rcases h with h | h
  · rw [if_pos h]
  · by_cases h0 : x < 0
    · rw [if_pos h0]
    · rw [if_neg h0, if_pos]
      rw [Int32.le_iff_toInt_le, nI_toInt (by omega)] at h
      rw [Int32.lt_iff_toInt_lt, zL1, pk_sub_toInt hn (by omega)]
      omega
theorem in_k_y {w : zW} {v : Nat} (h : v < 6) : fX7_isKind w (nI v) = some 1 := by
  unfold fX7_isKind
  rw [show (5 : Int32) = nI 6 - 1 by decide, in_y h (by omega)]
  rfl
theorem in_k_n {w : zW} {x : Int32} (h : x < 0 ∨ nI 6 ≤ x) : fX7_isKind w x = some 0 := by
  unfold fX7_isKind
  rw [show (5 : Int32) = nI 6 - 1 by decide, in_n h (by omega)]
  rfl
theorem ck_y {w : zW} {v : Nat} (h : v < 6) : fX6_isKind w (nI v) = some 1 := by
  unfold fX6_isKind
  rw [if_neg (nI_pos (by omega)), if_neg (by rw [zL6, nI_leI (by omega) (by omega)]; omega)]
theorem ck_n {w : zW} {x : Int32} (h : x < 0 ∨ nI 6 ≤ x) : fX6_isKind w x = some 0 := by
  unfold fX6_isKind
  rcases h with h | h
  · rw [if_pos h]
  · by_cases h0 : x < 0
    · rw [if_pos h0]
    · rw [if_neg h0, if_pos (show (6 : Int32) ≤ x from h)]
theorem ch_y {w : zW} {v : Nat} (h : v < 10000) : fX6_isHeight w (nI v) = some 1 := by
  unfold fX6_isHeight
  rw [if_neg (nI_pos (by omega)), if_neg (by rw [zL9999, nI_ltI (by omega) (by omega)]; omega)]
theorem ch_n {w : zW} {x : Int32} (h : x < 0 ∨ nI 10000 ≤ x) : fX6_isHeight w x = some 0 := by
  unfold fX6_isHeight
  by_cases h0 : x < 0
  · rw [if_pos h0]
  · rw [if_neg h0, if_pos]
    rcases h with h | h
    · exact absurd h h0
    · obtain ⟨j, hj, rfl⟩ := nI_of h0
      rw [nI_leI (by omega) hj] at h
      rw [zL9999, nI_ltI (by omega) hj]
      omega
section CX
variable {w : zW} {o : Nat} {S : zLd}
theorem cx_hv_y (hS : zWf S) (h : zCX w o S) {v : Nat} (hv : v < zNv S) : fX0_hasVillage w o (nI v) = some 1 := by
  have := hS.nv
  unfold fX0_hasVillage
  rw [if_neg (nI_pos (by omega)), h.1.1, if_neg (by rw [nI_leI (by omega) (by omega)]; omega)]
theorem cx_hv_n (h : zCX w o S) {x : Int32} (hx : x < 0 ∨ nI (zNv S) ≤ x) : fX0_hasVillage w o x = some 0 := by
  unfold fX0_hasVillage
  by_cases h0 : x < 0
  · rw [if_pos h0]
  · rw [if_neg h0, h.1.1, if_pos (hx.resolve_left h0)]
theorem cx_hr_y (hS : zWf S) (h : zCX w o S) {v : Nat} (hv : v < zNr S) : fX0_hasRoad w o (nI v) = some 1 := by
  have := hS.nr
  unfold fX0_hasRoad
  rw [if_neg (nI_pos (by omega)), h.1.2.1, if_neg (by rw [nI_leI (by omega) (by omega)]; omega)]
theorem cx_hr_n (h : zCX w o S) {x : Int32} (hx : x < 0 ∨ nI (zNr S) ≤ x) : fX0_hasRoad w o x = some 0 := by
  unfold fX0_hasRoad
  by_cases h0 : x < 0
  · rw [if_pos h0]
  · rw [if_neg h0, h.1.2.1, if_pos (hx.resolve_left h0)]
theorem cx_hl_y (hS : zWf S) (h : zCX w o S) {v : Nat} (hv : v < zNl S) : fX0_hasLetter w o (nI v) = some 1 := by
  have := hS.nl
  unfold fX0_hasLetter
  rw [if_neg (nI_pos (by omega)), h.1.2.2.1, if_neg (by rw [nI_leI (by omega) (by omega)]; omega)]
theorem cx_hl_n (h : zCX w o S) {x : Int32} (hx : x < 0 ∨ nI (zNl S) ≤ x) : fX0_hasLetter w o x = some 0 := by
  unfold fX0_hasLetter
  by_cases h0 : x < 0
  · rw [if_pos h0]
  · rw [if_neg h0, h.1.2.2.1, if_pos (hx.resolve_left h0)]
theorem cx_ht (hS : zWf S) (h : zCX w o S) {v : Nat} (hv : v < zNv S) : fX0_heightOf w o (nI v) = some (nI (zHt S v)) := by
  have := hS.nv
  unfold fX0_heightOf
  rw [cx_hv_y hS h hv, Option.bind_some, if_neg (by decide), zrd_nI (by omega) (by omega), Option.bind_some, (h.2.1 v hv).1]
theorem cx_sh (hS : zWf S) (h : zCX w o S) {v : Nat} (hv : v < zNv S) {x : Int32} : fX0_setHeight w o (nI v) x = some (zsf w (o + 1) v x) := by
  have := hS.nv
  unfold fX0_setHeight
  rw [cx_hv_y hS h hv, Option.bind_some, if_neg (by decide), zwr_nI (by omega) (by omega), Option.bind_some]
theorem bt_sh {x : Int32} {v : Nat} (hv : v < 32) : ((x >>> (nI v &&& 31)) &&& 1) = if bt x v then 1 else 0 := by
  apply b_ext
  intro i hi
  rw [b_and, b_sshr v hv x hi]
  have e : ∀ i, i < 32 → bt (1 : Int32) i = decide (i = 0) := by decide +kernel
  rw [e i hi]
  by_cases h0 : i = 0
  · subst h0
    rw [Nat.add_zero, if_pos hv]
    cases bt x v <;> decide
  · simp only [h0, decide_false, Bool.and_false]
    cases bt x v
    · exact (b_0 i).symm
    · simp only [if_true]; rw [e i hi]; simp [h0]
theorem cx_hm (hS : zWf S) (h : zCX w o S) {v : Nat} (hv : v < zNv S) : fX0_isHermits w o (nI v) = some (if zHm S v then 1 else 0) := by
  have := hS.nv
  unfold fX0_isHermits
  rw [bt_sh (by omega), (h.2.1 v hv).2]
  cases zHm S v <;> rfl
end CX
section MX
variable {w : zW} {S : zLd}
theorem mx_0 (h : zMX w 61 S) : zrd w 61 151 0 = some (nI (zNv S)) := by rw [zL0, zrd_nI (by omega) (by omega), h.1.1]
theorem mx_1 (h : zMX w 61 S) : zrd w 61 151 1 = some (nI (zNr S)) := by rw [zL1, zrd_nI (by omega) (by omega), h.1.2.1]
theorem mx_2 (h : zMX w 61 S) : zrd w 61 151 2 = some (nI (zNl S)) := by rw [zL2, zrd_nI (by omega) (by omega), h.1.2.2.1]
theorem mx_3 (h : zMX w 61 S) : zrd w 61 151 3 = some (nI (zEv S)) := by rw [zL3, zrd_nI (by omega) (by omega), h.1.2.2.2.1]
theorem mx_4 (h : zMX w 61 S) : zrd w 61 151 4 = some (nI (zDy S)) := by rw [zL4, zrd_nI (by omega) (by omega), h.1.2.2.2.2]
theorem mx_hv_y (hS : zWf S) (h : zMX w 61 S) {v : Nat} (hv : v < zNv S) : fX7_isVillage w (nI v) = some 1 := by
  have := hS.nv
  unfold fX7_isVillage
  rw [mx_0 h, Option.bind_some, in_y hv (by omega)]
  rfl
theorem mx_hv_n (hS : zWf S) (h : zMX w 61 S) {x : Int32} (hx : x < 0 ∨ nI (zNv S) ≤ x) : fX7_isVillage w x = some 0 := by
  have := hS.nv
  unfold fX7_isVillage
  rw [mx_0 h, Option.bind_some, in_n hx (by omega)]
  rfl
theorem mx_hr_y (hS : zWf S) (h : zMX w 61 S) {v : Nat} (hv : v < zNr S) : fX7_isRoad w (nI v) = some 1 := by
  have := hS.nr
  unfold fX7_isRoad
  rw [mx_1 h, Option.bind_some, in_y hv (by omega)]
  rfl
theorem mx_hr_n (hS : zWf S) (h : zMX w 61 S) {x : Int32} (hx : x < 0 ∨ nI (zNr S) ≤ x) : fX7_isRoad w x = some 0 := by
  have := hS.nr
  unfold fX7_isRoad
  rw [mx_1 h, Option.bind_some, in_n hx (by omega)]
  rfl
theorem mx_hl_y (hS : zWf S) (h : zMX w 61 S) {v : Nat} (hv : v < zNl S) : fX7_isPost w (nI v) = some 1 := by
  have := hS.nl
  unfold fX7_isPost
  rw [mx_2 h, Option.bind_some, in_y hv (by omega)]
  rfl
theorem mx_hl_n (hS : zWf S) (h : zMX w 61 S) {x : Int32} (hx : x < 0 ∨ nI (zNl S) ≤ x) : fX7_isPost w x = some 0 := by
  have := hS.nl
  unfold fX7_isPost
  rw [mx_2 h, Option.bind_some, in_n hx (by omega)]
  rfl
theorem ix2 (v : Nat) : (5 : Int32) + (2 : Int32) * nI v = nI (5 + 2 * v) := by rw [zL5, zL2, pk_mul, nI_add]
theorem ix3 (v : Nat) : (29 : Int32) + (3 : Int32) * nI v = nI (29 + 3 * v) := by rw [zL29, zL3, pk_mul, nI_add]
theorem ix5 (v : Nat) : (101 : Int32) + (5 : Int32) * nI v = nI (101 + 5 * v) := by rw [zL101, zL5, pk_mul, nI_add]
theorem mx_ht (hS : zWf S) (h : zMX w 61 S) {v : Nat} (hv : v < zNv S) : fX7_height w (nI v) = some (nI (zHt S v)) := by
  have := hS.nv
  unfold fX7_height
  rw [ix2, zrd_nI (by omega) (by omega), Option.bind_some, (h.2.1 v hv).1]
theorem mx_hmr (hS : zWf S) (h : zMX w 61 S) {v : Nat} (hv : v < zNv S) : zrd w 61 151 ((5 : Int32) + (2 : Int32) * nI v + 1) = some (if zHm S v then 1 else 0) := by
  have := hS.nv
  rw [ix2, zL1, nI_add, zrd_nI (by omega) (by omega), (h.2.1 v hv).2]
  rfl
theorem mx_hm (hS : zWf S) (h : zMX w 61 S) {v : Nat} (hv : v < zNv S) : fX7_isHermits w (nI v) = some (if zHm S v then 1 else 0) := by
  unfold fX7_isHermits
  rw [mx_hmr hS h hv, Option.bind_some]
  cases zHm S v <;> rfl
theorem mx_end0 (hS : zWf S) (h : zMX w 61 S) {r : Nat} (hr : r < zNr S) : fX7_end w (nI r) 0 = some (nI (zOn S r)) := by
  have := hS.nr
  unfold fX7_end
  rw [ix3, zL0, nI_add, Nat.add_zero, zrd_nI (by omega) (by omega), Option.bind_some, (h.2.2.1 r hr).1]
theorem mx_end1 (hS : zWf S) (h : zMX w 61 S) {r : Nat} (hr : r < zNr S) : fX7_end w (nI r) 1 = some (nI (zOt S r)) := by
  have := hS.nr
  unfold fX7_end
  rw [ix3, zL1, nI_add, zrd_nI (by omega) (by omega), Option.bind_some, (h.2.2.1 r hr).2.1]
theorem mx_end2 (hS : zWf S) (h : zMX w 61 S) {r : Nat} (hr : r < zNr S) : fX7_end w (nI r) 2 = some (nI (zLn S r)) := by
  have := hS.nr
  unfold fX7_end
  rw [ix3, zL2, nI_add, zrd_nI (by omega) (by omega), Option.bind_some, (h.2.2.1 r hr).2.2]
theorem mx_its0 (hS : zWf S) (h : zMX w 61 S) {l : Nat} (hl : l < zNl S) : fX7_its w (nI l) 0 = some (nI (zKd S l)) := by
  have := hS.nl
  unfold fX7_its
  rw [ix5, zL0, nI_add, Nat.add_zero, zrd_nI (by omega) (by omega), Option.bind_some, (h.2.2.2 l hl).1]
theorem mx_its1 (hS : zWf S) (h : zMX w 61 S) {l : Nat} (hl : l < zNl S) : fX7_its w (nI l) 1 = some (nI (zPl S l)) := by
  have := hS.nl
  unfold fX7_its
  rw [ix5, zL1, nI_add, zrd_nI (by omega) (by omega), Option.bind_some, (h.2.2.2 l hl).2.1]
theorem mx_its2 (hS : zWf S) (h : zMX w 61 S) {l : Nat} (hl : l < zNl S) : fX7_its w (nI l) 2 = some (nI (zTo S l)) := by
  have := hS.nl
  unfold fX7_its
  rw [ix5, zL2, nI_add, zrd_nI (by omega) (by omega), Option.bind_some, (h.2.2.2 l hl).2.2.1]
theorem mx_its3 (hS : zWf S) (h : zMX w 61 S) {l : Nat} (hl : l < zNl S) : fX7_its w (nI l) 3 = some (nI (zSn S l)) := by
  have := hS.nl
  unfold fX7_its
  rw [ix5, zL3, nI_add, zrd_nI (by omega) (by omega), Option.bind_some, (h.2.2.2 l hl).2.2.2.1]
theorem mx_its4 (hS : zWf S) (h : zMX w 61 S) {l : Nat} (hl : l < zNl S) : fX7_its w (nI l) 4 = some (nI (zLf S l)) := by
  have := hS.nl
  unfold fX7_its
  rw [ix5, zL4, nI_add, zrd_nI (by omega) (by omega), Option.bind_some, (h.2.2.2 l hl).2.2.2.2]
theorem mx_sets {l j : Nat} (hl : l < 10) (hj : j < 5) {x : Int32} : fX7_sets w (nI l) (nI j) x = some (zsf w 61 (101 + 5 * l + j) x) := by
  unfold fX7_sets
  rw [ix5, nI_add, zwr_nI (by omega) (by omega), Option.bind_some]
end MX
/-- class part and reference part: only the land, what is worked with, and the reference's own have changed -/
theorem zInv.land {w v : zW} {S : zLd} (hI : zInv w) (hS : zWf S) (hC : zCX v 10 S) (hM : zMX v 61 S) (E : zE (fun o => (10 ≤ o ∧ o < 20) ∨ (30 ≤ o ∧ o < 43) ∨ o = 61 ∨ o = 63 ∨ o = 64 ∨ o = 71) w v) : zInv v := by
  obtain ⟨_, d, e, f, g⟩ := hI
  exact ⟨⟨S, hS, hC, hM⟩, d.keep (E 46 (by omega)).1 (E 62 (by omega)).1, e.keep (E 43 (by omega)).1 (E 44 (by omega)).1 (by rw [(E 60 (by omega)).1]) (E 65 (by omega)).1, f.keep (fun o h1 h2 => E o (by omega)) (E 66 (by omega)).1 (E 67 (by omega)).1 (E 68 (by omega)).2, g.keep (by rw [(E 0 (by omega)).1]) (by rw [(E 60 (by omega)).1]) (fun j hj => (E _ (by omega)).1) (E 70 (by omega)).1⟩
/-- nothing of the land has changed -/
theorem zInv.calm {w v : zW} (hI : zInv w) (E : zE (fun o => (30 ≤ o ∧ o < 43) ∨ o = 63 ∨ o = 64 ∨ o = 71) w v) : zInv v := by
  obtain ⟨S, hS, hC, hM⟩ := hI.1
  exact hI.land hS (hC.keep (fun j hj => (E _ (by omega)).1)) (hM.keep (E 61 (by omega)).1) (E.mono (fun o h => by omega))
theorem zE.tr' {P Q T : Nat → Prop} {w u v : zW} (h : zE P w u) (k : zE Q u v) (h1 : ∀ o, P o → T o) (h2 : ∀ o, Q o → T o) : zE T w v := (h.mono h1).trs (k.mono h2)
theorem zfind {F G : zW → Option (Int32 × zW)} {w : zW} {k : Nat} (hI : zInv w) (hk : k < 7) (hF : F w = some (zfc k, zff w k)) (hG : G (zff w k) = some (zfc k, zfg (zff w k) k)) : ∃ r u v, F w = some (r, u) ∧ G u = some (r, v) ∧ zInv v := ⟨_, _, _, hF, hG, hI.find hk⟩
theorem zff_mx {w : zW} {k p : Nat} {S : zLd} (h : zMX w p S) (hp : p ≠ 46) : zMX (zff w k) p S := h.keep (by unfold zff; rw [zsf_o hp])
theorem x6_f0 (w : zW) : fX6_finding w (-1000000001 : Int32) = some ((-1000000001 : Int32), zff w 0) := x6_finding (k := 0) (by omega)
theorem x6_f1 (w : zW) : fX6_finding w (-1000000002 : Int32) = some ((-1000000002 : Int32), zff w 1) := x6_finding (k := 1) (by omega)
theorem x6_f2 (w : zW) : fX6_finding w (-1000000003 : Int32) = some ((-1000000003 : Int32), zff w 2) := x6_finding (k := 2) (by omega)
theorem x6_f3 (w : zW) : fX6_finding w (-1000000004 : Int32) = some ((-1000000004 : Int32), zff w 3) := x6_finding (k := 3) (by omega)
theorem x6_f4 (w : zW) : fX6_finding w (-1000000005 : Int32) = some ((-1000000005 : Int32), zff w 4) := x6_finding (k := 4) (by omega)
theorem x6_f5 (w : zW) : fX6_finding w (-1000000006 : Int32) = some ((-1000000006 : Int32), zff w 5) := x6_finding (k := 5) (by omega)
theorem x6_f6 (w : zW) : fX6_finding w (-1000000007 : Int32) = some ((-1000000007 : Int32), zff w 6) := x6_finding (k := 6) (by omega)
theorem x7_f0 (w : zW) : fX7_finds w (-1000000001 : Int32) = some ((-1000000001 : Int32), zfg w 0) := x7_finds (k := 0) (by omega)
theorem x7_f1 (w : zW) : fX7_finds w (-1000000002 : Int32) = some ((-1000000002 : Int32), zfg w 1) := x7_finds (k := 1) (by omega)
theorem x7_f2 (w : zW) : fX7_finds w (-1000000003 : Int32) = some ((-1000000003 : Int32), zfg w 2) := x7_finds (k := 2) (by omega)
theorem x7_f3 (w : zW) : fX7_finds w (-1000000004 : Int32) = some ((-1000000004 : Int32), zfg w 3) := x7_finds (k := 3) (by omega)
theorem x7_f4 (w : zW) : fX7_finds w (-1000000005 : Int32) = some ((-1000000005 : Int32), zfg w 4) := x7_finds (k := 4) (by omega)
theorem x7_f5 (w : zW) : fX7_finds w (-1000000006 : Int32) = some ((-1000000006 : Int32), zfg w 5) := x7_finds (k := 5) (by omega)
theorem x7_f6 (w : zW) : fX7_finds w (-1000000007 : Int32) = some ((-1000000007 : Int32), zfg w 6) := x7_finds (k := 6) (by omega)
theorem zb2_some {α β ρ : Type} (a : α) (b : β) (f : α → β → Option ρ) : zb2 (some (a, b)) f = f a b := rfl
