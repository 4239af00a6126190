/-! one step of the law's loop, and all of them -/
theorem stp {F G : zW → Option (Int32 × zW)} {K : zW → Option zW} {w : zW} (h : zOp F G) (hI : zInv w) : ∃ v, zInv v ∧ (zb2 (F w) fun r u => zb2 (G u) fun q v => (if r = q then (K v) else (none))) = K v := by
  obtain ⟨r, u, v, h1, h2, h3⟩ := h w hI
  refine ⟨v, h3, ?_⟩
  rw [h1, zb2_some, h2, zb2_some, if_pos rfl]
theorem stp64 {F G : zW → Option (Int64 × zW)} {K : zW → Option zW} {w : zW} (h : zOp64 F G) (hI : zInv w) : ∃ v, zInv v ∧ (zb2 (F w) fun r u => zb2 (G u) fun q v => (if (lg_cmp r q) = 0 then (K v) else (none))) = K v := by
  obtain ⟨r, u, v, h1, h2, h3⟩ := h w hI
  refine ⟨v, h3, ?_⟩
  rw [h1, zb2_some, h2, zb2_some, if_pos (lg0.mpr rfl)]
theorem zbl (y : Int32) : ∃ b : Bool, (if y = 0 then some (0 : Int32) else some (1 : Int32)) = some (if b = true then 1 else 0) := by
  by_cases c : y = 0
  · exact ⟨false, by rw [if_pos c]; rfl⟩
  · exact ⟨true, by rw [if_neg c]; rfl⟩
theorem zrs_nI {L : Nat} {xs : Nat → Int32} {k : Nat} (h : k < L) (hL : L ≤ 3072) : zrs L xs (nI k) = some (xs k) := by
  unfold zrs
  rw [if_neg (nI_in h (by omega)), nI_clamp (by omega)]
set_option maxRecDepth 100000 in
set_option maxHeartbeats 40000000 in
theorem law_step {L : Nat} {xs : Nat → Int32} (hL : L ≤ 3072) {k n : Nat} {w : zW} (hk : k + 6 ≤ L) (hI : zInv w) : ∃ v, zInv v ∧ lpL_law L xs (n + 1) w (nI k) = lpL_law L xs n v (nI (k + 6)) := by
  have s0 : zrs L xs (nI k) = some (xs k) := zrs_nI (by omega) hL
  have s1 : zrs L xs (nI k + (1 : Int32)) = some (xs (k + 1)) := by rw [nI_1]; exact zrs_nI (by omega) hL
  have s2 : zrs L xs (nI k + (2 : Int32)) = some (xs (k + 2)) := by rw [zL2, nI_add]; exact zrs_nI (by omega) hL
  have s3 : zrs L xs (nI k + (3 : Int32)) = some (xs (k + 3)) := by rw [zL3, nI_add]; exact zrs_nI (by omega) hL
  have s4 : zrs L xs (nI k + (4 : Int32)) = some (xs (k + 4)) := by rw [zL4, nI_add]; exact zrs_nI (by omega) hL
  have s5 : zrs L xs (nI k + (5 : Int32)) = some (xs (k + 5)) := by rw [zL5, nI_add]; exact zrs_nI (by omega) hL
  have e6 : nI k + 6 = nI (k + 6) := by rw [zL6, nI_add]
  have lt : ¬ (Int32.ofNat L) - (6 : Int32) < nI k := by
    show ¬ nI L - (6 : Int32) < nI k
    rw [Int32.lt_iff_toInt_lt, zL6, pk_sub_toInt (by omega) (by omega), nI_toInt (by omega)]
    omega
  rw [lpL_law, if_neg lt, s0, Option.bind_some, e6]
  generalize xs k &&& (63 : Int32) = t
  by_cases c0 : t = 0
  · rw [if_pos c0]
    simp only [s1, Option.bind_some]
    exact stp (K := fun v => lpL_law L xs n v (nI (k + 6))) (op_village (xs (k + 1))) hI
  rw [if_neg c0]
  by_cases c1 : t = 1
  · rw [if_pos c1]
    simp only [s1, s2, Option.bind_some]
    exact stp (K := fun v => lpL_law L xs n v (nI (k + 6))) (op_villageOf (xs (k + 1)) (xs (k + 2))) hI
  rw [if_neg c1]
  by_cases c2 : t = 2
  · rw [if_pos c2]
    simp only [s1, s2, Option.bind_some]
    exact stp (K := fun v => lpL_law L xs n v (nI (k + 6))) (op_slide (xs (k + 1)) (xs (k + 2))) hI
  rw [if_neg c2]
  by_cases c3 : t = 3
  · rw [if_pos c3]
    obtain ⟨b, hb⟩ := zbl (xs (k + 2))
    simp only [s1, s2, Option.bind_some, hb]
    exact stp (K := fun v => lpL_law L xs n v (nI (k + 6))) (op_hermit (xs (k + 1)) b) hI
  rw [if_neg c3]
  by_cases c4 : t = 4
  · rw [if_pos c4]
    simp only [s1, s2, s3, Option.bind_some]
    exact stp (K := fun v => lpL_law L xs n v (nI (k + 6))) (op_road (xs (k + 1)) (xs (k + 2)) (xs (k + 3))) hI
  rw [if_neg c4]
  by_cases c5 : t = 5
  · rw [if_pos c5]
    simp only [s1, s2, Option.bind_some]
    exact stp (K := fun v => lpL_law L xs n v (nI (k + 6))) (op_roadOf (xs (k + 1)) (xs (k + 2))) hI
  rw [if_neg c5]
  by_cases c6 : t = 6
  · rw [if_pos c6]
    simp only [s1, Option.bind_some]
    exact stp (K := fun v => lpL_law L xs n v (nI (k + 6))) (op_every (xs (k + 1))) hI
  rw [if_neg c6]
  by_cases c7 : t = 7
  · rw [if_pos c7]
    exact stp (K := fun v => lpL_law L xs n v (nI (k + 6))) op_sea hI
  rw [if_neg c7]
  by_cases c8 : t = 8
  · rw [if_pos c8]
    exact stp (K := fun v => lpL_law L xs n v (nI (k + 6))) op_peak hI
  rw [if_neg c8]
  by_cases c9 : t = 9
  · rw [if_pos c9]
    simp only [s1, s2, Option.bind_some]
    exact stp (K := fun v => lpL_law L xs n v (nI (k + 6))) (op_needs (xs (k + 1)) (xs (k + 2))) hI
  rw [if_neg c9]
  by_cases c10 : t = 10
  · rw [if_pos c10]
    obtain ⟨b, hb⟩ := zbl (xs (k + 3))
    simp only [s1, s2, s3, Option.bind_some, hb]
    exact stp (K := fun v => lpL_law L xs n v (nI (k + 6))) (op_goes (xs (k + 1)) (xs (k + 2)) b) hI
  rw [if_neg c10]
  by_cases c11 : t = 11
  · rw [if_pos c11]
    simp only [s1, s2, s3, Option.bind_some]
    exact stp (K := fun v => lpL_law L xs n v (nI (k + 6))) (op_least (xs (k + 1)) (xs (k + 2)) (xs (k + 3))) hI
  rw [if_neg c11]
  by_cases c12 : t = 12
  · rw [if_pos c12]
    simp only [s1, s2, Option.bind_some]
    exact stp (K := fun v => lpL_law L xs n v (nI (k + 6))) (op_reach (xs (k + 1)) (xs (k + 2))) hI
  rw [if_neg c12]
  by_cases c13 : t = 13
  · rw [if_pos c13]
    simp only [s1, s2, Option.bind_some]
    exact stp (K := fun v => lpL_law L xs n v (nI (k + 6))) (op_whence (xs (k + 1)) (xs (k + 2))) hI
  rw [if_neg c13]
  by_cases c14 : t = 14
  · rw [if_pos c14]
    simp only [s1, s2, Option.bind_some]
    exact stp (K := fun v => lpL_law L xs n v (nI (k + 6))) (op_below (xs (k + 1)) (xs (k + 2))) hI
  rw [if_neg c14]
  by_cases c15 : t = 15
  · rw [if_pos c15]
    simp only [s1, s2, s3, Option.bind_some]
    exact stp (K := fun v => lpL_law L xs n v (nI (k + 6))) (op_round (xs (k + 1)) (xs (k + 2)) (xs (k + 3))) hI
  rw [if_neg c15]
  by_cases c16 : t = 16
  · rw [if_pos c16]
    simp only [s1, s2, Option.bind_some]
    exact stp (K := fun v => lpL_law L xs n v (nI (k + 6))) (op_live (xs (k + 1)) (xs (k + 2))) hI
  rw [if_neg c16]
  by_cases c17 : t = 17
  · rw [if_pos c17]
    simp only [s1, Option.bind_some]
    exact stp (K := fun v => lpL_law L xs n v (nI (k + 6))) (op_quiet (xs (k + 1))) hI
  rw [if_neg c17]
  by_cases c18 : t = 18
  · rw [if_pos c18]
    simp only [s1, s2, Option.bind_some]
    exact stp (K := fun v => lpL_law L xs n v (nI (k + 6))) (op_kind (xs (k + 1)) (xs (k + 2))) hI
  rw [if_neg c18]
  by_cases c19 : t = 19
  · rw [if_pos c19]
    simp only [s1, s2, s3, Option.bind_some]
    exact stp (K := fun v => lpL_law L xs n v (nI (k + 6))) (op_rise (xs (k + 1)) (xs (k + 2)) (xs (k + 3))) hI
  rw [if_neg c19]
  by_cases c20 : t = 20
  · rw [if_pos c20]
    simp only [s1, s2, s3, Option.bind_some]
    exact stp (K := fun v => lpL_law L xs n v (nI (k + 6))) (op_fall (xs (k + 1)) (xs (k + 2)) (xs (k + 3))) hI
  rw [if_neg c20]
  by_cases c21 : t = 21
  · rw [if_pos c21]
    simp only [s1, s2, Option.bind_some]
    exact stp (K := fun v => lpL_law L xs n v (nI (k + 6))) (op_dig (xs (k + 1)) (xs (k + 2))) hI
  rw [if_neg c21]
  by_cases c22 : t = 22
  · rw [if_pos c22]
    simp only [s1, s2, s3, Option.bind_some]
    exact stp (K := fun v => lpL_law L xs n v (nI (k + 6))) (op_send (xs (k + 1)) (xs (k + 2)) (xs (k + 3))) hI
  rw [if_neg c22]
  by_cases c23 : t = 23
  · rw [if_pos c23]
    simp only [s1, s2, Option.bind_some]
    exact stp (K := fun v => lpL_law L xs n v (nI (k + 6))) (op_of (xs (k + 1)) (xs (k + 2))) hI
  rw [if_neg c23]
  by_cases c24 : t = 24
  · rw [if_pos c24]
    simp only [s1, s2, Option.bind_some]
    exact stp (K := fun v => lpL_law L xs n v (nI (k + 6))) (op_turn (xs (k + 1)) (xs (k + 2))) hI
  rw [if_neg c24]
  by_cases c25 : t = 25
  · rw [if_pos c25]
    simp only [s1, s2, Option.bind_some]
    exact stp (K := fun v => lpL_law L xs n v (nI (k + 6))) (op_as (xs (k + 1)) (xs (k + 2))) hI
  rw [if_neg c25]
  by_cases c26 : t = 26
  · rw [if_pos c26]
    simp only [s1, Option.bind_some]
    exact stp (K := fun v => lpL_law L xs n v (nI (k + 6))) (op_next (xs (k + 1))) hI
  rw [if_neg c26]
  by_cases c27 : t = 27
  · rw [if_pos c27]
    simp only [s1, Option.bind_some]
    exact stp (K := fun v => lpL_law L xs n v (nI (k + 6))) (op_days (xs (k + 1))) hI
  rw [if_neg c27]
  by_cases c28 : t = 28
  · rw [if_pos c28]
    simp only [s1, Option.bind_some]
    exact stp (K := fun v => lpL_law L xs n v (nI (k + 6))) (op_day (xs (k + 1))) hI
  rw [if_neg c28]
  by_cases c29 : t = 29
  · rw [if_pos c29]
    simp only [s1, Option.bind_some]
    exact stp (K := fun v => lpL_law L xs n v (nI (k + 6))) (op_now (xs (k + 1))) hI
  rw [if_neg c29]
  by_cases c30 : t = 30
  · rw [if_pos c30]
    simp only [s1, s2, Option.bind_some]
    exact stp (K := fun v => lpL_law L xs n v (nI (k + 6))) (op_on (xs (k + 1)) (xs (k + 2))) hI
  rw [if_neg c30]
  by_cases c31 : t = 31
  · rw [if_pos c31]
    simp only [s1, Option.bind_some]
    exact stp (K := fun v => lpL_law L xs n v (nI (k + 6))) (op_when (xs (k + 1))) hI
  rw [if_neg c31]
  by_cases c32 : t = 32
  · rw [if_pos c32]
    simp only [s1, s2, Option.bind_some]
    exact stp (K := fun v => lpL_law L xs n v (nI (k + 6))) (op_first (xs (k + 1)) (xs (k + 2))) hI
  rw [if_neg c32]
  by_cases c33 : t = 33
  · rw [if_pos c33]
    simp only [s1, s2, Option.bind_some]
    exact stp (K := fun v => lpL_law L xs n v (nI (k + 6))) (op_feed (xs (k + 1)) (xs (k + 2))) hI
  rw [if_neg c33]
  by_cases c34 : t = 34
  · rw [if_pos c34]
    exact stp (K := fun v => lpL_law L xs n v (nI (k + 6))) op_wipe hI
  rw [if_neg c34]
  by_cases c35 : t = 35
  · rw [if_pos c35]
    exact stp (K := fun v => lpL_law L xs n v (nI (k + 6))) op_text hI
  rw [if_neg c35]
  by_cases c36 : t = 36
  · rw [if_pos c36]
    simp only [s1, s2, s3, Option.bind_some]
    exact stp (K := fun v => lpL_law L xs n v (nI (k + 6))) (op_sheet (xs (k + 1)) (xs (k + 2)) (xs (k + 3))) hI
  rw [if_neg c36]
  by_cases c37 : t = 37
  · rw [if_pos c37]
    simp only [s1, s2, s3, s4, Option.bind_some]
    exact stp64 (K := fun v => lpL_law L xs n v (nI (k + 6))) (op_write (xs (k + 1)) (xs (k + 2)) _) hI
  rw [if_neg c37]
  by_cases c38 : t = 38
  · rw [if_pos c38]
    simp only [s1, s2, s3, s4, s5, Option.bind_some]
    exact stp (K := fun v => lpL_law L xs n v (nI (k + 6))) (op_copy (xs (k + 1)) (xs (k + 2)) (xs (k + 3)) (xs (k + 4)) (xs (k + 5))) hI
  rw [if_neg c38]
  by_cases c39 : t = 39
  · rw [if_pos c39]
    simp only [s1, Option.bind_some]
    exact stp (K := fun v => lpL_law L xs n v (nI (k + 6))) (op_lays (xs (k + 1))) hI
  rw [if_neg c39]
  by_cases c40 : t = 40
  · rw [if_pos c40]
    simp only [s1, s2, s3, Option.bind_some]
    exact stp (K := fun v => lpL_law L xs n v (nI (k + 6))) (op_table (xs (k + 1)) (xs (k + 2)) (xs (k + 3))) hI
  rw [if_neg c40]
  by_cases c41 : t = 41
  · rw [if_pos c41]
    simp only [s1, s2, Option.bind_some]
    exact stp (K := fun v => lpL_law L xs n v (nI (k + 6))) (op_read (xs (k + 1)) (xs (k + 2))) hI
  rw [if_neg c41]
  by_cases c42 : t = 42
  · rw [if_pos c42]
    exact stp (K := fun v => lpL_law L xs n v (nI (k + 6))) op_image hI
  rw [if_neg c42]
  by_cases c43 : t = 43
  · rw [if_pos c43]
    exact stp (K := fun v => lpL_law L xs n v (nI (k + 6))) op_undo hI
  rw [if_neg c43]
  by_cases c44 : t = 44
  · rw [if_pos c44]
    exact stp (K := fun v => lpL_law L xs n v (nI (k + 6))) op_tear hI
  rw [if_neg c44]
  by_cases c45 : t = 45
  · rw [if_pos c45]
    simp only [s1, Option.bind_some]
    exact stp (K := fun v => lpL_law L xs n v (nI (k + 6))) (op_count (xs (k + 1))) hI
  rw [if_neg c45]
  by_cases c46 : t = 46
  · rw [if_pos c46]
    simp only [s1, Option.bind_some]
    exact stp (K := fun v => lpL_law L xs n v (nI (k + 6))) (op_status (xs (k + 1))) hI
  rw [if_neg c46]
  exact ⟨w, hI, rfl⟩
/-- a land with nothing in it -/
def zS0 : zLd := ((0, 0, 0, 7, 0), fun _ => 0, fun _ => false, fun _ => (0, 0, 0), fun _ => (0, 0, 0, 0, 0))
theorem zS0_wf : zWf zS0 := by
  refine ⟨by decide, by decide, by decide, by decide, by decide, fun v hv => ?_, fun r hr => ?_, fun r q hr => ?_, fun l hl => ?_⟩
  · exact absurd hv (Nat.not_lt_zero _)
  · exact absurd hr (Nat.not_lt_zero _)
  · exact absurd hr (Nat.not_lt_zero _)
  · exact absurd hl (Nat.not_lt_zero _)
theorem zInv0 : zInv zw0 := by
  refine ⟨⟨zS0, zS0_wf, ⟨⟨rfl, rfl, rfl, rfl, rfl⟩, fun v hv => absurd hv (Nat.not_lt_zero _), fun v hv => absurd hv (Nat.not_lt_zero _), fun v hv => absurd hv (Nat.not_lt_zero _)⟩, ⟨⟨rfl, rfl, rfl, rfl, rfl⟩, fun v hv => absurd hv (Nat.not_lt_zero _), fun v hv => absurd hv (Nat.not_lt_zero _), fun v hv => absurd hv (Nat.not_lt_zero _)⟩⟩, fun k hk => rfl, ⟨0, by omega, rfl, rfl, fun i hi => absurd hi (Nat.not_lt_zero _)⟩, fun s hs => ⟨0, 0, Or.inl rfl, by omega, fun _ => rfl, ?_, rfl, ?_, rfl, fun i hi => rfl⟩, Or.inl ⟨rfl, rfl⟩⟩
  · show (if 50 + 2 * s = 61 then _ else if (50 + 2 * s = 10 ∨ 50 + 2 * s = 20 ∨ 50 + 2 * s = 30) then _ else _) = nI 0
    rw [if_neg (by omega), if_neg (by omega)]
    rfl
  · show (if 50 + 2 * s = 61 then _ else if (50 + 2 * s = 10 ∨ 50 + 2 * s = 20 ∨ 50 + 2 * s = 30) then _ else _) = nI 0
    rw [if_neg (by omega), if_neg (by omega)]
    rfl
theorem law_all {L : Nat} {xs : Nat → Int32} (hL : L ≤ 3072) : ∀ m n k w, m < n → zInv w → k ≤ L + 6 → L < k + 6 * (m + 1) → ∃ u, lpL_law L xs n w (nI k) = some u := by
  have stop : ∀ n k w, k ≤ L + 6 → L < k + 6 → ∃ u, lpL_law L xs (n + 1) w (nI k) = some u := by
    intro n k w h1 h2
    have lt : (Int32.ofNat L) - (6 : Int32) < nI k := by
      show nI L - (6 : Int32) < nI k
      rw [Int32.lt_iff_toInt_lt, zL6, pk_sub_toInt (by omega) (by omega), nI_toInt (by omega)]
      omega
    exact ⟨w, by rw [lpL_law, if_pos lt]⟩
  intro m
  induction m with
  | zero =>
    intro n k w hn _ h1 h2
    obtain ⟨n, rfl⟩ : ∃ z, n = z + 1 := ⟨n - 1, by omega⟩
    exact stop n k w h1 (by omega)
  | succ m ih =>
    intro n k w hn hI h1 h2
    obtain ⟨n, rfl⟩ : ∃ z, n = z + 1 := ⟨n - 1, by omega⟩
    by_cases c : L < k + 6
    · exact stop n k w h1 c
    · obtain ⟨v, v1, v2⟩ := law_step (xs := xs) (n := n) hL (show k + 6 ≤ L by omega) hI
      rw [v2]
      exact ih n (k + 6) v (by omega) v1 (by omega) (by omega)
theorem law_ends {L : Nat} {xs : Nat → Int32} (hL : L ≤ 3072) : ∃ n u, lpL_law L xs n zw0 0 = some u := by
  obtain ⟨u, hu⟩ := law_all (xs := xs) hL 512 513 0 zw0 (by omega) zInv0 (by omega) (by omega)
  exact ⟨513, u, hu⟩
theorem whole_start {p : Program} {e : Env} {s : State} {m : MethodId} {below : List Frame} {meth : Method} {c : Code} (l : Launch) (hflags : l.flags = flags0) {b L : Nat} {xs : Nat → Int32} (hL : L ≤ 3072) (C0 : lw_At p s m meth c b L xs) : W p l e room_1 s m #[Value.ref b] below meth c s.heap [] 0 0 (lw_Z below #[Value.ref b] s) (entryFrame m ([Value.ref b] : List Value).toArray 4) := zwhole l (law_ends hL) C0
