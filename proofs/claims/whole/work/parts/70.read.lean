def zg (f : Nat → Int64) (i : Nat) : Nat := (f i).toInt.toNat
def zIn (S : zLd) (x : Int64) : Prop := 0 ≤ x ∧ x < (nI (zNv S)).toInt64
def zps (S : zLd) (f : Nat → Int64) (k i : Nat) : Prop := zIn S (f i) ∧ (i = 0 ∨ (∃ r, r < zNr S ∧ zJr S (zg f (i - 1)) (zg f i) r) ∧ zGo S k (zg f (i - 1)) (zg f i) = true)
def zFst (P : Nat → Prop) (i : Nat) : Nat → Nat → Prop
  | 0, r => r = 0
  | m + 1, r => (P i ∧ zFst P (i + 1) m r) ∨ (¬ P i ∧ r = i + 1)
theorem zFst_ex (P : Nat → Prop) : ∀ m i, ∃ r, zFst P i m r ∧ r ≤ i + m := by
  intro m
  induction m with
  | zero => intro i; exact ⟨0, rfl, by omega⟩
  | succ m ih =>
    intro i
    by_cases h : P i
    · obtain ⟨r, h1, h2⟩ := ih (i + 1)
      exact ⟨r, Or.inl ⟨h, h1⟩, by omega⟩
    · exact ⟨i + 1, Or.inr ⟨h, rfl⟩, by omega⟩
theorem zIn_g {S : zLd} (hS : zWf S) {f : Nat → Int64} {i : Nat} (h : zIn S (f i)) : (f i).toInt32 = nI (zg f i) ∧ zg f i < zNv S := by
  have nv := hS.nv
  obtain ⟨h0, h1⟩ := h
  have h2 := h1
  rw [Int64.lt_iff_toInt_lt, Int32.toInt_toInt64, nI_toInt (by omega)] at h2
  have h3 := h0
  rw [Int64.le_iff_toInt_le, show (0 : Int64).toInt = 0 by decide] at h3
  have hk : zhok (f i) := ⟨h0, by rw [Int64.le_iff_toInt_le, show (9999 : Int64).toInt = 9999 by decide]; omega⟩
  exact ⟨(zhok_nI hk).1, by unfold zg; omega⟩
theorem rd6 {w : zW} {S : zLd} (hS : zWf S) (hC : zCX w 10 S) {o n k : Nat} (hn : n ≤ 40) (hk : k < 6) (h1 : w.1 o 1 = nI n) : ∀ m q i prev r, i + m = n → m < q → (0 < i → prev = nI (zg (w.2 (o + 1)) (i - 1)) ∧ zg (w.2 (o + 1)) (i - 1) < zNv S) → zFst (zps S (w.2 (o + 1)) k) i m r → lpX6_read_52 w (nI k) o q prev (nI i) = if r = 0 then some (.inr ()) else some (.inl (nI r, w)) := by
  have nv := hS.nv
  intro m
  induction m with
  | zero =>
    intro q i prev r hi hq hp hr
    obtain ⟨q, rfl⟩ : ∃ z, q = z + 1 := ⟨q - 1, by omega⟩
    rw [lpX6_read_52, h1, if_pos ((nI_leI (by omega) (by omega)).mpr (by omega)), if_pos (show r = 0 from hr)]
  | succ m ih =>
    intro q i prev r hi hq hp hr
    obtain ⟨q, rfl⟩ : ∃ z, q = z + 1 := ⟨q - 1, by omega⟩
    have c1 : ¬ nI n ≤ nI i := fun z => by have := (nI_leI (by omega) (by omega)).mp z; omega
    have z1 : fX3_has w o (nI i) = some 1 := by unfold fX3_has; rw [if_neg (nI_pos (by omega)), h1, if_neg c1]
    have z2 : fX3_number w o (nI i) = some (w.2 (o + 1) i) := by simp only [fX3_number, z1, Option.bind_some, if_neg h10, zrl_nI (show i < 40 by omega) (by omega)]
    have e1 : (1 : Int32) + nI i = nI (i + 1) := by rw [zL1, nI_add, Nat.add_comm]
    have e0 : w.1 10 0 = nI (zNv S) := hC.1.1
    rw [lpX6_read_52, h1, if_neg c1, z2, Option.bind_some, e0, nI_1 i, e1]
    generalize hf : w.2 (o + 1) = f at hp hr ih ⊢
    have out : ¬ zps S f k i → r = i + 1 := fun h => by
      rcases hr with ⟨a, _⟩ | ⟨_, b⟩
      · exact absurd a h
      · exact b
    have into : zps S f k i → zFst (zps S f k) (i + 1) m r := fun h => by
      rcases hr with ⟨_, b⟩ | ⟨a, _⟩
      · exact b
      · exact absurd h a
    by_cases c2 : zIn S (f i)
    · have g1 : ¬ lg_cmp (f i) 0 < 0 := by rw [lg_cmp_lt]; exact Int64.not_lt.mpr c2.1
      have g2 : lg_cmp (f i) (nI (zNv S)).toInt64 < 0 := by rw [lg_cmp_lt]; exact c2.2
      obtain ⟨g3, g4⟩ := zIn_g hS c2
      rw [if_neg g1, if_pos g2, Option.bind_some, g3]
      have nx := fun h => ih q (i + 1) (nI (zg f i)) r (by omega) (by omega) (fun _ => ⟨rfl, g4⟩) h
      by_cases c3 : i = 0
      · rw [if_pos (by rw [zL0, nI_leI (by omega) (by omega)]; omega)]
        exact nx (into ⟨c2, Or.inl c3⟩)
      · obtain ⟨hp1, hp2⟩ := hp (by omega)
        rw [if_neg (by rw [zL0, nI_leI (by omega) (by omega)]; omega), hp1]
        by_cases c4 : ∃ r, r < zNr S ∧ zJr S (zg f (i - 1)) (zg f i) r
        · by_cases c5 : zGo S k (zg f (i - 1)) (zg f i) = true
          · have : fX0_leadsInto w 10 (nI k) (nI (zg f (i - 1))) (nI (zg f i)) = some 1 := by simp only [fX0_leadsInto, cx_join_y hS hC hp2 g4 c4, Option.bind_some, if_neg h10, cx_go hS hC hk hp2 g4, if_pos c5]
            rw [this, Option.bind_some, if_neg h10]
            exact nx (into ⟨c2, Or.inr ⟨c4, c5⟩⟩)
          · have : fX0_leadsInto w 10 (nI k) (nI (zg f (i - 1))) (nI (zg f i)) = some 0 := by simp only [fX0_leadsInto, cx_join_y hS hC hp2 g4 c4, Option.bind_some, if_neg h10, cx_go hS hC hk hp2 g4, if_neg c5, if_true]
            have := out (fun z => c5 ((z.2.resolve_left c3).2))
            subst this
            simp only [*, Option.bind_some, if_true, Nat.add_one_ne_zero, if_false]
        · have : fX0_leadsInto w 10 (nI k) (nI (zg f (i - 1))) (nI (zg f i)) = some 0 := by simp only [fX0_leadsInto, cx_join_n hS hC hp2 g4 c4, Option.bind_some, if_true]
          have := out (fun z => c4 ((z.2.resolve_left c3).1))
          subst this
          simp only [*, Option.bind_some, if_true, Nat.add_one_ne_zero, if_false]
    · have := out (fun z => c2 z.1)
      subst this
      rw [if_neg (Nat.add_one_ne_zero i)]
      by_cases g1 : lg_cmp (f i) 0 < 0
      · rw [if_pos g1]
      · rw [if_neg g1, if_neg]
        intro g2
        rw [lg_cmp_lt] at g1 g2
        exact c2 ⟨Int64.not_lt.mp g1, g2⟩
theorem rd7 {w : zW} {S : zLd} (hS : zWf S) (hM : zMX w 61 S) {s n k : Nat} (hs : s < 4) (hn : n ≤ 40) (hk : k < 6) (h1 : w.1 67 s = nI n) (f : Nat → Int64) (hf : ∀ i, i < 40 → w.2 68 (40 * s + i) = f i) : ∀ m q i prev r, i + m = n → m < q → (0 < i → prev = nI (zg f (i - 1)) ∧ zg f (i - 1) < zNv S) → zFst (zps S f k) i m r → lpX7_read_60 w (nI s) (nI k) q 0 prev (nI i) = some (nI r) := by
  have nv := hS.nv
  have e1 : zrd w 67 4 (nI s) = some (nI n) := by rw [zrd_nI hs (by omega), h1]
  intro m
  induction m with
  | zero =>
    intro q i prev r hi hq hp hr
    obtain ⟨q, rfl⟩ : ∃ z, q = z + 1 := ⟨q - 1, by omega⟩
    rw [lpX7_read_60, e1, Option.bind_some, if_pos ((nI_leI (by omega) (by omega)).mpr (by omega)), show r = 0 from hr]
    rfl
  | succ m ih =>
    intro q i prev r hi hq hp hr
    obtain ⟨q, rfl⟩ : ∃ z, q = z + 1 := ⟨q - 1, by omega⟩
    obtain ⟨q, rfl⟩ : ∃ z, q = z + 1 := ⟨q - 1, by omega⟩
    have c1 : ¬ nI n ≤ nI i := fun z => by have := (nI_leI (by omega) (by omega)).mp z; omega
    have e0 : zrd w 61 151 0 = some (nI (zNv S)) := mx_0 hM
    have stop : ∀ y, lpX7_read_60 w (nI s) (nI k) (q + 1) (nI (i + 1)) y (nI (i + 1)) = some (nI (i + 1)) := by
      intro y
      rw [lpX7_read_60, e1, Option.bind_some]
      by_cases z : nI n ≤ nI (i + 1)
      · rw [if_pos z]
      · rw [if_neg z, if_neg]
        intro h
        have := congrArg Int32.toNatClampNeg h
        rw [nI_clamp (by omega), show Int32.toNatClampNeg (0 : Int32) = 0 by decide] at this
        omega
    have out : ¬ zps S f k i → r = i + 1 := fun h => by
      rcases hr with ⟨a, _⟩ | ⟨_, b⟩
      · exact absurd a h
      · exact b
    have into : zps S f k i → zFst (zps S f k) (i + 1) m r := fun h => by
      rcases hr with ⟨_, b⟩ | ⟨a, _⟩
      · exact b
      · exact absurd h a
    rw [lpX7_read_60, e1, Option.bind_some, if_neg c1, if_pos rfl, ix40, zrl_nI (by omega) (by omega), hf i (by omega), Option.bind_some, nI_1 i, e0]
    by_cases c2 : zIn S (f i)
    · have g1 : ¬ lg_cmp (f i) 0 < 0 := by rw [lg_cmp_lt]; exact Int64.not_lt.mpr c2.1
      have g2 : ¬ 0 ≤ lg_cmp (f i) (nI (zNv S)).toInt64 := by rw [lg_cmp_ge]; exact Int64.not_le.mpr c2.2
      obtain ⟨g3, g4⟩ := zIn_g hS c2
      have nx := fun h => ih (q + 1) (i + 1) (nI (zg f i)) r (by omega) (by omega) (fun _ => ⟨rfl, g4⟩) h
      simp only [if_neg g1, Option.bind_some, if_neg g2, if_neg h10, g3]
      by_cases c3 : i = 0
      · have c3' : nI i = 0 := by rw [c3]; rfl
        rw [if_pos c3', Option.bind_some, if_neg h10, Option.bind_some]
        exact nx (into ⟨c2, Or.inl c3⟩)
      · have c3' : ¬ nI i = 0 := by
          intro h
          have := congrArg Int32.toNatClampNeg h
          rw [nI_clamp (by omega), show Int32.toNatClampNeg (0 : Int32) = 0 by decide] at this
          omega
        obtain ⟨hp1, hp2⟩ := hp (by omega)
        rw [if_neg c3', hp1]
        by_cases c4 : ∃ r, r < zNr S ∧ zJr S (zg f (i - 1)) (zg f i) r
        · obtain ⟨x, hx, hj⟩ := c4
          have nr := hS.nr
          rw [mx_btw_y hS hM hp2 g4 hx hj, Option.bind_some, if_neg (nI_pos (by omega)), mx_go hS hM hk hp2 g4, Option.bind_some]
          by_cases c5 : zGo S k (zg f (i - 1)) (zg f i) = true
          · rw [if_pos c5, if_neg h10, Option.bind_some, if_neg h10, Option.bind_some]
            exact nx (into ⟨c2, Or.inr ⟨⟨x, hx, hj⟩, c5⟩⟩)
          · rw [if_neg c5, if_pos rfl, Option.bind_some, if_pos rfl, Option.bind_some, out (fun z => c5 ((z.2.resolve_left c3).2))]
            exact stop _
        · rw [mx_btw_n hS hM hp2 g4 c4, Option.bind_some, if_pos (by decide), Option.bind_some, if_pos rfl, Option.bind_some, out (fun z => c4 ((z.2.resolve_left c3).1))]
          exact stop _
    · have g : (if lg_cmp (f i) 0 < 0 then some (0 : Int32) else (some (nI (zNv S))).bind fun v32 => if 0 ≤ lg_cmp (f i) v32.toInt64 then some 0 else some 1) = some 0 := by
        by_cases g1 : lg_cmp (f i) 0 < 0
        · rw [if_pos g1]
        · rw [if_neg g1, Option.bind_some, if_pos]
          rw [lg_cmp_lt] at g1
          rw [lg_cmp_ge]
          exact Int64.not_lt.mp (fun z => c2 ⟨Int64.not_lt.mp g1, z⟩)
      rw [g, out (fun z => c2 z.1)]
      simp only [Option.bind_some, if_true]
      exact stop _
theorem op_read (a k : Int32) : zOp (fun w => fX6_read w a k) (fun w => fX7_read w a k) := by
  intro w hI
  show ∃ r u v, fX6_read w a k = some (r, u) ∧ fX7_read u a k = some (r, v) ∧ zInv v
  rcases sh_yn a with h | ⟨s, hs, rfl⟩
  · exact ⟨zB0, zff w 0, zfg (zff w 0) 0, by simp only [fX6_read, (sh_n h).1, zbo_n, x6_f0, zb2_some], by simp only [fX7_read, (sh_n h).2, Option.bind_some, if_true, if_neg (show ¬ (-1000000001 : Int32) = 0 by decide), x7_f0, zb2_some], hI.find (k := 0) (by omega)⟩
  have y1 := fun w => (sh_y (w := w) hs).1
  have y2 := fun w => (sh_y (w := w) hs).2
  have hI0 := hI
  obtain ⟨⟨S, hS, hC, hM⟩, d, e, f, g⟩ := hI
  obtain ⟨b, n, hb, hn, hbn, k1, k2, k3, k4, k5⟩ := f s hs
  have r66 : ∀ i, zrd (zff w i) 66 4 (nI s) = some (nI b) := fun i => by rw [zrd_nI hs (by omega), zff_o (by omega), k2]
  by_cases b0 : nI b = 0
  · exact ⟨zB5, zff w 5, zfg (zff w 5) 5, by simp only [fX6_read, y1, zbo_s, fX3_isMissing, k1, if_pos b0, Option.bind_some, if_neg h10, x6_f5, zb2_some], by simp only [fX7_read, y2, Option.bind_some, if_neg h10, r66, if_pos b0, if_neg (show ¬ (-1000000006 : Int32) = 0 by decide), x7_f5, zb2_some], hI0.find (k := 5) (by omega)⟩
  by_cases ck : k < 0 ∨ nI 6 ≤ k
  · exact ⟨zB0, zff w 0, zfg (zff w 0) 0, by simp only [fX6_read, y1, zbo_s, fX3_isMissing, k1, if_neg b0, if_true, ck_n ck, Option.bind_some, x6_f0, zb2_some], by simp only [fX7_read, y2, Option.bind_some, if_neg h10, r66, if_neg b0, in_k_n ck, if_true, if_neg (show ¬ (-1000000001 : Int32) = 0 by decide), x7_f0, zb2_some], hI0.find (k := 0) (by omega)⟩
  obtain ⟨j, hj, rfl⟩ := nI_of (fun h => ck (Or.inl h))
  have hj6 : j < 6 := by
    have : ¬ nI 6 ≤ nI j := fun h => ck (Or.inr h)
    rw [nI_leI (by omega) hj] at this
    omega
  obtain ⟨r, hr, -⟩ := zFst_ex (zps S (w.2 (50 + 2 * s + 1)) j) n 0
  have l6 := rd6 hS hC hn hj6 k3 n zF 0 (-1) r (by omega) (by unfold zF; omega) (fun h => absurd h (by omega)) hr
  have l7 := rd7 hS hM hs hn hj6 k4 (w.2 (50 + 2 * s + 1)) (fun i hi => (k5 i hi).symm) n zF 0 (-1) r (by omega) (by unfold zF; omega) (fun h => absurd h (by omega)) hr
  have r66 : zrd w 66 4 (nI s) = some (nI b) := by rw [zrd_nI hs (by omega), k2]
  rw [show nI 0 = 0 from rfl] at l6 l7
  refine ⟨nI r, w, w, ?_, by simp only [fX7_read, y2, Option.bind_some, if_neg h10, r66, if_neg b0, in_k_y hj6, if_true, l7], hI0⟩
  simp only [fX6_read, y1, zbo_s, fX3_isMissing, k1, if_neg b0, if_true, ck_y hj6, Option.bind_some, if_neg h10, l6]
  by_cases z : r = 0
  · subst z; rfl
  · rw [if_neg z]; rfl
