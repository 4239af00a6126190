/-! counting -/
def zLi (S : zLd) (v l : Nat) : Bool := decide (zLf S l = 0) && decide (zPl S l = v)
def zTh (S : zLd) (l : Nat) : Bool := zLi S (zTo S l) l
section CNT
variable {w : zW} {o : Nat} {S : zLd}
theorem cx_li (hS : zWf S) (h : zCX w o S) {l v : Nat} (hl : l < zNl S) (hv : v < 2 ^ 30) : fX0_liesIn w o (nI l) (nI v) = some (if zLi S v l then 1 else 0) := by
  have hn := hS.nl
  have hw := hS.nv
  have x := hS.lt l hl
  have c := h.2.2.2 l hl
  have p1 : (nI (zLf S l) = 0) = (zLf S l = 0) := propext (by rw [zL0]; exact nI_eq (by omega) (by omega))
  have p2 : (nI (zPl S l) = nI v) = (zPl S l = v) := propext (nI_eq (by omega) (by omega))
  simp only [fX0_liesIn, cx_hl_y hS h hl, Option.bind_some, if_neg h10]
  rw [zrd_nI (by omega) (by omega), Option.bind_some, c.2.2.2.2]
  simp only [p1]
  unfold zLi
  by_cases d : zLf S l = 0
  · rw [if_pos d, zrd_nI (by omega) (by omega), Option.bind_some, c.2.1]
    simp only [p2]
    by_cases e : zPl S l = v <;> simp [d, e]
  · simp [d]
theorem cx_th (hS : zWf S) (h : zCX w o S) {l : Nat} (hl : l < zNl S) : fX0_isThere w o (nI l) = some (if zTh S l then 1 else 0) := by
  have hn := hS.nl
  have hw := hS.nv
  have x := hS.lt l hl
  have c := h.2.2.2 l hl
  simp only [fX0_isThere, cx_hl_y hS h hl, Option.bind_some, if_neg h10]
  rw [zrd_nI (by omega) (by omega), Option.bind_some, c.2.2.1, cx_li hS h hl (by omega), Option.bind_some]
  unfold zTh
  cases zLi S (zTo S l) l <;> rfl
theorem mx_th (hS : zWf S) (h : zMX w 61 S) {l : Nat} (hl : l < zNl S) : fX7_isThere w (nI l) = some (if zTh S l then 1 else 0) := by
  have hw := hS.nv
  have x := hS.lt l hl
  have p1 : (nI (zLf S l) = 0) = (zLf S l = 0) := propext (by rw [zL0]; exact nI_eq (by omega) (by omega))
  have p2 : (nI (zPl S l) = nI (zTo S l)) = (zPl S l = zTo S l) := propext (nI_eq (by omega) (by omega))
  simp only [fX7_isThere, mx_its4 hS h hl, mx_its1 hS h hl, mx_its2 hS h hl, Option.bind_some, p1, p2]
  unfold zTh zLi
  by_cases d : zLf S l = 0 <;> by_cases e : zPl S l = zTo S l <;> simp [d, e]
theorem zct_fl (P : Nat → Bool) : ∀ m k, zfl (fun i a => a + (if P i then 1 else 0)) k m (zct P k) = zct P (k + m) := by
  intro m
  induction m with
  | zero => intro k; rfl
  | succ m ih => intro k; rw [zfl_last, ih k]; rfl
theorem zst_fl (P : Nat → Bool) : ∀ m k, zfl (fun i a => a + (if P i then 2 ^ i else 0)) k m (zst P k) = zst P (k + m) := by
  intro m
  induction m with
  | zero => intro k; rfl
  | succ m ih => intro k; rw [zfl_last, ih k]; rfl
theorem nI_in1 (a : Nat) : nI a + 1 = nI (a + 1) := nI_1 a
theorem cx_there (hS : zWf S) (h : zCX w o S) : fX0_lettersThere w o = some (nI (zct (zTh S) (zNl S))) := by
  have hn := hS.nl
  have := zfold (L := lpX0_lettersThere_4 w o) (N := zNl S) (c := nI) (g := fun i a => a + (if zTh S i then 1 else 0)) (fun _ _ => True)
    (fun n a _ => by rw [lpX0_lettersThere_4, h.1.2.2.1, if_pos (by rw [nI_leI (by omega) (by omega)]; omega)])
    (fun _ _ _ _ => trivial)
    (fun n k a hk _ => by
      rw [lpX0_lettersThere_4, h.1.2.2.1, if_neg (by rw [nI_leI (by omega) (by omega)]; omega), cx_th hS h hk, Option.bind_some, nI_1]
      cases zTh S k <;> simp [nI_in1]) zF 0 0 (by omega) (by unfold zF; omega) trivial
  unfold fX0_lettersThere
  rw [show lpX0_lettersThere_4 w o zF 0 0 = lpX0_lettersThere_4 w o zF (nI 0) (nI 0) from rfl, this]
  have e := zct_fl (zTh S) (zNl S) 0
  rw [Nat.zero_add] at e
  rw [Nat.sub_zero]
  exact congrArg (fun z => some (nI z)) e
theorem cx_way (hS : zWf S) (h : zCX w o S) : fX0_lettersOnTheirWay w o = some (nI (zct (fun l => decide (0 < zLf S l)) (zNl S))) := by
  have hn := hS.nl
  have := zfold (L := lpX0_lettersOnTheirWay_4 w o) (N := zNl S) (c := nI) (g := fun i a => a + (if decide (0 < zLf S i) then 1 else 0)) (fun _ _ => True)
    (fun n a _ => by rw [lpX0_lettersOnTheirWay_4, h.1.2.2.1, if_pos (by rw [nI_leI (by omega) (by omega)]; omega)])
    (fun _ _ _ _ => trivial)
    (fun n k a hk _ => by
      have x := hS.lt k hk
      have p : (nI (zLf S k) ≤ 0) = ¬ (0 < zLf S k) := propext (by rw [zL0, nI_leI (by omega) (by omega)]; omega)
      rw [lpX0_lettersOnTheirWay_4, h.1.2.2.1, if_neg (by rw [nI_leI (by omega) (by omega)]; omega), zrd_nI (by omega) (by omega), Option.bind_some, (h.2.2.2 k hk).2.2.2.2, nI_1]
      simp only [p]
      by_cases c : 0 < zLf S k <;> simp [c, nI_in1]) zF 0 0 (by omega) (by unfold zF; omega) trivial
  unfold fX0_lettersOnTheirWay
  rw [show lpX0_lettersOnTheirWay_4 w o zF 0 0 = lpX0_lettersOnTheirWay_4 w o zF (nI 0) (nI 0) from rfl, this]
  have e := zct_fl (fun l => decide (0 < zLf S l)) (zNl S) 0
  rw [Nat.zero_add] at e
  rw [Nat.sub_zero]
  exact congrArg (fun z => some (nI z)) e
theorem mx_way (hS : zWf S) (h : zMX w 61 S) : fX7_onTheirWay w = some (nI (zct (fun l => decide (0 < zLf S l)) (zNl S))) := by
  have hn := hS.nl
  have := zfold (L := lpX7_onTheirWay_4 w) (N := zNl S) (c := nI) (g := fun i a => a + (if decide (0 < zLf S i) then 1 else 0)) (fun _ _ => True)
    (fun n a _ => by rw [lpX7_onTheirWay_4, mx_2 h, Option.bind_some, if_pos (by rw [nI_leI (by omega) (by omega)]; omega)])
    (fun _ _ _ _ => trivial)
    (fun n k a hk _ => by
      have x := hS.lt k hk
      have p : (nI (zLf S k) ≤ 0) = ¬ (0 < zLf S k) := propext (by rw [zL0, nI_leI (by omega) (by omega)]; omega)
      rw [lpX7_onTheirWay_4, mx_2 h, Option.bind_some, if_neg (by rw [nI_leI (by omega) (by omega)]; omega), mx_its4 hS h hk, Option.bind_some, nI_1]
      simp only [p]
      by_cases c : 0 < zLf S k <;> simp [c, nI_in1]) zF 0 0 (by omega) (by unfold zF; omega) trivial
  unfold fX7_onTheirWay
  rw [show lpX7_onTheirWay_4 w zF 0 0 = lpX7_onTheirWay_4 w zF (nI 0) (nI 0) from rfl, this]
  have e := zct_fl (fun l => decide (0 < zLf S l)) (zNl S) 0
  rw [Nat.zero_add] at e
  rw [Nat.sub_zero]
  exact congrArg (fun z => some (nI z)) e
/-- a set grows, as the reference writes it -/
theorem zgrow {P : Nat → Bool} {k : Nat} (hk : k < 31) {a : Nat} (ha : a = zst P k) : nI a ||| (if P k then (1 : Int32) <<< (nI k &&& 31) else 0) = nI (a + (if P k then 2 ^ k else 0)) := by
  subst ha
  cases hp : P k
  · simp only [Bool.false_eq_true, if_false, Nat.add_zero]
    rw [zL0, nx_or, Nat.or_zero]
  · simp only [if_true]
    rw [zpw k hk, nx_or, zst_or]
theorem mx_there (hS : zWf S) (h : zMX w 61 S) : fX7_allThere w = some (nI (zst (zTh S) (zNl S))) := by
  have hn := hS.nl
  have := zfold (L := lpX7_allThere_4 w) (N := zNl S) (c := nI) (g := fun i a => a + (if zTh S i then 2 ^ i else 0)) (fun k a => a = zst (zTh S) k)
    (fun n a _ => by rw [lpX7_allThere_4, mx_2 h, Option.bind_some, if_pos (by rw [nI_leI (by omega) (by omega)]; omega)])
    (fun k a _ ha => by rw [ha]; rfl)
    (fun n k a hk ha => by
      have gr := zgrow (P := zTh S) (k := k) (by omega) ha
      rw [lpX7_allThere_4, mx_2 h, Option.bind_some, if_neg (by rw [nI_leI (by omega) (by omega)]; omega), mx_th hS h hk, Option.bind_some, nI_1, ← gr]
      cases zTh S k <;> rfl) zF 0 0 (by omega) (by unfold zF; omega) rfl
  unfold fX7_allThere
  rw [show lpX7_allThere_4 w zF 0 0 = lpX7_allThere_4 w zF (nI 0) (nI 0) from rfl, this]
  have e := zst_fl (zTh S) (zNl S) 0
  rw [Nat.zero_add] at e
  rw [Nat.sub_zero]
  exact congrArg (fun z => some (nI z)) e
theorem zst_4096 (P : Nat → Bool) {n : Nat} (hn : n ≤ 12) : zst P n < 4096 := Nat.lt_of_lt_of_le (zst_lt P n) (show 2 ^ n ≤ 2 ^ 12 from Nat.pow_le_pow_right (by omega) hn)
theorem cx_in (hS : zWf S) (h : zCX w o S) {v : Nat} (hv : v < zNv S) : fX0_lettersIn w o (nI v) = some (nI (zst (zLi S v) (zNl S))) := by
  have hn := hS.nl
  have hw := hS.nv
  have := zfold (L := lpX0_lettersIn_4 w o (nI v)) (N := zNl S) (c := nI) (g := fun i a => a + (if zLi S v i then 2 ^ i else 0)) (fun k a => a = zst (zLi S v) k)
    (fun n a _ => by rw [lpX0_lettersIn_4, h.1.2.2.1, if_pos (by rw [nI_leI (by omega) (by omega)]; omega)])
    (fun k a _ ha => by rw [ha]; rfl)
    (fun n k a hk ha => by
      have gr := zgrow (P := zLi S v) (k := k) (by omega) ha
      rw [lpX0_lettersIn_4, h.1.2.2.1, if_neg (by rw [nI_leI (by omega) (by omega)]; omega), cx_li hS h hk (by omega), Option.bind_some, nI_1]
      cases hp : zLi S v k
      · simp
      · rw [hp] at gr
        simp only [if_true] at gr ⊢
        rw [if_neg h10, Option.bind_some, Option.bind_some, gr]) zF 0 0 (by omega) (by unfold zF; omega) rfl
  unfold fX0_lettersIn
  rw [show lpX0_lettersIn_4 w o (nI v) zF 0 0 = lpX0_lettersIn_4 w o (nI v) zF (nI 0) (nI 0) from rfl, this]
  have e := zst_fl (zLi S v) (zNl S) 0
  rw [Nat.zero_add] at e
  rw [Nat.sub_zero]
  exact congrArg (fun z => some (nI z)) e
theorem mx_in (hS : zWf S) (h : zMX w 61 S) {v : Nat} (hv : v < zNv S) : fX7_lettersAt w (nI v) = some (nI (zst (zLi S v) (zNl S))) := by
  have hn := hS.nl
  have hw := hS.nv
  have := zfold (L := lpX7_lettersAt_4 w (nI v)) (N := zNl S) (c := nI) (g := fun i a => a + (if zLi S v i then 2 ^ i else 0)) (fun k a => a = zst (zLi S v) k)
    (fun n a _ => by rw [lpX7_lettersAt_4, mx_2 h, Option.bind_some, if_pos (by rw [nI_leI (by omega) (by omega)]; omega)])
    (fun k a _ ha => by rw [ha]; rfl)
    (fun n k a hk ha => by
      have x := hS.lt k hk
      have gr := zgrow (P := zLi S v) (k := k) (by omega) ha
      have p1 : (nI (zLf S k) = 0) = (zLf S k = 0) := propext (by rw [zL0]; exact nI_eq (by omega) (by omega))
      have p2 : (nI (zPl S k) = nI v) = (zPl S k = v) := propext (nI_eq (by omega) (by omega))
      rw [lpX7_lettersAt_4, mx_2 h, Option.bind_some, if_neg (by rw [nI_leI (by omega) (by omega)]; omega), mx_its1 hS h hk, Option.bind_some, mx_its4 hS h hk, nI_1, ← gr]
      simp only [Option.bind_some, p1, p2]
      unfold zLi
      by_cases d : zLf S k = 0 <;> by_cases e : zPl S k = v <;> simp [d, e]) zF 0 0 (by omega) (by unfold zF; omega) rfl
  unfold fX7_lettersAt
  rw [show lpX7_lettersAt_4 w (nI v) zF 0 0 = lpX7_lettersAt_4 w (nI v) zF (nI 0) (nI 0) from rfl, this]
  have e := zst_fl (zLi S v) (zNl S) 0
  rw [Nat.zero_add] at e
  rw [Nat.sub_zero]
  exact congrArg (fun z => some (nI z)) e
def zRv (S : zLd) (v r : Nat) : Bool := decide (zOn S r = v) || decide (zOt S r = v)
theorem cx_rds (hS : zWf S) (h : zCX w o S) {v : Nat} (hv : v < zNv S) : fX0_roadsOf w o (nI v) = some (nI (zct (zRv S v) (zNr S))) := by
  have hn := hS.nr
  have hw := hS.nv
  have := zfold (L := lpX0_roadsOf_4 w o (nI v)) (N := zNr S) (c := nI) (g := fun i a => a + (if zRv S v i then 1 else 0)) (fun _ _ => True)
    (fun n a _ => by rw [lpX0_roadsOf_4, h.1.2.1, if_pos (by rw [nI_leI (by omega) (by omega)]; omega)])
    (fun _ _ _ _ => trivial)
    (fun n k a hk _ => by
      have x := hS.rd k hk
      have c := h.2.2.1 k hk
      have p1 : (nI (zOn S k) = nI v) = (zOn S k = v) := propext (nI_eq (by omega) (by omega))
      have p2 : (nI (zOt S k) = nI v) = (zOt S k = v) := propext (nI_eq (by omega) (by omega))
      rw [lpX0_roadsOf_4, h.1.2.1, if_neg (by rw [nI_leI (by omega) (by omega)]; omega), zrd_nI (by omega) (by omega), Option.bind_some, zrd_nI (by omega) (by omega), c.1, c.2.1, nI_1]
      simp only [Option.bind_some, p1, p2, nI_in1]
      unfold zRv
      by_cases d : zOn S k = v <;> by_cases e : zOt S k = v <;> simp [d, e]) zF 0 0 (by omega) (by unfold zF; omega) trivial
  unfold fX0_roadsOf
  rw [show lpX0_roadsOf_4 w o (nI v) zF 0 0 = lpX0_roadsOf_4 w o (nI v) zF (nI 0) (nI 0) from rfl, this]
  have e := zct_fl (zRv S v) (zNr S) 0
  rw [Nat.zero_add] at e
  rw [Nat.sub_zero]
  exact congrArg (fun z => some (nI z)) e
theorem mx_rds (hS : zWf S) (h : zMX w 61 S) {v : Nat} (hv : v < zNv S) : fX7_roadsAt w (nI v) = some (nI (zct (zRv S v) (zNr S))) := by
  have hn := hS.nr
  have hw := hS.nv
  have := zfold (L := lpX7_roadsAt_4 w (nI v)) (N := zNr S) (c := nI) (g := fun i a => a + (if zRv S v i then 1 else 0)) (fun _ _ => True)
    (fun n a _ => by rw [lpX7_roadsAt_4, mx_1 h, Option.bind_some, if_pos (by rw [nI_leI (by omega) (by omega)]; omega)])
    (fun _ _ _ _ => trivial)
    (fun n k a hk _ => by
      have x := hS.rd k hk
      have p1 : (nI (zOn S k) = nI v) = (zOn S k = v) := propext (nI_eq (by omega) (by omega))
      have p2 : (nI (zOt S k) = nI v) = (zOt S k = v) := propext (nI_eq (by omega) (by omega))
      rw [lpX7_roadsAt_4, mx_1 h, Option.bind_some, if_neg (by rw [nI_leI (by omega) (by omega)]; omega), mx_end0 hS h hk, Option.bind_some, mx_end1 hS h hk, nI_1]
      simp only [Option.bind_some, p1, p2]
      unfold zRv
      by_cases d : zOn S k = v <;> by_cases e : zOt S k = v <;> simp [d, e, nI_in1]) zF 0 0 (by omega) (by unfold zF; omega) trivial
  unfold fX7_roadsAt
  rw [show lpX7_roadsAt_4 w (nI v) zF 0 0 = lpX7_roadsAt_4 w (nI v) zF (nI 0) (nI 0) from rfl, this]
  have e := zct_fl (zRv S v) (zNr S) 0
  rw [Nat.zero_add] at e
  rw [Nat.sub_zero]
  exact congrArg (fun z => some (nI z)) e
def zSum (S : zLd) : Int32 := zfl (fun i (a : Int32) => a + nI (zHt S i)) 0 (zNv S) 0
theorem cx_sum (hS : zWf S) (h : zCX w o S) : fX0_heightsTogether w o = some (zSum S) := by
  have hn := hS.nv
  have := zfold (L := lpX0_heightsTogether_4 w o) (N := zNv S) (c := fun x => x) (g := fun i (a : Int32) => a + nI (zHt S i)) (fun _ _ => True)
    (fun n a _ => by rw [lpX0_heightsTogether_4, h.1.1, if_pos (by rw [nI_leI (by omega) (by omega)]; omega)])
    (fun _ _ _ _ => trivial)
    (fun n k a hk _ => by
      rw [lpX0_heightsTogether_4, h.1.1, if_neg (by rw [nI_leI (by omega) (by omega)]; omega), zrd_nI (by omega) (by omega), Option.bind_some, (h.2.1 k hk).1, nI_1, Option.bind_some]) zF 0 0 (by omega) (by unfold zF; omega) trivial
  unfold fX0_heightsTogether
  rw [show lpX0_heightsTogether_4 w o zF 0 0 = lpX0_heightsTogether_4 w o zF 0 (nI 0) from rfl, this]
  rfl
theorem mx_sum (hS : zWf S) (h : zMX w 61 S) : lpX7_count_64 w zF 0 0 = some (zSum S) := by
  have hn := hS.nv
  have := zfold (L := lpX7_count_64 w) (N := zNv S) (c := fun x => x) (g := fun i (a : Int32) => a + nI (zHt S i)) (fun _ _ => True)
    (fun n a _ => by rw [lpX7_count_64, mx_0 h, Option.bind_some, if_pos (by rw [nI_leI (by omega) (by omega)]; omega)])
    (fun _ _ _ _ => trivial)
    (fun n k a hk _ => by
      rw [lpX7_count_64, mx_0 h, Option.bind_some, if_neg (by rw [nI_leI (by omega) (by omega)]; omega), mx_ht hS h hk, Option.bind_some, nI_1, Option.bind_some]) zF 0 0 (by omega) (by unfold zF; omega) trivial
  rw [show lpX7_count_64 w zF 0 0 = lpX7_count_64 w zF 0 (nI 0) from rfl, this]
  rfl
end CNT
