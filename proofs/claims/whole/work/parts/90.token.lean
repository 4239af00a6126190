/-! tokens of the tape -/
abbrev zTape : Type := Nat × (Nat → Nat)
def zWt (T : zTape) : Prop := T.1 ≤ 120 ∧ ∀ i, i < T.1 → T.2 i < 256
def zByt (T : zTape) (i : Nat) : Nat := if i < T.1 then T.2 i else 256
def zBi (b : Nat) : Int32 := if b = 256 then -1 else nI b
def zSo (b : Nat) : Nat := if b = 256 then 0 else if 97 ≤ b ∧ b ≤ 122 then 1 else if 48 ≤ b ∧ b ≤ 57 then 2 else if b = 59 then 3 else 4
def zSc (P : Nat → Bool) : Nat → Nat → Nat
  | 0, i => i
  | n + 1, i => if P i = true then zSc P n (i + 1) else i
def zIsB (T : zTape) (i : Nat) : Bool := decide (zByt T i = 32)
def zIsL (T : zTape) (i : Nat) : Bool := decide (zSo (zByt T i) = 1)
def zIsD (T : zTape) (i : Nat) : Bool := decide (zSo (zByt T i) = 2)
def zVl (T : zTape) : Nat → Nat → Nat → Nat
  | 0, _, a => a
  | n + 1, i, a => if zIsD T i = true then zVl T n (i + 1) (min (a * 10 + zByt T i - 48) 10000) else a
def zWc (c : Nat → Nat) : Nat → Nat
  | 0 => 0
  | j + 1 => 27 * zWc c j + (c j - 96)
def zWw (c : Nat → Nat) (j : Nat) : Int64 := if j ≤ 12 then lN (zWc c j) else -1
/-- the token behind e: start, sort, end, value -/
def zAs (T : zTape) (e : Nat) : Nat := zSc (zIsB T) 120 e
def zAo (T : zTape) (e : Nat) : Nat := zSo (zByt T (zAs T e))
def zAe (T : zTape) (e : Nat) : Nat := if zAo T e = 0 then zAs T e else if zAo T e = 1 then zSc (zIsL T) 120 (zAs T e) else if zAo T e = 2 then zSc (zIsD T) 120 (zAs T e) else zAs T e + 1
def zAv (T : zTape) (e : Nat) : Nat := zVl T 120 (zAs T e) 0
theorem zSo_le {b : Nat} : zSo b ≤ 4 := by
  unfold zSo
  split
  · omega
  · split
    · omega
    · split
      · omega
      · split <;> omega
theorem zByt_end {T : zTape} {i : Nat} (h : T.1 ≤ i) : zByt T i = 256 := if_neg (by omega)
theorem zByt_le {T : zTape} (hT : zWt T) {i : Nat} : zByt T i < 257 := by
  unfold zByt
  split
  · rename_i h; have := hT.2 i h; omega
  · omega
theorem zIsB_end {T : zTape} {i : Nat} (h : T.1 ≤ i) : zIsB T i = false := by unfold zIsB; rw [zByt_end h]; rfl
theorem zIsL_end {T : zTape} {i : Nat} (h : T.1 ≤ i) : zIsL T i = false := by unfold zIsL; rw [zByt_end h]; rfl
theorem zIsD_end {T : zTape} {i : Nat} (h : T.1 ≤ i) : zIsD T i = false := by unfold zIsD; rw [zByt_end h]; rfl
theorem zSc_ge {P : Nat → Bool} : ∀ n i, i ≤ zSc P n i := by
  intro n
  induction n with
  | zero => intro i; exact Nat.le_refl _
  | succ n ih =>
    intro i
    rw [zSc]
    split
    · have := ih (i + 1); omega
    · exact Nat.le_refl _
theorem zSc_le {P : Nat → Bool} {L : Nat} (hP : ∀ i, L ≤ i → P i = false) : ∀ n i, i ≤ L → zSc P n i ≤ L := by
  intro n
  induction n with
  | zero => intro i h; exact h
  | succ n ih =>
    intro i h
    rw [zSc]
    split
    · rename_i c
      refine ih (i + 1) ?_
      rcases Nat.lt_or_ge i L with q | q
      · omega
      · rw [hP i q] at c; cases c
    · exact h
theorem zSc_all {P : Nat → Bool} : ∀ n i x, i ≤ x → x < zSc P n i → P x = true := by
  intro n
  induction n with
  | zero =>
    intro i x h1 h2
    have h2 : x < i := h2
    omega
  | succ n ih =>
    intro i x h1 h2
    rw [zSc] at h2
    by_cases c : P i = true
    · rw [if_pos c] at h2
      by_cases e : x = i
      · subst e; exact c
      · exact ih (i + 1) x (by omega) h2
    · rw [if_neg c] at h2
      omega
theorem zAs_ge {T : zTape} {e : Nat} : e ≤ zAs T e := zSc_ge _ _
theorem zAs_le {T : zTape} {e : Nat} (h : e ≤ T.1) : zAs T e ≤ T.1 := zSc_le (fun i hi => zIsB_end hi) _ _ h
theorem zAo_fin {T : zTape} {e : Nat} (h : zAo T e ≠ 0) : zAs T e < T.1 := by
  rcases Nat.lt_or_ge (zAs T e) T.1 with q | q
  · exact q
  · exfalso
    apply h
    unfold zAo
    rw [zByt_end q]
    rfl
theorem zAe_ge {T : zTape} {e : Nat} : zAs T e ≤ zAe T e := by
  unfold zAe
  split
  · exact Nat.le_refl _
  · split
    · exact zSc_ge _ _
    · split
      · exact zSc_ge _ _
      · omega
theorem zAe_le {T : zTape} {e : Nat} (h : e ≤ T.1) : zAe T e ≤ T.1 := by
  have a := zAs_le h
  have f := zAo_fin (T := T) (e := e)
  unfold zAe
  split
  · exact a
  · split
    · exact zSc_le (fun i hi => zIsL_end hi) _ _ a
    · split
      · exact zSc_le (fun i hi => zIsD_end hi) _ _ a
      · rename_i c0 _ _
        have := f c0
        omega
theorem zVl_le {T : zTape} : ∀ n i a, a ≤ 10000 → zVl T n i a ≤ 10000 := by
  intro n
  induction n with
  | zero => intro i a h; exact h
  | succ n ih =>
    intro i a h
    rw [zVl]
    split
    · exact ih _ _ (Nat.min_le_right _ _)
    · exact h
theorem zAv_le {T : zTape} {e : Nat} : zAv T e ≤ 10000 := zVl_le _ _ _ (by omega)
/-- the class's tape holds T -/
def zT6 (w : zW) (T : zTape) : Prop := w.1 43 1 = nI T.1 ∧ ∀ i, i < T.1 → w.1 44 i = nI (T.2 i)
def zT7 (w : zW) (T : zTape) : Prop := w.1 60 7 = nI T.1 ∧ ∀ i, i < T.1 → w.1 65 i = nI (T.2 i)
/-- and stands at the token behind e -/
def zC6 (w : zW) (T : zTape) (e : Nat) : Prop := zT6 w T ∧ w.1 43 2 = nI (zAs T e) ∧ w.1 43 3 = nI (zAe T e) ∧ w.1 43 4 = nI (zAo T e) ∧ (zAo T e = 2 → w.1 43 5 = nI (zAv T e))
def zC7 (w : zW) (T : zTape) (e : Nat) : Prop := zT7 w T ∧ w.1 60 9 = nI (zAs T e) ∧ w.1 60 10 = nI (zAe T e) ∧ w.1 60 8 = nI (min (zAo T e) 3) ∧ (zAo T e = 2 → w.1 60 12 = nI (zAv T e)) ∧ (3 ≤ zAo T e → w.1 60 12 = nI (zByt T (zAs T e))) ∧ (zAo T e = 1 → w.2 60 11 = zWw (fun x => zByt T (zAs T e + x)) (zAe T e - zAs T e))
theorem nI_neg1 {a : Nat} (ha : a < 2 ^ 31) : ¬ nI a = -1 := fun q => nI_pos ha (by rw [q]; decide)
theorem cx_by {w : zW} {T : zTape} (hT : zWt T) (h : zT6 w T) {i : Nat} (hi : i < 2 ^ 30) : fX4_byteAt w (nI i) = some (zBi (zByt T i)) := by
  have l := hT.1
  unfold fX4_byteAt zByt zBi
  rw [if_neg (nI_pos (by omega)), h.1]
  by_cases c : i < T.1
  · have b := hT.2 i c
    rw [if_neg (fun x => by have := (nI_leI (by omega) (by omega)).mp x; omega), zL120, if_neg (fun x => by have := (nI_leI (by omega) (by omega)).mp x; omega), zrd_nI (by omega) (by omega), Option.bind_some, h.2 i c, if_pos c, if_neg (by omega)]
  · rw [if_pos ((nI_leI (by omega) (by omega)).mpr (by omega)), if_neg c, if_pos rfl]
theorem mx_by {w : zW} {T : zTape} (hT : zWt T) (h : zT7 w T) {i : Nat} (hi : i < 2 ^ 30) : fX7_byteAt w (nI i) = some (zBi (zByt T i)) := by
  have l := hT.1
  unfold fX7_byteAt zByt zBi
  rw [h.1]
  by_cases c : i < T.1
  · have b := hT.2 i c
    rw [if_neg (fun x => by have := (nI_leI (by omega) (by omega)).mp x; omega), zrd_nI (by omega) (by omega), Option.bind_some, h.2 i c, if_pos c, if_neg (by omega)]
  · rw [if_pos ((nI_leI (by omega) (by omega)).mpr (by omega)), if_neg c, if_pos rfl]
theorem cx_so0 : ∀ b, b < 257 → fX4_sortOf zw0 (zBi b) = some (nI (zSo b)) := by decide +kernel
theorem cx_so (w : zW) {b : Nat} (h : b < 257) : fX4_sortOf w (zBi b) = some (nI (zSo b)) := cx_so0 b h
theorem mx_il0 : ∀ b, b < 257 → fX7_isLetter zw0 (zBi b) = some (if zSo b = 1 then 1 else 0) := by decide +kernel
theorem mx_il (w : zW) {b : Nat} (h : b < 257) : fX7_isLetter w (zBi b) = some (if zSo b = 1 then 1 else 0) := mx_il0 b h
theorem mx_id0 : ∀ b, b < 257 → fX7_isDigit zw0 (zBi b) = some (if zSo b = 2 then 1 else 0) := by decide +kernel
theorem mx_id (w : zW) {b : Nat} (h : b < 257) : fX7_isDigit w (zBi b) = some (if zSo b = 2 then 1 else 0) := mx_id0 b h
theorem zBi32 : ∀ b, b < 257 → (zBi b = 32 ↔ b = 32) := by decide +kernel
theorem zBi_nn : ∀ b, b < 257 → (0 ≤ zBi b ↔ b ≠ 256) := by decide +kernel
theorem zBi_dig : ∀ b, b < 257 → zSo b = 2 → zBi b = nI b ∧ 48 ≤ b ∧ b ≤ 57 := by decide +kernel
theorem zBi_let : ∀ b, b < 257 → zSo b = 1 → zBi b = nI b ∧ 97 ≤ b ∧ b ≤ 122 := by decide +kernel
theorem zBi_oth : ∀ b, b < 257 → 3 ≤ zSo b → zBi b = nI b := by decide +kernel
theorem zSo_0 : ∀ b, b < 257 → (zSo b = 0 ↔ b = 256) := by decide +kernel
/-- only the field k of place o has changed -/
def zF1 (o : Nat) (K : Nat → Prop) (w u : zW) : Prop := zE (fun x => x = o) w u ∧ ∀ i, ¬ K i → u.1 o i = w.1 o i
theorem zF1.rfl {o : Nat} {K : Nat → Prop} {w : zW} : zF1 o K w w := ⟨zE.rfl, fun _ _ => Eq.refl _⟩
theorem zF1.trs {o : Nat} {K : Nat → Prop} {w u v : zW} (h : zF1 o K w u) (k : zF1 o K u v) : zF1 o K w v := ⟨h.1.trs k.1, fun i hi => (k.2 i hi).trans (h.2 i hi)⟩
theorem zF1.f {o k : Nat} {K : Nat → Prop} {w : zW} {x : Int32} (hk : K k) : zF1 o K w (zsf w o k x) := ⟨zE.sf0 (Eq.refl _), fun i hi => zsf_k (fun e => hi (e ▸ hk))⟩
theorem zF1.g {o k : Nat} {K : Nat → Prop} {w : zW} {x : Int64} : zF1 o K w (zsg w o k x) := ⟨zE.sg0 (Eq.refl _), fun i hi => Eq.refl _⟩
theorem zF1.mono {o : Nat} {K J : Nat → Prop} {w u : zW} (h : zF1 o K w u) (q : ∀ i, K i → J i) : zF1 o J w u := ⟨h.1, fun i hi => h.2 i (fun c => hi (q i c))⟩
theorem zT6.k {w u : zW} {T : zTape} {K : Nat → Prop} (h : zT6 w T) (e : zF1 43 K w u) (hK : ¬ K 1) : zT6 u T := ⟨by rw [e.2 1 hK, h.1], fun i hi => by rw [(e.1 44 (by omega)).1, h.2 i hi]⟩
theorem zT7.k {w u : zW} {T : zTape} {K : Nat → Prop} (h : zT7 w T) (e : zF1 60 K w u) (hK : ¬ K 7) : zT7 u T := ⟨by rw [e.2 7 hK, h.1], fun i hi => by rw [(e.1 65 (by omega)).1, h.2 i hi]⟩
section ADV
variable {T : zTape}
theorem c_blank (hT : zWt T) : ∀ n i (w : zW), T.1 ≤ i + n → i ≤ T.1 → zT6 w T → w.1 43 2 = nI i → ∀ q, n < q → ∃ u, lpX4_advance_8 q w = some u ∧ zF1 43 (fun k => k = 2) w u ∧ u.1 43 2 = nI (zSc (zIsB T) n i) := by
  have l := hT.1
  intro n
  induction n with
  | zero =>
    intro i w h1 h2 hw h3 q hq
    obtain ⟨q, rfl⟩ : ∃ z, q = z + 1 := ⟨q - 1, by omega⟩
    rw [lpX4_advance_8, hw.1, h3, if_pos ((nI_leI (by omega) (by omega)).mpr (by omega))]
    exact ⟨w, rfl, zF1.rfl, h3⟩
  | succ n ih =>
    intro i w h1 h2 hw h3 q hq
    obtain ⟨q, rfl⟩ : ∃ z, q = z + 1 := ⟨q - 1, by omega⟩
    rw [lpX4_advance_8, hw.1, h3, zSc]
    by_cases c : T.1 ≤ i
    · rw [if_pos ((nI_leI (by omega) (by omega)).mpr c), zIsB_end c]
      exact ⟨w, rfl, zF1.rfl, h3⟩
    · rw [if_neg (fun x => c ((nI_leI (by omega) (by omega)).mp x)), cx_by hT hw (by omega), Option.bind_some]
      have b := zByt_le hT (i := i)
      by_cases d : zByt T i = 32
      · have p : zIsB T i = true := decide_eq_true d
        obtain ⟨u, u1, u2, u3⟩ := ih (i + 1) (zsf w 43 2 (nI (i + 1))) (by omega) (by omega) (hw.k (K := fun k => k = 2) (zF1.f (Eq.refl _)) (by omega)) zsf_same q (by omega)
        rw [if_pos ((zBi32 _ b).mpr d), Option.bind_some, nI_1, if_pos p]
        exact ⟨u, u1, (zF1.f (K := fun k => k = 2) (Eq.refl _)).trs u2, u3⟩
      · have p : ¬ zIsB T i = true := fun q => d (of_decide_eq_true q)
        rw [if_neg (fun x => d ((zBi32 _ b).mp x)), if_neg p]
        exact ⟨w, rfl, zF1.rfl, h3⟩
theorem c_word (hT : zWt T) : ∀ n i (w : zW), T.1 ≤ i + n → i ≤ T.1 → zT6 w T → w.1 43 3 = nI i → ∀ q, n < q → ∃ u, lpX4_passWord_0 q w = some u ∧ zF1 43 (fun k => k = 3) w u ∧ u.1 43 3 = nI (zSc (zIsL T) n i) := by
  have l := hT.1
  intro n
  induction n with
  | zero =>
    intro i w h1 h2 hw h3 q hq
    obtain ⟨q, rfl⟩ : ∃ z, q = z + 1 := ⟨q - 1, by omega⟩
    rw [lpX4_passWord_0, hw.1, h3, if_pos ((nI_leI (by omega) (by omega)).mpr (by omega))]
    exact ⟨w, rfl, zF1.rfl, h3⟩
  | succ n ih =>
    intro i w h1 h2 hw h3 q hq
    obtain ⟨q, rfl⟩ : ∃ z, q = z + 1 := ⟨q - 1, by omega⟩
    rw [lpX4_passWord_0, hw.1, h3, zSc]
    by_cases c : T.1 ≤ i
    · rw [if_pos ((nI_leI (by omega) (by omega)).mpr c), zIsL_end c]
      exact ⟨w, rfl, zF1.rfl, h3⟩
    · have b := zByt_le hT (i := i)
      have sl := zSo_le (b := zByt T i)
      have p1 : (nI (zSo (zByt T i)) = 1) = (zSo (zByt T i) = 1) := propext (by rw [zL1]; exact nI_eq (by omega) (by omega))
      rw [if_neg (fun x => c ((nI_leI (by omega) (by omega)).mp x)), cx_by hT hw (by omega), Option.bind_some, cx_so w b, Option.bind_some]
      by_cases d : zSo (zByt T i) = 1
      · have p : zIsL T i = true := decide_eq_true d
        obtain ⟨u, u1, u2, u3⟩ := ih (i + 1) (zsf w 43 3 (nI (i + 1))) (by omega) (by omega) (hw.k (K := fun k => k = 3) (zF1.f (Eq.refl _)) (by omega)) zsf_same q (by omega)
        rw [if_pos (p1.mpr d), Option.bind_some, nI_1, if_pos p]
        exact ⟨u, u1, (zF1.f (K := fun k => k = 3) (Eq.refl _)).trs u2, u3⟩
      · have p : ¬ zIsL T i = true := fun q => d (of_decide_eq_true q)
        rw [if_neg (fun x => d (p1.mp x)), if_neg p]
        exact ⟨w, rfl, zF1.rfl, h3⟩
theorem c_num (hT : zWt T) : ∀ n i a (w : zW), T.1 ≤ i + n → i ≤ T.1 → a ≤ 10000 → zT6 w T → w.1 43 3 = nI i → w.1 43 5 = nI a → ∀ q, n < q → ∃ u, lpX4_passNumber_5 q w = some u ∧ zF1 43 (fun k => k = 3 ∨ k = 5) w u ∧ u.1 43 3 = nI (zSc (zIsD T) n i) ∧ u.1 43 5 = nI (zVl T n i a) := by
  have l := hT.1
  intro n
  induction n with
  | zero =>
    intro i a w h1 h2 ha hw h3 h5 q hq
    obtain ⟨q, rfl⟩ : ∃ z, q = z + 1 := ⟨q - 1, by omega⟩
    rw [lpX4_passNumber_5, hw.1, h3, if_pos ((nI_leI (by omega) (by omega)).mpr (by omega))]
    exact ⟨w, rfl, zF1.rfl, h3, h5⟩
  | succ n ih =>
    intro i a w h1 h2 ha hw h3 h5 q hq
    obtain ⟨q, rfl⟩ : ∃ z, q = z + 1 := ⟨q - 1, by omega⟩
    rw [lpX4_passNumber_5, hw.1, h3, zSc, zVl]
    by_cases c : T.1 ≤ i
    · rw [if_pos ((nI_leI (by omega) (by omega)).mpr c), zIsD_end c]
      exact ⟨w, rfl, zF1.rfl, h3, h5⟩
    · have b := zByt_le hT (i := i)
      have sl := zSo_le (b := zByt T i)
      have p1 : (nI (zSo (zByt T i)) = 2) = (zSo (zByt T i) = 2) := propext (by rw [zL2]; exact nI_eq (by omega) (by omega))
      rw [if_neg (fun x => c ((nI_leI (by omega) (by omega)).mp x)), cx_by hT hw (by omega), Option.bind_some, cx_so w b, Option.bind_some]
      by_cases d : zSo (zByt T i) = 2
      · have p : zIsD T i = true := decide_eq_true d
        obtain ⟨e1, e2, e3⟩ := zBi_dig _ b d
        have e4 : zmin ((nI a * (10 : Int32) + nI (zByt T i)) - (48 : Int32)) (10000 : Int32) = nI (min (a * 10 + zByt T i - 48) 10000) := by
          rw [zL10, pk_mul, nI_add, show (48 : Int32) = nI 48 from rfl, pk_sub (by omega), zL10000, zmin_nI (by omega) (by omega)]
        have F : zF1 43 (fun k => k = 3 ∨ k = 5) w (zsf (zsf w 43 5 (nI (min (a * 10 + zByt T i - 48) 10000))) 43 3 (nI (i + 1))) := (zF1.f (Or.inr (Eq.refl _))).trs (zF1.f (Or.inl (Eq.refl _)))
        obtain ⟨u, u1, u2, u3⟩ := ih (i + 1) (min (a * 10 + zByt T i - 48) 10000) _ (by omega) (by omega) (Nat.min_le_right _ _) (hw.k F (by omega)) zsf_same (by rw [zsf_k (by omega), zsf_same]) q (by omega)
        have w3 : (zsf w 43 5 (nI (min (a * 10 + zByt T i - 48) 10000))).1 43 3 = nI i := by rw [zsf_k (by omega), h3]
        rw [if_pos (p1.mpr d), e1, h5, Option.bind_some, e4, Option.bind_some, Option.bind_some, w3, nI_1, if_pos p, if_pos p]
        exact ⟨u, u1, F.trs u2, u3⟩
      · have p : ¬ zIsD T i = true := fun q => d (of_decide_eq_true q)
        rw [if_neg (fun x => d (p1.mp x)), if_neg p, if_neg p]
        exact ⟨w, rfl, zF1.rfl, h3, h5⟩
theorem cx_adv {w : zW} {e : Nat} (hT : zWt T) (hw : zT6 w T) (h3 : w.1 43 3 = nI e) (he : e ≤ T.1) : ∃ u, fX4_advance w = some u ∧ zE (fun x => x = 43) w u ∧ zC6 u T e := by
  have l := hT.1
  unfold fX4_advance
  rw [Option.bind_some, h3]
  obtain ⟨x, x1, x2, x3⟩ := c_blank hT 120 e (zsf w 43 2 (nI e)) (by omega) he (hw.k (K := fun k => k = 2) (zF1.f (Eq.refl _)) (by omega)) zsf_same zF (by unfold zF; omega)
  have x3 : x.1 43 2 = nI (zAs T e) := x3
  have sl := zAs_le he
  have bl := zByt_le hT (i := zAs T e)
  have X : zF1 43 (fun k => k = 2) w x := (zF1.f (K := fun k => k = 2) (Eq.refl _)).trs x2
  have hx := hw.k X (by omega)
  have ol := zSo_le (b := zByt T (zAs T e))
  have oe : zSo (zByt T (zAs T e)) = zAo T e := rfl
  rw [x1, Option.bind_some, x3, cx_by hT hx (by omega), Option.bind_some, cx_so x bl, Option.bind_some, Option.bind_some, oe]
  rw [oe] at ol
  have y2 : (zsf x 43 4 (nI (zAo T e))).1 43 2 = nI (zAs T e) := by rw [zsf_k (by omega), x3]
  rw [y2, Option.bind_some]
  have Y : zF1 43 (fun k => k = 2 ∨ k = 3 ∨ k = 4) w (zsf (zsf x 43 4 (nI (zAo T e))) 43 3 (nI (zAs T e))) := ((X.mono (J := fun k => k = 2 ∨ k = 3 ∨ k = 4) (fun i h => Or.inl h)).trs (zF1.f (Or.inr (Or.inr (Eq.refl _))))).trs (zF1.f (Or.inr (Or.inl (Eq.refl _))))
  have Y2 : (zsf (zsf x 43 4 (nI (zAo T e))) 43 3 (nI (zAs T e))).1 43 2 = nI (zAs T e) := by rw [zsf_k (by omega), y2]
  have Y3 : (zsf (zsf x 43 4 (nI (zAo T e))) 43 3 (nI (zAs T e))).1 43 3 = nI (zAs T e) := zsf_same
  have Y4 : (zsf (zsf x 43 4 (nI (zAo T e))) 43 3 (nI (zAs T e))).1 43 4 = nI (zAo T e) := by rw [zsf_k (by omega), zsf_same]
  generalize zsf (zsf x 43 4 (nI (zAo T e))) 43 3 (nI (zAs T e)) = y at Y Y2 Y3 Y4
  have hy := hw.k Y (by omega)
  have q1 : (nI (zAo T e) = 1) = (zAo T e = 1) := propext (by rw [zL1]; exact nI_eq (by omega) (by omega))
  have q2 : (nI (zAo T e) = 2) = (zAo T e = 2) := propext (by rw [zL2]; exact nI_eq (by omega) (by omega))
  have q3 : (nI (zAo T e) = 3) = (zAo T e = 3) := propext (by rw [zL3]; exact nI_eq (by omega) (by omega))
  have q4 : (nI (zAo T e) = 4) = (zAo T e = 4) := propext (by rw [zL4]; exact nI_eq (by omega) (by omega))
  rw [Y4, Y3]
  simp only [q1, q2, q3, q4, nI_1, Option.bind_some]
  by_cases c34 : zAo T e = 3 ∨ zAo T e = 4
  · have en : zAe T e = zAs T e + 1 := by unfold zAe; rw [if_neg (by omega), if_neg (by omega), if_neg (by omega)]
    have r : (if zAo T e = 3 then some (zsf y 43 3 (nI (zAs T e + 1))) else if zAo T e = 4 then some (zsf y 43 3 (nI (zAs T e + 1))) else if zAo T e = 2 then Option.bind (fX4_passNumber y) (fun w28 => some w28) else if zAo T e = 1 then Option.bind (fX4_passWord y) (fun w25 => some w25) else some y) = some (zsf y 43 3 (nI (zAs T e + 1))) := by
      rcases c34 with c | c
      · rw [if_pos c]
      · rw [if_neg (by omega), if_pos c]
    rw [r]
    refine ⟨_, rfl, Y.1.trs (zE.sf0 rfl), hy.k (K := fun k => k = 3) (zF1.f (Eq.refl _)) (by omega), ?_, ?_, ?_, fun c => by omega⟩
    · rw [zsf_k (by omega), Y2]
    · rw [zsf_same, en]
    · rw [zsf_k (by omega), Y4]
  · rw [if_neg (fun c => c34 (Or.inl c)), if_neg (fun c => c34 (Or.inr c))]
    by_cases c2 : zAo T e = 2
    · have en : zAe T e = zSc (zIsD T) 120 (zAs T e) := by unfold zAe; rw [if_neg (by omega), if_neg (by omega), if_pos c2]
      obtain ⟨u, u1, u2, u3, u4⟩ := c_num hT 120 (zAs T e) 0 (zsf y 43 5 0) (by omega) sl (by omega) (hy.k (K := fun k => k = 5) (zF1.f (Eq.refl _)) (by omega)) (by rw [zsf_k (by omega), Y3]) zsf_same zF (by unfold zF; omega)
      rw [if_pos c2]
      unfold fX4_passNumber
      rw [Option.bind_some, u1, Option.bind_some, Option.bind_some]
      have U : zF1 43 (fun k => k = 3 ∨ k = 5) y u := (zF1.f (Or.inr (Eq.refl _))).trs u2
      refine ⟨u, rfl, Y.1.trs U.1, hy.k U (by omega), by rw [U.2 2 (by omega), Y2], by rw [u3, en], by rw [U.2 4 (by omega), Y4], fun _ => u4⟩
    · rw [if_neg c2]
      by_cases c1 : zAo T e = 1
      · have en : zAe T e = zSc (zIsL T) 120 (zAs T e) := by unfold zAe; rw [if_neg (by omega), if_pos c1]
        obtain ⟨u, u1, u2, u3⟩ := c_word hT 120 (zAs T e) y (by omega) sl hy Y3 zF (by unfold zF; omega)
        rw [if_pos c1]
        unfold fX4_passWord
        rw [u1, Option.bind_some, Option.bind_some]
        exact ⟨u, rfl, Y.1.trs u2.1, hy.k u2 (by omega), by rw [u2.2 2 (by omega), Y2], by rw [u3, en], by rw [u2.2 4 (by omega), Y4], fun c => absurd c c2⟩
      · have en : zAe T e = zAs T e := by unfold zAe; rw [if_pos (by omega)]
        rw [if_neg c1]
        exact ⟨y, rfl, Y.1, hy, Y2, by rw [Y3, en], Y4, fun c => absurd c c2⟩
end ADV
