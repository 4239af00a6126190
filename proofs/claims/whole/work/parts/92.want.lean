/-! words by their letters, and by their codes -/
def zNmL (q : Nat) : Nat := zlen.getD q 0
def zNm (q i : Nat) : Nat := ((zbyt.getD q []).getD i 0).toNatClampNeg
theorem nm_ch : ∀ q, q < 13 → ∀ i, i < zNmL q → fJ0_charAt_5068e q (nI i) = some (nI (zNm q i)) ∧ 97 ≤ zNm q i ∧ zNm q i ≤ 122 := by decide +kernel
theorem nm_le : ∀ q, q < 13 → zNmL q ≤ 7 := by decide +kernel
def zcd : List Int64 := [8659005332, 117812495, 365260, 555, 80155, 10340249, 3094387, 9454493, 4351291, 2397198555, 46263, 275358764, 175252482]
theorem nm_cd : ∀ q, q < 13 → zcd.getD q 0 = lN (zWc (zNm q) (zNmL q)) := by decide +kernel
theorem zWc_lt {c : Nat → Nat} : ∀ n, (∀ i, i < n → 97 ≤ c i ∧ c i ≤ 122) → zWc c n < 27 ^ n := by
  intro n
  induction n with
  | zero => intro _; exact Nat.zero_lt_one
  | succ n ih =>
    intro h
    have i := ih (fun i hi => h i (by omega))
    have b := h n (by omega)
    rw [zWc, Nat.pow_succ]
    omega
theorem zWc_inj {c d : Nat → Nat} : ∀ n m, (∀ i, i < n → 97 ≤ c i ∧ c i ≤ 122) → (∀ i, i < m → 97 ≤ d i ∧ d i ≤ 122) → (zWc c n = zWc d m ↔ n = m ∧ ∀ i, i < n → c i = d i) := by
  intro n
  induction n with
  | zero =>
    intro m _ hd
    cases m with
    | zero => exact ⟨fun _ => ⟨rfl, fun i hi => by omega⟩, fun _ => rfl⟩
    | succ m =>
      have b := hd m (by omega)
      refine ⟨fun h => ?_, fun h => by omega⟩
      rw [zWc, zWc] at h
      omega
  | succ n ih =>
    intro m hc hd
    have a := hc n (by omega)
    cases m with
    | zero =>
      refine ⟨fun h => ?_, fun h => by omega⟩
      rw [zWc, zWc] at h
      omega
    | succ m =>
      have b := hd m (by omega)
      have i := ih m (fun i hi => hc i (by omega)) (fun i hi => hd i (by omega))
      rw [zWc, zWc]
      refine ⟨fun h => ?_, fun h => ?_⟩
      · have h1 : zWc c n = zWc d m := by omega
        have h2 : c n = d m := by omega
        obtain ⟨e, f⟩ := i.mp h1
        subst e
        refine ⟨rfl, fun j hj => ?_⟩
        by_cases q : j = n
        · subst q; exact h2
        · exact f j (by omega)
      · obtain ⟨e, f⟩ := h
        have e : n = m := by omega
        subst e
        rw [i.mpr ⟨rfl, fun j hj => f j (by omega)⟩, f n (by omega)]
/-- the token is the word q -/
def zWd (T : zTape) (e q : Nat) : Bool := decide (zAo T e = 1 ∧ zAe T e - zAs T e = zNmL q ∧ ∀ i, i < zNmL q → zByt T (zAs T e + i) = zNm q i)
theorem zBi_eq (b : Nat) (hb : b < 257) (c : Nat) (hc : c < 123) : zBi b = nI c ↔ b = c := by
  unfold zBi
  by_cases q : b = 256
  · rw [if_pos q]
    exact ⟨fun h => absurd h.symm (nI_neg1 (by omega)), fun h => by omega⟩
  · rw [if_neg q]
    exact nI_eq (by omega) (by omega)
section WORDS
variable {T : zTape} {w : zW} {e : Nat}
theorem cx_wd_lp (hT : zWt T) (hw : zT6 w T) (h2 : w.1 43 2 = nI (zAs T e)) (hs : zAs T e ≤ T.1) {q : Nat} (hq : q < 13) : ∀ m i, i + m = zNmL q → (∀ x, x < i → zByt T (zAs T e + x) = zNm q x) → ∀ n, m < n → ((∀ x, x < zNmL q → zByt T (zAs T e + x) = zNm q x) → lpX4_isWord_28 w q n (nI i) = some (.inr ())) ∧ ((¬ ∀ x, x < zNmL q → zByt T (zAs T e + x) = zNm q x) → lpX4_isWord_28 w q n (nI i) = some (.inl 0)) := by
  have l := hT.1
  have nl := nm_le q hq
  have ln : fJ0_length_8abf5 q = some (nI (zNmL q)) := rfl
  intro m
  induction m with
  | zero =>
    intro i hi hx n hn
    obtain ⟨n, rfl⟩ : ∃ z, n = z + 1 := ⟨n - 1, by omega⟩
    rw [lpX4_isWord_28, ln, Option.bind_some, if_pos ((nI_leI (by omega) (by omega)).mpr (by omega))]
    exact ⟨fun _ => rfl, fun h => absurd (fun x hx' => hx x (by omega)) h⟩
  | succ m ih =>
    intro i hi hx n hn
    obtain ⟨n, rfl⟩ : ∃ z, n = z + 1 := ⟨n - 1, by omega⟩
    have b := zByt_le hT (i := zAs T e + i)
    obtain ⟨c1, c2, c3⟩ := nm_ch q hq i (by omega)
    have pe := zBi_eq _ b _ (show zNm q i < 123 by omega)
    rw [lpX4_isWord_28, ln, Option.bind_some, if_neg (fun x => by have := (nI_leI (by omega) (by omega)).mp x; omega), h2, nI_add, cx_by hT hw (by omega), Option.bind_some, c1, Option.bind_some, nI_1]
    by_cases c : zByt T (zAs T e + i) = zNm q i
    · rw [if_pos (pe.mpr c)]
      exact ih (i + 1) (by omega) (fun x hx' => by
        by_cases d : x = i
        · subst d; exact c
        · exact hx x (by omega)) n (by omega)
    · rw [if_neg (fun q => c (pe.mp q))]
      exact ⟨fun h => absurd (h i (by omega)) c, fun _ => rfl⟩
theorem cx_wd (hT : zWt T) (hC : zC6 w T e) (he : e ≤ T.1) {q : Nat} (hq : q < 13) : fX4_isWord w q = some (if zWd T e q = true then 1 else 0) := by
  have l := hT.1
  have nl := nm_le q hq
  have sl := zAs_le he
  have el := zAe_le he
  have eg := zAe_ge (T := T) (e := e)
  have ol := zSo_le (b := zByt T (zAs T e))
  have ol : zAo T e ≤ 4 := ol
  have ln : fJ0_length_8abf5 q = some (nI (zNmL q)) := rfl
  have p1 : (nI (zAo T e) = 1) = (zAo T e = 1) := propext (by rw [zL1]; exact nI_eq (by omega) (by omega))
  have p2 : (nI (zAe T e - zAs T e) = nI (zNmL q)) = (zAe T e - zAs T e = zNmL q) := propext (nI_eq (by omega) (by omega))
  obtain ⟨k1, k2⟩ := cx_wd_lp hT hC.1 hC.2.1 sl hq (zNmL q) 0 (by omega) (fun x hx => absurd hx (by omega)) zF (by unfold zF; omega)
  have k1 : (∀ x, x < zNmL q → zByt T (zAs T e + x) = zNm q x) → lpX4_isWord_28 w q zF 0 = some (.inr ()) := k1
  have k2 : (¬ ∀ x, x < zNmL q → zByt T (zAs T e + x) = zNm q x) → lpX4_isWord_28 w q zF 0 = some (.inl 0) := k2
  unfold fX4_isWord
  rw [hC.2.2.2.1, hC.2.2.1, hC.2.1, ln, Option.bind_some, pk_sub eg]
  by_cases c1 : zAo T e = 1
  · rw [if_pos (p1.mpr c1)]
    by_cases c2 : zAe T e - zAs T e = zNmL q
    · rw [if_pos (p2.mpr c2)]
      by_cases c3 : ∀ x, x < zNmL q → zByt T (zAs T e + x) = zNm q x
      · have f : zWd T e q = true := decide_eq_true ⟨c1, c2, c3⟩
        rw [k1 c3, f]; rfl
      · have f : zWd T e q = false := decide_eq_false (fun h => c3 h.2.2)
        rw [k2 c3, f]; rfl
    · have f : zWd T e q = false := decide_eq_false (fun h => c2 h.2.1)
      rw [if_neg (fun h => c2 (p2.mp h)), f]; rfl
  · have f : zWd T e q = false := decide_eq_false (fun h => c1 h.1)
    rw [if_neg (fun h => c1 (p1.mp h)), f]; rfl
theorem lg0 {x y : Int64} : (lg_cmp x y = 0) = (x = y) := by
  apply propext
  unfold lg_cmp
  by_cases c : x = y
  · subst c
    have : ¬ x > x := Int64.lt_irrefl
    simp [this]
  · by_cases d : x > y
    · simp [c, d]
    · simp [c, d]
theorem mx_wd (hT : zWt T) (hC : zC7 w T e) (he : e ≤ T.1) {q : Nat} (hq : q < 13) : fX7_isWord w (zcd.getD q 0) = some (if zWd T e q = true then 1 else 0) := by
  have l := hT.1
  have nl := nm_le q hq
  have sl := zAs_le he
  have el := zAe_le he
  have eg := zAe_ge (T := T) (e := e)
  have ol : zAo T e ≤ 4 := zSo_le (b := zByt T (zAs T e))
  have p1 : (nI (min (zAo T e) 3) = 1) = (zAo T e = 1) := propext (by rw [zL1, nI_eq (by omega) (by omega)]; omega)
  unfold fX7_isWord
  rw [hC.2.2.2.1, nm_cd q hq]
  simp only [lg0]
  by_cases c1 : zAo T e = 1
  · have en : zAe T e = zSc (zIsL T) 120 (zAs T e) := by unfold zAe; rw [if_neg (by omega), if_pos c1]
    have letters : ∀ i, i < zAe T e - zAs T e → 97 ≤ zByt T (zAs T e + i) ∧ zByt T (zAs T e + i) ≤ 122 := by
      intro i hi
      have := zSc_all (P := zIsL T) 120 (zAs T e) (zAs T e + i) (by omega) (by omega)
      exact (zBi_let _ (zByt_le hT) (of_decide_eq_true this)).2
    have nmb : ∀ i, i < zNmL q → 97 ≤ zNm q i ∧ zNm q i ≤ 122 := fun i hi => (nm_ch q hq i hi).2
    have vl := zWc_lt (zNmL q) nmb
    have v12 : 27 ^ zNmL q ≤ 27 ^ 12 := Nat.pow_le_pow_right (by omega) (by omega)
    have key : (w.2 60 11 = lN (zWc (zNm q) (zNmL q))) ↔ (zAe T e - zAs T e = zNmL q ∧ ∀ i, i < zNmL q → zByt T (zAs T e + i) = zNm q i) := by
      rw [hC.2.2.2.2.2.2 c1]
      unfold zWw
      by_cases q12 : zAe T e - zAs T e ≤ 12
      · have wl := zWc_lt (c := fun x => zByt T (zAs T e + x)) (zAe T e - zAs T e) letters
        have w12 : 27 ^ (zAe T e - zAs T e) ≤ 27 ^ 12 := Nat.pow_le_pow_right (by omega) q12
        have big : (27 : Nat) ^ 12 < 2 ^ 63 := by decide
        rw [if_pos q12, pk_lEQ (by omega) (by omega), zWc_inj _ _ letters nmb]
        refine ⟨fun h => ⟨h.1, fun i hi => h.2 i (by omega)⟩, fun h => ⟨h.1, fun i hi => h.2 i (by omega)⟩⟩
      · rw [if_neg q12]
        refine ⟨fun h => ?_, fun h => by omega⟩
        exfalso
        have big : (27 : Nat) ^ 12 < 2 ^ 63 := by decide
        have t := congrArg Int64.toInt h
        rw [pk_lT (by omega), show (-1 : Int64).toInt = -1 from by decide] at t
        omega
    rw [if_pos (p1.mpr c1)]
    by_cases c2 : w.2 60 11 = lN (zWc (zNm q) (zNmL q))
    · obtain ⟨k1, k2⟩ := key.mp c2
      have f : zWd T e q = true := decide_eq_true ⟨c1, k1, k2⟩
      rw [if_pos c2, f]; rfl
    · have f : zWd T e q = false := decide_eq_false (fun h => c2 (key.mpr h.2))
      rw [if_neg c2, f]; rfl
  · have f : zWd T e q = false := decide_eq_false (fun h => c1 h.1)
    rw [if_neg (fun h => c1 (p1.mp h)), f]; rfl
theorem cx_nb (hC : zC6 w T e) {a b : Nat} (ha : a < 2 ^ 30) (hb : b < 2 ^ 30) : fX4_isNumber w (nI a) (nI b) = some (if decide (zAo T e = 2 ∧ a ≤ zAv T e ∧ zAv T e ≤ b) = true then 1 else 0) := by
  have ol : zAo T e ≤ 4 := zSo_le (b := zByt T (zAs T e))
  have vl := zAv_le (T := T) (e := e)
  have p1 : (nI (zAo T e) = 2) = (zAo T e = 2) := propext (by rw [zL2]; exact nI_eq (by omega) (by omega))
  unfold fX4_isNumber
  rw [hC.2.2.2.1]
  by_cases c1 : zAo T e = 2
  · rw [if_pos (p1.mpr c1), hC.2.2.2.2 c1]
    by_cases c2 : a ≤ zAv T e
    · rw [if_neg (fun x => by have := (nI_ltI (by omega) (by omega)).mp x; omega)]
      by_cases c3 : zAv T e ≤ b
      · rw [if_neg (fun x => by have := (nI_ltI (by omega) (by omega)).mp x; omega), if_pos (decide_eq_true ⟨c1, c2, c3⟩)]
      · rw [if_pos ((nI_ltI (by omega) (by omega)).mpr (by omega)), decide_eq_false (fun h => c3 h.2.2)]; rfl
    · rw [if_pos ((nI_ltI (by omega) (by omega)).mpr (by omega)), decide_eq_false (fun h => c2 h.2.1)]; rfl
  · rw [if_neg (fun h => c1 (p1.mp h)), decide_eq_false (fun h => c1 h.1)]; rfl
theorem cx_sv (hC : zC6 w T e) {o N : Nat} (hN : N ≤ 12) (h0 : w.1 o 0 = nI N) : fX1_standsVillage w o = some (if decide (zAo T e = 2 ∧ zAv T e < N) = true then 1 else 0) := by
  have ol : zAo T e ≤ 4 := zSo_le (b := zByt T (zAs T e))
  have vl := zAv_le (T := T) (e := e)
  have p1 : (nI (zAo T e) = 2) = (zAo T e = 2) := propext (by rw [zL2]; exact nI_eq (by omega) (by omega))
  unfold fX1_standsVillage fX4_isNumber
  rw [hC.2.2.2.1, h0]
  by_cases c1 : zAo T e = 2
  · rw [if_pos (p1.mpr c1), hC.2.2.2.2 c1, if_neg (nI_pos (by omega))]
    have pl : (nI N - 1 < nI (zAv T e)) ↔ N ≤ zAv T e := by
      rw [Int32.lt_iff_toInt_lt, zL1, pk_sub_toInt (by omega) (by omega), nI_toInt (by omega)]
      omega
    by_cases c2 : zAv T e < N
    · rw [if_neg (fun x => by have := pl.mp x; omega), if_pos (decide_eq_true ⟨c1, c2⟩), Option.bind_some, zgb_1, Option.bind_some]
    · rw [if_pos (pl.mpr (by omega)), decide_eq_false (fun h => c2 h.2), Option.bind_some, zgb_0, Option.bind_some]; rfl
  · rw [if_neg (fun h => c1 (p1.mp h)), decide_eq_false (fun h => c1 h.1), Option.bind_some, zgb_0, Option.bind_some]; rfl
theorem zC7.g (h : zC7 w T e) {x : Int32} : zC7 (zsf w 60 13 x) T e := by
  obtain ⟨h1, h2, h3, h4, h5, h6, h7⟩ := h
  exact ⟨h1.k (K := fun k => k = 13) (zF1.f (Eq.refl _)) (by omega), by rw [zsf_k (by omega), h2], by rw [zsf_k (by omega), h3], by rw [zsf_k (by omega), h4], fun c => by rw [zsf_k (by omega), h5 c], fun c => by rw [zsf_k (by omega), h6 c], h7⟩
/-- what the reference's reader may write -/
def zX7 (w u : zW) : Prop := zE (fun o => o = 60) w u ∧ u.1 60 20 = w.1 60 20
theorem zX7.rfl {w : zW} : zX7 w w := ⟨zE.rfl, Eq.refl _⟩
theorem zX7.trs {w u v : zW} (h : zX7 w u) (k : zX7 u v) : zX7 w v := ⟨h.1.trs k.1, k.2.trans h.2⟩
theorem zX7.g {w : zW} {x : Int32} : zX7 w (zsf w 60 13 x) := ⟨zE.sf0 (Eq.refl _), zsf_k (by omega)⟩
theorem zX7.a {w u : zW} (h : zF1 60 (fun k => 8 ≤ k ∧ k ≤ 12) w u) : zX7 w u := ⟨h.1, h.2 20 (by omega)⟩
theorem mx_wn (hT : zWt T) (hC : zC7 w T e) (he : e ≤ T.1) {g P : Bool} (hg : w.1 60 13 = if g = true then 1 else 0) {p1 p2 : Int32} (hin : zAo T e = 2 → fX7_in w (nI (zAv T e)) p1 p2 = some (if P = true then 1 else 0)) : ∃ x u, fX7_wantNumber w p1 p2 = some (x, u) ∧ zX7 w u ∧ u.1 60 13 = (if (g && (decide (zAo T e = 2) && P)) = true then 1 else 0) ∧ ((g && (decide (zAo T e = 2) && P)) = true → x = nI (zAv T e) ∧ zC7 u T (zAe T e)) ∧ ((g && (decide (zAo T e = 2) && P)) = false → zC7 u T e) := by
  have ol : zAo T e ≤ 4 := zSo_le (b := zByt T (zAs T e))
  have el := zAe_le he
  have q2 : (nI (min (zAo T e) 3) = 2) = (zAo T e = 2) := propext (by rw [zL2, nI_eq (by omega) (by omega)]; omega)
  have x7 : (if (if g = true then (1 : Int32) else 0) = 0 then (some (0 : Int32)) else ((if nI (min (zAo T e) 3) = 2 then (Option.bind (fX7_in w (w.1 60 12) p1 p2) fun v11 => (if v11 = 0 then (some (0 : Int32)) else (some (1 : Int32)))) else (some (0 : Int32))))) = some (if (g && (decide (zAo T e = 2) && P)) = true then 1 else 0) := by
    cases g with
    | false => rfl
    | true =>
      rw [if_neg (by decide)]
      by_cases c : zAo T e = 2
      · rw [if_pos (q2.mpr c), hC.2.2.2.2.1 c, hin c, Option.bind_some, show decide (zAo T e = 2) = true from decide_eq_true c]
        cases P <;> rfl
      · rw [if_neg (fun h => c (q2.mp h)), show decide (zAo T e = 2) = false from decide_eq_false c]
        rfl
  unfold fX7_wantNumber
  rw [Option.bind_some, hg, hC.2.2.2.1, x7, Option.bind_some]
  generalize hk : (g && (decide (zAo T e = 2) && P)) = ok
  have zb : zgb (if ok = true then 1 else 0) = some (if ok = true then 1 else 0) := by cases ok <;> rfl
  have c13 : (zsf w 60 13 (if ok = true then 1 else 0)).1 60 13 = if ok = true then 1 else 0 := zsf_same
  rw [zb, Option.bind_some, Option.bind_some, c13]
  cases ok with
  | false =>
    rw [if_pos (by decide), Option.bind_some]
    exact ⟨_, _, rfl, zX7.g, c13, fun h => (by cases h), fun _ => hC.g⟩
  | true =>
    have so : zAo T e = 2 := by
      rw [Bool.and_eq_true, Bool.and_eq_true] at hk
      exact of_decide_eq_true hk.2.1
    have hC' := hC.g (x := if true = true then 1 else 0)
    obtain ⟨u, u1, u2, u3⟩ := mx_adv hT hC'.1 hC'.2.2.1 el
    rw [if_neg (by decide), u1, Option.bind_some, Option.bind_some]
    refine ⟨_, u, rfl, zX7.g.trs (zX7.a u2), by rw [u2.2 13 (by omega), c13], fun _ => ⟨hC.2.2.2.2.1 so, u3⟩, fun h => (by cases h)⟩
theorem mx_ww (hT : zWt T) (hC : zC7 w T e) (he : e ≤ T.1) {g : Bool} (hg : w.1 60 13 = if g = true then 1 else 0) {q : Nat} (hq : q < 13) : ∃ u, fX7_wantWord w (zcd.getD q 0) = some u ∧ zX7 w u ∧ u.1 60 13 = (if (g && zWd T e q) = true then 1 else 0) ∧ ((g && zWd T e q) = true → zC7 u T (zAe T e)) ∧ ((g && zWd T e q) = false → zC7 u T e) := by
  have el := zAe_le he
  have x4 : (if (if g = true then (1 : Int32) else 0) = 0 then (some (0 : Int32)) else (Option.bind (fX7_isWord w (zcd.getD q 0)) fun v8 => (if v8 = 0 then (some (0 : Int32)) else (some (1 : Int32))))) = some (if (g && zWd T e q) = true then 1 else 0) := by
    rw [mx_wd hT hC he hq, Option.bind_some]
    cases g <;> cases zWd T e q <;> rfl
  unfold fX7_wantWord
  rw [hg, x4, Option.bind_some]
  generalize (g && zWd T e q) = ok
  have zb : zgb (if ok = true then 1 else 0) = some (if ok = true then 1 else 0) := by cases ok <;> rfl
  have c13 : (zsf w 60 13 (if ok = true then 1 else 0)).1 60 13 = if ok = true then 1 else 0 := zsf_same
  rw [zb, Option.bind_some, Option.bind_some, c13]
  cases ok with
  | false =>
    rw [if_pos (by decide)]
    exact ⟨_, rfl, zX7.g, c13, fun h => (by cases h), fun _ => hC.g⟩
  | true =>
    have hC' := hC.g (x := if true = true then 1 else 0)
    obtain ⟨u, u1, u2, u3⟩ := mx_adv hT hC'.1 hC'.2.2.1 el
    rw [if_neg (by decide), u1, Option.bind_some]
    exact ⟨u, rfl, zX7.g.trs (zX7.a u2), by rw [u2.2 13 (by omega), c13], fun _ => u3, fun h => (by cases h)⟩
end WORDS
