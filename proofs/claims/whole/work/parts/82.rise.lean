/-! rise: a village's height, tried -/
theorem zS_ht_ht {S : zLd} {a h : Nat} : zS_ht (zS_ht S a h) a (zHt S a) = S := by
  have e : (fun x => if x = a then S.2.1 a else (if x = a then h else S.2.1 x)) = S.2.1 := by
    funext x
    by_cases c : x = a
    · subst c; rw [if_pos rfl]
    · rw [if_neg c, if_neg c]
  show (S.1, (fun x => if x = a then S.2.1 a else (if x = a then h else S.2.1 x)), S.2.2) = S
  rw [e]
theorem zS_ht_same {S : zLd} {a : Nat} : zS_ht S a (zHt S a) = S := by
  have e : (fun x => if x = a then S.2.1 a else S.2.1 x) = S.2.1 := by
    funext x
    by_cases c : x = a
    · subst c; rw [if_pos rfl]
    · rw [if_neg c]
  show (S.1, (fun x => if x = a then S.2.1 a else S.2.1 x), S.2.2) = S
  rw [e]
theorem zGo_ht {S : zLd} {k a h p q : Nat} (hp : p ≠ a) (hq : q ≠ a) : zGo (zS_ht S a h) k p q = zGo S k p q := by
  have e1 : zHt (zS_ht S a h) p = zHt S p := if_neg hp
  have e2 : zHt (zS_ht S a h) q = zHt S q := if_neg hq
  have e3 : zTk (zS_ht S a h) k q = zTk S k q := rfl
  unfold zGo
  rw [e1, e2, e3]
theorem zEr_ht {S : zLd} {k a h p q : Nat} (hp : p ≠ a) (hq : q ≠ a) : ∀ n, zEr (zS_ht S a h) k n p q = zEr S k n p q := by
  intro n
  induction n with
  | zero => rw [zEr_0, zEr_0]
  | succ n ih =>
    rw [zEr, zEr, ih, zGo_ht hp hq]
    rfl
theorem zEg_ht {S : zLd} {k a h p q : Nat} (hp : p ≠ a) (hq : q ≠ a) : zEg (zS_ht S a h) k p q = zEg S k p q := zEr_ht hp hq (zNr S)
/-- with a at height h post comes from a to b by roads -/
def zTr (S : zLd) (k a b h : Nat) : Prop := zDd (zS_ht S a h) k a b < zNV
/-- a neighbour from which the goal is come to -/
def zUn' (S : zLd) (k a b u : Nat) : Prop := (∃ r, r < zNr S ∧ zJr S a u r) ∧ zTk S k u = true ∧ zDd S k u b < zNV
theorem zD_step {S : zLd} (hS : zWf S) {k : Nat} (hk : k < 6) {a p q : Nat} (hp : p < zNv S) (h1 : zDd S k a p < zNV) (h2 : zEg S k p q < zNV) : zDd S k a q < zNV := by
  have z : zNV = 1000000 := rfl
  have t1 := zD_tri (S := S) (k := k) (a := a) (b := q) hp
  have t2 := zD_e (S := S) (k := k) (a := p) (b := q)
  have t3 := zD_bd hS hk h1
  have t4 := (zEg_bd hS hk h2).2
  omega
theorem zD_pre {S : zLd} (hS : zWf S) {k : Nat} (hk : k < 6) {p q b : Nat} (hq : q < zNv S) (h1 : zEg S k p q < zNV) (h2 : zDd S k q b < zNV) : zDd S k p b < zNV := by
  have z : zNV = 1000000 := rfl
  have t1 := zD_tri (S := S) (k := k) (a := p) (b := b) hq
  have t2 := zD_e (S := S) (k := k) (a := p) (b := q)
  have t3 := zD_bd hS hk h2
  have t4 := (zEg_bd hS hk h1).2
  omega
theorem zEg_lt {S : zLd} (hS : zWf S) {k p q : Nat} (h : zEg S k p q < zNV) : p < zNv S ∧ q < zNv S ∧ p ≠ q := by
  obtain ⟨r, r1, r2, _⟩ := zEg_fin hS h
  obtain ⟨g1, g2, g3, _⟩ := hS.rd r r1
  unfold zJr at r2
  omega
theorem zTr_y {S : zLd} (hS : zWf S) {k : Nat} (hk : k < 6) {a b u h : Nat} (hb : b < zNv S) (hh : h ≤ 9999) (h0 : ¬ zDd S k a b < zNV) (hu : zUn' S k a b u) (hl : zHt S u + zDr k ≤ h) : zTr S k a b h := by
  have z : zNV = 1000000 := rfl
  obtain ⟨⟨r, r1, r2⟩, tk, dn⟩ := hu
  obtain ⟨g1, g2, g3, g4, g5⟩ := hS.rd r r1
  have hua : u ≠ a := by unfold zJr at r2; omega
  have hun : u < zNv S := by unfold zJr at r2; omega
  have han : a < zNv S := by unfold zJr at r2; omega
  have hS' : zWf (zS_ht S a h) := wf_ht hS hh
  have go : zGo (zS_ht S a h) k a u = true := by
    have e1 : zHt (zS_ht S a h) a = h := if_pos rfl
    have e2 : zHt (zS_ht S a h) u = zHt S u := if_neg hua
    have e3 : zTk (zS_ht S a h) k u = zTk S k u := rfl
    unfold zGo
    rw [e1, e2, e3, tk]
    simpa using hl
  have eg : zEg (zS_ht S a h) k a u < zNV := by
    have e := zEg_road (S := zS_ht S a h) hS' (r := r) r1 r2 go
    have nd := zNd_le hk (show zLn S r < 10 by omega)
    rw [e]
    show zNd k (zLn S r) < zNV
    omega
  have walk : ∀ m q d, zWk (zEg S k) (zNv S) m u q d → q < zNv S → zDd S k q b < zNV → zDd (zS_ht S a h) k u q < zNV := by
    intro m
    induction m with
    | zero =>
      intro q d ⟨h1, _⟩ _ _
      subst h1
      rw [zD_0]; omega
    | succ m ih =>
      intro q d ⟨c, hc, e, h1, h2, _⟩ hq hqb
      have hcb := zD_pre hS hk hq h2 hqb
      have ca : c ≠ a := fun x => h0 (x ▸ hcb)
      have qa : q ≠ a := fun x => h0 (x ▸ hqb)
      have i := ih c e h1 hc hcb
      exact zD_step hS' hk (p := c) hc i (by rw [zEg_ht ca qa]; exact h2)
  obtain ⟨m, hm⟩ := zD_wk hun hb dn
  have d2 := walk m b _ hm hb (by rw [zD_0]; omega)
  exact zD_pre hS' hk (q := u) hun eg d2
theorem zTr_n {S : zLd} (hS : zWf S) {k : Nat} (hk : k < 6) {a b h : Nat} (ha : a < zNv S) (hb : b < zNv S) (hab : a ≠ b) (hh : h ≤ 9999) (ht : zTr S k a b h) : ∃ u, u < zNv S ∧ zUn' S k a b u ∧ zHt S u + zDr k ≤ h := by
  have z : zNV = 1000000 := rfl
  have hS' : zWf (zS_ht S a h) := wf_ht hS hh
  have walk : ∀ m q d, zWk (zEg (zS_ht S a h) k) (zNv S) m a q d → q = a ∨ ∃ u, u < zNv S ∧ (∃ r, r < zNr S ∧ zJr S a u r) ∧ zGo (zS_ht S a h) k a u = true ∧ u ≠ a ∧ zDd S k u q < zNV := by
    intro m
    induction m with
    | zero => intro q d ⟨h1, _⟩; exact Or.inl h1.symm
    | succ m ih =>
      intro q d ⟨c, hc, e, h1, h2, _⟩
      by_cases qa : q = a
      · exact Or.inl qa
      right
      obtain ⟨_, hq, hcq⟩ := zEg_lt hS' h2
      have hq : q < zNv S := hq
      by_cases ca : c = a
      · subst ca
        obtain ⟨r, r1, r2, r3, r4⟩ := zEg_fin hS' h2
        exact ⟨q, hq, ⟨r, r1, r2⟩, r3, qa, by rw [zD_0]; omega⟩
      · rcases ih c e h1 with x | ⟨u, u1, u2, u3, u4, u5⟩
        · exact absurd x ca
        · rw [zEg_ht ca qa] at h2
          exact ⟨u, u1, u2, u3, u4, zD_step hS hk hc u5 h2⟩
  obtain ⟨m, hm⟩ := zD_wk (S := zS_ht S a h) ha hb ht
  rcases walk m b _ hm with x | ⟨u, u1, u2, u3, u4, u5⟩
  · exact absurd x.symm hab
  · have e1 : zHt (zS_ht S a h) a = h := if_pos rfl
    have e2 : zHt (zS_ht S a h) u = zHt S u := if_neg u4
    have e3 : zTk (zS_ht S a h) k u = zTk S k u := rfl
    unfold zGo at u3
    rw [e1, e2, e3, Bool.and_eq_true] at u3
    exact ⟨u, u1, ⟨u2, u3.1, u5⟩, by simpa using u3.2⟩
section RISE
variable {S : zLd} {k : Nat}
theorem wy_rise {w : zW} (hS : zWf S) (hk : k < 6) (h : zWy w S k) (hC : zCX w 10 S) {a b : Nat} (ha : a < zNv S) (hb : b < zNv S) : ∃ M, fX6_heightToRise w (nI k) (nI a) (nI b) = some (nI M) ∧ M ≤ zNV ∧ (M = zNV ∨ ∃ u, u < zNv S ∧ zUn' S k a b u ∧ M = zHt S u + zDr k) ∧ ∀ u, u < zNv S → zUn' S k a b u → M ≤ zHt S u + zDr k := by
  have z : zNV = 1000000 := rfl
  have hn := hS.nv
  have x3 : zDr k ≤ 1 := by unfold zDr; split <;> omega
  have key : ∀ m v M, v + m = zNv S → M ≤ zNV → (M = zNV ∨ ∃ u, u < zNv S ∧ zUn' S k a b u ∧ M = zHt S u + zDr k) → (∀ u, u < v → zUn' S k a b u → M ≤ zHt S u + zDr k) → ∀ n, m < n → ∃ M', lpX6_heightToRise_7 w (nI k) (nI a) (nI b) n (nI M) (nI v) = some (nI M') ∧ M' ≤ zNV ∧ (M' = zNV ∨ ∃ u, u < zNv S ∧ zUn' S k a b u ∧ M' = zHt S u + zDr k) ∧ ∀ u, u < zNv S → zUn' S k a b u → M' ≤ zHt S u + zDr k := by
    intro m
    induction m with
    | zero =>
      intro v M hv h1 h2 h3 n hn
      obtain ⟨n, rfl⟩ : ∃ z, n = z + 1 := ⟨n - 1, by omega⟩
      rw [lpX6_heightToRise_7, hC.1.1, if_pos ((nI_leI (by omega) (by omega)).mpr (by omega))]
      exact ⟨M, rfl, h1, h2, fun u hu => h3 u (by omega)⟩
    | succ m ih =>
      intro v M hv h1 h2 h3 n hn
      obtain ⟨n, rfl⟩ : ∃ z, n = z + 1 := ⟨n - 1, by omega⟩
      have hv' : v < zNv S := by omega
      have hh := hS.ht v hv'
      rw [lpX6_heightToRise_7, hC.1.1, if_neg (fun x => by have := (nI_leI (by omega) (by omega)).mp x; omega), cx_tk hS hC hk hv', wy_cd hS h hv' hb, cx_ht hS hC hv', cx_dr w hk]
      simp only [Option.bind_some, nI_1, nI_add, zmin_nI (show M < 2 ^ 31 by omega) (show zHt S v + zDr k < 2 ^ 31 by omega)]
      have next : ∀ hx : ¬ zUn' S k a b v, ∃ M', lpX6_heightToRise_7 w (nI k) (nI a) (nI b) n (nI M) (nI (v + 1)) = some (nI M') ∧ M' ≤ zNV ∧ (M' = zNV ∨ ∃ u, u < zNv S ∧ zUn' S k a b u ∧ M' = zHt S u + zDr k) ∧ ∀ u, u < zNv S → zUn' S k a b u → M' ≤ zHt S u + zDr k := fun hx => ih (v + 1) M (by omega) h1 h2 (fun u hu q => by
        by_cases e : u = v
        · subst e; exact absurd q hx
        · exact h3 u (by omega) q) n (by omega)
      by_cases c1 : ∃ r, r < zNr S ∧ zJr S a v r
      · rw [cx_join_y hS hC ha hv' c1, Option.bind_some, if_neg h10]
        by_cases c2 : zTk S k v = true
        · rw [if_neg (by rw [c2]; decide)]
          by_cases c3 : zDd S k v b < zNV
          · rw [if_neg (by rw [show decide (zDd S k v b < zNV) = true by simpa using c3]; decide), Option.bind_some]
            refine ih (v + 1) (min M (zHt S v + zDr k)) (by omega) (by omega) ?_ (fun u hu q => ?_) n (by omega)
            · by_cases e : M ≤ zHt S v + zDr k
              · rw [Nat.min_eq_left e]; exact h2
              · rw [Nat.min_eq_right (by omega)]; exact Or.inr ⟨v, hv', ⟨c1, c2, c3⟩, rfl⟩
            · by_cases e : u = v
              · subst e; exact Nat.min_le_right _ _
              · exact Nat.le_trans (Nat.min_le_left _ _) (h3 u (by omega) q)
          · rw [if_pos (by rw [show decide (zDd S k v b < zNV) = false by simpa using c3]; decide), Option.bind_some]
            exact next (fun q => c3 q.2.2)
        · rw [if_pos (by rw [show zTk S k v = false by simpa using c2]; decide), Option.bind_some]
          exact next (fun q => c2 q.2.1)
      · rw [cx_join_n hS hC ha hv' c1, Option.bind_some, if_pos rfl, Option.bind_some]
        exact next (fun q => c1 q.1)
  obtain ⟨M, e1, e2⟩ := key (zNv S) 0 zNV (by omega) (Nat.le_refl _) (Or.inl rfl) (fun u hu => absurd hu (by omega)) zF (by unfold zF; omega)
  refine ⟨M, ?_, e2⟩
  have e1 : lpX6_heightToRise_7 w (nI k) (nI a) (nI b) zF (1000000 : Int32) 0 = some (nI M) := e1
  unfold fX6_heightToRise
  rw [e1, Option.bind_some]
/-- the heights that the reference tries -/
def zCd (S : zLd) (a q : Nat) : Nat := if q = 0 then zHt S a else if q / 2 * 2 = q then (if q / 2 - 1 = a then zHt S a else zHt S (q / 2 - 1) + 1) else (if q / 2 = a then zHt S a else zHt S (q / 2))
theorem zCd_le (hS : zWf S) {a q : Nat} (ha : a < zNv S) (hq : q < 2 * zNv S + 1) : zCd S a q ≤ 10000 := by
  have h1 := hS.ht a ha
  unfold zCd
  split
  · omega
  · split
    · split
      · omega
      · have := hS.ht (q / 2 - 1) (by omega)
        omega
    · split
      · omega
      · have := hS.ht (q / 2) (by omega)
        omega
theorem mx_rise_step (hS : zWf S) (hk : k < 6) {a b q L n : Nat} {w : zW} (ha : a < zNv S) (hb : b < zNv S) (hq : q < 2 * zNv S + 1) (hL : L ≤ 10000) (hM : zMX w 61 S) : ∃ L' u, lpX7_rise_37 (nI k) (nI a) (nI b) (nI (zHt S a)) (n + 1) w (nI L) (nI q) = lpX7_rise_37 (nI k) (nI a) (nI b) (nI (zHt S a)) n u (nI L') (nI (q + 1)) ∧ zE (fun o => o = 61 ∨ o = 63) w u ∧ zMX u 61 S ∧ ((L' = zCd S a q ∧ zHt S a ≤ zCd S a q ∧ zCd S a q < L ∧ zCd S a q ≤ 9999 ∧ zTr S k a b (zCd S a q)) ∨ (L' = L ∧ ¬ (zHt S a ≤ zCd S a q ∧ zCd S a q < L ∧ zCd S a q ≤ 9999 ∧ zTr S k a b (zCd S a q)))) := by
  have hn := hS.nv
  have h1 := hS.ht a ha
  have hc := zCd_le hS ha hq
  have two : zdiv (nI q) 2 = some (nI (q / 2)) := by rw [zL2, zdiv_nI (by omega) (by omega) (by omega)]
  have e2 : ((2 : Int32) * nI (zNv S)) + 1 = nI (2 * zNv S + 1) := by rw [zL2, pk_mul, nI_1]
  have p0 : (nI q = 0) = (q = 0) := nI_z (by omega)
  have pl : (nI q ≤ 0) = (q = 0) := propext (by rw [zL0, nI_leI (by omega) (by omega)]; omega)
  have pm : (nI (q / 2) * 2 = nI q) = (q / 2 * 2 = q) := propext (by rw [zL2, pk_mul, nI_eq (by omega) (by omega)])
  rw [lpX7_rise_37, mx_0 hM, Option.bind_some, e2, if_neg (fun x => by have := (nI_leI (by omega) (by omega)).mp x; omega)]
  have cand : ∀ K : Int32 → Option (Int32 × zW), (Option.bind (if nI q = 0 then (some (nI (zHt S a))) else (Option.bind (zdiv (nI q) (2 : Int32)) fun v29 => (if (v29 * (2 : Int32)) = nI q then (Option.bind (zdiv (nI q) (2 : Int32)) fun v35 => Option.bind (fX7_height w (v35 - (1 : Int32))) fun v38 => some (v38 + (1 : Int32))) else (Option.bind (zdiv (nI q) (2 : Int32)) fun v31 => Option.bind (fX7_height w v31) fun v34 => some v34)))) fun x26 => Option.bind (if nI q ≤ 0 then ((if nI q ≤ 0 then (some x26) else (Option.bind (zdiv (nI q) (2 : Int32)) fun v66 => Option.bind (if (v66 - (1 : Int32)) = nI a then (some (nI (zHt S a))) else (some x26)) fun x68 => some x68))) else (Option.bind (zdiv (nI q) (2 : Int32)) fun v73 => (if (v73 * (2 : Int32)) = nI q then ((if nI q ≤ 0 then (some x26) else (Option.bind (zdiv (nI q) (2 : Int32)) fun v75 => Option.bind (if (v75 - (1 : Int32)) = nI a then (some (nI (zHt S a))) else (some x26)) fun x77 => some x77))) else (Option.bind (zdiv (nI q) (2 : Int32)) fun v82 => Option.bind (if v82 = nI a then (some (nI (zHt S a))) else (some x26)) fun x84 => some x84)))) fun x63 => K x63) = K (nI (zCd S a q)) := by
    intro K
    simp only [two, p0, pl, pm, Option.bind_some]
    unfold zCd
    by_cases c0 : q = 0
    · rw [if_pos c0, if_pos c0, Option.bind_some, if_pos c0, if_pos c0, Option.bind_some]
    · rw [if_neg c0, if_neg c0]
      by_cases c1 : q / 2 * 2 = q
      · have e3 : nI (q / 2) - 1 = nI (q / 2 - 1) := by rw [zL1, pk_sub (by omega)]
        have p5 : (nI (q / 2 - 1) = nI a) = (q / 2 - 1 = a) := propext (nI_eq (by omega) (by omega))
        rw [if_pos c1, if_pos c1, e3, mx_ht hS hM (show q / 2 - 1 < zNv S by omega)]
        simp only [Option.bind_some, if_neg c0, if_pos c1, p5, nI_1]
        by_cases c2 : q / 2 - 1 = a
        · simp only [if_pos c2, Option.bind_some]
        · simp only [if_neg c2, Option.bind_some]
      · have p5 : (nI (q / 2) = nI a) = (q / 2 = a) := propext (nI_eq (by omega) (by omega))
        rw [if_neg c1, if_neg c1, mx_ht hS hM (show q / 2 < zNv S by omega)]
        simp only [Option.bind_some, if_neg c0, if_neg c1, p5]
        by_cases c2 : q / 2 = a
        · simp only [if_pos c2, Option.bind_some]
        · simp only [if_neg c2, Option.bind_some]
  rw [cand]
  generalize hg : zCd S a q = h at hc
  have q1 : (nI h < nI (zHt S a)) = (h < zHt S a) := propext (nI_ltI (by omega) (by omega))
  have q2 : (nI L ≤ nI h) = (L ≤ h) := propext (nI_leI (by omega) (by omega))
  have q3 : ((9999 : Int32) < nI h) = (9999 < h) := propext (by rw [zL9999]; exact nI_ltI (by omega) (by omega))
  simp only [q1, q2, q3, nI_1]
  by_cases c1 : h < zHt S a
  · rw [if_pos c1, zb2_some]
    exact ⟨L, w, rfl, zE.rfl, hM, Or.inr ⟨rfl, fun x => by omega⟩⟩
  rw [if_neg c1]
  by_cases c2 : L ≤ h
  · rw [if_pos c2, zb2_some]
    exact ⟨L, w, rfl, zE.rfl, hM, Or.inr ⟨rfl, fun x => by omega⟩⟩
  rw [if_neg c2]
  by_cases c3 : 9999 < h
  · rw [if_pos c3, zb2_some]
    exact ⟨L, w, rfl, zE.rfl, hM, Or.inr ⟨rfl, fun x => by omega⟩⟩
  rw [if_neg c3, ix2, zwr_nI (by omega) (by omega), Option.bind_some]
  have hM1 : zMX (zsf w 61 (5 + 2 * a) (nI h)) 61 (zS_ht S a h) := mx_hts hS hM h ha
  have hS1 : zWf (zS_ht S a h) := wf_ht hS (by omega)
  obtain ⟨y, y1, y2⟩ := mx_rdn hS1 hk (show a < zNv (zS_ht S a h) from ha) hM1
  have hMy := hM1.e63 y2
  have hM2 : zMX (zsf y 61 (5 + 2 * a) (nI (zHt S a))) 61 S := by
    have := mx_hts hS1 hMy (v := a) (zHt S a) ha
    rw [zS_ht_ht] at this
    exact this
  have E : zE (fun o => o = 61 ∨ o = 63) w (zsf y 61 (5 + 2 * a) (nI (zHt S a))) := ((zE.sf0 (Or.inl rfl)).trs (y2.mono (fun o h => Or.inr h))).trs (zE.sf0 (Or.inl rfl))
  have bit : (zst (fun v => decide (zDd (zS_ht S a h) k a v < zNV)) (zNv (zS_ht S a h))).testBit b = decide (zDd (zS_ht S a h) k a b < zNV) := by rw [zst_bit, show decide (b < zNv (zS_ht S a h)) = true from decide_eq_true hb, Bool.true_and]
  rw [y1, zb2_some, mx_has (by omega), bit, Option.bind_some, zwr_nI (by omega) (by omega)]
  by_cases c4 : zTr S k a b h
  · have c5 : decide (zDd (zS_ht S a h) k a b < zNV) = true := by simpa [zTr] using c4
    rw [c5, if_neg (by decide), Option.bind_some, Option.bind_some, zb2_some]
    exact ⟨h, _, rfl, E, hM2, Or.inl ⟨rfl, by omega, by omega, by omega, c4⟩⟩
  · have c5 : decide (zDd (zS_ht S a h) k a b < zNV) = false := by simpa [zTr] using c4
    rw [c5, if_pos (by decide), Option.bind_some, Option.bind_some, zb2_some]
    exact ⟨L, _, rfl, E, hM2, Or.inr ⟨rfl, fun x => c4 x.2.2.2⟩⟩
theorem mx_rise (hS : zWf S) (hk : k < 6) {a b : Nat} (ha : a < zNv S) (hb : b < zNv S) : ∀ m q L (w : zW), q + m = 2 * zNv S + 1 → zMX w 61 S → L ≤ 10000 → (L = 10000 ∨ (zTr S k a b L ∧ zHt S a ≤ L ∧ L ≤ 9999)) → (∀ j, j < q → zHt S a ≤ zCd S a j → zCd S a j ≤ 9999 → zTr S k a b (zCd S a j) → L ≤ zCd S a j) → ∀ n, m < n → ∃ L' u, lpX7_rise_37 (nI k) (nI a) (nI b) (nI (zHt S a)) n w (nI L) (nI q) = some (nI L', u) ∧ zE (fun o => o = 61 ∨ o = 63) w u ∧ zMX u 61 S ∧ L' ≤ 10000 ∧ (L' = 10000 ∨ (zTr S k a b L' ∧ zHt S a ≤ L' ∧ L' ≤ 9999)) ∧ (∀ j, j < 2 * zNv S + 1 → zHt S a ≤ zCd S a j → zCd S a j ≤ 9999 → zTr S k a b (zCd S a j) → L' ≤ zCd S a j) := by
  have hn := hS.nv
  intro m
  induction m with
  | zero =>
    intro q L w hq hM h1 h2 h3 n hn
    obtain ⟨n, rfl⟩ : ∃ z, n = z + 1 := ⟨n - 1, by omega⟩
    have e2 : ((2 : Int32) * nI (zNv S)) + 1 = nI (2 * zNv S + 1) := by rw [zL2, pk_mul, nI_1]
    rw [lpX7_rise_37, mx_0 hM, Option.bind_some, e2, if_pos ((nI_leI (by omega) (by omega)).mpr (by omega))]
    exact ⟨L, w, rfl, zE.rfl, hM, h1, h2, fun j hj => h3 j (by omega)⟩
  | succ m ih =>
    intro q L w hq hM h1 h2 h3 n hn
    obtain ⟨n, rfl⟩ : ∃ z, n = z + 1 := ⟨n - 1, by omega⟩
    obtain ⟨L', u, u1, u2, u3, u4⟩ := mx_rise_step (n := n) hS hk ha hb (show q < 2 * zNv S + 1 by omega) h1 hM
    rw [u1]
    have k1 : L' ≤ 10000 := by
      rcases u4 with ⟨x, _, _, y, _⟩ | ⟨x, _⟩ <;> omega
    have k2 : L' = 10000 ∨ (zTr S k a b L' ∧ zHt S a ≤ L' ∧ L' ≤ 9999) := by
      rcases u4 with ⟨x, x1, x2, x3, x4⟩ | ⟨x, _⟩
      · rw [x]; exact Or.inr ⟨x4, x1, x3⟩
      · rw [x]; exact h2
    have k3 : ∀ j, j < q + 1 → zHt S a ≤ zCd S a j → zCd S a j ≤ 9999 → zTr S k a b (zCd S a j) → L' ≤ zCd S a j := by
      intro j hj j1 j2 j3
      by_cases e : j = q
      · subst e
        rcases u4 with ⟨x, _⟩ | ⟨x, y⟩
        · omega
        · rw [x]
          rcases Nat.lt_or_ge (zCd S a j) L with z | z
          · exact absurd ⟨j1, z, j2, j3⟩ y
          · exact z
      · have := h3 j (by omega) j1 j2 j3
        rcases u4 with ⟨x, _, y, _⟩ | ⟨x, _⟩ <;> omega
    obtain ⟨L2, v, v1, v2, v3⟩ := ih (q + 1) L' u (by omega) u3 k1 k2 k3 n (by omega)
    exact ⟨L2, v, v1, u2.trs v2, v3⟩
end RISE
theorem zInv.cl {w x y : zW} {S : zLd} {k : Nat} (hI : zInv w) (hk : k < 7) (hS : zWf S) (hC : zCX w 10 S) (hM : zMX y 61 S) (E1 : zE zPq w x) (E2 : zE (fun o => zPq o ∨ o = 61) (zff x k) y) : zInv (zfg y k) := by
  have h1 := (hI.calm E1).find hk
  have hCy : zCX (zfg y k) 10 S := hC.keep (fun j hj => by
    have e1 : (zfg y k).1 (10 + j) = y.1 (10 + j) := by unfold zfg; rw [zsf_o (by omega)]
    have e2 : (zff x k).1 (10 + j) = x.1 (10 + j) := by unfold zff; rw [zsf_o (by omega)]
    rw [e1, (E2 _ (by omega)).1, e2, (E1 _ (by omega)).1])
  have hMy : zMX (zfg y k) 61 S := hM.keep (by unfold zfg; rw [zsf_o (by omega)])
  refine h1.land hS hCy hMy (fun o ho => ?_)
  have e := E2 o (by omega)
  by_cases c : o = 62
  · subst c
    refine ⟨?_, ?_⟩
    · funext j
      by_cases d : j = k
      · subst d
        show (zsf y 62 j (y.1 62 j + 1)).1 62 j = (zsf (zff x j) 62 j ((zff x j).1 62 j + 1)).1 62 j
        rw [zsf_same, zsf_same, e.1]
      · show (zsf y 62 k (y.1 62 k + 1)).1 62 j = (zsf (zff x k) 62 k ((zff x k).1 62 k + 1)).1 62 j
        rw [zsf_k d, zsf_k d, e.1]
    · exact e.2
  · refine ⟨?_, e.2⟩
    show (zsf y 62 k (y.1 62 k + 1)).1 o = (zsf (zff x k) 62 k ((zff x k).1 62 k + 1)).1 o
    rw [zsf_o c, zsf_o c, e.1]
theorem cx_au2_y {w : zW} {S : zLd} (hS : zWf S) (h : zCX w 10 S) {a b : Nat} (ha : a < zNv S) (hb : b < zNv S) (hab : a ≠ b) : fX6_areUnlikeVillages w (nI a) (nI b) = some 1 := by
  have hn := hS.nv
  have p : ¬ nI a = nI b := fun q => hab ((nI_eq (by omega) (by omega)).mp q)
  simp only [fX6_areUnlikeVillages, cx_av2 hS h ha hb, Option.bind_some, if_neg h10, if_neg p]
theorem cx_au2_e {w : zW} {S : zLd} (hS : zWf S) (h : zCX w 10 S) {a : Nat} (ha : a < zNv S) : fX6_areUnlikeVillages w (nI a) (nI a) = some 0 := by
  simp only [fX6_areUnlikeVillages, cx_av2 hS h ha ha, Option.bind_some, if_neg h10, if_true]
theorem cx_au2_n {w : zW} {S : zLd} (hS : zWf S) (h : zCX w 10 S) {x y : Int32} (hx : (x < 0 ∨ nI (zNv S) ≤ x) ∨ (y < 0 ∨ nI (zNv S) ≤ y)) : fX6_areUnlikeVillages w x y = some 0 := by
  simp only [fX6_areUnlikeVillages, cx_av2_n hS h hx, Option.bind_some, if_true]
theorem op_rise (a b c : Int32) : zOp (fun w => fX6_rise w a b c) (fun w => fX7_rise w a b c) := by
  intro w hI
  show ∃ r u v, fX6_rise w a b c = some (r, u) ∧ fX7_rise u a b c = some (r, v) ∧ zInv v
  obtain ⟨S, hS, hC, hM⟩ := hI.1
  have z : zNV = 1000000 := rfl
  have hn := hS.nv
  have hF := zff_mx (k := 0) hM (by omega)
  rcases zor (x := a) (n := 6) (by omega) with ha | ⟨k, hk, rfl⟩
  · exact ⟨zB0, zff w 0, zfg (zff w 0) 0, by simp only [fX6_rise, ck_n ha, Option.bind_some, if_true, x6_f0, zb2_some], by simp only [fX7_rise, mx_asked_k ha, Option.bind_some, if_true, x7_f0, zb2_some], hI.find (k := 0) (by omega)⟩
  rcases zor2 (x := b) (y := c) (n := zNv S) (by omega) with hb | ⟨x, y, hx, hy, rfl, rfl⟩
  · exact ⟨zB0, zff w 0, zfg (zff w 0) 0, by simp only [fX6_rise, ck_y hk, cx_au2_n hS hC hb, Option.bind_some, if_neg h10, if_true, x6_f0, zb2_some], by simp only [fX7_rise, mx_asked_n hS hF hk hb, Option.bind_some, if_true, x7_f0, zb2_some], hI.find (k := 0) (by omega)⟩
  by_cases exy : x = y
  · subst exy
    exact ⟨zB0, zff w 0, zfg (zff w 0) 0, by simp only [fX6_rise, ck_y hk, cx_au2_e hS hC hx, Option.bind_some, if_neg h10, if_true, x6_f0, zb2_some], by simp only [fX7_rise, mx_asked_y hS hF hk hx hy, Option.bind_some, if_neg h10, if_true, x7_f0, zb2_some], hI.find (k := 0) (by omega)⟩
  have pxy : ¬ nI x = nI y := fun q => exy ((nI_eq (by omega) (by omega)).mp q)
  have hx9 := hS.ht x hx
  obtain ⟨u, u1, u2, u3⟩ := lo (Or.inl rfl) hS hC hk (by omega)
  have U := zP40 u2
  have hCu := hC.pc U
  have hMu := hM.pc U
  have c0 : zCd S x 0 = zHt S x := if_pos rfl
  have run : ∀ w : zW, zMX w 61 S → ∃ L v, lpX7_rise_37 (nI k) (nI x) (nI y) (nI (zHt S x)) zF w (10000 : Int32) 0 = some (nI L, v) ∧ zE (fun o => o = 61 ∨ o = 63) w v ∧ zMX v 61 S ∧ L ≤ 10000 ∧ (L = 10000 ∨ (zTr S k x y L ∧ zHt S x ≤ L ∧ L ≤ 9999)) ∧ (∀ j, j < 2 * zNv S + 1 → zHt S x ≤ zCd S x j → zCd S x j ≤ 9999 → zTr S k x y (zCd S x j) → L ≤ zCd S x j) := fun w hM => mx_rise hS hk hx hy (2 * zNv S + 1) 0 10000 w (by omega) hM (Nat.le_refl _) (Or.inl rfl) (fun j hj => absurd hj (by omega)) zF (by unfold zF; omega)
  have le4 : ∀ L : Nat, L ≤ 10000 → (nI L ≤ (9999 : Int32)) = (L ≤ 9999) := fun L hL => propext (by rw [zL9999]; exact nI_leI (by omega) (by omega))
  by_cases q : zDd S k x y < zNV
  · have q' : decide (zDd S k x y < zNV) = true := by simpa using q
    obtain ⟨L, v, v1, v2, v3, v4, v5, v6⟩ := run u hMu
    have tr0 : zTr S k x y (zHt S x) := by unfold zTr; rw [zS_ht_same]; exact q
    have l1 := v6 0 (by omega) (by rw [c0]; exact Nat.le_refl _) (by rw [c0]; exact hx9) (by rw [c0]; exact tr0)
    rw [c0] at l1
    have e : L = zHt S x := by
      rcases v5 with h | ⟨_, h, _⟩ <;> omega
    subst e
    refine ⟨nI (zHt S x), u, v, ?_, ?_, hI.land hS (hC.keep (fun j hj => by rw [(v2 _ (by omega)).1, (U _ (by omega)).1])) v3 ((U.mono (fun o h => by omega)).trs (v2.mono (fun o h => by omega)))⟩
    · simp only [fX6_rise, ck_y hk, cx_au2_y hS hC hx hy exy, Option.bind_some, if_neg h10, u1, wy_cd hS u3 hx hy, q', if_true, cx_ht hS hCu hx]
    · simp only [fX7_rise, mx_asked_y hS hMu hk hx hy, Option.bind_some, if_neg h10, if_neg pxy, mx_ht hS hMu hx, v1, zb2_some, le4 _ v4, if_pos hx9]
  · have q' : decide (zDd S k x y < zNV) = false := by simpa using q
    obtain ⟨M, m1, m2, m3, m4⟩ := wy_rise hS hk u3 hCu hx hy
    have lm : (nI M ≤ (9999 : Int32)) = (M ≤ 9999) := propext (by rw [zL9999]; exact nI_leI (by omega) (by omega))
    have same : ∀ L, L ≤ 10000 → (L = 10000 ∨ (zTr S k x y L ∧ zHt S x ≤ L ∧ L ≤ 9999)) → (∀ j, j < 2 * zNv S + 1 → zHt S x ≤ zCd S x j → zCd S x j ≤ 9999 → zTr S k x y (zCd S x j) → L ≤ zCd S x j) → (M ≤ 9999 → L = M) ∧ (¬ M ≤ 9999 → L = 10000) := by
      intro L l1 l2 l3
      have up : L ≤ 9999 → M ≤ L := by
        intro h
        rcases l2 with h2 | ⟨h2, _, _⟩
        · omega
        · obtain ⟨t, t1, t2, t3⟩ := zTr_n hS hk hx hy exy h h2
          have := m4 t t1 t2
          omega
      refine ⟨fun h => ?_, fun h => ?_⟩
      · rcases m3 with e | ⟨t, t1, t2, t3⟩
        · omega
        · have ty := zTr_y hS hk hy h q t2 (by omega)
          have was : zHt S x ≤ M := by
            rcases Nat.lt_or_ge M (zHt S x) with g | g
            · exfalso
              have := zTr_y hS hk hy hx9 q t2 (by omega)
              unfold zTr at this
              rw [zS_ht_same] at this
              exact q this
            · exact g
          have tx : t ≠ x := by
            intro e
            subst e
            exact q t2.2.2
          have cand : ∃ j, j < 2 * zNv S + 1 ∧ zCd S x j = M := by
            have dr : zDr k = 0 ∨ zDr k = 1 := by unfold zDr; split <;> omega
            rcases dr with d | d
            · refine ⟨2 * t + 1, by omega, ?_⟩
              unfold zCd
              rw [if_neg (by omega), if_neg (by omega), if_neg (by omega), show (2 * t + 1) / 2 = t by omega]
              omega
            · refine ⟨2 * t + 2, by omega, ?_⟩
              unfold zCd
              rw [if_neg (by omega), if_pos (by omega), if_neg (by omega), show (2 * t + 2) / 2 - 1 = t by omega]
              omega
          obtain ⟨j, j1, j2⟩ := cand
          have := l3 j j1 (by rw [j2]; exact was) (by rw [j2]; exact h) (by rw [j2]; exact ty)
          rw [j2] at this
          have := up (by omega)
          omega
      · rcases l2 with h2 | ⟨_, _, h2⟩
        · exact h2
        · have := up h2
          omega
    by_cases qm : M ≤ 9999
    · obtain ⟨L, v, v1, v2, v3, v4, v5, v6⟩ := run u hMu
      have e := (same L v4 v5 v6).1 qm
      subst e
      refine ⟨nI L, u, v, ?_, ?_, hI.land hS (hC.keep (fun j hj => by rw [(v2 _ (by omega)).1, (U _ (by omega)).1])) v3 ((U.mono (fun o h => by omega)).trs (v2.mono (fun o h => by omega)))⟩
      · simp only [fX6_rise, ck_y hk, cx_au2_y hS hC hx hy exy, Option.bind_some, if_neg h10, u1, wy_cd hS u3 hx hy, q', Bool.false_eq_true, if_false, if_true, m1, lm, if_pos qm]
      · simp only [fX7_rise, mx_asked_y hS hMu hk hx hy, Option.bind_some, if_neg h10, if_neg pxy, mx_ht hS hMu hx, v1, zb2_some, le4 _ v4, if_pos qm]
    · have hMf : zMX (zff u 3) 61 S := zff_mx hMu (by omega)
      obtain ⟨L, v, v1, v2, v3, v4, v5, v6⟩ := run (zff u 3) hMf
      have e := (same L v4 v5 v6).2 qm
      have ql : ¬ L ≤ 9999 := by omega
      refine ⟨zB3, zff u 3, zfg v 3, ?_, ?_, hI.cl (by omega) hS hC v3 U (v2.mono (fun o h => by omega))⟩
      · simp only [fX6_rise, ck_y hk, cx_au2_y hS hC hx hy exy, Option.bind_some, if_neg h10, u1, wy_cd hS u3 hx hy, q', Bool.false_eq_true, if_false, if_true, m1, lm, if_neg qm, x6_f3, zb2_some]
      · simp only [fX7_rise, mx_asked_y hS hMf hk hx hy, Option.bind_some, if_neg h10, if_neg pxy, mx_ht hS hMf hx, v1, zb2_some, le4 _ v4, if_neg ql, x7_f3]
