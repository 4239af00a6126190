/-! the text -/
def zKq (k : Nat) : Nat := [12, 7, 8, 9, 10, 11].getD k 12
theorem kq_nm0 : ∀ k, k < 6 → fX1_nameOf zw0 (nI k) = some (zKq k) ∧ zKq k < 13 := by decide +kernel
theorem kq_nm (w : zW) {k : Nat} (hk : k < 6) : fX1_nameOf w (nI k) = some (zKq k) := (kq_nm0 k hk).1
theorem zIt.wrap {T : zTape} {w x : zW} {e : Nat} {F : Option (Int32 × zW)} {G : Option zW} (h : zIt T w x e F G) : zIt T w x e (zb2 F fun v u => Option.bind (zgb v) fun b => some (b, u)) (Option.bind G fun u => some u) := by
  obtain ⟨f, S, d, u, v, h1, h2, h3⟩ := h
  refine ⟨f, S, d, u, v, ?_, ?_, h3⟩
  · rw [h1, zb2_some]
    cases f <;> rfl
  · rw [h2, Option.bind_some]
theorem zIt.wrap2 {T : zTape} {w x : zW} {e : Nat} {F : Option (Int32 × zW)} {G : Option zW} (h : zIt T w x e F G) : zIt T w x e (zb2 F fun v u => (if v = 0 then (some ((0 : Int32), u)) else (some ((1 : Int32), u)))) (Option.bind G fun u => some u) := by
  obtain ⟨f, S, d, u, v, h1, h2, h3⟩ := h
  refine ⟨f, S, d, u, v, ?_, ?_, h3⟩
  · rw [h1, zb2_some]
    cases f <;> rfl
  · rw [h2, Option.bind_some]
section TEXT
variable {T : zTape} {w x : zW} {e : Nat} {S : zLd}
theorem cx_kn (hT : zWt T) (h : zC6 w T e) (he : e ≤ T.1) : fX1_kindNamed w = some (zSt (zFs (fun k => zWd T e (zKq k)) 6)) := by
  have key : ∀ m k, k + m = 6 → zFs (fun k => zWd T e (zKq k)) k = none → ∀ n, m < n → (∃ y, zFs (fun k => zWd T e (zKq k)) 6 = some y ∧ lpX1_kindNamed_2 w n (nI k) = some (.inl (nI y))) ∨ (zFs (fun k => zWd T e (zKq k)) 6 = none ∧ lpX1_kindNamed_2 w n (nI k) = some (.inr ())) := by
    intro m
    induction m with
    | zero =>
      intro k hk h0 n hn
      obtain ⟨n, rfl⟩ : ∃ z, n = z + 1 := ⟨n - 1, by omega⟩
      right
      have e6 : k = 6 := by omega
      subst e6
      exact ⟨h0, by rw [lpX1_kindNamed_2, if_pos (by decide)]⟩
    | succ m ih =>
      intro k hk h0 n hn
      obtain ⟨n, rfl⟩ : ∃ z, n = z + 1 := ⟨n - 1, by omega⟩
      have hk6 : k < 6 := by omega
      rw [lpX1_kindNamed_2, zL6, if_neg (fun q => by have := (nI_leI (by omega) (by omega)).mp q; omega), kq_nm w hk6, Option.bind_some, cx_wd hT h he (kq_nm0 k hk6).2, Option.bind_some]
      cases c : zWd T e (zKq k) with
      | true =>
        left
        have fy := zFs_keep (zFs_y (P := fun k => zWd T e (zKq k)) h0 c) (5 - k)
        rw [show k + 1 + (5 - k) = 6 by omega] at fy
        exact ⟨k, fy, by rw [ife1, if_neg h10]⟩
      | false =>
        rw [ife0, if_pos rfl, nI_1]
        exact ih (k + 1) (by omega) (zFs_n (P := fun k => zWd T e (zKq k)) h0 c) n (by omega)
  unfold fX1_kindNamed
  rcases key 6 0 (by omega) rfl zF (by unfold zF; omega) with ⟨y, h1, h2⟩ | ⟨h1, h2⟩
  · have h2 : lpX1_kindNamed_2 w zF 0 = some (.inl (nI y)) := h2
    rw [h1, h2]; rfl
  · have h2 : lpX1_kindNamed_2 w zF 0 = some (.inr ()) := h2
    rw [h1, h2]; rfl
theorem mx_kn (hT : zWt T) (h : zC7 x T e) (he : e ≤ T.1) : fX7_kindHere x = some (zSt (zFs (fun k => zWd T e (zKq k)) 6)) := by
  have w0 := mx_wd hT h he (q := 12) (by omega)
  have w1 := mx_wd hT h he (q := 7) (by omega)
  have w2 := mx_wd hT h he (q := 8) (by omega)
  have w3 := mx_wd hT h he (q := 9) (by omega)
  have w4 := mx_wd hT h he (q := 10) (by omega)
  have w5 := mx_wd hT h he (q := 11) (by omega)
  have w0 : fX7_isWord x (175252482 : Int64) = _ := w0
  have w1 : fX7_isWord x (9454493 : Int64) = _ := w1
  have w2 : fX7_isWord x (4351291 : Int64) = _ := w2
  have w3 : fX7_isWord x (2397198555 : Int64) = _ := w3
  have w4 : fX7_isWord x (46263 : Int64) = _ := w4
  have w5 : fX7_isWord x (275358764 : Int64) = _ := w5
  have P : ∀ n, zFs (fun k => zWd T e (zKq k)) (n + 1) = if (zFs (fun k => zWd T e (zKq k)) n).isSome = true then zFs (fun k => zWd T e (zKq k)) n else if zWd T e (zKq n) = true then some n else none := fun n => rfl
  have q0 : zKq 0 = 12 := rfl
  have q1 : zKq 1 = 7 := rfl
  have q2 : zKq 2 = 8 := rfl
  have q3 : zKq 3 = 9 := rfl
  have q4 : zKq 4 = 10 := rfl
  have q5 : zKq 5 = 11 := rfl
  have z0 : zFs (fun k => zWd T e (zKq k)) 0 = none := rfl
  unfold fX7_kindHere
  rw [w0, w1, w2, w3, w4, w5]
  simp only [Option.bind_some, ifb0, P, q0, q1, q2, q3, q4, q5, z0]
  cases zWd T e 12
  · cases zWd T e 7
    · cases zWd T e 8
      · cases zWd T e 9
        · cases zWd T e 10
          · cases zWd T e 11 <;> rfl
          · rfl
        · rfl
      · rfl
    · rfl
  · rfl
theorem it_item (hT : zWt T) (hS : zWf S) (hC : zCX w 30 S) (hM : zMX x 61 S) (c6 : zC6 w T e) (c7 : zC7 x T e) (he : e ≤ T.1) (hg : x.1 60 13 = 1) : zIt T w x e (fX1_bringItem w 30) (fX7_wantItem x) := by
  have w0 := mx_wd hT c7 he (q := 0) (by omega)
  have w2 := mx_wd hT c7 he (q := 2) (by omega)
  have w5 := mx_wd hT c7 he (q := 5) (by omega)
  have w6 := mx_wd hT c7 he (q := 6) (by omega)
  have w0 : fX7_isWord x (8659005332 : Int64) = _ := w0
  have w2 : fX7_isWord x (365260 : Int64) = _ := w2
  have w5 : fX7_isWord x (10340249 : Int64) = _ := w5
  have w6 : fX7_isWord x (3094387 : Int64) = _ := w6
  unfold fX1_bringItem fX7_wantItem
  rw [w0, w2, w5, w6, cx_wd hT c6 he (q := 0) (by omega), cx_wd hT c6 he (q := 2) (by omega), cx_wd hT c6 he (q := 5) (by omega), cx_wd hT c6 he (q := 6) (by omega), cx_kn hT c6 he, mx_kn hT c7 he]
  simp only [Option.bind_some, ifb0]
  cases zWd T e 0 with
  | true =>
    rw [if_neg (by decide), if_neg (by decide)]
    exact (it_village hT hS hC hM c6 c7 he).wrap
  | false =>
    rw [if_pos rfl, if_pos rfl]
    cases zWd T e 2 with
    | true =>
      rw [if_neg (by decide), if_neg (by decide)]
      exact (it_road hT hS hC hM c6 c7 he).wrap
    | false =>
      rw [if_pos rfl, if_pos rfl]
      cases zWd T e 5 with
      | true =>
        rw [if_neg (by decide), if_neg (by decide)]
        exact (it_slide hT hS hC hM c6 c7 he hg).wrap
      | false =>
        rw [if_pos rfl, if_pos rfl]
        cases zWd T e 6 with
        | true =>
          rw [if_neg (by decide), if_neg (by decide)]
          exact (it_every hT hS hC hM c6 c7 he hg).wrap
        | false =>
          rw [if_pos rfl, if_pos rfl]
          cases c : zFs (fun k => zWd T e (zKq k)) 6 with
          | none =>
            have n : zSt none < 0 := by decide
            rw [if_pos n, if_pos n]
            exact zIt.no (S := S) (u := w) (v := zsf x 60 13 0) (d := e) rfl rfl zX6.rfl (zY7.a zX7.g) c6 c7.g (Nat.le_refl _) he zsf_same
          | some k =>
            have hk := (zFs_lt _ _ c).1
            have n : ¬ zSt (some k) < 0 := nI_pos (by omega)
            rw [if_neg n, if_neg n]
            exact (it_letter hk hT hS hC hM c6 c7 he).wrap2
theorem nw7 (hT : zWt T) (c7 : zC7 x T e) (he : e ≤ T.1) (no : ¬ zAo T e = 1) : fX7_wantItem x = some (zsf x 60 13 0) := by
  have nw : ∀ q, zWd T e q = false := fun q => decide_eq_false (fun h => no h.1)
  have w0 := mx_wd hT c7 he (q := 0) (by omega)
  have w2 := mx_wd hT c7 he (q := 2) (by omega)
  have w5 := mx_wd hT c7 he (q := 5) (by omega)
  have w6 := mx_wd hT c7 he (q := 6) (by omega)
  have w0 : fX7_isWord x (8659005332 : Int64) = _ := w0
  have w2 : fX7_isWord x (365260 : Int64) = _ := w2
  have w5 : fX7_isWord x (10340249 : Int64) = _ := w5
  have w6 : fX7_isWord x (3094387 : Int64) = _ := w6
  have f6 : zFs (fun k => zWd T e (zKq k)) 6 = none := by
    have : ∀ n, zFs (fun k => zWd T e (zKq k)) n = none := by
      intro n
      induction n with
      | zero => rfl
      | succ n ih => exact zFs_n (P := fun k => zWd T e (zKq k)) ih (nw _)
    exact this 6
  unfold fX7_wantItem
  rw [w0, w2, w5, w6, mx_kn hT c7 he, nw 0, nw 2, nw 5, nw 6, f6]
  rfl
/-- class's loop and reference's loop end alike -/
def zEn (w x : zW) (A : Option ((Int32 × zW) ⊕ zW)) (G : Option (Int32 × zW)) : Prop := ∃ (ans : Int32) (u v : zW) (c st : Nat), (A = some (.inl (ans, u)) ∨ (A = some (.inr u) ∧ ans = -1 - u.1 43 2)) ∧ G = some (nI c, v) ∧ zX6 w u ∧ zY7 x v ∧ c ≤ 200 ∧ st ≤ 120 ∧ ((ans = nI c ∧ v.1 60 13 = 1 ∧ v.1 60 8 = 0 ∧ ∃ S, zWf S ∧ zCX u 30 S ∧ zMX v 61 S) ∨ (ans = -1 - nI st ∧ v.1 60 9 = nI st ∧ (v.1 60 13 = 0 ∨ (v.1 60 13 = 1 ∧ ¬ v.1 60 8 = 0))))
theorem tx_loop (hT : zWt T) : ∀ m e j (w x : zW) (S : zLd), 121 ≤ e + m → e ≤ T.1 → 1 ≤ j → j ≤ e + 1 → zWf S → zCX w 30 S → zMX x 61 S → zC6 w T e → zT7 x T → x.1 60 10 = nI e → x.1 60 13 = 1 → ∀ q r, m < q → m + 1 < r → zEn w x (lpX1_bring_6 30 q w (nI j)) (lpX7_text_23 r x (nI (j - 1)) 1) := by
  have l := hT.1
  intro m
  induction m with
  | zero => intro e j w x S h1 h2; omega
  | succ m ih =>
    intro e j w x S hm he hj1 hj hS hC hM c6 t7 x10 hg q r hq hr
    obtain ⟨q, rfl⟩ : ∃ z, q = z + 1 := ⟨q - 1, by omega⟩
    obtain ⟨r, rfl⟩ : ∃ z, r = z + 2 := ⟨r - 2, by omega⟩
    have ej : nI (j - 1) + 1 = nI j := by rw [nI_1]; congr 1; omega
    obtain ⟨x1, b1, b2, b3⟩ := mx_adv hT t7 x10 he
    have B := zX7.a b2
    have g1 : x1.1 60 13 = 1 := by rw [b2.2 13 (by omega), hg]
    have hM1 := hM.x7 B
    have last : ∀ (v : zW) (y : Int32), lpX7_text_23 (r + 1) v y 0 = some (y, v) := fun v y => by rw [lpX7_text_23, if_pos rfl]
    have sl := zAs_le he
    rw [show r + 2 = (r + 1) + 1 from rfl, lpX1_bring_6, lpX7_text_23, if_neg h10, b1, Option.bind_some, ej]
    by_cases over : 120 < j
    · have oe : zAo T e = 0 := by
        have : T.1 ≤ zAs T e := by have := zAs_ge (T := T) (e := e); omega
        unfold zAo
        rw [zByt_end this]; rfl
      have c13 : (zsf x1 60 13 (0 : Int32)).1 60 13 = 0 := zsf_same
      refine ⟨-1 - w.1 43 2, w, zsf x1 60 13 0, j, zAs T e, Or.inr ⟨?_, rfl⟩, ?_, zX6.rfl, zY7.a (B.trs zX7.g), by omega, by omega, Or.inr ⟨by rw [c6.2.1], by rw [zsf_k (by omega), b3.2.1], Or.inl c13⟩⟩
      · rw [zL120, if_pos ((nI_ltI (by omega) (by omega)).mpr over)]
      · rw [nw7 hT b3 he (by omega), Option.bind_some, c13, if_pos rfl, Option.bind_some, last]
    rw [zL120, if_neg (fun y => over ((nI_ltI (by omega) (by omega)).mp y))]
    obtain ⟨f, S', d, u, v, h1, h2, h3, h4, h5, h6, h7, h8, h9, h10'⟩ := it_item hT hS hC hM1 c6 b3 he g1
    have V : zY7 x v := (zY7.a B).trs h4
    have dl := zAs_le h8
    rw [h1, zb2_some, h2, Option.bind_some, h9]
    cases f with
    | false =>
      refine ⟨-1 - u.1 43 2, u, v, j, zAs T d, Or.inl ?_, ?_, h3, V, by omega, by omega, Or.inr ⟨by rw [h5.2.1], h6.2.1, Or.inl (by rw [h9]; rfl)⟩⟩
      · rw [ife0, if_pos rfl]
      · rw [ife0, if_pos rfl, Option.bind_some, last]
    | true =>
      obtain ⟨k1, k2, k3⟩ := h10' rfl
      have h9 : v.1 60 13 = 1 := h9
      have ol : zAo T d ≤ 4 := zSo_le (b := zByt T (zAs T d))
      have p0 : (nI (zAo T d) = 0) = (zAo T d = 0) := nI_z (by omega)
      have p3 : (nI (zAo T d) = 3) = (zAo T d = 3) := propext (by rw [zL3]; exact nI_eq (by omega) (by omega))
      have m3 : (nI (min (zAo T d) 3) = 3) = (3 ≤ zAo T d) := propext (by rw [zL3, nI_eq (by omega) (by omega)]; omega)
      have m0 : (nI (min (zAo T d) 3) = 0) = (zAo T d = 0) := propext (by rw [zL0, nI_eq (by omega) (by omega)]; omega)
      have ie : fX4_isEnd u = some (if zAo T d = 0 then 1 else 0) := by
        unfold fX4_isEnd
        rw [h5.2.2.2.1]
        by_cases c : zAo T d = 0
        · rw [if_pos (p0.mpr c), if_pos c]
        · rw [if_neg (fun y => c (p0.mp y)), if_neg c]
      have is : fX4_isSemicolon u = some (if zAo T d = 3 then 1 else 0) := by
        unfold fX4_isSemicolon
        rw [h5.2.2.2.1]
        by_cases c : zAo T d = 3
        · rw [if_pos (p3.mpr c), if_pos c]
        · rw [if_neg (fun y => c (p3.mp y)), if_neg c]
      rw [ife1, if_neg h10, ie, Option.bind_some, h6.2.2.2.1, if_neg h10]
      by_cases c0 : zAo T d = 0
      · refine ⟨nI j, u, v, j, 0, Or.inl ?_, ?_, h3, V, by omega, by omega, Or.inl ⟨rfl, h9, by rw [h6.2.2.2.1]; exact m0.mpr c0, S', k1, k2, k3⟩⟩
        · rw [if_pos c0, if_neg h10]
        · rw [if_neg (fun y => by have := m3.mp y; omega), Option.bind_some, last]
      · rw [if_neg c0, if_pos rfl, is, Option.bind_some]
        by_cases c3 : zAo T d = 3
        · have b59 : ∀ b, b < 257 → zSo b = 3 → b = 59 := by decide +kernel
          have e59 := b59 _ (zByt_le hT (i := zAs T d)) c3
          have v12 : v.1 60 12 = 59 := by rw [h6.2.2.2.2.2.1 (by omega), e59]; rfl
          have en : zAe T d = zAs T d + 1 := by unfold zAe; rw [if_neg (by omega), if_neg (by omega), if_neg (by omega)]
          have sg := zAs_ge (T := T) (e := d)
          obtain ⟨w2, n1, n2, n3⟩ := cx_nx hT h5 h8
          have ld := zAe_le h8
          obtain ⟨ans, u2, v2, c, st, r1, r2, r3, r4, r5⟩ := ih (zAe T d) (j + 1) w2 v S' (by omega) ld (by omega) (by omega) k1 (k2.x43 n2) k3 n3 h6.1 h6.2.2.1 h9 q (r + 1) (by omega) (by omega)
          refine ⟨ans, u2, v2, c, st, ?_, ?_, (h3.trs (zX6.a n2)).trs r3, V.trs r4, r5⟩
          · rw [if_pos c3, if_neg h10, n1, Option.bind_some, nI_1]
            exact r1
          · rw [if_pos (m3.mpr (by omega)), v12, if_pos rfl, Option.bind_some]
            exact r2
        · refine ⟨-1 - u.1 43 2, u, v, j, zAs T d, Or.inl ?_, ?_, h3, V, by omega, by omega, Or.inr ⟨by rw [h5.2.1], h6.2.1, Or.inr ⟨h9, by rw [h6.2.2.2.1]; exact fun y => c0 (m0.mp y)⟩⟩⟩
          · rw [if_neg c3, if_pos rfl]
          · by_cases c4 : 3 ≤ zAo T d
            · have n59 : ∀ b, b < 257 → zSo b = 4 → ¬ nI b = 59 := by decide +kernel
              have v12 : ¬ v.1 60 12 = 59 := by rw [h6.2.2.2.2.2.1 c4]; exact n59 _ (zByt_le hT (i := zAs T d)) (show zAo T d = 4 by omega)
              rw [if_pos (m3.mpr c4), if_neg v12, Option.bind_some, last]
            · rw [if_neg (fun y => c4 (m3.mp y)), Option.bind_some, last]
/-- the class's whole reading beside the reference's loop -/
theorem tx_run (hT : zWt T) {d x : zW} {S : zLd} (hS : zWf S) (hC : zCX d 30 S) (t6 : zT6 d T) (hM : zMX x 61 S) (t7 : zT7 x T) (x10 : x.1 60 10 = 0) (hg : x.1 60 13 = 1) : ∃ (ans : Int32) (u v : zW) (c st : Nat), fX1_bring d 30 = some (ans, u) ∧ lpX7_text_23 zF x 0 1 = some (nI c, v) ∧ zX6 d u ∧ zY7 x v ∧ c ≤ 200 ∧ st ≤ 120 ∧ ((ans = nI c ∧ v.1 60 13 = 1 ∧ v.1 60 8 = 0 ∧ ∃ S, zWf S ∧ zCX u 30 S ∧ zMX v 61 S) ∨ (ans = -1 - nI st ∧ v.1 60 9 = nI st ∧ (v.1 60 13 = 0 ∨ (v.1 60 13 = 1 ∧ ¬ v.1 60 8 = 0)))) := by
  have l := hT.1
  have E0 : zE (fun o => o = 43) d (zsf d 43 3 0) := zE.sf0 rfl
  obtain ⟨w1, a1, a2, a3⟩ := cx_adv (w := zsf d 43 3 0) (e := 0) hT (t6.k (K := fun k => k = 3) (zF1.f (Eq.refl _)) (by omega)) zsf_same (by omega)
  have A := E0.trs a2
  obtain ⟨ans, u, v, c, st, r1, r2, r3, r4, r5⟩ := tx_loop hT 121 0 1 w1 x S (by omega) (by omega) (by omega) (by omega) hS (hC.x43 A) hM a3 t7 x10 hg zF zF (by unfold zF; omega) (by unfold zF; omega)
  have r2 : lpX7_text_23 zF x 0 1 = some (nI c, v) := r2
  refine ⟨ans, u, v, c, st, ?_, r2, (zX6.a A).trs r3, r4, r5⟩
  unfold fX1_bring fX4_rewind
  rw [Option.bind_some, a1, Option.bind_some, Option.bind_some]
  rcases r1 with h | ⟨h, h'⟩
  · have h : lpX1_bring_6 30 zF w1 1 = some (.inl (ans, u)) := h
    rw [h]; rfl
  · have h : lpX1_bring_6 30 zF w1 1 = some (.inr u) := h
    rw [h, h']; rfl
end TEXT
theorem neg_st : ∀ st, st < 121 → (-1 : Int32) - nI st < 0 := by decide +kernel
theorem op_text : zOp (fun w => fX6_text w) (fun w => fX7_text w) := by
  intro w hI
  show ∃ r u v, fX6_text w = some (r, u) ∧ fX7_text u = some (r, v) ∧ zInv v
  obtain ⟨⟨S, hS, hC, hM⟩, dT, ⟨n, hn, t1, t2, t3⟩, f, g⟩ := hI
  have hT : zWt (n, fun i => (w.1 44 i).toNatClampNeg) := ⟨hn, fun i hi => by
    obtain ⟨b, b1, b2, b3⟩ := t3 i hi
    show (w.1 44 i).toNatClampNeg < 256
    rw [b2, nI_clamp (by omega)]; exact b1⟩
  have B4 : ∀ i, i < n → w.1 44 i = nI ((w.1 44 i).toNatClampNeg) ∧ w.1 65 i = nI ((w.1 44 i).toNatClampNeg) := fun i hi => by
    obtain ⟨b, b1, b2, b3⟩ := t3 i hi
    rw [b2, nI_clamp (by omega)]; exact ⟨rfl, b3⟩
  obtain ⟨d, d1, d2, d3⟩ := cx_become (a := 30) hS hC (by omega)
  have t6 : zT6 d (n, fun i => (w.1 44 i).toNatClampNeg) := ⟨by rw [(d3 43 (by omega)).1]; exact t1, fun i hi => by rw [(d3 44 (by omega)).1]; exact (B4 i hi).1⟩
  -- the reference's start, in any world that has its parts
  have start : ∀ y : zW, (∀ o, o = 60 ∨ o = 61 ∨ o = 65 → y.1 o = w.1 o) → ∃ x2, fX7_moveAll y 1 71 = some x2 ∧ zE (fun o => o = 71) y x2 ∧ (∀ i, i < 151 → x2.1 71 i = y.1 61 i) ∧ zMX (zsf (zsf x2 60 10 0) 60 13 1) 61 S ∧ zT7 (zsf (zsf x2 60 10 0) 60 13 1) (n, fun i => (w.1 44 i).toNatClampNeg) ∧ (zsf (zsf x2 60 10 0) 60 13 1).1 60 10 = 0 ∧ (zsf (zsf x2 60 10 0) 60 13 1).1 60 13 = 1 := by
    intro y hy
    obtain ⟨x2, x1, x2', x3⟩ := mv_all (p := 1) (o := 71) (by omega) y
    have x2' : zE (fun o => o = 71) y x2 := x2'
    refine ⟨x2, x1, x2', x3, ?_, ⟨?_, fun i hi => ?_⟩, ?_, ?_⟩
    · exact hM.keep (by rw [zsf_o (by omega), zsf_o (by omega), (x2' 61 (by omega)).1, hy 61 (by omega)])
    · rw [zsf_k (by omega), zsf_k (by omega), (x2' 60 (by omega)).1, hy 60 (by omega)]; exact t2
    · rw [zsf_o (by omega), zsf_o (by omega), (x2' 65 (by omega)).1, hy 65 (by omega)]; exact (B4 i hi).2
    · rw [zsf_k (by omega), zsf_same]
    · rw [zsf_same]
  -- the class's run
  obtain ⟨x0, _, _, _, s4, s5, s6, s7⟩ := start w (fun o _ => rfl)
  obtain ⟨ans, u, v0, c0, st0, r1, _, r3, _, r5, r6, r7⟩ := tx_run hT hS d2 t6 s4 s5 s6 s7
  have U : zE (fun o => (30 ≤ o ∧ o < 40) ∨ o = 43) w u := (d3.mono (fun o h => by omega)).trs r3
  have Z : zE (fun o => (30 ≤ o ∧ o < 40) ∨ o = 43) w (zsf u 43 1 0) := U.trs (zE.sf0 (Or.inr rfl))
  have Z1 : (zsf u 43 1 0).1 43 1 = 0 := zsf_same
  have again : ∀ y : zW, (∀ o, o = 60 ∨ o = 61 ∨ o = 65 → y.1 o = w.1 o) → ∃ (x2 v : zW) (c st : Nat), fX7_moveAll y 1 71 = some x2 ∧ zE (fun o => o = 71) y x2 ∧ (∀ i, i < 151 → x2.1 71 i = y.1 61 i) ∧ lpX7_text_23 zF (zsf (zsf x2 60 10 0) 60 13 1) 0 1 = some (nI c, v) ∧ zY7 (zsf (zsf x2 60 10 0) 60 13 1) v ∧ c ≤ 200 ∧ st ≤ 120 ∧ ((ans = nI c ∧ v.1 60 13 = 1 ∧ v.1 60 8 = 0 ∧ ∃ S, zWf S ∧ zCX u 30 S ∧ zMX v 61 S) ∨ (ans = -1 - nI st ∧ v.1 60 9 = nI st ∧ (v.1 60 13 = 0 ∨ (v.1 60 13 = 1 ∧ ¬ v.1 60 8 = 0)))) := by
    intro y hy
    obtain ⟨x2, y1, y2, y3, y4, y5, y6, y7⟩ := start y hy
    obtain ⟨ans', u', v, c, st, q1, q2, q3, q4, q5, q6, q7⟩ := tx_run hT hS d2 t6 y4 y5 y6 y7
    rw [r1] at q1
    have e := Option.some.inj q1
    have e1 : ans = ans' := congrArg Prod.fst e
    have e2 : u = u' := congrArg Prod.snd e
    subst e1
    subst e2
    exact ⟨x2, v, c, st, y1, y2, y3, q2, q4, q5, q6, q7⟩
  by_cases neg : ans < 0
  · obtain ⟨x2, v, c, st, y1, y2, y3, q2, q4, q5, q6, q7⟩ := again (zsf u 43 1 0) (fun o ho => (Z o (by omega)).1)
    have q7 : ans = -1 - nI st ∧ v.1 60 9 = nI st ∧ (v.1 60 13 = 0 ∨ (v.1 60 13 = 1 ∧ ¬ v.1 60 8 = 0)) := by
      rcases q7 with h | h
      · rw [h.1] at neg; exact absurd neg (nI_pos (by omega))
      · exact h
    obtain ⟨k1, k2, k3⟩ := q7
    have x30 : (if (v.1 60 13) = 0 then (some (0 : Int32)) else ((if (v.1 60 8) = 0 then (some (1 : Int32)) else (some (0 : Int32))))) = some 0 := by
      rcases k3 with h | ⟨h, h'⟩
      · rw [if_pos h]
      · rw [h, if_neg h10, if_neg h']
    obtain ⟨v4, m1, m2, m3⟩ := mv_all (p := 0) (o := 71) (by omega) (zsf (zsf v 60 13 0) 60 7 0)
    have m2 : zE (fun o => o = 61) (zsf (zsf v 60 13 0) 60 7 0) v4 := m2
    have m3 : ∀ i, i < 151 → v4.1 61 i = (zsf (zsf v 60 13 0) 60 7 0).1 71 i := m3
    have c13 : (zsf (zsf v 60 13 0) 60 7 0).1 60 13 = 0 := by rw [zsf_k (by omega), zsf_same]
    have c9 : v4.1 60 9 = nI st := by rw [(m2 60 (by omega)).1, zsf_k (by omega), zsf_k (by omega), k2]
    have EV : ∀ o, ¬ ((30 ≤ o ∧ o < 40) ∨ o = 43 ∨ o = 60 ∨ o = 61 ∨ o = 71) → v4.1 o = w.1 o ∧ v4.2 o = w.2 o := fun o ho => by
      have e1 := m2 o (by omega)
      have e2 : (zsf (zsf v 60 13 0) 60 7 0).1 o = v.1 o := by rw [zsf_o (by omega), zsf_o (by omega)]
      have e3 := q4.1 o (by omega)
      have e4 : (zsf (zsf x2 60 10 0) 60 13 1).1 o = x2.1 o := by rw [zsf_o (by omega), zsf_o (by omega)]
      have e5 := y2 o (by omega)
      have e6 := Z o (by omega)
      refine ⟨by rw [e1.1, e2, e3.1, e4, e5.1, e6.1], ?_⟩
      rw [e1.2]
      show v.2 o = w.2 o
      rw [e3.2]
      show x2.2 o = w.2 o
      rw [e5.2, e6.2]
    have c71 : ∀ i, i < 151 → v4.1 61 i = w.1 61 i := fun i hi => by
      rw [m3 i hi, zsf_o (by omega), zsf_o (by omega), (q4.1 71 (by omega)).1, zsf_o (by omega), zsf_o (by omega), y3 i hi, (Z 61 (by omega)).1]
    have v43 : v4.1 43 = (zsf u 43 1 0).1 43 := by
      rw [(m2 43 (by omega)).1, zsf_o (by omega), zsf_o (by omega), (q4.1 43 (by omega)).1, zsf_o (by omega), zsf_o (by omega), (y2 43 (by omega)).1]
    have v20 : v4.1 60 20 = w.1 60 20 := by
      rw [(m2 60 (by omega)).1, zsf_k (by omega), zsf_k (by omega), q4.2, zsf_k (by omega), zsf_k (by omega), (y2 60 (by omega)).1, (Z 60 (by omega)).1]
    refine ⟨-1 - nI st, zsf u 43 1 0, v4, ?_, ?_, ⟨S, hS, hC.keep (fun j hj => (EV _ (by omega)).1), hM.copy hS c71⟩, dT.keep (EV _ (by omega)).1 (EV _ (by omega)).1, ⟨0, by omega, ?_, ?_, fun i hi => absurd hi (by omega)⟩, f.keep (fun o h1 h2 => EV o (by omega)) (EV _ (by omega)).1 (EV _ (by omega)).1 (EV _ (by omega)).2, g.keep (by rw [(EV 0 (by omega)).1]) v20 (fun j hj => (EV _ (by omega)).1) (EV _ (by omega)).1⟩
    · unfold fX6_text
      rw [d1, Option.bind_some, r1, zb2_some, Option.bind_some, if_pos neg, Option.bind_some, k1]
    · unfold fX7_text
      rw [y1, Option.bind_some, Option.bind_some, Option.bind_some, q2, zb2_some, x30, Option.bind_some, zgb_0, Option.bind_some, Option.bind_some, Option.bind_some, c13, if_pos rfl, m1, Option.bind_some, c9]
    · rw [v43, Z1]; rfl
    · rw [(m2 60 (by omega)).1, zsf_same]; rfl
  · have pos : ∃ c S', ans = nI c ∧ zWf S' ∧ zCX u 30 S' := by
      rcases r7 with ⟨h, _, _, S', h1, h2, _⟩ | ⟨h, _⟩
      · exact ⟨c0, S', h, h1, h2⟩
      · rw [h] at neg; exact absurd (neg_st st0 (by omega)) neg
    obtain ⟨c', S', hc', hS', hC'⟩ := pos
    have hCz : zCX (zsf u 43 1 0) 30 S' := hC'.keep (fun j hj => by rw [zsf_o (by omega)])
    obtain ⟨y, p1, p2, p3⟩ := cx_become (a := 10) (b := 30) hS' hCz (by omega)
    have Y : ∀ o, ¬ ((10 ≤ o ∧ o < 20) ∨ (30 ≤ o ∧ o < 40) ∨ o = 43) → y.1 o = w.1 o ∧ y.2 o = w.2 o := fun o ho => by
      have e1 := p3 o (by omega)
      have e2 := Z o (by omega)
      exact ⟨by rw [e1.1, e2.1], by rw [e1.2, e2.2]⟩
    obtain ⟨x2, v, c, st, y1, y2, y3, q2, q4, q5, q6, q7⟩ := again y (fun o ho => (Y o (by omega)).1)
    have q7 : ans = nI c ∧ v.1 60 13 = 1 ∧ v.1 60 8 = 0 ∧ ∃ S, zWf S ∧ zCX u 30 S ∧ zMX v 61 S := by
      rcases q7 with h | h
      · exact h
      · rw [h.1] at neg; exact absurd (neg_st st (by omega)) neg
    obtain ⟨k1, k2, k3, R, hR, hCR, hMR⟩ := q7
    obtain ⟨y', p1', p2', _⟩ := cx_become (a := 10) (b := 30) hR (show zCX (zsf u 43 1 0) 30 R from hCR.keep (fun j hj => by rw [zsf_o (by omega)])) (by omega)
    rw [p1] at p1'
    have ey := Option.some.inj p1'
    subst ey
    have x30 : (if (v.1 60 13) = 0 then (some (0 : Int32)) else ((if (v.1 60 8) = 0 then (some (1 : Int32)) else (some (0 : Int32))))) = some 1 := by rw [k2, if_neg h10, if_pos k3]
    have c13 : (zsf (zsf v 60 13 1) 60 7 0).1 60 13 = 1 := by rw [zsf_k (by omega), zsf_same]
    have EV : ∀ o, ¬ (o = 60 ∨ o = 61 ∨ o = 71) → (zsf (zsf v 60 13 1) 60 7 0).1 o = y.1 o ∧ (zsf (zsf v 60 13 1) 60 7 0).2 o = y.2 o := fun o ho => by
      have e3 := q4.1 o (by omega)
      have e4 : (zsf (zsf x2 60 10 0) 60 13 1).1 o = x2.1 o := by rw [zsf_o (by omega), zsf_o (by omega)]
      have e5 := y2 o (by omega)
      refine ⟨by rw [zsf_o (by omega), zsf_o (by omega), e3.1, e4, e5.1], ?_⟩
      show v.2 o = y.2 o
      rw [e3.2]
      show x2.2 o = y.2 o
      rw [e5.2]
    have EW : ∀ o, ¬ ((10 ≤ o ∧ o < 20) ∨ (30 ≤ o ∧ o < 40) ∨ o = 43 ∨ o = 60 ∨ o = 61 ∨ o = 71) → (zsf (zsf v 60 13 1) 60 7 0).1 o = w.1 o ∧ (zsf (zsf v 60 13 1) 60 7 0).2 o = w.2 o := fun o ho => by
      have e1 := EV o (by omega)
      have e2 := Y o (by omega)
      exact ⟨by rw [e1.1, e2.1], by rw [e1.2, e2.2]⟩
    have v20 : (zsf (zsf v 60 13 1) 60 7 0).1 60 20 = w.1 60 20 := by
      rw [zsf_k (by omega), zsf_k (by omega), q4.2, zsf_k (by omega), zsf_k (by omega), (y2 60 (by omega)).1, (Y 60 (by omega)).1]
    refine ⟨nI c, y, zsf (zsf v 60 13 1) 60 7 0, ?_, ?_, ⟨R, hR, p2'.keep (fun j hj => (EV _ (by omega)).1), hMR.keep (by rw [zsf_o (by omega), zsf_o (by omega)])⟩, dT.keep (EW _ (by omega)).1 (EW _ (by omega)).1, ⟨0, by omega, ?_, ?_, fun i hi => absurd hi (by omega)⟩, f.keep (fun o h1 h2 => EW o (by omega)) (EW _ (by omega)).1 (EW _ (by omega)).1 (EW _ (by omega)).2, g.keep (by rw [(EW 0 (by omega)).1]) v20 (fun j hj => (EW _ (by omega)).1) (EW _ (by omega)).1⟩
    · unfold fX6_text
      rw [d1, Option.bind_some, r1, zb2_some, Option.bind_some, if_neg neg, p1, Option.bind_some, Option.bind_some, k1]
    · unfold fX7_text
      rw [y1, Option.bind_some, Option.bind_some, Option.bind_some, q2, zb2_some, x30, Option.bind_some, zgb_1, Option.bind_some, Option.bind_some, Option.bind_some, c13, if_neg h10]
    · rw [(EV 43 (by omega)).1, (p3 43 (by omega)).1, Z1]; rfl
    · rw [zsf_same]; rfl
