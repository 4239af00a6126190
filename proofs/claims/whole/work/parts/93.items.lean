/-! items of the text: class and reference beside each other, each in its own world -/
def zX6 (w u : zW) : Prop := zE (fun o => (30 ≤ o ∧ o < 40) ∨ o = 43) w u
def zY7 (w u : zW) : Prop := zE (fun o => o = 60 ∨ o = 61) w u ∧ u.1 60 20 = w.1 60 20
theorem zX6.rfl {w : zW} : zX6 w w := zE.rfl
theorem zX6.trs {w u v : zW} (h : zX6 w u) (k : zX6 u v) : zX6 w v := zE.trs h k
theorem zX6.a {w u : zW} (h : zE (fun x => x = 43) w u) : zX6 w u := h.mono (fun o h => Or.inr h)
theorem zX6.l {w u : zW} (h : zE (fun o => 30 ≤ o ∧ o < 40) w u) : zX6 w u := h.mono (fun o h => Or.inl h)
theorem zY7.rfl {w : zW} : zY7 w w := ⟨zE.rfl, Eq.refl _⟩
theorem zY7.trs {w u v : zW} (h : zY7 w u) (k : zY7 u v) : zY7 w v := ⟨h.1.trs k.1, k.2.trans h.2⟩
theorem zY7.a {w u : zW} (h : zX7 w u) : zY7 w u := ⟨h.1.mono (fun o h => Or.inl h), h.2⟩
theorem zY7.l {w u : zW} (h : zE (fun o => o = 61) w u) : zY7 w u := ⟨h.mono (fun o h => Or.inr h), by rw [(h 60 (by omega)).1]⟩
theorem zC6.k {w u : zW} {T : zTape} {e : Nat} (h : zC6 w T e) (h3 : u.1 43 = w.1 43) (h4 : u.1 44 = w.1 44) : zC6 u T e := by
  unfold zC6 zT6
  rw [h3, h4]
  exact h
theorem zC7.k {w u : zW} {T : zTape} {e : Nat} (h : zC7 w T e) (h0 : u.1 60 = w.1 60) (h1 : u.2 60 = w.2 60) (h5 : u.1 65 = w.1 65) : zC7 u T e := by
  unfold zC7 zT7
  rw [h0, h1, h5]
  exact h
theorem zMX.x7 {w u : zW} {S : zLd} (h : zMX w 61 S) (e : zX7 w u) : zMX u 61 S := h.keep (e.1 61 (by omega)).1
theorem zCX.x43 {w u : zW} {S : zLd} (h : zCX w 30 S) (e : zE (fun x => x = 43) w u) : zCX u 30 S := h.keep (fun j hj => (e _ (by omega)).1)
theorem zE61 {u : zW} {k : Nat} {x : Int32} : zE (fun o => o = 61) u (zsf u 61 k x) := zE.sf0 rfl
theorem ife0 : (if false = true then (1 : Int32) else 0) = 0 := rfl
theorem ife1 : (if true = true then (1 : Int32) else 0) = 1 := rfl
section STEP
variable {T : zTape} {w : zW} {e : Nat}
theorem cx_nx (hT : zWt T) (h : zC6 w T e) (he : e ≤ T.1) : ∃ u, fX4_advance w = some u ∧ zE (fun x => x = 43) w u ∧ zC6 u T (zAe T e) := cx_adv hT h.1 h.2.2.1 (zAe_le he)
theorem mx_nx (hT : zWt T) (h : zC7 w T e) (he : e ≤ T.1) : ∃ u, fX7_advance w = some u ∧ zX7 w u ∧ u.1 60 13 = w.1 60 13 ∧ zC7 u T (zAe T e) := by
  obtain ⟨u, u1, u2, u3⟩ := mx_adv hT h.1 h.2.2.1 (zAe_le he)
  exact ⟨u, u1, zX7.a u2, u2.2 13 (by omega), u3⟩
theorem zAe_e : e ≤ zAe T e := Nat.le_trans zAs_ge zAe_ge
theorem rn_y (hT : zWt T) (hC : zC7 w T e) (he : e ≤ T.1) (hg : w.1 60 13 = 1) {p1 p2 : Int32} (so : zAo T e = 2) (hin : fX7_in w (nI (zAv T e)) p1 p2 = some 1) : ∃ u, fX7_wantNumber w p1 p2 = some (nI (zAv T e), u) ∧ zX7 w u ∧ u.1 60 13 = 1 ∧ zC7 u T (zAe T e) := by
  obtain ⟨x, u, u1, u2, u3, u4, u5⟩ := mx_wn (g := true) (P := true) hT hC he hg (fun _ => hin)
  have k : (true && (decide (zAo T e = 2) && true)) = true := by rw [so]; rfl
  rw [k] at u3
  obtain ⟨e1, e2⟩ := u4 k
  subst e1
  exact ⟨u, u1, u2, u3, e2⟩
theorem rn_n (hT : zWt T) (hC : zC7 w T e) (he : e ≤ T.1) (hg : w.1 60 13 = 1) {p1 p2 : Int32} (no : zAo T e = 2 → fX7_in w (nI (zAv T e)) p1 p2 = some 0) : ∃ x u, fX7_wantNumber w p1 p2 = some (x, u) ∧ zX7 w u ∧ u.1 60 13 = 0 ∧ zC7 u T e := by
  obtain ⟨x, u, u1, u2, u3, u4, u5⟩ := mx_wn (g := true) (P := false) hT hC he hg no
  have k : (true && (decide (zAo T e = 2) && false)) = false := by simp
  rw [k] at u3
  exact ⟨x, u, u1, u2, u3, u5 k⟩
theorem rn_0 (hT : zWt T) (hC : zC7 w T e) (he : e ≤ T.1) (hg : w.1 60 13 = 0) {p1 p2 : Int32} (ex : zAo T e = 2 → ∃ P : Bool, fX7_in w (nI (zAv T e)) p1 p2 = some (if P = true then 1 else 0)) : ∃ x u, fX7_wantNumber w p1 p2 = some (x, u) ∧ zX7 w u ∧ u.1 60 13 = 0 ∧ zC7 u T e := by
  by_cases so : zAo T e = 2
  · obtain ⟨P, hP⟩ := ex so
    obtain ⟨x, u, u1, u2, u3, u4, u5⟩ := mx_wn (g := false) (P := P) hT hC he hg (fun _ => hP)
    exact ⟨x, u, u1, u2, u3, u5 rfl⟩
  · obtain ⟨x, u, u1, u2, u3, u4, u5⟩ := mx_wn (g := false) (P := false) (p1 := p1) (p2 := p2) hT hC he hg (fun q => absurd q so)
    exact ⟨x, u, u1, u2, u3, u5 rfl⟩
theorem in_01 {x a b : Int32} : ∃ P : Bool, fX7_in w x a b = some (if P = true then 1 else 0) := by
  unfold fX7_in
  split
  · exact ⟨false, rfl⟩
  · split
    · exact ⟨false, rfl⟩
    · exact ⟨true, rfl⟩
theorem in_ab {v a b : Nat} (hv : v < 2 ^ 30) (ha : a < 2 ^ 30) (hb : b < 2 ^ 30) (h : a ≤ v ∧ v ≤ b) : fX7_in w (nI v) (nI a) (nI b) = some 1 := by
  unfold fX7_in
  rw [if_neg (fun x => by have := (nI_ltI (by omega) (by omega)).mp x; omega), if_neg (fun x => by have := (nI_ltI (by omega) (by omega)).mp x; omega)]
theorem in_abn {v a b : Nat} (hv : v < 2 ^ 30) (ha : a < 2 ^ 30) (hb : b < 2 ^ 30) (h : ¬ (a ≤ v ∧ v ≤ b)) : fX7_in w (nI v) (nI a) (nI b) = some 0 := by
  unfold fX7_in
  by_cases c : v < a
  · rw [if_pos ((nI_ltI (by omega) (by omega)).mpr c)]
  · rw [if_neg (fun x => c ((nI_ltI (by omega) (by omega)).mp x)), if_pos ((nI_ltI (by omega) (by omega)).mpr (by omega))]
theorem rw_y (hT : zWt T) (hC : zC7 w T e) (he : e ≤ T.1) (hg : w.1 60 13 = 1) {q : Nat} (hq : q < 13) (hw : zWd T e q = true) : ∃ u, fX7_wantWord w (zcd.getD q 0) = some u ∧ zX7 w u ∧ u.1 60 13 = 1 ∧ zC7 u T (zAe T e) := by
  obtain ⟨u, u1, u2, u3, u4, u5⟩ := mx_ww (g := true) hT hC he hg hq
  rw [hw] at u3 u4
  exact ⟨u, u1, u2, u3, u4 rfl⟩
theorem rw_n (hT : zWt T) (hC : zC7 w T e) (he : e ≤ T.1) (hg : w.1 60 13 = 1) {q : Nat} (hq : q < 13) (hw : zWd T e q = false) : ∃ u, fX7_wantWord w (zcd.getD q 0) = some u ∧ zX7 w u ∧ u.1 60 13 = 0 ∧ zC7 u T e := by
  obtain ⟨u, u1, u2, u3, u4, u5⟩ := mx_ww (g := true) hT hC he hg hq
  rw [hw] at u3 u5
  exact ⟨u, u1, u2, u3, u5 rfl⟩
theorem rw_0 (hT : zWt T) (hC : zC7 w T e) (he : e ≤ T.1) (hg : w.1 60 13 = 0) {q : Nat} (hq : q < 13) : ∃ u, fX7_wantWord w (zcd.getD q 0) = some u ∧ zX7 w u ∧ u.1 60 13 = 0 ∧ zC7 u T e := by
  obtain ⟨u, u1, u2, u3, u4, u5⟩ := mx_ww (g := false) hT hC he hg hq
  exact ⟨u, u1, u2, u3, u5 rfl⟩
end STEP
/-- one item: class's part from w, reference's from x -/
def zIt (T : zTape) (w x : zW) (e : Nat) (F : Option (Int32 × zW)) (G : Option zW) : Prop := ∃ (f : Bool) (S : zLd) (d : Nat) (u v : zW), F = some (if f = true then 1 else 0, u) ∧ G = some v ∧ zX6 w u ∧ zY7 x v ∧ zC6 u T d ∧ zC7 v T d ∧ e ≤ d ∧ d ≤ T.1 ∧ v.1 60 13 = (if f = true then 1 else 0) ∧ (f = true → zWf S ∧ zCX u 30 S ∧ zMX v 61 S)
theorem zIt.no {T : zTape} {w x u v : zW} {e d : Nat} {F : Option (Int32 × zW)} {G : Option zW} {S : zLd} (h1 : F = some (0, u)) (h2 : G = some v) (h3 : zX6 w u) (h4 : zY7 x v) (h5 : zC6 u T d) (h6 : zC7 v T d) (h7 : e ≤ d) (h8 : d ≤ T.1) (h9 : v.1 60 13 = 0) : zIt T w x e F G := ⟨false, S, d, u, v, h1, h2, h3, h4, h5, h6, h7, h8, h9, fun h => by cases h⟩
theorem zIt.yes {T : zTape} {w x u v : zW} {e d : Nat} {F : Option (Int32 × zW)} {G : Option zW} {S : zLd} (h1 : F = some (1, u)) (h2 : G = some v) (h3 : zX6 w u) (h4 : zY7 x v) (h5 : zC6 u T d) (h6 : zC7 v T d) (h7 : e ≤ d) (h8 : d ≤ T.1) (h9 : v.1 60 13 = 1) (h10 : zWf S) (h11 : zCX u 30 S) (h12 : zMX v 61 S) : zIt T w x e F G := ⟨true, S, d, u, v, h1, h2, h3, h4, h5, h6, h7, h8, h9, fun _ => ⟨h10, h11, h12⟩⟩
section ITEMS
variable {T : zTape} {w x : zW} {e : Nat} {S : zLd}
theorem it_every (hT : zWt T) (hS : zWf S) (hC : zCX w 30 S) (hM : zMX x 61 S) (c6 : zC6 w T e) (c7 : zC7 x T e) (he : e ≤ T.1) (hg : x.1 60 13 = 1) : zIt T w x e (fX1_bringEvery w 30) (fX7_wantEvery x) := by
  obtain ⟨w1, a1, a2, a3⟩ := cx_nx hT c6 he
  obtain ⟨x1, b1, b2, b3, b4⟩ := mx_nx hT c7 he
  have l1 := zAe_le he
  have g1 := zAe_e (T := T) (e := e)
  have vl := zAv_le (T := T) (e := zAe T e)
  have nb := cx_nb a3 (a := 1) (b := 99) (by omega) (by omega)
  have nb : fX4_isNumber w1 1 99 = _ := nb
  have hMx := hM.x7 b2
  rw [hg] at b3
  unfold fX1_bringEvery fX7_wantEvery
  rw [a1, Option.bind_some, b1, Option.bind_some, nb, Option.bind_some]
  by_cases ok : zAo T (zAe T e) = 2 ∧ 1 ≤ zAv T (zAe T e) ∧ zAv T (zAe T e) ≤ 99
  · obtain ⟨x2, d1, d2, d3, d4⟩ := rn_y hT b4 l1 b3 (p1 := 1) (p2 := 99) ok.1 (in_ab (a := 1) (b := 99) (by omega) (by omega) (by omega) ok.2)
    rw [if_pos (decide_eq_true ok), if_neg h10, Option.bind_some, a3.2.2.2.2 ok.1]
    have E5 : zE (fun o => 30 ≤ o ∧ o < 40) w1 (zsf w1 30 7 (nI (zAv T (zAe T e)))) := zE.sf0 (by omega)
    have c65 : zC6 (zsf w1 30 7 (nI (zAv T (zAe T e)))) T (zAe T e) := a3.k (zsf_o (by omega)) (zsf_o (by omega))
    obtain ⟨w3, f1, f2, f3⟩ := cx_nx hT c65 l1
    have hMx2 := hMx.x7 d2
    have w61 : ∀ q : Int32, zwr x2 61 151 3 q = some (zsf x2 61 3 q) := fun q => by rw [zL3, zwr_nI (by omega) (by omega)]
    refine zIt.yes (S := zS_ev S (zAv T (zAe T e))) (u := w3) (v := zsf x2 61 3 (nI (zAv T (zAe T e)))) (d := zAe T (zAe T e)) ?_ ?_ ((zX6.a a2).trs ((zX6.l E5).trs (zX6.a f2))) (((zY7.a b2).trs (zY7.a d2)).trs (zY7.l (zE.sf0 rfl))) f3 (d4.k (zsf_o (by omega)) rfl (zsf_o (by omega))) (by have := zAe_e (T := T) (e := zAe T e); omega) (zAe_le l1) (by rw [zsf_o (by omega), d3]) (wf_ev hS ok.2.1 ok.2.2) ?_ (mx_ev hMx2 _)
    · rw [f1, Option.bind_some]
    · rw [d1, zb2_some, d3, if_neg h10, w61, Option.bind_some]
    · exact (cx_ev (hC.x43 a2) _).x43 f2
  · obtain ⟨y, x2, d1, d2, d3, d4⟩ := rn_n hT b4 l1 b3 (p1 := 1) (p2 := 99) (fun so => in_abn (a := 1) (b := 99) (by omega) (by omega) (by omega) (fun h => ok ⟨so, h⟩))
    refine zIt.no (S := S) (u := w1) (v := x2) (d := zAe T e) ?_ ?_ (zX6.a a2) ((zY7.a b2).trs (zY7.a d2)) a3 d4 g1 l1 d3
    · rw [decide_eq_false ok, if_pos (by decide)]
    · rw [Option.bind_some, d1, zb2_some, d3, if_pos rfl]
theorem rn_v (hT : zWt T) (hS : zWf S) (hM : zMX x 61 S) (hC : zC7 x T e) (he : e ≤ T.1) (hg : x.1 60 13 = 1) (ok : zAo T e = 2 ∧ zAv T e < zNv S) : ∃ u, fX7_wantNumber x 0 (nI (zNv S) - 1) = some (nI (zAv T e), u) ∧ zX7 x u ∧ u.1 60 13 = 1 ∧ zC7 u T (zAe T e) := rn_y hT hC he hg ok.1 (in_y ok.2 (by have := hS.nv; omega))
theorem rn_vn (hT : zWt T) (hS : zWf S) (hM : zMX x 61 S) (hC : zC7 x T e) (he : e ≤ T.1) (hg : x.1 60 13 = 1) (ok : ¬ (zAo T e = 2 ∧ zAv T e < zNv S)) : ∃ y u, fX7_wantNumber x 0 (nI (zNv S) - 1) = some (y, u) ∧ zX7 x u ∧ u.1 60 13 = 0 ∧ zC7 u T e := rn_n hT hC he hg (fun so => in_n (Or.inr ((nI_leI (by have := hS.nv; omega) (by have := zAv_le (T := T) (e := e); omega)).mpr (Nat.le_of_not_lt (fun h => ok ⟨so, h⟩)))) (by have := hS.nv; omega))
theorem it_slide (hT : zWt T) (hS : zWf S) (hC : zCX w 30 S) (hM : zMX x 61 S) (c6 : zC6 w T e) (c7 : zC7 x T e) (he : e ≤ T.1) (hg : x.1 60 13 = 1) : zIt T w x e (fX1_bringSlide w 30) (fX7_wantSlide x) := by
  have nv := hS.nv
  obtain ⟨w1, a1, a2, a3⟩ := cx_nx hT c6 he
  obtain ⟨x1, b1, b2, b3, b4⟩ := mx_nx hT c7 he
  have l1 := zAe_le he
  have g1 := zAe_e (T := T) (e := e)
  have hCw1 := hC.x43 a2
  have sv := cx_sv a3 nv hCw1.1.1
  have hMx := hM.x7 b2
  rw [hg] at b3
  unfold fX1_bringSlide fX7_wantSlide
  rw [a1, Option.bind_some, Option.bind_some, b1, Option.bind_some, sv, Option.bind_some, mx_0 hMx, Option.bind_some]
  by_cases ok : zAo T (zAe T e) = 2 ∧ zAv T (zAe T e) < zNv S
  · obtain ⟨x2, d1, d2, d3, d4⟩ := rn_v hT hS hMx b4 l1 b3 ok
    rw [if_pos (decide_eq_true ok), if_neg h10, a3.2.2.2.2 ok.1, d1, zb2_some]
    obtain ⟨w2, f1, f2, f3⟩ := cx_nx hT a3 l1
    rw [f1, Option.bind_some]
    have l2 := zAe_le l1
    have g2 := zAe_e (T := T) (e := zAe T e)
    have hCw2 := hCw1.x43 f2
    have hMx2 := hMx.x7 d2
    have vl := zAv_le (T := T) (e := zAe T (zAe T e))
    have nb := cx_nb f3 (a := 0) (b := 9999) (by omega) (by omega)
    have nb : fX4_isNumber w2 0 9999 = _ := nb
    rw [nb, Option.bind_some]
    generalize ha : zAv T (zAe T e) = a at ok
    by_cases ok2 : zAo T (zAe T (zAe T e)) = 2 ∧ 0 ≤ zAv T (zAe T (zAe T e)) ∧ zAv T (zAe T (zAe T e)) ≤ 9999
    · obtain ⟨x3, k1, k2, k3, k4⟩ := rn_y hT d4 l2 d3 (p1 := 0) (p2 := 9999) ok2.1 (in_ab (a := 0) (b := 9999) (by omega) (by omega) (by omega) ok2.2)
      have hMx3 := hMx2.x7 k2
      rw [if_pos (decide_eq_true ok2), if_neg h10, f3.2.2.2.2 ok2.1, cx_sh hS hCw2 ok.2, Option.bind_some]
      generalize hb : zAv T (zAe T (zAe T e)) = b at ok2 k1 vl
      have E5 : zE (fun o => 30 ≤ o ∧ o < 40) w2 (zsf w2 (30 + 1) a (nI b)) := zE.sf0 (by omega)
      have c65 : zC6 (zsf w2 (30 + 1) a (nI b)) T (zAe T (zAe T e)) := f3.k (zsf_o (by omega)) (zsf_o (by omega))
      obtain ⟨w3, m1, m2, m3⟩ := cx_nx hT c65 l2
      have w61 : ∀ q : Int32, zwr x3 61 151 (nI (5 + 2 * a)) q = some (zsf x3 61 (5 + 2 * a) q) := fun q => zwr_nI (by omega) (by omega)
      refine zIt.yes (S := zS_ht S a b) (u := w3) (v := zsf x3 61 (5 + 2 * a) (nI b)) (d := zAe T (zAe T (zAe T e))) ?_ ?_ ((zX6.a a2).trs ((zX6.a f2).trs ((zX6.l E5).trs (zX6.a m2)))) ((((zY7.a b2).trs (zY7.a d2)).trs (zY7.a k2)).trs (zY7.l (zE.sf0 rfl))) m3 (k4.k (zsf_o (by omega)) rfl (zsf_o (by omega))) (by have := zAe_e (T := T) (e := zAe T (zAe T e)); omega) (zAe_le l2) (by rw [zsf_o (by omega), k3]) (wf_ht hS ok2.2.2) ?_ (mx_hts hS hMx3 b ok.2)
      · rw [m1, Option.bind_some]
      · rw [k1, zb2_some, k3, if_neg h10, ix2, w61, Option.bind_some]
      · exact (cx_hts hCw2 a b).x43 m2
    · obtain ⟨y, x3, k1, k2, k3, k4⟩ := rn_n hT d4 l2 d3 (p1 := 0) (p2 := 9999) (fun so => in_abn (a := 0) (b := 9999) (by omega) (by omega) (by omega) (fun h => ok2 ⟨so, h⟩))
      refine zIt.no (S := S) (u := w2) (v := x3) (d := zAe T (zAe T e)) ?_ ?_ ((zX6.a a2).trs (zX6.a f2)) (((zY7.a b2).trs (zY7.a d2)).trs (zY7.a k2)) f3 k4 (by omega) l2 k3
      · rw [decide_eq_false ok2, if_pos (by decide)]
      · rw [k1, zb2_some, k3, if_pos rfl]
  · obtain ⟨y, x2, d1, d2, d3, d4⟩ := rn_vn hT hS hMx b4 l1 b3 ok
    obtain ⟨y2, x3, k1, k2, k3, k4⟩ := rn_0 hT d4 l1 d3 (p1 := 0) (p2 := 9999) (fun _ => in_01)
    refine zIt.no (S := S) (u := w1) (v := x3) (d := zAe T e) ?_ ?_ (zX6.a a2) (((zY7.a b2).trs (zY7.a d2)).trs (zY7.a k2)) a3 k4 g1 l1 k3
    · rw [decide_eq_false ok, if_pos (by decide)]
    · rw [d1, zb2_some, k1, zb2_some, k3, if_pos rfl]
theorem it_village (hT : zWt T) (hS : zWf S) (hC : zCX w 30 S) (hM : zMX x 61 S) (c6 : zC6 w T e) (c7 : zC7 x T e) (he : e ≤ T.1) : zIt T w x e (fX1_bringVillage w 30) (fX7_wantVillage x) := by
  have nv := hS.nv
  unfold fX1_bringVillage fX7_wantVillage
  rw [mx_0 hM, Option.bind_some]
  by_cases full : 12 ≤ zNv S
  · have vf : fX0_villagesFull w 30 = some 1 := by
      unfold fX0_villagesFull
      rw [hC.1.1, if_neg (fun q => by rw [zL12] at q; have := (nI_ltI (by omega) (by omega)).mp q; omega)]
    have c13 : (zsf x 60 13 (0 : Int32)).1 60 13 = 0 := zsf_same
    refine zIt.no (S := S) (u := w) (v := zsf x 60 13 0) (d := e) ?_ ?_ zX6.rfl (zY7.a zX7.g) c6 c7.g (Nat.le_refl _) he c13
    · rw [vf, Option.bind_some, if_neg h10]
    · rw [if_pos (by rw [zL12]; exact (nI_leI (by omega) (by omega)).mpr full), Option.bind_some, zgb_0, Option.bind_some, Option.bind_some, c13, if_pos rfl]
  have vf : fX0_villagesFull w 30 = some 0 := by
    unfold fX0_villagesFull
    rw [hC.1.1, if_pos (by rw [zL12]; exact (nI_ltI (by omega) (by omega)).mpr (by omega))]
  have c13 : (zsf x 60 13 (1 : Int32)).1 60 13 = 1 := zsf_same
  rw [vf, Option.bind_some, if_pos rfl, if_neg (fun q => by rw [zL12] at q; have := (nI_leI (by omega) (by omega)).mp q; omega), Option.bind_some, zgb_1, Option.bind_some, Option.bind_some, c13, if_neg h10]
  have c7' := c7.g (x := 1)
  have hM' : zMX (zsf x 60 13 1) 61 S := hM.x7 zX7.g
  have X0 : zY7 x (zsf x 60 13 1) := zY7.a zX7.g
  generalize zsf x 60 13 (1 : Int32) = x0 at c13 c7' hM' X0
  obtain ⟨w1, a1, a2, a3⟩ := cx_nx hT c6 he
  obtain ⟨x1, b1, b2, b3, b4⟩ := mx_nx hT c7' he
  rw [c13] at b3
  have l1 := zAe_le he
  have g1 := zAe_e (T := T) (e := e)
  have hCw1 := hC.x43 a2
  have hMx := hM'.x7 b2
  have vl := zAv_le (T := T) (e := zAe T e)
  have nb := cx_nb a3 (a := 0) (b := 9999) (by omega) (by omega)
  have nb : fX4_isNumber w1 0 9999 = _ := nb
  rw [a1, Option.bind_some, nb, Option.bind_some, b1, Option.bind_some]
  by_cases ok : zAo T (zAe T e) = 2 ∧ 0 ≤ zAv T (zAe T e) ∧ zAv T (zAe T e) ≤ 9999
  · obtain ⟨x2, d1, d2, d3, d4⟩ := rn_y hT b4 l1 b3 (p1 := 0) (p2 := 9999) ok.1 (in_ab (a := 0) (b := 9999) (by omega) (by omega) (by omega) ok.2)
    obtain ⟨w2, f1, f2, f3⟩ := cx_nx hT a3 l1
    have l2 := zAe_le l1
    have g2 := zAe_e (T := T) (e := zAe T e)
    have hCw2 := hCw1.x43 f2
    have hMx2 := hMx.x7 d2
    have wd := mx_wd hT d4 l2 (q := 1) (by omega)
    have wd : fX7_isWord x2 (117812495 : Int64) = _ := wd
    rw [if_pos (decide_eq_true ok), if_neg h10, Option.bind_some, a3.2.2.2.2 ok.1, f1, Option.bind_some, cx_wd hT f3 l2 (q := 1) (by omega), Option.bind_some, d1, zb2_some, d3, if_neg h10, wd, Option.bind_some]
    generalize hb : zAv T (zAe T e) = b at ok
    cases hm : zWd T (zAe T (zAe T e)) 1 with
    | false =>
      obtain ⟨u, u1, u2, u3⟩ := cx_addV hS hCw2 (show zNv S < 12 by omega) (x := b) (by omega) false
      have av := mx_addV hMx2 (show zNv S < 12 by omega) b false
      have u1 : fX0_addVillage w2 30 (nI b) 0 = some (nI (zNv S), u) := u1
      have mv := mx_av hMx2 (show zNv S < 12 by omega) b false
      have E61 : zE (fun o => o = 61) x2 (zsf (zsf (zsf x2 61 (5 + 2 * zNv S) (nI b)) 61 (5 + 2 * zNv S + 1) (if false = true then 1 else 0)) 61 0 (nI (zNv S + 1))) := (zE61.trs zE61).trs zE61
      have av : fX7_addVillage x2 (nI b) 0 = _ := av
      generalize zsf (zsf (zsf x2 61 (5 + 2 * zNv S) (nI b)) 61 (5 + 2 * zNv S + 1) (if false = true then 1 else 0)) 61 0 (nI (zNv S + 1)) = v at av mv E61
      have U : zE (fun o => 30 ≤ o ∧ o < 40) w2 u := u3.mono (fun o h => by omega)
      refine zIt.yes (S := zS_av S b false) (u := u) (v := v) (d := zAe T (zAe T e)) ?_ ?_ ((zX6.a a2).trs ((zX6.a f2).trs (zX6.l U))) (((X0.trs (zY7.a b2)).trs (zY7.a d2)).trs (zY7.l E61)) (f3.k (U 43 (by omega)).1 (U 44 (by omega)).1) (d4.k (E61 60 (by omega)).1 (E61 60 (by omega)).2 (E61 65 (by omega)).1) (by omega) l2 (by rw [(E61 60 (by omega)).1, d3]) (wf_av hS (by omega) ok.2.2) u2 mv
      · rw [ife0, if_pos rfl, Option.bind_some, u1, zb2_some]
      · rw [ife0, if_pos rfl, Option.bind_some, if_pos rfl, Option.bind_some, d3, if_neg h10, av, Option.bind_some]
    | true =>
      obtain ⟨w3, k1, k2, k3⟩ := cx_nx hT f3 l2
      obtain ⟨x3, m1, m2, m3, m4⟩ := mx_nx hT d4 l2
      rw [d3] at m3
      have hCw3 := hCw2.x43 k2
      have hMx3 := hMx2.x7 m2
      obtain ⟨u, u1, u2, u3⟩ := cx_addV hS hCw3 (show zNv S < 12 by omega) (x := b) (by omega) true
      have av := mx_addV hMx3 (show zNv S < 12 by omega) b true
      have u1 : fX0_addVillage w3 30 (nI b) 1 = some (nI (zNv S), u) := u1
      have mv := mx_av hMx3 (show zNv S < 12 by omega) b true
      have E61 : zE (fun o => o = 61) x3 (zsf (zsf (zsf x3 61 (5 + 2 * zNv S) (nI b)) 61 (5 + 2 * zNv S + 1) (if true = true then 1 else 0)) 61 0 (nI (zNv S + 1))) := (zE61.trs zE61).trs zE61
      have av : fX7_addVillage x3 (nI b) 1 = _ := av
      generalize zsf (zsf (zsf x3 61 (5 + 2 * zNv S) (nI b)) 61 (5 + 2 * zNv S + 1) (if true = true then 1 else 0)) 61 0 (nI (zNv S + 1)) = v at av mv E61
      have U : zE (fun o => 30 ≤ o ∧ o < 40) w3 u := u3.mono (fun o h => by omega)
      refine zIt.yes (S := zS_av S b true) (u := u) (v := v) (d := zAe T (zAe T (zAe T e))) ?_ ?_ ((zX6.a a2).trs ((zX6.a f2).trs ((zX6.a k2).trs (zX6.l U)))) ((((X0.trs (zY7.a b2)).trs (zY7.a d2)).trs (zY7.a m2)).trs (zY7.l E61)) (k3.k (U 43 (by omega)).1 (U 44 (by omega)).1) (m4.k (E61 60 (by omega)).1 (E61 60 (by omega)).2 (E61 65 (by omega)).1) (by have := zAe_e (T := T) (e := zAe T (zAe T e)); omega) (zAe_le l2) (by rw [(E61 60 (by omega)).1, m3]) (wf_av hS (by omega) ok.2.2) u2 mv
      · rw [if_pos rfl, if_neg h10, k1, Option.bind_some, Option.bind_some, u1, zb2_some]
      · rw [if_pos rfl, if_neg h10, Option.bind_some, if_neg h10, m1, Option.bind_some, Option.bind_some, m3, if_neg h10, av, Option.bind_some]
  · obtain ⟨y, x2, d1, d2, d3, d4⟩ := rn_n hT b4 l1 b3 (p1 := 0) (p2 := 9999) (fun so => in_abn (a := 0) (b := 9999) (by omega) (by omega) (by omega) (fun h => ok ⟨so, h⟩))
    refine zIt.no (S := S) (u := w1) (v := x2) (d := zAe T e) ?_ ?_ (zX6.a a2) ((X0.trs (zY7.a b2)).trs (zY7.a d2)) a3 d4 g1 l1 d3
    · rw [decide_eq_false ok, if_pos (by decide)]
    · rw [Option.bind_some, d1, zb2_some, d3, if_pos rfl, Option.bind_some, if_pos rfl, Option.bind_some, d3, if_pos rfl]
end ITEMS
