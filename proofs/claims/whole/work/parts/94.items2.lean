section ITEMS2
variable {T : zTape} {w x : zW} {e : Nat} {S : zLd}
theorem zE30 {u : zW} {o k : Nat} {y : Int32} (h : 30 ≤ o ∧ o < 40) : zE (fun o => 30 ≤ o ∧ o < 40) u (zsf u o k y) := zE.sf0 h
theorem it_letter {k : Nat} (hk : k < 6) (hT : zWt T) (hS : zWf S) (hC : zCX w 30 S) (hM : zMX x 61 S) (c6 : zC6 w T e) (c7 : zC7 x T e) (he : e ≤ T.1) : zIt T w x e (fX1_bringLetter w 30 (nI k)) (fX7_wantLetter x (nI k)) := by
  have nv := hS.nv
  have nl := hS.nl
  unfold fX1_bringLetter fX7_wantLetter
  rw [mx_2 hM, Option.bind_some]
  by_cases full : 10 ≤ zNl S
  · have vf : fX0_lettersFull w 30 = some 1 := by
      unfold fX0_lettersFull
      rw [hC.1.2.2.1, if_neg (fun q => by rw [zL10] at q; have := (nI_ltI (by omega) (by omega)).mp q; omega)]
    have c13 : (zsf x 60 13 (0 : Int32)).1 60 13 = 0 := zsf_same
    refine zIt.no (S := S) (u := w) (v := zsf x 60 13 0) (d := e) ?_ ?_ zX6.rfl (zY7.a zX7.g) c6 c7.g (Nat.le_refl _) he c13
    · rw [vf, Option.bind_some, if_neg h10]
    · rw [if_pos (by rw [zL10]; exact (nI_leI (by omega) (by omega)).mpr full), Option.bind_some, zgb_0, Option.bind_some, Option.bind_some, c13, if_pos rfl]
  have vf : fX0_lettersFull w 30 = some 0 := by
    unfold fX0_lettersFull
    rw [hC.1.2.2.1, if_pos (by rw [zL10]; exact (nI_ltI (by omega) (by omega)).mpr (by omega))]
  have c13 : (zsf x 60 13 (1 : Int32)).1 60 13 = 1 := zsf_same
  rw [vf, Option.bind_some, if_pos rfl, if_neg (fun q => by rw [zL10] at q; have := (nI_leI (by omega) (by omega)).mp q; omega), Option.bind_some, zgb_1, Option.bind_some, Option.bind_some, c13, if_neg h10]
  have c7' := c7.g (x := 1)
  have hM' : zMX (zsf x 60 13 1) 61 S := hM.x7 zX7.g
  have X0 : zY7 x (zsf x 60 13 1) := zY7.a zX7.g
  generalize zsf x 60 13 (1 : Int32) = x0 at c13 c7' hM' X0
  obtain ⟨w1, a1, a2, a3⟩ := cx_nx hT c6 he
  obtain ⟨x1, b1, b2, b3, b4⟩ := mx_nx hT c7' he
  rw [c13] at b3
  have l1 := zAe_le he
  have g1 := zAe_e (T := T) (e := e)
  have hCw1 := hC.x43 a2
  have hMx := hM'.x7 b2
  have vl := zAv_le (T := T) (e := zAe T e)
  have sv := cx_sv a3 nv hCw1.1.1
  have X1 : zY7 x x1 := X0.trs (zY7.a b2)
  rw [a1, Option.bind_some, Option.bind_some, sv, Option.bind_some, b1, Option.bind_some, mx_0 hMx, Option.bind_some]
  by_cases ok : zAo T (zAe T e) = 2 ∧ zAv T (zAe T e) < zNv S
  · obtain ⟨x2, d1, d2, d3, d4⟩ := rn_v hT hS hMx b4 l1 b3 ok
    rw [if_pos (decide_eq_true ok), if_neg h10, a3.2.2.2.2 ok.1, d1, zb2_some]
    generalize ha : zAv T (zAe T e) = a at ok
    obtain ⟨w2, f1, f2, f3⟩ := cx_nx hT a3 l1
    have l2 := zAe_le l1
    have g2 := zAe_e (T := T) (e := zAe T e)
    have hCw2 := hCw1.x43 f2
    have hMx2 := hMx.x7 d2
    have X2 := X1.trs (zY7.a d2)
    rw [f1, Option.bind_some, cx_wd hT f3 l2 (q := 3) (by omega), Option.bind_some]
    cases hto : zWd T (zAe T (zAe T e)) 3 with
    | false =>
      obtain ⟨x3, k1, k2, k3, k4⟩ := rw_n hT d4 l2 d3 (q := 3) (by omega) hto
      have k1 : fX7_wantWord x2 (555 : Int64) = some x3 := k1
      have hMx3 := hMx2.x7 k2
      obtain ⟨y, x4, m1, m2, m3, m4⟩ := rn_0 hT k4 l2 k3 (p1 := 0) (p2 := nI (zNv S) - 1) (fun _ => in_01)
      refine zIt.no (S := S) (u := w2) (v := x4) (d := zAe T (zAe T e)) ?_ ?_ ((zX6.a a2).trs (zX6.a f2)) ((X2.trs (zY7.a k2)).trs (zY7.a m2)) f3 m4 (by omega) l2 m3
      · rw [ife0, if_pos rfl]
      · rw [k1, Option.bind_some, mx_0 hMx3, Option.bind_some, m1, zb2_some, m3, if_pos rfl]
    | true =>
      obtain ⟨x3, k1, k2, k3, k4⟩ := rw_y hT d4 l2 d3 (q := 3) (by omega) hto
      have k1 : fX7_wantWord x2 (555 : Int64) = some x3 := k1
      have hMx3 := hMx2.x7 k2
      have X3 := X2.trs (zY7.a k2)
      obtain ⟨w3, m1, m2, m3⟩ := cx_nx hT f3 l2
      have l3 := zAe_le l2
      have g3 := zAe_e (T := T) (e := zAe T (zAe T e))
      have hCw3 := hCw2.x43 m2
      have sv3 := cx_sv m3 nv hCw3.1.1
      rw [ife1, if_neg h10, m1, Option.bind_some, sv3, Option.bind_some, k1, Option.bind_some, mx_0 hMx3, Option.bind_some]
      by_cases ok3 : zAo T (zAe T (zAe T (zAe T e))) = 2 ∧ zAv T (zAe T (zAe T (zAe T e))) < zNv S
      · obtain ⟨x4, n1, n2, n3, n4⟩ := rn_v hT hS hMx3 k4 l3 k3 ok3
        have hMx4 := hMx3.x7 n2
        have X4 := X3.trs (zY7.a n2)
        rw [if_pos (decide_eq_true ok3), if_neg h10, m3.2.2.2.2 ok3.1, n1, zb2_some, n3, if_neg h10]
        generalize hb : zAv T (zAe T (zAe T (zAe T e))) = b at ok3
        have hf : zNl S < 10 := by omega
        have e1 := cx_addL hS hCw3 hf k a b
        have hC1 := cx_al hCw3 k a b
        have E1 : zE (fun o => 30 ≤ o ∧ o < 40) w3 (zsf (zsf (zsf (zsf (zsf (zsf w3 (30 + 5) (zNl S) (nI k)) (30 + 6) (zNl S) (nI a)) (30 + 7) (zNl S) (nI b)) (30 + 8) (zNl S) (nI (zDy S))) (30 + 9) (zNl S) 0) 30 9 (nI (zNl S + 1))) := (((((zE30 (by omega)).trs (zE30 (by omega))).trs (zE30 (by omega))).trs (zE30 (by omega))).trs (zE30 (by omega))).trs (zE30 (by omega))
        generalize zsf (zsf (zsf (zsf (zsf (zsf w3 (30 + 5) (zNl S) (nI k)) (30 + 6) (zNl S) (nI a)) (30 + 7) (zNl S) (nI b)) (30 + 8) (zNl S) (nI (zDy S))) (30 + 9) (zNl S) 0) 30 9 (nI (zNl S + 1)) = u at e1 hC1 E1
        have e2 := mx_addL hMx4 hf k a b
        have hM2 := mx_al hMx4 hf hS k a b
        have E2 : zE (fun o => o = 61) x4 (zsf (zsf (zsf (zsf (zsf (zsf x4 61 (101 + 5 * zNl S + 0) (nI k)) 61 (101 + 5 * zNl S + 1) (nI a)) 61 (101 + 5 * zNl S + 2) (nI b)) 61 (101 + 5 * zNl S + 3) (nI (zDy S))) 61 (101 + 5 * zNl S + 4) 0) 61 2 (nI (zNl S + 1))) := ((((zE61.trs zE61).trs zE61).trs zE61).trs zE61).trs zE61
        generalize zsf (zsf (zsf (zsf (zsf (zsf x4 61 (101 + 5 * zNl S + 0) (nI k)) 61 (101 + 5 * zNl S + 1) (nI a)) 61 (101 + 5 * zNl S + 2) (nI b)) 61 (101 + 5 * zNl S + 3) (nI (zDy S))) 61 (101 + 5 * zNl S + 4) 0) 61 2 (nI (zNl S + 1)) = v at e2 hM2 E2
        obtain ⟨w4, q1, q2, q3⟩ := cx_nx hT (m3.k (E1 43 (by omega)).1 (E1 44 (by omega)).1) l3
        refine zIt.yes (S := zS_al S k a b) (u := w4) (v := v) (d := zAe T (zAe T (zAe T (zAe T e)))) ?_ ?_ ((((zX6.a a2).trs (zX6.a f2)).trs (zX6.a m2)).trs ((zX6.l E1).trs (zX6.a q2))) (X4.trs (zY7.l E2)) q3 (n4.k (E2 60 (by omega)).1 (E2 60 (by omega)).2 (E2 65 (by omega)).1) (by have := zAe_e (T := T) (e := zAe T (zAe T (zAe T e))); omega) (zAe_le l3) (by rw [(E2 60 (by omega)).1, n3]) (wf_al hS hf hk ok.2 ok3.2) (hC1.x43 q2) hM2
        · rw [e1, zb2_some, q1, Option.bind_some]
        · rw [e2, Option.bind_some]
      · obtain ⟨y, x4, n1, n2, n3, n4⟩ := rn_vn hT hS hMx3 k4 l3 k3 ok3
        refine zIt.no (S := S) (u := w3) (v := x4) (d := zAe T (zAe T (zAe T e))) ?_ ?_ (((zX6.a a2).trs (zX6.a f2)).trs (zX6.a m2)) (X3.trs (zY7.a n2)) m3 n4 (by omega) l3 n3
        · rw [decide_eq_false ok3, ife0, if_pos rfl]
        · rw [n1, zb2_some, n3, if_pos rfl]
  · obtain ⟨y, x2, d1, d2, d3, d4⟩ := rn_vn hT hS hMx b4 l1 b3 ok
    have hMx2 := hMx.x7 d2
    obtain ⟨x3, k1, k2, k3, k4⟩ := rw_0 hT d4 l1 d3 (q := 3) (by omega)
    have k1 : fX7_wantWord x2 (555 : Int64) = some x3 := k1
    have hMx3 := hMx2.x7 k2
    obtain ⟨y2, x4, m1, m2, m3, m4⟩ := rn_0 hT k4 l1 k3 (p1 := 0) (p2 := nI (zNv S) - 1) (fun _ => in_01)
    refine zIt.no (S := S) (u := w1) (v := x4) (d := zAe T e) ?_ ?_ (zX6.a a2) (((X1.trs (zY7.a d2)).trs (zY7.a k2)).trs (zY7.a m2)) a3 m4 g1 l1 m3
    · rw [decide_eq_false ok, ife0, if_pos rfl]
    · rw [d1, zb2_some, k1, Option.bind_some, mx_0 hMx3, Option.bind_some, m1, zb2_some, m3, if_pos rfl]
theorem mw_0 {v p : Int32} {c : Int64} (hg : x.1 60 13 = 0) : fX7_mayWant x c v p 1 = some (1, x) := by
  unfold fX7_mayWant
  rw [if_pos hg]
/-- the reference's road: is the second village one that may be; and what follows -/
def zRd27 (z : zW) (a : Int32) : Option Int32 := (if (z.1 60 13) = 0 then (some (0 : Int32)) else ((if (z.1 60 8) = (2 : Int32) then (Option.bind (fX7_isVillage z (z.1 60 12)) fun v31 => (if v31 = 0 then (some (0 : Int32)) else ((if (z.1 60 12) = a then (some (0 : Int32)) else (Option.bind (fX7_between z a (z.1 60 12)) fun v33 => (if 0 ≤ v33 then (some (0 : Int32)) else (some (1 : Int32)))))))) else (some (0 : Int32)))))
def zRdT (z : zW) (a : Int32) (o : Option Int32) : Option zW := Option.bind o fun x27 => Option.bind (zgb x27) fun b38 => Option.bind (some (zsf z 60 13 b38)) fun w40 => Option.bind (zrd w40 61 151 (0 : Int32)) fun v42 => zb2 (fX7_wantNumber w40 (0 : Int32) (v42 - (1 : Int32))) fun v45 w46 => zb2 (fX7_mayWant w46 (80155 : Int64) (1 : Int32) (9 : Int32) (1 : Int32)) fun v48 w49 => (if (w49.1 60 13) = 0 then (some w49) else (Option.bind (fX7_addRoad w49 a v45 v48) fun w51 => some w51))
theorem it_road (hT : zWt T) (hS : zWf S) (hC : zCX w 30 S) (hM : zMX x 61 S) (c6 : zC6 w T e) (c7 : zC7 x T e) (he : e ≤ T.1) : zIt T w x e (fX1_bringRoad w 30) (fX7_wantRoad x) := by
  have nv := hS.nv
  have nr := hS.nr
  unfold fX1_bringRoad fX7_wantRoad
  rw [mx_1 hM, Option.bind_some]
  by_cases full : 24 ≤ zNr S
  · have vf : fX0_roadsFull w 30 = some 1 := by
      unfold fX0_roadsFull
      rw [hC.1.2.1, if_neg (fun q => by rw [zL24] at q; have := (nI_ltI (by omega) (by omega)).mp q; omega)]
    have c13 : (zsf x 60 13 (0 : Int32)).1 60 13 = 0 := zsf_same
    refine zIt.no (S := S) (u := w) (v := zsf x 60 13 0) (d := e) ?_ ?_ zX6.rfl (zY7.a zX7.g) c6 c7.g (Nat.le_refl _) he c13
    · rw [vf, Option.bind_some, if_neg h10]
    · rw [if_pos (by rw [zL24]; exact (nI_leI (by omega) (by omega)).mpr full), Option.bind_some, zgb_0, Option.bind_some, Option.bind_some, c13, if_pos rfl]
  have vf : fX0_roadsFull w 30 = some 0 := by
    unfold fX0_roadsFull
    rw [hC.1.2.1, if_pos (by rw [zL24]; exact (nI_ltI (by omega) (by omega)).mpr (by omega))]
  have c13 : (zsf x 60 13 (1 : Int32)).1 60 13 = 1 := zsf_same
  rw [vf, Option.bind_some, if_pos rfl, if_neg (fun q => by rw [zL24] at q; have := (nI_leI (by omega) (by omega)).mp q; omega), Option.bind_some, zgb_1, Option.bind_some, Option.bind_some, c13, if_neg h10]
  have c7' := c7.g (x := 1)
  have hM' : zMX (zsf x 60 13 1) 61 S := hM.x7 zX7.g
  have X0 : zY7 x (zsf x 60 13 1) := zY7.a zX7.g
  generalize zsf x 60 13 (1 : Int32) = x0 at c13 c7' hM' X0
  obtain ⟨w1, a1, a2, a3⟩ := cx_nx hT c6 he
  obtain ⟨x1, b1, b2, b3, b4⟩ := mx_nx hT c7' he
  rw [c13] at b3
  have l1 := zAe_le he
  have g1 := zAe_e (T := T) (e := e)
  have hCw1 := hC.x43 a2
  have hMx := hM'.x7 b2
  have vl := zAv_le (T := T) (e := zAe T e)
  have sv := cx_sv a3 nv hCw1.1.1
  have X1 : zY7 x x1 := X0.trs (zY7.a b2)
  -- once it is lost, nothing moves any more
  have dead : ∀ (z : zW) (d : Nat) (a : Int32), zC7 z T d → d ≤ T.1 → zMX z 61 S → zRd27 z a = some 0 → ∃ v, zRdT z a (zRd27 z a) = some v ∧ zX7 z v ∧ v.1 60 13 = 0 ∧ zC7 v T d := by
    intro z d a hz hd hMz h27
    have c : (zsf z 60 13 (0 : Int32)).1 60 13 = 0 := zsf_same
    obtain ⟨y, v, m1, m2, m3, m4⟩ := rn_0 hT (hz.g (x := 0)) hd c (p1 := 0) (p2 := nI (zNv S) - 1) (fun _ => in_01)
    refine ⟨v, ?_, zX7.g.trs m2, m3, m4⟩
    rw [h27]
    unfold zRdT
    rw [Option.bind_some, zgb_0, Option.bind_some, Option.bind_some, mx_0 (hMz.x7 zX7.g), Option.bind_some, m1, zb2_some, mw_0 m3, zb2_some, m3, if_pos rfl]
  have d27 : ∀ (z : zW) (a : Int32), z.1 60 13 = 0 → zRd27 z a = some 0 := fun z a h => if_pos h
  rw [a1, Option.bind_some, Option.bind_some, sv, Option.bind_some, b1, Option.bind_some, mx_0 hMx, Option.bind_some]
  by_cases ok : zAo T (zAe T e) = 2 ∧ zAv T (zAe T e) < zNv S
  · obtain ⟨x2, d1, d2, d3, d4⟩ := rn_v hT hS hMx b4 l1 b3 ok
    rw [if_pos (decide_eq_true ok), if_neg h10, a3.2.2.2.2 ok.1, d1, zb2_some]
    generalize ha : zAv T (zAe T e) = a at ok
    obtain ⟨w2, f1, f2, f3⟩ := cx_nx hT a3 l1
    have l2 := zAe_le l1
    have g2 := zAe_e (T := T) (e := zAe T e)
    have hCw2 := hCw1.x43 f2
    have hMx2 := hMx.x7 d2
    have X2 := X1.trs (zY7.a d2)
    rw [f1, Option.bind_some, cx_wd hT f3 l2 (q := 3) (by omega), Option.bind_some]
    cases hto : zWd T (zAe T (zAe T e)) 3 with
    | false =>
      obtain ⟨x3, k1, k2, k3, k4⟩ := rw_n hT d4 l2 d3 (q := 3) (by omega) hto
      have k1 : fX7_wantWord x2 (555 : Int64) = some x3 := k1
      obtain ⟨v, v1, v2, v3, v4⟩ := dead x3 _ (nI a) k4 l2 (hMx2.x7 k2) (d27 x3 _ k3)
      refine zIt.no (S := S) (u := w2) (v := v) (d := zAe T (zAe T e)) ?_ ?_ ((zX6.a a2).trs (zX6.a f2)) ((X2.trs (zY7.a k2)).trs (zY7.a v2)) f3 v4 (by omega) l2 v3
      · rw [ife0, if_pos rfl]
      · rw [k1, Option.bind_some]; exact v1
    | true =>
      obtain ⟨x3, k1, k2, k3, k4⟩ := rw_y hT d4 l2 d3 (q := 3) (by omega) hto
      have k1 : fX7_wantWord x2 (555 : Int64) = some x3 := k1
      have hMx3 := hMx2.x7 k2
      have X3 := X2.trs (zY7.a k2)
      obtain ⟨w3, m1, m2, m3⟩ := cx_nx hT f3 l2
      have l3 := zAe_le l2
      have g3 := zAe_e (T := T) (e := zAe T (zAe T e))
      have hCw3 := hCw2.x43 m2
      have sv3 := cx_sv m3 nv hCw3.1.1
      have ol : zAo T (zAe T (zAe T (zAe T e))) ≤ 4 := zSo_le (b := zByt T (zAs T (zAe T (zAe T (zAe T e)))))
      have q2 : (nI (min (zAo T (zAe T (zAe T (zAe T e)))) 3) = 2) = (zAo T (zAe T (zAe T (zAe T e))) = 2) := propext (by rw [zL2, nI_eq (by omega) (by omega)]; omega)
      have W3 : zX6 w w3 := ((zX6.a a2).trs (zX6.a f2)).trs (zX6.a m2)
      rw [ife1, if_neg h10, m1, Option.bind_some, Option.bind_some, sv3, Option.bind_some, k1, Option.bind_some]
      show zIt T w x e _ (zRdT x3 (nI a) (zRd27 x3 (nI a)))
      have stop := dead x3 _ (nI a) k4 l3 hMx3
      by_cases ok3 : zAo T (zAe T (zAe T (zAe T e))) = 2 ∧ zAv T (zAe T (zAe T (zAe T e))) < zNv S
      · rw [if_pos (decide_eq_true ok3), if_neg h10, m3.2.2.2.2 ok3.1]
        have t27 : zRd27 x3 (nI a) = (if nI (zAv T (zAe T (zAe T (zAe T e)))) = nI a then (some (0 : Int32)) else (Option.bind (fX7_between x3 (nI a) (nI (zAv T (zAe T (zAe T (zAe T e)))))) fun v33 => (if 0 ≤ v33 then (some (0 : Int32)) else (some (1 : Int32))))) := by
          unfold zRd27
          rw [k3, if_neg h10, k4.2.2.2.1, if_pos (q2.mpr ok3.1), k4.2.2.2.2.1 ok3.1, mx_hv_y hS hMx3 ok3.2, Option.bind_some, if_neg h10]
        have inr : fX7_in (zsf x3 60 13 1) (nI (zAv T (zAe T (zAe T (zAe T e))))) 0 (nI (zNv S) - 1) = some 1 := in_y ok3.2 (by omega)
        generalize hb : zAv T (zAe T (zAe T (zAe T e))) = b at ok3 t27 inr
        have pab : (nI a = nI b) = (a = b) := propext (nI_eq (by omega) (by omega))
        have pba : (nI b = nI a) = (b = a) := propext (nI_eq (by omega) (by omega))
        by_cases eab : a = b
        · rw [if_pos (pba.mpr eab.symm)] at t27
          obtain ⟨v, v1, v2, v3, v4⟩ := stop t27
          refine zIt.no (S := S) (u := w3) (v := v) (d := zAe T (zAe T (zAe T e))) ?_ ?_ W3 (X3.trs (zY7.a v2)) m3 v4 (by omega) l3 v3
          · rw [if_pos (pab.mpr eab)]
          · exact v1
        rw [if_neg (fun q => eab (pba.mp q).symm)] at t27
        rw [if_neg (fun q => eab (pab.mp q))]
        by_cases jn : ∃ r, r < zNr S ∧ zJr S a b r
        · obtain ⟨r, r1, r2⟩ := jn
          have z0 : (0 : Int32) ≤ nI r := nI_pos' (by omega)
          rw [mx_btw_y hS hMx3 ok.2 ok3.2 r1 r2, Option.bind_some, if_pos z0] at t27
          obtain ⟨v, v1, v2, v3, v4⟩ := stop t27
          refine zIt.no (S := S) (u := w3) (v := v) (d := zAe T (zAe T (zAe T e))) ?_ ?_ W3 (X3.trs (zY7.a v2)) m3 v4 (by omega) l3 v3
          · rw [cx_join_y hS hCw3 ok.2 ok3.2 ⟨r, r1, r2⟩, Option.bind_some, if_neg h10]
          · exact v1
        · have jn' : ∀ r, r < zNr S → ¬ (zOn S r = a ∧ zOt S r = b ∨ zOn S r = b ∧ zOt S r = a) := fun r hr h => jn ⟨r, hr, h⟩
          rw [mx_btw_n hS hMx3 ok.2 ok3.2 jn, Option.bind_some, if_neg (by decide)] at t27
          rw [t27]
          unfold zRdT
          rw [cx_join_n hS hCw3 ok.2 ok3.2 jn, Option.bind_some, if_pos rfl, Option.bind_some, zgb_1, Option.bind_some, Option.bind_some]
          have c1 : (zsf x3 60 13 (1 : Int32)).1 60 13 = 1 := zsf_same
          have hM4 : zMX (zsf x3 60 13 1) 61 S := hMx3.x7 zX7.g
          have X4' : zY7 x (zsf x3 60 13 1) := X3.trs (zY7.a zX7.g)
          obtain ⟨x4, n1, n2, n3, n4⟩ := rn_y hT (k4.g (x := 1)) l3 c1 (p1 := 0) (p2 := nI (zNv S) - 1) ok3.1 (by rw [hb]; exact inr)
          rw [hb] at n1
          have hMx4 := hM4.x7 n2
          have X4 := X4'.trs (zY7.a n2)
          rw [mx_0 hM4, Option.bind_some, n1, zb2_some]
          obtain ⟨w4, q1, q2', q3⟩ := cx_nx hT m3 l3
          have l4 := zAe_le l3
          have g4 := zAe_e (T := T) (e := zAe T (zAe T (zAe T e)))
          have hCw4 := hCw3.x43 q2'
          have W4 := W3.trs (zX6.a q2')
          have hn : zNr S < 24 := by omega
          have wd := mx_wd hT n4 l4 (q := 4) (by omega)
          have wd : fX7_isWord x4 (80155 : Int64) = _ := wd
          rw [q1, Option.bind_some, cx_wd hT q3 l4 (q := 4) (by omega), Option.bind_some]
          unfold fX7_mayWant
          rw [n3, if_neg h10, wd, Option.bind_some]
          -- the new road, in both
          have add : ∀ (p y : zW) (d : Nat), d < 10 → 1 ≤ d → zCX p 30 S → zMX y 61 S → ∃ u v, fX0_addRoad p 30 (nI a) (nI b) (nI d) = some (nI (zNr S), u) ∧ fX7_addRoad y (nI a) (nI b) (nI d) = some v ∧ zE (fun o => 30 ≤ o ∧ o < 40) p u ∧ zE (fun o => o = 61) y v ∧ zCX u 30 (zS_ar S a b d) ∧ zMX v 61 (zS_ar S a b d) ∧ zWf (zS_ar S a b d) := by
            intro p y d hd hd1 hp hy
            have e1 := cx_addR hS hp hn a b d
            have e2 := mx_addR hy hn a b d
            refine ⟨_, _, e1, e2, (((zE30 (by omega)).trs (zE30 (by omega))).trs (zE30 (by omega))).trs (zE30 (by omega)), ((zE61.trs zE61).trs zE61).trs zE61, cx_ar hp a b d, mx_ar hy hn hS a b d, wf_ar hS hn ok.2 ok3.2 eab ⟨hd1, by omega⟩ jn'⟩
          cases hdy : zWd T (zAe T (zAe T (zAe T (zAe T e)))) 4 with
          | false =>
            obtain ⟨u, v, e1, e2, e3, e4, e5, e6, e7⟩ := add w4 x4 1 (by omega) (by omega) hCw4 hMx4
            have e1 : fX0_addRoad w4 30 (nI a) (nI b) 1 = some (nI (zNr S), u) := e1
            have e2 : fX7_addRoad x4 (nI a) (nI b) 1 = some v := e2
            refine zIt.yes (S := zS_ar S a b 1) (u := u) (v := v) (d := zAe T (zAe T (zAe T (zAe T e)))) ?_ ?_ (W4.trs (zX6.l e3)) (X4.trs (zY7.l e4)) (q3.k (e3 43 (by omega)).1 (e3 44 (by omega)).1) (n4.k (e4 60 (by omega)).1 (e4 60 (by omega)).2 (e4 65 (by omega)).1) (by omega) l4 (by rw [(e4 60 (by omega)).1, n3]) e7 e5 e6
            · rw [ife0, if_pos rfl, e1, zb2_some]
            · rw [ife0, if_pos rfl, zb2_some, n3, if_neg h10, e2, Option.bind_some]
          | true =>
            obtain ⟨w5, r1, r2, r3⟩ := cx_nx hT q3 l4
            obtain ⟨x5, s1, s2, s3, s4⟩ := mx_nx hT n4 l4
            rw [n3] at s3
            have l5 := zAe_le l4
            have g5 := zAe_e (T := T) (e := zAe T (zAe T (zAe T (zAe T e))))
            have hCw5 := hCw4.x43 r2
            have hMx5 := hMx4.x7 s2
            have vl5 := zAv_le (T := T) (e := zAe T (zAe T (zAe T (zAe T (zAe T e)))))
            have nb := cx_nb r3 (a := 1) (b := 9) (by omega) (by omega)
            have nb : fX4_isNumber w5 1 9 = _ := nb
            rw [ife1, if_neg h10, if_neg h10, r1, Option.bind_some, nb, Option.bind_some, s1, Option.bind_some]
            by_cases ok5 : zAo T (zAe T (zAe T (zAe T (zAe T (zAe T e))))) = 2 ∧ 1 ≤ zAv T (zAe T (zAe T (zAe T (zAe T (zAe T e))))) ∧ zAv T (zAe T (zAe T (zAe T (zAe T (zAe T e))))) ≤ 9
            · obtain ⟨x6, t1, t2, t3, t4⟩ := rn_y hT s4 l5 s3 (p1 := 1) (p2 := 9) ok5.1 (in_ab (a := 1) (b := 9) (by omega) (by omega) (by omega) ok5.2)
              rw [if_pos (decide_eq_true ok5), if_neg h10, Option.bind_some, r3.2.2.2.2 ok5.1, t1, zb2_some, zb2_some]
              generalize hd : zAv T (zAe T (zAe T (zAe T (zAe T (zAe T e))))) = d at ok5
              obtain ⟨w6, p1, p2, p3⟩ := cx_nx hT r3 l5
              obtain ⟨u, v, e1, e2, e3, e4, e5, e6, e7⟩ := add w6 x6 d (by omega) (by omega) (hCw5.x43 p2) (hMx5.x7 t2)
              refine zIt.yes (S := zS_ar S a b d) (u := u) (v := v) (d := zAe T (zAe T (zAe T (zAe T (zAe T (zAe T e)))))) ?_ ?_ (((W4.trs (zX6.a r2)).trs (zX6.a p2)).trs (zX6.l e3)) (((X4.trs (zY7.a s2)).trs (zY7.a t2)).trs (zY7.l e4)) (p3.k (e3 43 (by omega)).1 (e3 44 (by omega)).1) (t4.k (e4 60 (by omega)).1 (e4 60 (by omega)).2 (e4 65 (by omega)).1) (by have := zAe_e (T := T) (e := zAe T (zAe T (zAe T (zAe T (zAe T e))))); omega) (zAe_le l5) (by rw [(e4 60 (by omega)).1, t3]) e7 e5 e6
              · rw [p1, Option.bind_some, e1, zb2_some]
              · rw [t3, if_neg h10, e2, Option.bind_some]
            · obtain ⟨y, x6, t1, t2, t3, t4⟩ := rn_n hT s4 l5 s3 (p1 := 1) (p2 := 9) (fun so => in_abn (a := 1) (b := 9) (by omega) (by omega) (by omega) (fun h => ok5 ⟨so, h⟩))
              refine zIt.no (S := S) (u := w5) (v := x6) (d := zAe T (zAe T (zAe T (zAe T (zAe T e))))) ?_ ?_ (W4.trs (zX6.a r2)) ((X4.trs (zY7.a s2)).trs (zY7.a t2)) r3 t4 (by omega) l5 t3
              · rw [decide_eq_false ok5, ife0, if_pos rfl]
              · rw [Option.bind_some, t1, zb2_some, zb2_some, t3, if_pos rfl]
      · have hz : zRd27 x3 (nI a) = some 0 := by
          unfold zRd27
          rw [k3, if_neg h10, k4.2.2.2.1]
          by_cases so : zAo T (zAe T (zAe T (zAe T e))) = 2
          · have vl3 := zAv_le (T := T) (e := zAe T (zAe T (zAe T e)))
            rw [if_pos (q2.mpr so), k4.2.2.2.2.1 so, mx_hv_n hS hMx3 (Or.inr ((nI_leI (by omega) (by omega)).mpr (Nat.le_of_not_lt (fun h => ok3 ⟨so, h⟩)))), Option.bind_some, if_pos rfl]
          · rw [if_neg (fun q => so (q2.mp q))]
        obtain ⟨v, v1, v2, v3, v4⟩ := stop hz
        refine zIt.no (S := S) (u := w3) (v := v) (d := zAe T (zAe T (zAe T e))) ?_ ?_ W3 (X3.trs (zY7.a v2)) m3 v4 (by omega) l3 v3
        · rw [decide_eq_false ok3, ife0, if_pos rfl]
        · exact v1
  · obtain ⟨y, x2, d1, d2, d3, d4⟩ := rn_vn hT hS hMx b4 l1 b3 ok
    obtain ⟨x3, k1, k2, k3, k4⟩ := rw_0 hT d4 l1 d3 (q := 3) (by omega)
    have k1 : fX7_wantWord x2 (555 : Int64) = some x3 := k1
    obtain ⟨v, v1, v2, v3, v4⟩ := dead x3 _ y k4 l1 ((hMx.x7 d2).x7 k2) (d27 x3 _ k3)
    refine zIt.no (S := S) (u := w1) (v := v) (d := zAe T e) ?_ ?_ (zX6.a a2) (((X1.trs (zY7.a d2)).trs (zY7.a k2)).trs (zY7.a v2)) a3 v4 g1 l1 v3
    · rw [decide_eq_false ok, ife0, if_pos rfl]
    · rw [d1, zb2_some, k1, Option.bind_some]; exact v1
end ITEMS2
