/-! the reference's way of a letter -/
def zE6 (w u : zW) : Prop := zE (fun o => o = 60 ∨ o = 63) w u ∧ ∀ i, i ≠ 3 → i ≠ 4 → u.1 60 i = w.1 60 i
theorem zE6.rfl {w : zW} : zE6 w w := ⟨zE.rfl, fun _ _ _ => Eq.refl _⟩
theorem zE6.trs {w u v : zW} (h : zE6 w u) (k : zE6 u v) : zE6 w v := ⟨h.1.trs k.1, fun i h1 h2 => (k.2 i h1 h2).trans (h.2 i h1 h2)⟩
theorem zE6.s {w u : zW} (h : zE (fun o => o = 63) w u) : zE6 w u := ⟨h.mono (fun o h => Or.inr h), fun i _ _ => by rw [(h 60 (by omega)).1]⟩
theorem zE6.f3 {w : zW} {x : Int32} : zE6 w (zsf w 60 3 x) := ⟨zE.sf0 (Or.inl (Eq.refl _)), fun i h _ => zsf_k h⟩
theorem zE6.f4 {w : zW} {x : Int32} : zE6 w (zsf w 60 4 x) := ⟨zE.sf0 (Or.inl (Eq.refl _)), fun i _ h => zsf_k h⟩
theorem zMX.e6 {w u : zW} {S : zLd} (h : zMX w 61 S) (e : zE6 w u) : zMX u 61 S := h.keep (e.1 61 (by omega)).1
section WAY
variable {S : zLd} {k : Nat}
theorem mx_keeps {w : zW} (hS : zWf S) (hk : k < 6) {v g t d : Nat} (hv : v < zNv S) (hg : g < zNv S) (ht : t ≤ 500000) (hd : d < zNV) (hM : zMX w 61 S) : ∃ u, fX7_keeps w (nI k) (nI v) (nI g) (nI t) (nI d) = some (if decide (zEa S k v g t = d) = true then 1 else 0, u) ∧ zE (fun o => o = 63) w u := by
  have z : zNV = 1000000 := rfl
  have z9 : zN9 = 1000000000 := rfl
  obtain ⟨u, u1, u2⟩ := mx_ear hS hk hv hg ht hM
  refine ⟨u, ?_, u2⟩
  have b := zMv_le (x := zEa S k v g t)
  have p : (nI (zMv (zEa S k v g t)) = nI d) = (zEa S k v g t = d) := propext (by
    rw [nI_eq (by omega) (by omega)]
    unfold zMv
    split
    · exact Iff.rfl
    · omega)
  unfold fX7_keeps
  rw [u1, zb2_some]
  simp only [p]
  by_cases c : zEa S k v g t = d
  · rw [if_pos c, if_pos (decide_eq_true c)]
  · rw [if_neg c, if_neg (by simpa using c)]
theorem zEa_pk (hS : zWf S) (hk : k < 6) {g t : Nat} (ht : t ≤ 100000) (hsp : zSea S = zPeak S) (h : zEa S k (zSea S) g t < zNV) : ¬ zEa S k (zSea S) g (t + 1) = zEa S k (zSea S) g t := by
  have z : zNV = 1000000 := rfl
  have ev := hS.ev
  have d0 := zD_0 (S := S) (k := k) (a := zSea S)
  have dg : zDd S k (zSea S) g < zNV := by
    rcases (zEx_fin (air := zBl S k) (a := zSea S) (b := g) hS hk (show t ≤ 500000 by omega)).mp h with q | ⟨_, _, q⟩
    · exact q
    · rw [hsp]; exact q
  have ex : ∀ s, zEa S k (zSea S) g s = s + zDd S k (zSea S) g := by
    intro s
    have f := zFl_ge (t := s + zDd S k (zSea S) (zSea S)) ev.1
    unfold zEa zEx
    rw [← hsp, if_pos dg]
    split <;> omega
  rw [ex, ex]
  omega
theorem zNeeds {w : zW} (hS : zWf S) (hk : k < 6) (hM : zMX w 61 S) {p v : Nat} (hp : p < zNv S) (hv : v < zNv S) (K : Int32 → Option zW) : (Option.bind (if nI v = nI p then (some (-1 : Int32)) else (Option.bind (fX7_between w (nI p) (nI v)) fun v61 => some v61)) fun x57 => Option.bind (if x57 < 0 then (some (0 : Int32)) else (Option.bind (fX7_goesDown w (nI k) (nI p) (nI v)) fun v73 => (if v73 = 0 then (some (0 : Int32)) else (Option.bind (fX7_end w x57 (2 : Int32)) fun v75 => Option.bind (fX7_needsOf w (nI k) v75) fun v77 => some v77)))) fun x69 => K x69) = K (nI (if zEg S k p v < zNV then zEg S k p v else 0)) := by
  have z : zNV = 1000000 := rfl
  have nv := hS.nv
  have nr := hS.nr
  have no : ∀ h : ¬ zEg S k p v < zNV, nI (if zEg S k p v < zNV then zEg S k p v else 0) = 0 := fun h => by rw [if_neg h]; rfl
  by_cases c0 : v = p
  · have e : ¬ zEg S k p v < zNV := fun q => (zEg_lt hS q).2.2 c0.symm
    rw [if_pos (by rw [c0]), Option.bind_some, if_pos (by decide), Option.bind_some, no e]
  rw [if_neg (fun q => c0 ((nI_eq (by omega) (by omega)).mp q))]
  by_cases c1 : ∃ r, r < zNr S ∧ zJr S p v r
  · obtain ⟨r, r1, r2⟩ := c1
    obtain ⟨g1, g2, g3, g4, g5⟩ := hS.rd r r1
    rw [mx_btw_y hS hM hp hv r1 r2, Option.bind_some, Option.bind_some, if_neg (nI_pos (by omega)), mx_go hS hM hk hp hv, Option.bind_some]
    by_cases c2 : zGo S k p v = true
    · have e := zEg_road hS r1 r2 c2
      have nd := zNd_le hk (show zLn S r < 10 by omega)
      rw [if_neg (by rw [c2]; decide), mx_end2 hS hM r1, Option.bind_some, mx_nd w hk (by omega), Option.bind_some, Option.bind_some, if_pos (by omega), e]
    · have e : ¬ zEg S k p v < zNV := fun q => by
        obtain ⟨_, _, _, g, _⟩ := zEg_fin hS q
        exact c2 g
      rw [if_pos (by rw [show zGo S k p v = false by simpa using c2]; decide), Option.bind_some, no e]
  · have e : ¬ zEg S k p v < zNV := fun q => by
      obtain ⟨r, r1, r2, _, _⟩ := zEg_fin hS q
      exact c1 ⟨r, r1, r2⟩
    rw [mx_btw_n hS hM hp hv c1, Option.bind_some, Option.bind_some, if_pos (by decide), Option.bind_some, no e]
/-- one village of the reference's loop -/
theorem mx_fw_step {w : zW} (hS : zWf S) (hk : k < 6) {p g v n : Nat} (hp : p < zNv S) (hg : g < zNv S) (hv : v < zNv S) (hM : zMX w 61 S) (hd : zEa S k p g (zDy S) < zNV) (h3 : w.1 60 3 = -1) : ∃ u, lpX7_findWay_109 (nI k) (nI p) (nI g) (nI (zEa S k p g (zDy S))) (if decide (p = zSea S ∧ zDy S % zEv S = 0 ∧ zBl S k = true) = true then 1 else 0) (n + 1) w (nI v) = lpX7_findWay_109 (nI k) (nI p) (nI g) (nI (zEa S k p g (zDy S))) (if decide (p = zSea S ∧ zDy S % zEv S = 0 ∧ zBl S k = true) = true then 1 else 0) n u (nI (v + 1)) ∧ zE6 w u ∧ (zOk S k p g (zDy S) v = true → u.1 60 3 = nI v ∧ u.1 60 4 = nI (zDi S k p (zDy S) v)) ∧ (zOk S k p g (zDy S) v = false → u.1 60 3 = -1) := by
  have z : zNV = 1000000 := rfl
  have nv := hS.nv
  have dy := hS.dy
  have n0 : 0 < zNv S := by omega
  have eb := zEg_bd hS hk (a := p) (b := v)
  have el := zEg_le hS (k := k) (a := p) (b := v)
  have pk : (nI v = nI (zPeak S)) = (v = zPeak S) := propext (nI_eq (by omega) (by have := zPeak_lt n0; omega))
  generalize hair : decide (p = zSea S ∧ zDy S % zEv S = 0 ∧ zBl S k = true) = air
  rw [lpX7_findWay_109, mx_0 hM, Option.bind_some, if_neg (fun x => by have := (nI_leI (by omega) (by omega)).mp x; omega), h3, if_neg (by decide), zNeeds hS hk hM hp hv, nI_1]
  -- on foot
  have foot : ∃ (f : Bool) (u : zW), (if nI (if zEg S k p v < zNV then zEg S k p v else 0) ≤ 0 then (some ((0 : Int32), w)) else (Option.bind (zrd w 61 151 (4 : Int32)) fun v89 => zb2 (fX7_keeps w (nI k) (nI v) (nI g) (v89 + nI (if zEg S k p v < zNV then zEg S k p v else 0)) (nI (zEa S k p g (zDy S)))) fun v92 w93 => (if v92 = 0 then (some ((0 : Int32), w93)) else (some ((1 : Int32), w93))))) = some (if f = true then 1 else 0, u) ∧ zE (fun o => o = 63) w u ∧ (f = true ↔ (zEg S k p v < zNV ∧ zEa S k v g (zDy S + zEg S k p v) = zEa S k p g (zDy S))) := by
    by_cases c : zEg S k p v < zNV
    · have b := eb c
      obtain ⟨u, u1, u2⟩ := mx_keeps hS hk hv hg (show zDy S + zEg S k p v ≤ 500000 by omega) hd hM
      refine ⟨decide (zEa S k v g (zDy S + zEg S k p v) = zEa S k p g (zDy S)), u, ?_, u2, by simp [c]⟩
      rw [if_pos c, if_neg (nI_nle (by omega) (by omega)), mx_4 hM, Option.bind_some, nI_add, u1, zb2_some]
      cases decide (zEa S k v g (zDy S + zEg S k p v) = zEa S k p g (zDy S)) <;> rfl
    · refine ⟨false, w, ?_, zE.rfl, ⟨fun q => (by cases q), fun q => absurd q.1 c⟩⟩
      rw [if_neg c, if_pos (by decide)]
      rfl
  obtain ⟨f, x, x1, x2, x3⟩ := foot
  have hMx := hM.e63 x2
  rw [x1, zb2_some]
  have fly : ∃ (l : Bool) (u : zW), (if (if f = true then (1 : Int32) else 0) = 0 then ((if (if air = true then (1 : Int32) else 0) = 0 then (some ((0 : Int32), x)) else (Option.bind (fX7_thePeak x) fun v110 => (if nI v = v110 then (Option.bind (zrd x 61 151 (4 : Int32)) fun v111 => zb2 (fX7_keeps x (nI k) (nI v) (nI g) (v111 + (1 : Int32)) (nI (zEa S k p g (zDy S)))) fun v114 w115 => (if v114 = 0 then (some ((0 : Int32), w115)) else (some ((1 : Int32), w115)))) else (some ((0 : Int32), x)))))) else (some ((0 : Int32), x))) = some (if l = true then 1 else 0, u) ∧ zE (fun o => o = 63) x u ∧ (l = true ↔ (f = false ∧ air = true ∧ v = zPeak S ∧ zEa S k v g (zDy S + 1) = zEa S k p g (zDy S))) := by
    simp only [ifb0]
    cases f with
    | true =>
      refine ⟨false, x, ?_, zE.rfl, ⟨fun q => (by cases q), fun q => absurd q.1 (by decide)⟩⟩
      rw [if_neg (by decide)]; rfl
    | false =>
      rw [if_pos rfl]
      cases air with
      | false =>
        refine ⟨false, x, ?_, zE.rfl, ⟨fun q => (by cases q), fun q => absurd q.2.1 (by decide)⟩⟩
        rw [if_pos rfl]; rfl
      | true =>
        rw [if_neg (by decide), mx_peak hS hMx, Option.bind_some]
        simp only [pk]
        by_cases c : v = zPeak S
        · obtain ⟨u, u1, u2⟩ := mx_keeps hS hk hv hg (show zDy S + 1 ≤ 500000 by omega) hd hMx
          refine ⟨decide (zEa S k v g (zDy S + 1) = zEa S k p g (zDy S)), u, ?_, u2, by simp [c]⟩
          rw [if_pos c, mx_4 hMx, Option.bind_some, nI_1, u1, zb2_some]
          cases decide (zEa S k v g (zDy S + 1) = zEa S k p g (zDy S)) <;> rfl
        · refine ⟨false, x, ?_, zE.rfl, ⟨fun q => (by cases q), fun q => absurd q.2.2.1 c⟩⟩
          rw [if_neg c]; rfl
  obtain ⟨l, y, y1, y2, y3⟩ := fly
  rw [y1, zb2_some]
  have e120 : (if (if f = true then (1 : Int32) else 0) = 0 then ((if (if l = true then (1 : Int32) else 0) = 0 then (some (-1 : Int32)) else (some (nI v)))) else (some (nI v))) = some (if (f || l) = true then nI v else -1) := by cases f <;> cases l <;> rfl
  have e126 : (if (if f = true then (1 : Int32) else 0) = 0 then (some (1 : Int32)) else (some (nI (if zEg S k p v < zNV then zEg S k p v else 0)))) = some (if f = true then nI (if zEg S k p v < zNV then zEg S k p v else 0) else 1) := by cases f <;> rfl
  rw [e120, Option.bind_some, Option.bind_some, e126, Option.bind_some, Option.bind_some]
  refine ⟨_, rfl, (((zE6.s x2).trs (zE6.s y2)).trs zE6.f3).trs zE6.f4, ?_, ?_⟩
  · intro ok
    rw [zsf_k (by omega), zsf_same, zsf_same]
    have ok := of_decide_eq_true ok
    unfold zDi at ok ⊢
    by_cases c : zBl S k = true ∧ p = zSea S ∧ v = zPeak S ∧ zSea S ≠ zPeak S ∧ zDy S % zEv S = 0
    · rw [if_pos c] at ok ⊢
      obtain ⟨c1, c2, c3, c4, c5⟩ := c
      have ne : ¬ zEg S k p v < zNV := by rw [c2, c3]; exact zEg_sp hS n0 c4
      have f0 : f = false := by
        cases f
        · rfl
        · exact absurd (x3.mp rfl).1 ne
      have a1 : air = true := by rw [← hair]; exact decide_eq_true ⟨c2, c5, c1⟩
      have l1 : l = true := y3.mpr ⟨f0, a1, c3, ok.2⟩
      rw [f0, l1]
      exact ⟨rfl, rfl⟩
    · rw [if_neg c] at ok ⊢
      have f1 : f = true := x3.mpr ok
      rw [f1, if_pos ok.1]
      exact ⟨rfl, rfl⟩
  · intro ok
    rw [zsf_k (by omega), zsf_same]
    have ok := of_decide_eq_false ok
    unfold zDi at ok
    have f0 : f = false := by
      cases f
      · rfl
      · exfalso
        have q := x3.mp rfl
        by_cases c : zBl S k = true ∧ p = zSea S ∧ v = zPeak S ∧ zSea S ≠ zPeak S ∧ zDy S % zEv S = 0
        · obtain ⟨c1, c2, c3, c4, c5⟩ := c
          have ne : ¬ zEg S k p v < zNV := by rw [c2, c3]; exact zEg_sp hS n0 c4
          exact ne q.1
        · rw [if_neg c] at ok
          exact ok q
    have l0 : l = false := by
      cases l
      · rfl
      · exfalso
        obtain ⟨_, q2, q3, q4⟩ := y3.mp rfl
        rw [← hair] at q2
        obtain ⟨a1, a2, a3⟩ := of_decide_eq_true q2
        by_cases sp : zSea S = zPeak S
        · have : v = zSea S := by rw [q3, sp]
          rw [this, a1] at q4
          rw [a1] at hd
          exact zEa_pk hS hk (by omega) sp hd q4
        · rw [if_pos ⟨a3, a1, q3, sp, a2⟩] at ok
          exact ok ⟨by omega, q4⟩
    rw [f0, l0]
    rfl
theorem mx_fw_loop (hS : zWf S) (hk : k < 6) {p g : Nat} (hp : p < zNv S) (hg : g < zNv S) (hd : zEa S k p g (zDy S) < zNV) : ∀ m v (w : zW), v + m = zNv S → zMX w 61 S → w.1 60 3 = zSt (zFs (zOk S k p g (zDy S)) v) → (∀ x, zFs (zOk S k p g (zDy S)) v = some x → w.1 60 4 = nI (zDi S k p (zDy S) x)) → ∀ n, m < n → ∃ u, lpX7_findWay_109 (nI k) (nI p) (nI g) (nI (zEa S k p g (zDy S))) (if decide (p = zSea S ∧ zDy S % zEv S = 0 ∧ zBl S k = true) = true then 1 else 0) n w (nI v) = some u ∧ zE6 w u ∧ u.1 60 3 = zSt (zFs (zOk S k p g (zDy S)) (zNv S)) ∧ (∀ x, zFs (zOk S k p g (zDy S)) (zNv S) = some x → u.1 60 4 = nI (zDi S k p (zDy S) x)) := by
  have nv := hS.nv
  intro m
  induction m with
  | zero =>
    intro v w hv hM h7 h8 n hn
    obtain ⟨n, rfl⟩ : ∃ z, n = z + 1 := ⟨n - 1, by omega⟩
    rw [lpX7_findWay_109, mx_0 hM, Option.bind_some, if_pos ((nI_leI (by omega) (by omega)).mpr (by omega))]
    rw [show v = zNv S by omega] at h7 h8
    exact ⟨w, rfl, zE6.rfl, h7, h8⟩
  | succ m ih =>
    intro v w hv hM h7 h8 n hn
    obtain ⟨n, rfl⟩ : ∃ z, n = z + 1 := ⟨n - 1, by omega⟩
    have hv' : v < zNv S := by omega
    cases e : zFs (zOk S k p g (zDy S)) v with
    | some x =>
      have xl := (zFs_lt _ _ e).1
      rw [e] at h7
      have kp := zFs_keep e (m + 1)
      rw [hv] at kp
      have z0 : (0 : Int32) ≤ w.1 60 3 := by rw [h7]; exact nI_pos' (by omega)
      rw [lpX7_findWay_109, mx_0 hM, Option.bind_some, if_neg (fun x => by have := (nI_leI (by omega) (by omega)).mp x; omega), if_pos z0]
      exact ⟨w, rfl, zE6.rfl, by rw [kp]; exact h7, fun y hy => by
        rw [kp] at hy
        have := Option.some.inj hy
        subst this
        exact h8 x e⟩
    | none =>
      rw [e] at h7
      obtain ⟨u, u1, u2, u3, u4⟩ := mx_fw_step (n := n) hS hk hp hg hv' hM hd h7
      rw [u1]
      cases ok : zOk S k p g (zDy S) v with
      | true =>
        have fy := zFs_y e ok
        obtain ⟨y, y1, y2, y3⟩ := ih (v + 1) u (by omega) (hM.e6 u2) (by rw [fy]; exact (u3 ok).1) (fun x hx => by
          rw [fy] at hx
          have := Option.some.inj hx
          subst this
          exact (u3 ok).2) n (by omega)
        exact ⟨y, y1, u2.trs y2, y3⟩
      | false =>
        have fn := zFs_n e ok
        obtain ⟨y, y1, y2, y3⟩ := ih (v + 1) u (by omega) (hM.e6 u2) (by rw [fn]; exact u4 ok) (fun x hx => by rw [fn] at hx; cases hx) n (by omega)
        exact ⟨y, y1, u2.trs y2, y3⟩
theorem mx_fw {w : zW} (hS : zWf S) (hM : zMX w 61 S) {l : Nat} (hl : l < zNl S) : ∃ u, fX7_findWay w (nI l) = some u ∧ zE6 w u ∧ u.1 60 3 = zSt (zNy S (zKd S l) (zPl S l) (zTo S l) (zDy S)) ∧ (∀ x, zNy S (zKd S l) (zPl S l) (zTo S l) (zDy S) = some x → u.1 60 4 = nI (zDi S (zKd S l) (zPl S l) (zDy S) x)) := by
  have z : zNV = 1000000 := rfl
  have z9 : zN9 = 1000000000 := rfl
  have nv := hS.nv
  have dy := hS.dy
  have ev := hS.ev
  obtain ⟨hk, hp, hg, _, _⟩ := hS.lt l hl
  have n0 : 0 < zNv S := by omega
  have sl := zSea_lt n0
  unfold fX7_findWay
  rw [mx_its0 hS hM hl, Option.bind_some, mx_its1 hS hM hl, Option.bind_some, mx_its2 hS hM hl, Option.bind_some, Option.bind_some, Option.bind_some]
  generalize zKd S l = k at hk
  generalize zPl S l = p at hp
  generalize zTo S l = g at hg
  have E9 : zE6 w (zsf (zsf w 60 3 (-1)) 60 4 0) := zE6.f3.trs zE6.f4
  have F3 : (zsf (zsf w 60 3 (-1)) 60 4 0).1 60 3 = -1 := by rw [zsf_k (by omega), zsf_same]
  generalize zsf (zsf w 60 3 (-1)) 60 4 0 = w9 at E9 F3
  have hM9 := hM.e6 E9
  by_cases c0 : p = g
  · have nx : zNy S k p g (zDy S) = none := if_pos (Or.inl c0)
    rw [if_pos (by rw [c0]), zb2_some, if_pos rfl]
    exact ⟨w9, rfl, E9, by rw [nx, F3]; rfl, fun x hx => by rw [nx] at hx; cases hx⟩
  · obtain ⟨x, x1, x2⟩ := mx_ear hS hk hp hg (show zDy S ≤ 500000 by omega) hM9
    rw [if_neg (fun q => c0 ((nI_eq (by omega) (by omega)).mp q)), mx_4 hM9, Option.bind_some, x1, zb2_some, zb2_some]
    have b := zMv_le (x := zEa S k p g (zDy S))
    have p9 := eq9 b
    by_cases c1 : zEa S k p g (zDy S) < zNV
    · have nx : zNy S k p g (zDy S) = zFs (zOk S k p g (zDy S)) (zNv S) := if_neg (fun q => q.elim c0 (fun h => h c1))
      have hMx := hM9.e63 x2
      have F3x : x.1 60 3 = -1 := by rw [(x2 60 (by omega)).1, F3]
      have pp : (nI p = nI (zSea S)) = (p = zSea S) := propext (nI_eq (by omega) (by omega))
      have m := Nat.mod_lt (zDy S) (show zEv S > 0 by omega)
      have air : (if nI p = nI (zSea S) then (Option.bind (zrd x 61 151 (4 : Int32)) fun v40 => Option.bind (zrd x 61 151 (3 : Int32)) fun v42 => Option.bind (zrem v40 v42) fun v44 => (if v44 = 0 then (Option.bind (fX7_flies x (nI k)) fun v47 => (if v47 = 0 then (some (0 : Int32)) else (some (1 : Int32)))) else (some (0 : Int32)))) else (some (0 : Int32))) = some (if decide (p = zSea S ∧ zDy S % zEv S = 0 ∧ zBl S k = true) = true then 1 else 0) := by
        rw [mx_4 hMx, Option.bind_some, mx_3 hMx, Option.bind_some, zrem_nI (by omega) (by omega) (by omega), Option.bind_some, mx_flies hS hMx hk n0, Option.bind_some]
        simp only [pp, nI_z (show zDy S % zEv S < 2 ^ 31 by omega)]
        by_cases d1 : p = zSea S
        · rw [if_pos d1]
          by_cases d2 : zDy S % zEv S = 0
          · rw [if_pos d2]
            cases d3 : zBl S k <;> simp [d1, d2]
          · rw [if_neg d2]; simp [d2]
        · rw [if_neg d1]; simp [d1]
      obtain ⟨u, u1, u2, u3, u4⟩ := mx_fw_loop hS hk hp hg c1 (zNv S) 0 x (by omega) hMx F3x (fun x hx => by cases hx) zF (by unfold zF; omega)
      have u1 : lpX7_findWay_109 (nI k) (nI p) (nI g) (nI (zEa S k p g (zDy S))) (if decide (p = zSea S ∧ zDy S % zEv S = 0 ∧ zBl S k = true) = true then 1 else 0) zF x 0 = some u := u1
      rw [if_neg (fun q => (zMv_eq.mp (p9.mp q)) c1), mx_sea hS hMx, Option.bind_some, air, Option.bind_some, zMv_fin c1, u1, Option.bind_some, nx]
      exact ⟨u, rfl, (E9.trs (zE6.s x2)).trs u2, u3, u4⟩
    · have nx : zNy S k p g (zDy S) = none := if_pos (Or.inr c1)
      rw [if_pos (p9.mpr (zMv_eq.mpr c1))]
      exact ⟨x, rfl, E9.trs (zE6.s x2), by rw [nx, (x2 60 (by omega)).1, F3]; rfl, fun x hx => by rw [nx] at hx; cases hx⟩
end WAY
/-- nothing of the land has changed, but what the reference found -/
theorem zInv.c6 {w v : zW} (hI : zInv w) (E : zE (fun o => zPq o ∨ o = 60) w v) (h7 : v.1 60 7 = w.1 60 7) (h20 : v.1 60 20 = w.1 60 20) : zInv v := by
  obtain ⟨⟨S, hS, hC, hM⟩, d, e, f, g⟩ := hI
  exact ⟨⟨S, hS, hC.keep (fun j hj => (E _ (by omega)).1), hM.keep (E 61 (by omega)).1⟩, d.keep (E 46 (by omega)).1 (E 62 (by omega)).1, e.keep (E 43 (by omega)).1 (E 44 (by omega)).1 h7 (E 65 (by omega)).1, f.keep (fun o h1 h2 => E o (by omega)) (E 66 (by omega)).1 (E 67 (by omega)).1 (E 68 (by omega)).2, g.keep (by rw [(E 0 (by omega)).1]) h20 (fun j hj => (E _ (by omega)).1) (E 70 (by omega)).1⟩
theorem op_next (a : Int32) : zOp (fun w => fX6_next w a) (fun w => fX7_next w a) := by
  intro w hI
  show ∃ r u v, fX6_next w a = some (r, u) ∧ fX7_next u a = some (r, v) ∧ zInv v
  obtain ⟨S, hS, hC, hM⟩ := hI.1
  have hn := hS.nl
  have nv := hS.nv
  have dy := hS.dy
  have hF := zff_mx (k := 0) hM (by omega)
  have hF4 := zff_mx (k := 4) hM (by omega)
  rcases zor (x := a) (n := zNl S) (by omega) with ha | ⟨l, hl, rfl⟩
  · exact ⟨zB0, zff w 0, zfg (zff w 0) 0, by simp only [fX6_next, cx_hl_n hC ha, Option.bind_some, if_true, x6_f0, zb2_some], by simp only [fX7_next, mx_hl_n hS hF ha, Option.bind_some, if_true, x7_f0, zb2_some], hI.find (k := 0) (by omega)⟩
  obtain ⟨hk, hp, hg, _, hf⟩ := hS.lt l hl
  have c := hC.2.2.2 l hl
  have r9 : zrd w (10 + 9) 10 (nI l) = some (nI (zLf S l)) := by rw [zrd_nI (by omega) (by omega), c.2.2.2.2]
  have r5 : zrd w (10 + 5) 10 (nI l) = some (nI (zKd S l)) := by rw [zrd_nI (by omega) (by omega), c.1]
  have p0 : (nI (zLf S l) ≤ 0) = (zLf S l = 0) := propext (by rw [zL0, nI_leI (by omega) (by omega)]; omega)
  by_cases q : zLf S l = 0
  · obtain ⟨u, u1, u2, u3⟩ := lo (Or.inl rfl) hS hC hk (by omega)
    have U := zP40 u2
    have hCu := hC.pc U
    have cu := hCu.2.2.2 l hl
    have r6 : zrd u (10 + 6) 10 (nI l) = some (nI (zPl S l)) := by rw [zrd_nI (by omega) (by omega), cu.2.1]
    have r7 : zrd u (10 + 7) 10 (nI l) = some (nI (zTo S l)) := by rw [zrd_nI (by omega) (by omega), cu.2.2.1]
    obtain ⟨x, x1, x2, x3, x4, x5⟩ := wy_la hS hk u3 hp hg (show zDy S ≤ 100000 by omega)
    have X : zE zPq w x := U.trs (x2.mono (fun o h => by omega))
    have hMx := hM.pc X
    obtain ⟨v, v1, v2, v3, v4⟩ := mx_fw hS hMx hl
    refine ⟨zSt (zNy S (zKd S l) (zPl S l) (zTo S l) (zDy S)), x, v, ?_, ?_, hI.c6 ((X.mono (fun o h => Or.inl h)).trs (v2.1.mono (fun o h => by omega))) (by rw [v2.2 7 (by omega) (by omega), (X 60 (by omega)).1]) (by rw [v2.2 20 (by omega) (by omega), (X 60 (by omega)).1])⟩
    · simp only [fX6_next, cx_hl_y hS hC hl, Option.bind_some, if_neg h10, r9, p0, if_pos q, r5, u1, r6, r7, hCu.1.2.2.2.2, x1, x4]
    · simp only [fX7_next, mx_hl_y hS hMx hl, Option.bind_some, if_neg h10, mx_its4 hS hMx hl, p0, if_pos q, v1, v3]
  · exact ⟨zB4, zff w 4, zfg (zff w 4) 4, by simp only [fX6_next, cx_hl_y hS hC hl, Option.bind_some, if_neg h10, r9, p0, if_neg q, x6_f4, zb2_some], by simp only [fX7_next, mx_hl_y hS hF4 hl, Option.bind_some, if_neg h10, mx_its4 hS hF4 hl, p0, if_neg q, x7_f4, zb2_some], hI.find (k := 4) (by omega)⟩
