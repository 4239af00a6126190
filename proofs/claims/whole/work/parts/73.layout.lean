theorem lo_fill {o1 : Nat} {p2 : Int32} (w : zW) : ∀ m t u, t + m = 144 → zE (fun o => o = 41) w u → (∀ i, i < t → u.1 41 i = nI 1000000) → ∀ q, m < q → ∃ v, lpX5_layOut_52 o1 p2 q u (nI t) = some v ∧ zE (fun o => o = 41) w v ∧ ∀ i, i < 144 → v.1 41 i = nI 1000000 := by
  intro m
  induction m with
  | zero =>
    intro t u ht hE hA q hq
    obtain ⟨q, rfl⟩ : ∃ z, q = z + 1 := ⟨q - 1, by omega⟩
    rw [lpX5_layOut_52, show (144 : Int32) = nI 144 from rfl, if_pos ((nI_leI (by omega) (by omega)).mpr (by omega))]
    exact ⟨u, rfl, hE, fun i hi => hA i (by omega)⟩
  | succ m ih =>
    intro t u ht hE hA q hq
    obtain ⟨q, rfl⟩ : ∃ z, q = z + 1 := ⟨q - 1, by omega⟩
    rw [lpX5_layOut_52, show (144 : Int32) = nI 144 from rfl, if_neg (fun x => by have := (nI_leI (by omega) (by omega)).mp x; omega), zwr_nI (by omega) (by omega), Option.bind_some, nI_1]
    refine ih (t + 1) _ (by omega) (hE.trs (zE.sf0 rfl)) (fun i hi => ?_) q (by omega)
    by_cases c : i = t
    · subst c; rw [zsf_same]; rfl
    · rw [zsf_k c, hA i (by omega)]
/-- days of one step of the kind k by a road, over the first r roads -/
def zEr (S : zLd) (k : Nat) : Nat → Nat → Nat → Nat
  | 0, _, _ => zNV
  | r + 1, a, b => if (zOn S r = a ∧ zOt S r = b ∨ zOn S r = b ∧ zOt S r = a) ∧ zGo S k a b = true then zNd k (zLn S r) else zEr S k r a b
theorem ls {w : zW} {S : zLd} {o N k a b d : Nat} {D : Nat → Nat → Nat} (hS : zWf S) (hC : zCX w o S) (hN : N ≤ 12) (hNv : N = zNv S) (h2 : w.1 40 2 = nI N) (hk : k < 6) (ha : a < N) (hb : b < N) (hA : zDA w 41 N D) : ∃ v, fX5_layStep w o (nI k) (nI a) (nI b) (nI d) = some v ∧ zE (fun x => x = 41) w v ∧ zDA v 41 N (fun i j => if (i = a ∧ j = b) ∧ zGo S k a b = true then d else D i j) := by
  by_cases c : zGo S k a b = true
  · refine ⟨zsf w 41 (a * 12 + b) (nI d), ?_, zE.sf0 rfl, (hA.put hN hb).eq (fun i j hi hj => ?_)⟩
    · simp only [fX5_layStep, hr_y hN h2 ha hb, Option.bind_some, if_neg h10, cx_go hS hC hk (hNv ▸ ha) (hNv ▸ hb), if_pos c]
      rw [ix12, zwr_nI (by omega) (by omega), Option.bind_some]
    · by_cases q : i = a ∧ j = b
      · rw [if_pos q, if_pos ⟨q, c⟩]
      · rw [if_neg q, if_neg (fun x => q x.1)]
  · refine ⟨w, ?_, zE.rfl, hA.eq (fun i j hi hj => by rw [if_neg (fun x => c x.2)])⟩
    simp only [fX5_layStep, hr_y hN h2 ha hb, Option.bind_some, if_neg h10, cx_go hS hC hk (hNv ▸ ha) (hNv ▸ hb), if_neg c, if_true]
theorem lo_roads {S : zLd} {o N k : Nat} (ho : o = 10 ∨ o = 20 ∨ o = 30) (hS : zWf S) (hN : N ≤ 12) (hNv : N = zNv S) (hk : k < 6) (w : zW) (hC : zCX w o S) (h2 : w.1 40 2 = nI N) : ∀ m r u, r + m = zNr S → zE (fun x => x = 41) w u → zDA u 41 N (zEr S k r) → ∀ q, m < q → ∃ v, lpX5_layOut_75 o (nI k) q u (nI r) = some v ∧ zE (fun x => x = 41) w v ∧ zDA v 41 N (zEr S k (zNr S)) := by
  have nr := hS.nr
  intro m
  induction m with
  | zero =>
    intro r u hr hE hA q hq
    obtain ⟨q, rfl⟩ : ∃ z, q = z + 1 := ⟨q - 1, by omega⟩
    have : r = zNr S := by omega
    subst this
    rw [lpX5_layOut_75, (hE o (by omega)).1, hC.1.2.1, if_pos ((nI_leI (by omega) (by omega)).mpr (by omega))]
    exact ⟨u, rfl, hE, hA⟩
  | succ m ih =>
    intro r u hr hE hA q hq
    obtain ⟨q, rfl⟩ : ∃ z, q = z + 1 := ⟨q - 1, by omega⟩
    have hCu : zCX u o S := hC.keep (fun j hj => (hE _ (by omega)).1)
    have h2u : u.1 40 2 = nI N := by rw [(hE 40 (by omega)).1, h2]
    obtain ⟨f1, f2, f3⟩ := hCu.2.2.1 r (by omega)
    obtain ⟨g1, g2, g3, g4, g5⟩ := hS.2.2.2.2.2.2.1 r (by omega)
    obtain ⟨x, x1, x2, x3⟩ := ls (d := zNd k (zLn S r)) hS hCu hN hNv h2u hk (show zOn S r < N by omega) (show zOt S r < N by omega) hA
    have hCx : zCX x o S := hCu.keep (fun j hj => (x2 _ (by omega)).1)
    have h2x : x.1 40 2 = nI N := by rw [(x2 40 (by omega)).1, h2u]
    obtain ⟨v, v1, v2, v3⟩ := ls (d := zNd k (zLn S r)) hS hCx hN hNv h2x hk (show zOt S r < N by omega) (show zOn S r < N by omega) x3
    rw [lpX5_layOut_75, hCu.1.2.1, if_neg (fun z => by have := (nI_leI (by omega) (by omega)).mp z; omega)]
    simp only [zrd_nI (show r < 24 by omega) (show 24 < 2 ^ 31 by omega), Option.bind_some, f1, f2, f3, cx_nd _ hk (show zLn S r < 10 by omega), x1, (x2 (o + 2) (by omega)).1, (x2 (o + 3) (by omega)).1, v1, nI_1]
    refine ih (r + 1) v (by omega) ((hE.trs x2).trs v2) (v3.eq (fun i j hi hj => ?_)) q (by omega)
    show (if (i = zOt S r ∧ j = zOn S r) ∧ zGo S k (zOt S r) (zOn S r) = true then zNd k (zLn S r) else if (i = zOn S r ∧ j = zOt S r) ∧ zGo S k (zOn S r) (zOt S r) = true then zNd k (zLn S r) else zEr S k r i j) = if (zOn S r = i ∧ zOt S r = j ∨ zOn S r = j ∧ zOt S r = i) ∧ zGo S k i j = true then zNd k (zLn S r) else zEr S k r i j
    by_cases c1 : i = zOt S r ∧ j = zOn S r
    · obtain ⟨rfl, rfl⟩ := c1
      by_cases c2 : zGo S k (zOt S r) (zOn S r) = true
      · rw [if_pos ⟨⟨rfl, rfl⟩, c2⟩, if_pos ⟨Or.inr ⟨rfl, rfl⟩, c2⟩]
      · rw [if_neg (fun z => c2 z.2), if_neg (fun z => g3 z.1.1.symm), if_neg (fun z => c2 z.2)]
    · rw [if_neg (fun z => c1 z.1)]
      by_cases c3 : i = zOn S r ∧ j = zOt S r
      · obtain ⟨rfl, rfl⟩ := c3
        by_cases c2 : zGo S k (zOn S r) (zOt S r) = true
        · rw [if_pos ⟨⟨rfl, rfl⟩, c2⟩, if_pos ⟨Or.inl ⟨rfl, rfl⟩, c2⟩]
        · rw [if_neg (fun z => c2 z.2), if_neg (fun z => c2 z.2)]
      · rw [if_neg (fun z => c3 z.1), if_neg]
        rintro ⟨z | z, -⟩
        · exact c3 ⟨z.1.symm, z.2.symm⟩
        · exact c1 ⟨z.2.symm, z.1.symm⟩
def zBl (S : zLd) (k : Nat) : Bool := k != 5 && zTk S k (zPeak S)
/-- the class's Ways stand for the land S and the kind k -/
def zWy (w : zW) (S : zLd) (k : Nat) : Prop := w.1 40 2 = nI (zNv S) ∧ w.1 40 3 = nI (zSea S) ∧ w.1 40 4 = nI (zPeak S) ∧ w.1 40 5 = nI (zEv S) ∧ w.1 40 6 = (if zBl S k then 1 else 0) ∧ zDA w 41 (zNv S) (zEr S k (zNr S)) ∧ zDA w 42 (zNv S) (zDn (zEr S k (zNr S)) (zNv S))
theorem zEr_le {S : zLd} (hS : zWf S) {k : Nat} : ∀ r, r ≤ zNr S → ∀ a b, zEr S k r a b ≤ zNV := by
  have z : zNV = 1000000 := rfl
  intro r
  induction r with
  | zero => intro _ a b; exact Nat.le_refl _
  | succ r ih =>
    intro hr a b
    rw [zEr]
    split
    · obtain ⟨g1, g2, g3, g4, g5⟩ := hS.2.2.2.2.2.2.1 r (by omega)
      unfold zNd
      split
      · omega
      · split
        · omega
        · split <;> omega
    · exact ih (by omega) a b
theorem cx_bal {w : zW} {S : zLd} {o k : Nat} (hS : zWf S) (hC : zCX w o S) (hk : k < 6) (hp : zPeak S < zNv S) : fX0_balloonTakes w o (nI k) = some (if zBl S k then 1 else 0) := by
  unfold fX0_balloonTakes zBl
  by_cases c : k = 5
  · subst c; rfl
  · have c' : ¬ nI k = 5 := by
      intro h
      have := congrArg Int32.toNatClampNeg h
      rw [nI_clamp (by omega), show Int32.toNatClampNeg (5 : Int32) = 5 by decide] at this
      omega
    have e : (k != 5) = true := by simp [c]
    rw [if_neg c', cx_peak hS hC, Option.bind_some, cx_tk hS hC hk hp, Option.bind_some, e, Bool.true_and]
    cases zTk S k (zPeak S)
    · rfl
    · rfl
theorem zEr_0 {S : zLd} {k a b : Nat} : zEr S k 0 a b = zNV := by rw [zEr]
