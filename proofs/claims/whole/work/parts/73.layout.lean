theorem lo_fill {o1 : Nat} {p2 : Int32} (w : zW) : ∀ m t u, t + m = 144 → zE (fun o => o = 41) w u → (∀ i, i < t → u.1 41 i = nI 1000000) → ∀ q, m < q → ∃ v, lpX5_layOut_52 o1 p2 q u (nI t) = some v ∧ zE (fun o => o = 41) w v ∧ ∀ i, i < 144 → v.1 41 i = nI 1000000 := by
  intro m
  induction m with
  | zero =>
    intro t u ht hE hA q hq
    obtain ⟨q, rfl⟩ : ∃ z, q = z + 1 := ⟨q - 1, by omega⟩
    rw [lpX5_layOut_52, show (144 : Int32) = nI 144 from rfl, if_pos ((nI_leI (by omega) (by omega)).mpr (by omega))]
    exact ⟨u, rfl, hE, fun i hi => hA i (by omega)⟩
  | succ m ih =>
    intro t u ht hE hA q hq
    obtain ⟨q, rfl⟩ : ∃ z, q = z + 1 := ⟨q - 1, by omega⟩
    rw [lpX5_layOut_52, show (144 : Int32) = nI 144 from rfl, if_neg (fun x => by have := (nI_leI (by omega) (by omega)).mp x; omega), zwr_nI (by omega) (by omega), Option.bind_some, nI_1]
    refine ih (t + 1) _ (by omega) (hE.trs (zE.sf0 rfl)) (fun i hi => ?_) q (by omega)
    by_cases c : i = t
    · subst c; rw [zsf_same]; rfl
    · rw [zsf_k c, hA i (by omega)]
/-- days of one step of the kind k by a road, over the first r roads -/
def zEr (S : zLd) (k : Nat) : Nat → Nat → Nat → Nat
  | 0, _, _ => zNV
  | r + 1, a, b => if (zOn S r = a ∧ zOt S r = b ∨ zOn S r = b ∧ zOt S r = a) ∧ zGo S k a b = true then zNd k (zLn S r) else zEr S k r a b
theorem ls {w : zW} {S : zLd} {o N k a b d : Nat} {D : Nat → Nat → Nat} (hS : zWf S) (hC : zCX w o S) (hN : N ≤ 12) (hNv : N = zNv S) (h2 : w.1 40 2 = nI N) (hk : k < 6) (ha : a < N) (hb : b < N) (hA : zDA w 41 N D) : ∃ v, fX5_layStep w o (nI k) (nI a) (nI b) (nI d) = some v ∧ zE (fun x => x = 41) w v ∧ zDA v 41 N (fun i j => if (i = a ∧ j = b) ∧ zGo S k a b = true then d else D i j) := by
  by_cases c : zGo S k a b = true
  · refine ⟨zsf w 41 (a * 12 + b) (nI d), ?_, zE.sf0 rfl, (hA.put hN hb).eq (fun i j hi hj => ?_)⟩
    · simp only [fX5_layStep, hr_y hN h2 ha hb, Option.bind_some, if_neg h10, cx_go hS hC hk (hNv ▸ ha) (hNv ▸ hb), if_pos c]
      rw [ix12, zwr_nI (by omega) (by omega), Option.bind_some]
    · by_cases q : i = a ∧ j = b
      · rw [if_pos q, if_pos ⟨q, c⟩]
      · rw [if_neg q, if_neg (fun x => q x.1)]
  · refine ⟨w, ?_, zE.rfl, hA.eq (fun i j hi hj => by rw [if_neg (fun x => c x.2)])⟩
    simp only [fX5_layStep, hr_y hN h2 ha hb, Option.bind_some, if_neg h10, cx_go hS hC hk (hNv ▸ ha) (hNv ▸ hb), if_neg c, if_true]
