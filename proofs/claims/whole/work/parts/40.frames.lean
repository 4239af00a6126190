/-- nothing but what P names has changed -/
def zE (P : Nat → Prop) (w u : zW) : Prop := ∀ o, ¬ P o → u.1 o = w.1 o ∧ u.2 o = w.2 o
theorem zE.rfl {P : Nat → Prop} {w : zW} : zE P w w := fun _ _ => ⟨Eq.refl _, Eq.refl _⟩
theorem zE.trs {P : Nat → Prop} {w u v : zW} (h : zE P w u) (k : zE P u v) : zE P w v := fun o ho => ⟨(k o ho).1.trans (h o ho).1, (k o ho).2.trans (h o ho).2⟩
theorem zE.mono {P Q : Nat → Prop} {w u : zW} (h : zE P w u) (hs : ∀ o, P o → Q o) : zE Q w u := fun o ho => h o (fun q => ho (hs o q))
theorem zE.tr {P Q : Nat → Prop} {w u v : zW} (h : zE P w u) (k : zE Q u v) (hs : ∀ o, Q o → P o) : zE P w v := h.trs (k.mono hs)
theorem zE.sf0 {P : Nat → Prop} {w : zW} {o k : Nat} {v : Int32} (ho : P o) : zE P w (zsf w o k v) := fun a ha => ⟨by funext b; have : ¬ a = o := fun e => ha (e ▸ ho); simp [zsf, this], Eq.refl _⟩
theorem zE.sg0 {P : Nat → Prop} {w : zW} {o k : Nat} {v : Int64} (ho : P o) : zE P w (zsg w o k v) := fun a ha => ⟨Eq.refl _, by funext b; have : ¬ a = o := fun e => ha (e ▸ ho); simp [zsg, this]⟩
theorem zE.cf0 {P : Nat → Prop} {w : zW} {o : Nat} {f : Nat → Int32} (ho : P o) : zE P w (zcf w o f) := fun a ha => ⟨by funext b; have : ¬ a = o := fun e => ha (e ▸ ho); simp [zcf, this], Eq.refl _⟩
theorem zE.cg0 {P : Nat → Prop} {w : zW} {o : Nat} {f : Nat → Int64} (ho : P o) : zE P w (zcg w o f) := fun a ha => ⟨Eq.refl _, by funext b; have : ¬ a = o := fun e => ha (e ▸ ho); simp [zcg, this]⟩
theorem zE.zsf {P : Nat → Prop} {w u v : zW} {o k : Nat} {x : Int32} (h : zE P w u) (e : some (zsf u o k x) = some v) (ho : P o) : zE P w v := by cases e; exact h.trs (zE.sf0 ho)
theorem zE.zsg {P : Nat → Prop} {w u v : zW} {o k : Nat} {x : Int64} (h : zE P w u) (e : some (zsg u o k x) = some v) (ho : P o) : zE P w v := by cases e; exact h.trs (zE.sg0 ho)
theorem zE.zwr {P : Nat → Prop} {w u v : zW} {o n : Nat} {i x : Int32} (h : zE P w u) (e : zwr u o n i x = some v) (ho : P o) : zE P w v := by obtain ⟨_, e⟩ := zin e; cases e; exact h.trs (zE.sf0 ho)
theorem zE.zwl {P : Nat → Prop} {w u v : zW} {o n : Nat} {i : Int32} {x : Int64} (h : zE P w u) (e : zwl u o n i x = some v) (ho : P o) : zE P w v := by obtain ⟨_, e⟩ := zin e; cases e; exact h.trs (zE.sg0 ho)
theorem zE.zcpi {P : Nat → Prop} {w u v : zW} {o1 n1 o n : Nat} {a b c : Int32} (h : zE P w u) (e : zcpi u o1 n1 a o n b c = some v) (ho : P o) : zE P w v := by obtain ⟨_, e⟩ := zcp_in e; cases e; exact h.trs (zE.cf0 ho)
theorem zE.zcpl {P : Nat → Prop} {w u v : zW} {o1 n1 o n : Nat} {a b c : Int32} (h : zE P w u) (e : zcpl u o1 n1 a o n b c = some v) (ho : P o) : zE P w v := by obtain ⟨_, e⟩ := zcp_in e; cases e; exact h.trs (zE.cg0 ho)

set_option maxRecDepth 100000 in
theorem eX0_addLetter {w : zW} {o0 : Nat} {p1 : Int32} {p2 : Int32} {p3 : Int32} {r : Int32} {w' : zW} (h : fX0_addLetter w o0 p1 p2 p3 = some (r, w')) : zE (fun o => (o0 ≤ o ∧ o < o0 + 10)) w w' := by
  unfold fX0_addLetter at h
  have E0 : zE (fun o => (o0 ≤ o ∧ o < o0 + 10)) w w := zE.rfl
  obtain ⟨v2, e1, h⟩ := zbind h
  by_cases c2 : v2 = 0
  · replace h := zite_t c2 h
    obtain ⟨w3, e3, h⟩ := zbind h
    have E4 : zE (fun o => (o0 ≤ o ∧ o < o0 + 10)) w w3 := E0.zwr e3 (by first | omega | (simp only [zIsLand, zIsSheet] at *; omega))
    obtain ⟨w5, e5, h⟩ := zbind h
    have E6 : zE (fun o => (o0 ≤ o ∧ o < o0 + 10)) w w5 := E4.zwr e5 (by first | omega | (simp only [zIsLand, zIsSheet] at *; omega))
    obtain ⟨w7, e7, h⟩ := zbind h
    have E8 : zE (fun o => (o0 ≤ o ∧ o < o0 + 10)) w w7 := E6.zwr e7 (by first | omega | (simp only [zIsLand, zIsSheet] at *; omega))
    obtain ⟨w9, e9, h⟩ := zbind h
    have E10 : zE (fun o => (o0 ≤ o ∧ o < o0 + 10)) w w9 := E8.zwr e9 (by first | omega | (simp only [zIsLand, zIsSheet] at *; omega))
    obtain ⟨w11, e11, h⟩ := zbind h
    have E12 : zE (fun o => (o0 ≤ o ∧ o < o0 + 10)) w w11 := E10.zwr e11 (by first | omega | (simp only [zIsLand, zIsSheet] at *; omega))
    obtain ⟨w13, e13, h⟩ := zbind h
    have E14 : zE (fun o => (o0 ≤ o ∧ o < o0 + 10)) w w13 := E12.zsf e13 (by first | omega | (simp only [zIsLand, zIsSheet] at *; omega))
    obtain ⟨rfl, rfl⟩ := zpi2 h
    exact E14
  · replace h := zite_f c2 h
    obtain ⟨rfl, rfl⟩ := zpi2 h
    exact E0
set_option maxRecDepth 100000 in
theorem eX0_addRoad {w : zW} {o0 : Nat} {p1 : Int32} {p2 : Int32} {p3 : Int32} {r : Int32} {w' : zW} (h : fX0_addRoad w o0 p1 p2 p3 = some (r, w')) : zE (fun o => (o0 ≤ o ∧ o < o0 + 10)) w w' := by
  unfold fX0_addRoad at h
  have E0 : zE (fun o => (o0 ≤ o ∧ o < o0 + 10)) w w := zE.rfl
  obtain ⟨v2, e15, h⟩ := zbind h
  by_cases c16 : v2 = 0
  · replace h := zite_t c16 h
    obtain ⟨w3, e17, h⟩ := zbind h
    have E18 : zE (fun o => (o0 ≤ o ∧ o < o0 + 10)) w w3 := E0.zwr e17 (by first | omega | (simp only [zIsLand, zIsSheet] at *; omega))
    obtain ⟨w5, e19, h⟩ := zbind h
    have E20 : zE (fun o => (o0 ≤ o ∧ o < o0 + 10)) w w5 := E18.zwr e19 (by first | omega | (simp only [zIsLand, zIsSheet] at *; omega))
    obtain ⟨w7, e21, h⟩ := zbind h
    have E22 : zE (fun o => (o0 ≤ o ∧ o < o0 + 10)) w w7 := E20.zwr e21 (by first | omega | (simp only [zIsLand, zIsSheet] at *; omega))
    obtain ⟨w9, e23, h⟩ := zbind h
    have E24 : zE (fun o => (o0 ≤ o ∧ o < o0 + 10)) w w9 := E22.zsf e23 (by first | omega | (simp only [zIsLand, zIsSheet] at *; omega))
    obtain ⟨rfl, rfl⟩ := zpi2 h
    exact E24
  · replace h := zite_f c16 h
    obtain ⟨rfl, rfl⟩ := zpi2 h
    exact E0
set_option maxRecDepth 100000 in
theorem eX0_setHermits {w : zW} {o0 : Nat} {p1 : Int32} {p2 : Int32} {w' : zW} (h : fX0_setHermits w o0 p1 p2 = some w') : zE (fun o => (o0 ≤ o ∧ o < o0 + 10)) w w' := by
  unfold fX0_setHermits at h
  have E0 : zE (fun o => (o0 ≤ o ∧ o < o0 + 10)) w w := zE.rfl
  obtain ⟨v2, e25, h⟩ := zbind h
  by_cases c26 : v2 = 0
  · replace h := zite_t c26 h
    obtain rfl := Option.some.inj h
    exact E0
  · replace h := zite_f c26 h
    obtain ⟨x3, e27, h⟩ := zbind h
    obtain ⟨w6, e28, h⟩ := zbind h
    have E29 : zE (fun o => (o0 ≤ o ∧ o < o0 + 10)) w w6 := E0.zsf e28 (by first | omega | (simp only [zIsLand, zIsSheet] at *; omega))
    obtain rfl := Option.some.inj h
    exact E29
set_option maxRecDepth 100000 in
theorem eX0_addVillage {w : zW} {o0 : Nat} {p1 : Int32} {p2 : Int32} {r : Int32} {w' : zW} (h : fX0_addVillage w o0 p1 p2 = some (r, w')) : zE (fun o => (o0 ≤ o ∧ o < o0 + 10)) w w' := by
  unfold fX0_addVillage at h
  have E0 : zE (fun o => (o0 ≤ o ∧ o < o0 + 10)) w w := zE.rfl
  obtain ⟨v2, e30, h⟩ := zbind h
  by_cases c31 : v2 = 0
  · replace h := zite_t c31 h
    obtain ⟨w3, e32, h⟩ := zbind h
    have E33 : zE (fun o => (o0 ≤ o ∧ o < o0 + 10)) w w3 := E0.zsf e32 (by first | omega | (simp only [zIsLand, zIsSheet] at *; omega))
    obtain ⟨x5, e34, h⟩ := zbind h
    obtain ⟨w7, e35, h⟩ := zbind h
    have E36 : zE (fun o => (o0 ≤ o ∧ o < o0 + 10)) w w7 := E33.zwr e35 (by first | omega | (simp only [zIsLand, zIsSheet] at *; omega))
    obtain ⟨w10, e37, h⟩ := zbind h
    have E38 : zE (fun o => (o0 ≤ o ∧ o < o0 + 10)) w w10 := E36.tr (eX0_setHermits e37) (fun o h => by first | omega | (simp only [zIsLand, zIsSheet] at *; omega))
    obtain ⟨rfl, rfl⟩ := zpi2 h
    exact E38
  · replace h := zite_f c31 h
    obtain ⟨rfl, rfl⟩ := zpi2 h
    exact E0
set_option maxRecDepth 100000 in
theorem eX0_become {w : zW} {o0 : Nat} {o1 : Nat} {w' : zW} (h : fX0_become w o0 o1 = some w') : zE (fun o => (o0 ≤ o ∧ o < o0 + 10)) w w' := by
  unfold fX0_become at h
  have E0 : zE (fun o => (o0 ≤ o ∧ o < o0 + 10)) w w := zE.rfl
  obtain ⟨w1, e39, h⟩ := zbind h
  have E40 : zE (fun o => (o0 ≤ o ∧ o < o0 + 10)) w w1 := E0.zsf e39 (by first | omega | (simp only [zIsLand, zIsSheet] at *; omega))
  obtain ⟨w3, e41, h⟩ := zbind h
  have E42 : zE (fun o => (o0 ≤ o ∧ o < o0 + 10)) w w3 := E40.zcpi e41 (by first | omega | (simp only [zIsLand, zIsSheet] at *; omega))
  obtain ⟨w5, e43, h⟩ := zbind h
  have E44 : zE (fun o => (o0 ≤ o ∧ o < o0 + 10)) w w5 := E42.zsf e43 (by first | omega | (simp only [zIsLand, zIsSheet] at *; omega))
  obtain ⟨w7, e45, h⟩ := zbind h
  have E46 : zE (fun o => (o0 ≤ o ∧ o < o0 + 10)) w w7 := E44.zsf e45 (by first | omega | (simp only [zIsLand, zIsSheet] at *; omega))
  obtain ⟨w9, e47, h⟩ := zbind h
  have E48 : zE (fun o => (o0 ≤ o ∧ o < o0 + 10)) w w9 := E46.zcpi e47 (by first | omega | (simp only [zIsLand, zIsSheet] at *; omega))
  obtain ⟨w11, e49, h⟩ := zbind h
  have E50 : zE (fun o => (o0 ≤ o ∧ o < o0 + 10)) w w11 := E48.zcpi e49 (by first | omega | (simp only [zIsLand, zIsSheet] at *; omega))
  obtain ⟨w13, e51, h⟩ := zbind h
  have E52 : zE (fun o => (o0 ≤ o ∧ o < o0 + 10)) w w13 := E50.zcpi e51 (by first | omega | (simp only [zIsLand, zIsSheet] at *; omega))
  obtain ⟨w15, e53, h⟩ := zbind h
  have E54 : zE (fun o => (o0 ≤ o ∧ o < o0 + 10)) w w15 := E52.zsf e53 (by first | omega | (simp only [zIsLand, zIsSheet] at *; omega))
  obtain ⟨w17, e55, h⟩ := zbind h
  have E56 : zE (fun o => (o0 ≤ o ∧ o < o0 + 10)) w w17 := E54.zsf e55 (by first | omega | (simp only [zIsLand, zIsSheet] at *; omega))
  obtain ⟨w19, e57, h⟩ := zbind h
  have E58 : zE (fun o => (o0 ≤ o ∧ o < o0 + 10)) w w19 := E56.zsf e57 (by first | omega | (simp only [zIsLand, zIsSheet] at *; omega))
  obtain ⟨w21, e59, h⟩ := zbind h
  have E60 : zE (fun o => (o0 ≤ o ∧ o < o0 + 10)) w w21 := E58.zcpi e59 (by first | omega | (simp only [zIsLand, zIsSheet] at *; omega))
  obtain ⟨w23, e61, h⟩ := zbind h
  have E62 : zE (fun o => (o0 ≤ o ∧ o < o0 + 10)) w w23 := E60.zcpi e61 (by first | omega | (simp only [zIsLand, zIsSheet] at *; omega))
  obtain ⟨w25, e63, h⟩ := zbind h
  have E64 : zE (fun o => (o0 ≤ o ∧ o < o0 + 10)) w w25 := E62.zcpi e63 (by first | omega | (simp only [zIsLand, zIsSheet] at *; omega))
  obtain ⟨w27, e65, h⟩ := zbind h
  have E66 : zE (fun o => (o0 ≤ o ∧ o < o0 + 10)) w w27 := E64.zcpi e65 (by first | omega | (simp only [zIsLand, zIsSheet] at *; omega))
  obtain ⟨w29, e67, h⟩ := zbind h
  have E68 : zE (fun o => (o0 ≤ o ∧ o < o0 + 10)) w w29 := E66.zcpi e67 (by first | omega | (simp only [zIsLand, zIsSheet] at *; omega))
  obtain rfl := Option.some.inj h
  exact E68
set_option maxRecDepth 100000 in
theorem elX5_lookAhead_40 {p1 : Int32} {p2 : Int32} {p3 : Int32} {x7 : Int32}  : ∀ (n : Nat) (w13 : zW) (x12 : Int32) (s : zW), lpX5_lookAhead_40 p1 p2 p3 x7 n w13 x12 = some s → zE (fun o => o = 40) w13 s := by
  intro n
  induction n with
  | zero => intro w13 x12 s h; simp [lpX5_lookAhead_40] at h
  | succ n ih =>
    intro w13 x12 s h
    rw [lpX5_lookAhead_40] at h
    have E0 : zE (fun o => o = 40) w13 w13 := zE.rfl
    by_cases c69 : (w13.1 40 2) ≤ x12
    · replace h := zite_t c69 h
      obtain rfl := Option.some.inj h
      exact E0
    · replace h := zite_f c69 h
      by_cases c70 : 0 ≤ (w13.1 40 7)
      · replace h := zite_t c70 h
        obtain rfl := Option.some.inj h
        exact E0
      · replace h := zite_f c70 h
        obtain ⟨v16, e71, h⟩ := zbind h
        obtain ⟨w24, e72, h⟩ := zbind h
        have E73 : zE (fun o => o = 40) w13 w24 := by
          by_cases c74 : (1000000 : Int32) ≤ v16
          · replace e72 := zite_t c74 e72
            obtain rfl := Option.some.inj e72
            exact E0
          · replace e72 := zite_f c74 e72
            obtain ⟨v28, e75, e72⟩ := zbind e72
            by_cases c76 : v28 = x7
            · replace e72 := zite_t c76 e72
              obtain ⟨w29, e77, e72⟩ := zbind e72
              have E78 : zE (fun o => o = 40) w13 w29 := E0.zsf e77 (by first | omega | (simp only [zIsLand, zIsSheet] at *; omega))
              obtain ⟨w31, e79, e72⟩ := zbind e72
              have E80 : zE (fun o => o = 40) w13 w31 := E78.zsf e79 (by first | omega | (simp only [zIsLand, zIsSheet] at *; omega))
              obtain rfl := Option.some.inj e72
              exact E80
            · replace e72 := zite_f c76 e72
              obtain rfl := Option.some.inj e72
              exact E0
        exact E73.trs (ih _ _ _ h)
set_option maxRecDepth 100000 in
theorem eX5_lookAhead {w : zW} {p1 : Int32} {p2 : Int32} {p3 : Int32} {w' : zW} (h : fX5_lookAhead w p1 p2 p3 = some w') : zE (fun o => o = 40) w w' := by
  unfold fX5_lookAhead at h
  have E0 : zE (fun o => o = 40) w w := zE.rfl
  obtain ⟨w1, e81, h⟩ := zbind h
  have E82 : zE (fun o => o = 40) w w1 := E0.zsf e81 (by first | omega | (simp only [zIsLand, zIsSheet] at *; omega))
  obtain ⟨w3, e83, h⟩ := zbind h
  have E84 : zE (fun o => o = 40) w w3 := E82.zsf e83 (by first | omega | (simp only [zIsLand, zIsSheet] at *; omega))
  obtain ⟨x7, e85, h⟩ := zbind h
  by_cases c86 : x7 < (1000000 : Int32)
  · replace h := zite_t c86 h
    obtain ⟨w39, e87, h⟩ := zbind h
    have E88 : zE (fun o => o = 40) w w39 := E84.tr (elX5_lookAhead_40 _ _ _ _ e87) (fun o h => by first | omega | (simp only [zIsLand, zIsSheet] at *; omega))
    obtain rfl := Option.some.inj h
    exact E88
  · replace h := zite_f c86 h
    obtain rfl := Option.some.inj h
    exact E84
set_option maxRecDepth 100000 in
theorem eX0_passDay {w : zW} {o0 : Nat} {p1 : Int32} {p3 : Int32} {w' : zW} (h : fX0_passDay w o0 p1 p3 = some w') : zE (fun o => (o0 ≤ o ∧ o < o0 + 10) ∨ o = 40) w w' := by
  unfold fX0_passDay at h
  have E0 : zE (fun o => (o0 ≤ o ∧ o < o0 + 10) ∨ o = 40) w w := zE.rfl
  obtain ⟨v2, e89, h⟩ := zbind h
  by_cases c90 : v2 = 0
  · replace h := zite_t c90 h
    obtain rfl := Option.some.inj h
    exact E0
  · replace h := zite_f c90 h
    obtain ⟨v3, e91, h⟩ := zbind h
    obtain ⟨w16, e92, h⟩ := zbind h
    have E93 : zE (fun o => (o0 ≤ o ∧ o < o0 + 10) ∨ o = 40) w w16 := by
      by_cases c94 : v3 = 0
      · replace e92 := zite_t c94 e92
        obtain ⟨v19, e95, e92⟩ := zbind e92
        obtain ⟨v21, e96, e92⟩ := zbind e92
        obtain ⟨w24, e97, e92⟩ := zbind e92
        have E98 : zE (fun o => (o0 ≤ o ∧ o < o0 + 10) ∨ o = 40) w w24 := E0.tr (eX5_lookAhead e97) (fun o h => by first | omega | (simp only [zIsLand, zIsSheet] at *; omega))
        by_cases c99 : (w24.1 40 7) < 0
        · replace e92 := zite_t c99 e92
          obtain rfl := Option.some.inj e92
          exact E98
        · replace e92 := zite_f c99 e92
          obtain ⟨w25, e100, e92⟩ := zbind e92
          have E101 : zE (fun o => (o0 ≤ o ∧ o < o0 + 10) ∨ o = 40) w w25 := E98.zwr e100 (by first | omega | (simp only [zIsLand, zIsSheet] at *; omega))
          obtain ⟨w27, e102, e92⟩ := zbind e92
          have E103 : zE (fun o => (o0 ≤ o ∧ o < o0 + 10) ∨ o = 40) w w27 := E101.zwr e102 (by first | omega | (simp only [zIsLand, zIsSheet] at *; omega))
          obtain rfl := Option.some.inj e92
          exact E103
      · replace e92 := zite_f c94 e92
        obtain rfl := Option.some.inj e92
        exact E0
    obtain ⟨v30, e104, h⟩ := zbind h
    by_cases c105 : v30 ≤ 0
    · replace h := zite_t c105 h
      obtain rfl := Option.some.inj h
      exact E93
    · replace h := zite_f c105 h
      obtain ⟨v32, e106, h⟩ := zbind h
      obtain ⟨w34, e107, h⟩ := zbind h
      have E108 : zE (fun o => (o0 ≤ o ∧ o < o0 + 10) ∨ o = 40) w w34 := E93.zwr e107 (by first | omega | (simp only [zIsLand, zIsSheet] at *; omega))
      obtain rfl := Option.some.inj h
      exact E108
set_option maxRecDepth 100000 in
theorem eX0_setHeight {w : zW} {o0 : Nat} {p1 : Int32} {p2 : Int32} {w' : zW} (h : fX0_setHeight w o0 p1 p2 = some w') : zE (fun o => (o0 ≤ o ∧ o < o0 + 10)) w w' := by
  unfold fX0_setHeight at h
  have E0 : zE (fun o => (o0 ≤ o ∧ o < o0 + 10)) w w := zE.rfl
  obtain ⟨v2, e109, h⟩ := zbind h
  by_cases c110 : v2 = 0
  · replace h := zite_t c110 h
    obtain rfl := Option.some.inj h
    exact E0
  · replace h := zite_f c110 h
    obtain ⟨w3, e111, h⟩ := zbind h
    have E112 : zE (fun o => (o0 ≤ o ∧ o < o0 + 10)) w w3 := E0.zwr e111 (by first | omega | (simp only [zIsLand, zIsSheet] at *; omega))
    obtain rfl := Option.some.inj h
    exact E112
set_option maxRecDepth 100000 in
theorem elX4_passNumber_5   : ∀ (n : Nat) (w3 : zW) (s : zW), lpX4_passNumber_5  n w3 = some s → zE (fun o => o = 43) w3 s := by
  intro n
  induction n with
  | zero => intro w3 s h; simp [lpX4_passNumber_5] at h
  | succ n ih =>
    intro w3 s h
    rw [lpX4_passNumber_5] at h
    have E0 : zE (fun o => o = 43) w3 w3 := zE.rfl
    by_cases c113 : (w3.1 43 1) ≤ (w3.1 43 3)
    · replace h := zite_t c113 h
      obtain rfl := Option.some.inj h
      exact E0
    · replace h := zite_f c113 h
      obtain ⟨v6, e114, h⟩ := zbind h
      obtain ⟨v8, e115, h⟩ := zbind h
      by_cases c116 : v8 = (2 : Int32)
      · replace h := zite_t c116 h
        obtain ⟨v10, e117, h⟩ := zbind h
        obtain ⟨w11, e118, h⟩ := zbind h
        have E119 : zE (fun o => o = 43) w3 w11 := E0.zsf e118 (by first | omega | (simp only [zIsLand, zIsSheet] at *; omega))
        obtain ⟨w13, e120, h⟩ := zbind h
        have E121 : zE (fun o => o = 43) w3 w13 := E119.zsf e120 (by first | omega | (simp only [zIsLand, zIsSheet] at *; omega))
        exact E121.trs (ih _ _ h)
      · replace h := zite_f c116 h
        obtain rfl := Option.some.inj h
        exact E0
set_option maxRecDepth 100000 in
theorem eX4_passNumber {w : zW}  {w' : zW} (h : fX4_passNumber w  = some w') : zE (fun o => o = 43) w w' := by
  unfold fX4_passNumber at h
  have E0 : zE (fun o => o = 43) w w := zE.rfl
  obtain ⟨w1, e122, h⟩ := zbind h
  have E123 : zE (fun o => o = 43) w w1 := E0.zsf e122 (by first | omega | (simp only [zIsLand, zIsSheet] at *; omega))
  obtain ⟨w19, e124, h⟩ := zbind h
  have E125 : zE (fun o => o = 43) w w19 := E123.tr (elX4_passNumber_5 _ _ _ e124) (fun o h => by first | omega | (simp only [zIsLand, zIsSheet] at *; omega))
  obtain rfl := Option.some.inj h
  exact E125
set_option maxRecDepth 100000 in
theorem elX4_passWord_0   : ∀ (n : Nat) (w1 : zW) (s : zW), lpX4_passWord_0  n w1 = some s → zE (fun o => o = 43) w1 s := by
  intro n
  induction n with
  | zero => intro w1 s h; simp [lpX4_passWord_0] at h
  | succ n ih =>
    intro w1 s h
    rw [lpX4_passWord_0] at h
    have E0 : zE (fun o => o = 43) w1 w1 := zE.rfl
    by_cases c126 : (w1.1 43 1) ≤ (w1.1 43 3)
    · replace h := zite_t c126 h
      obtain rfl := Option.some.inj h
      exact E0
    · replace h := zite_f c126 h
      obtain ⟨v4, e127, h⟩ := zbind h
      obtain ⟨v6, e128, h⟩ := zbind h
      by_cases c129 : v6 = (1 : Int32)
      · replace h := zite_t c129 h
        obtain ⟨w7, e130, h⟩ := zbind h
        have E131 : zE (fun o => o = 43) w1 w7 := E0.zsf e130 (by first | omega | (simp only [zIsLand, zIsSheet] at *; omega))
        exact E131.trs (ih _ _ h)
      · replace h := zite_f c129 h
        obtain rfl := Option.some.inj h
        exact E0
set_option maxRecDepth 100000 in
theorem eX4_passWord {w : zW}  {w' : zW} (h : fX4_passWord w  = some w') : zE (fun o => o = 43) w w' := by
  unfold fX4_passWord at h
  have E0 : zE (fun o => o = 43) w w := zE.rfl
  obtain ⟨w13, e132, h⟩ := zbind h
  have E133 : zE (fun o => o = 43) w w13 := E0.tr (elX4_passWord_0 _ _ _ e132) (fun o h => by first | omega | (simp only [zIsLand, zIsSheet] at *; omega))
  obtain rfl := Option.some.inj h
  exact E133
set_option maxRecDepth 100000 in
theorem elX4_advance_8   : ∀ (n : Nat) (w3 : zW) (s : zW), lpX4_advance_8  n w3 = some s → zE (fun o => o = 43) w3 s := by
  intro n
  induction n with
  | zero => intro w3 s h; simp [lpX4_advance_8] at h
  | succ n ih =>
    intro w3 s h
    rw [lpX4_advance_8] at h
    have E0 : zE (fun o => o = 43) w3 w3 := zE.rfl
    by_cases c134 : (w3.1 43 1) ≤ (w3.1 43 2)
    · replace h := zite_t c134 h
      obtain rfl := Option.some.inj h
      exact E0
    · replace h := zite_f c134 h
      obtain ⟨v6, e135, h⟩ := zbind h
      by_cases c136 : v6 = (32 : Int32)
      · replace h := zite_t c136 h
        obtain ⟨w7, e137, h⟩ := zbind h
        have E138 : zE (fun o => o = 43) w3 w7 := E0.zsf e137 (by first | omega | (simp only [zIsLand, zIsSheet] at *; omega))
        exact E138.trs (ih _ _ h)
      · replace h := zite_f c136 h
        obtain rfl := Option.some.inj h
        exact E0
set_option maxRecDepth 100000 in
theorem eX4_advance {w : zW}  {w' : zW} (h : fX4_advance w  = some w') : zE (fun o => o = 43) w w' := by
  unfold fX4_advance at h
  have E0 : zE (fun o => o = 43) w w := zE.rfl
  obtain ⟨w1, e139, h⟩ := zbind h
  have E140 : zE (fun o => o = 43) w w1 := E0.zsf e139 (by first | omega | (simp only [zIsLand, zIsSheet] at *; omega))
  obtain ⟨w13, e141, h⟩ := zbind h
  have E142 : zE (fun o => o = 43) w w13 := E140.tr (elX4_advance_8 _ _ _ e141) (fun o h => by first | omega | (simp only [zIsLand, zIsSheet] at *; omega))
  obtain ⟨v15, e143, h⟩ := zbind h
  obtain ⟨v17, e144, h⟩ := zbind h
  obtain ⟨w18, e145, h⟩ := zbind h
  have E146 : zE (fun o => o = 43) w w18 := E142.zsf e145 (by first | omega | (simp only [zIsLand, zIsSheet] at *; omega))
  obtain ⟨w20, e147, h⟩ := zbind h
  have E148 : zE (fun o => o = 43) w w20 := E146.zsf e147 (by first | omega | (simp only [zIsLand, zIsSheet] at *; omega))
  by_cases c149 : (w20.1 43 4) = (3 : Int32)
  · replace h := zite_t c149 h
    obtain ⟨w22, e150, h⟩ := zbind h
    have E151 : zE (fun o => o = 43) w w22 := E148.zsf e150 (by first | omega | (simp only [zIsLand, zIsSheet] at *; omega))
    obtain rfl := Option.some.inj h
    exact E151
  · replace h := zite_f c149 h
    by_cases c152 : (w20.1 43 4) = (4 : Int32)
    · replace h := zite_t c152 h
      obtain ⟨w30, e153, h⟩ := zbind h
      have E154 : zE (fun o => o = 43) w w30 := E148.zsf e153 (by first | omega | (simp only [zIsLand, zIsSheet] at *; omega))
      obtain rfl := Option.some.inj h
      exact E154
    · replace h := zite_f c152 h
      by_cases c155 : (w20.1 43 4) = (2 : Int32)
      · replace h := zite_t c155 h
        obtain ⟨w28, e156, h⟩ := zbind h
        have E157 : zE (fun o => o = 43) w w28 := E148.tr (eX4_passNumber e156) (fun o h => by first | omega | (simp only [zIsLand, zIsSheet] at *; omega))
        obtain rfl := Option.some.inj h
        exact E157
      · replace h := zite_f c155 h
        by_cases c158 : (w20.1 43 4) = (1 : Int32)
        · replace h := zite_t c158 h
          obtain ⟨w25, e159, h⟩ := zbind h
          have E160 : zE (fun o => o = 43) w w25 := E148.tr (eX4_passWord e159) (fun o h => by first | omega | (simp only [zIsLand, zIsSheet] at *; omega))
          obtain rfl := Option.some.inj h
          exact E160
        · replace h := zite_f c158 h
          obtain rfl := Option.some.inj h
          exact E148
set_option maxRecDepth 100000 in
theorem eX1_bringEvery {w : zW} {o1 : Nat} {r : Int32} {w' : zW} (h : fX1_bringEvery w o1 = some (r, w')) : zE (fun o => (o1 ≤ o ∧ o < o1 + 10) ∨ o = 43) w w' := by
  unfold fX1_bringEvery at h
  have E0 : zE (fun o => (o1 ≤ o ∧ o < o1 + 10) ∨ o = 43) w w := zE.rfl
  obtain ⟨w2, e161, h⟩ := zbind h
  have E162 : zE (fun o => (o1 ≤ o ∧ o < o1 + 10) ∨ o = 43) w w2 := E0.tr (eX4_advance e161) (fun o h => by first | omega | (simp only [zIsLand, zIsSheet] at *; omega))
  obtain ⟨v4, e163, h⟩ := zbind h
  by_cases c164 : v4 = 0
  · replace h := zite_t c164 h
    obtain ⟨rfl, rfl⟩ := zpi2 h
    exact E162
  · replace h := zite_f c164 h
    obtain ⟨w5, e165, h⟩ := zbind h
    have E166 : zE (fun o => (o1 ≤ o ∧ o < o1 + 10) ∨ o = 43) w w5 := E162.zsf e165 (by first | omega | (simp only [zIsLand, zIsSheet] at *; omega))
    obtain ⟨w8, e167, h⟩ := zbind h
    have E168 : zE (fun o => (o1 ≤ o ∧ o < o1 + 10) ∨ o = 43) w w8 := E166.tr (eX4_advance e167) (fun o h => by first | omega | (simp only [zIsLand, zIsSheet] at *; omega))
    obtain ⟨rfl, rfl⟩ := zpi2 h
    exact E168
set_option maxRecDepth 100000 in
theorem eX1_bringLetter {w : zW} {o1 : Nat} {p2 : Int32} {r : Int32} {w' : zW} (h : fX1_bringLetter w o1 p2 = some (r, w')) : zE (fun o => (o1 ≤ o ∧ o < o1 + 10) ∨ o = 43) w w' := by
  unfold fX1_bringLetter at h
  have E0 : zE (fun o => (o1 ≤ o ∧ o < o1 + 10) ∨ o = 43) w w := zE.rfl
  obtain ⟨v2, e169, h⟩ := zbind h
  by_cases c170 : v2 = 0
  · replace h := zite_t c170 h
    obtain ⟨w4, e171, h⟩ := zbind h
    have E172 : zE (fun o => (o1 ≤ o ∧ o < o1 + 10) ∨ o = 43) w w4 := E0.tr (eX4_advance e171) (fun o h => by first | omega | (simp only [zIsLand, zIsSheet] at *; omega))
    obtain ⟨x5, e173, h⟩ := zbind h
    obtain ⟨v8, e174, h⟩ := zbind h
    by_cases c175 : v8 = 0
    · replace h := zite_t c175 h
      obtain ⟨rfl, rfl⟩ := zpi2 h
      exact E172
    · replace h := zite_f c175 h
      obtain ⟨w10, e176, h⟩ := zbind h
      have E177 : zE (fun o => (o1 ≤ o ∧ o < o1 + 10) ∨ o = 43) w w10 := E172.tr (eX4_advance e176) (fun o h => by first | omega | (simp only [zIsLand, zIsSheet] at *; omega))
      obtain ⟨v12, e178, h⟩ := zbind h
      by_cases c179 : v12 = 0
      · replace h := zite_t c179 h
        obtain ⟨rfl, rfl⟩ := zpi2 h
        exact E177
      · replace h := zite_f c179 h
        obtain ⟨w14, e180, h⟩ := zbind h
        have E181 : zE (fun o => (o1 ≤ o ∧ o < o1 + 10) ∨ o = 43) w w14 := E177.tr (eX4_advance e180) (fun o h => by first | omega | (simp only [zIsLand, zIsSheet] at *; omega))
        obtain ⟨v16, e182, h⟩ := zbind h
        by_cases c183 : v16 = 0
        · replace h := zite_t c183 h
          obtain ⟨rfl, rfl⟩ := zpi2 h
          exact E181
        · replace h := zite_f c183 h
          obtain ⟨v18, w19, e184, h⟩ := zb2_inv h
          have E185 : zE (fun o => (o1 ≤ o ∧ o < o1 + 10) ∨ o = 43) w w19 := E181.tr (eX0_addLetter e184) (fun o h => by first | omega | (simp only [zIsLand, zIsSheet] at *; omega))
          obtain ⟨w21, e186, h⟩ := zbind h
          have E187 : zE (fun o => (o1 ≤ o ∧ o < o1 + 10) ∨ o = 43) w w21 := E185.tr (eX4_advance e186) (fun o h => by first | omega | (simp only [zIsLand, zIsSheet] at *; omega))
          obtain ⟨rfl, rfl⟩ := zpi2 h
          exact E187
  · replace h := zite_f c170 h
    obtain ⟨rfl, rfl⟩ := zpi2 h
    exact E0
set_option maxRecDepth 100000 in
theorem eX1_bringRoad {w : zW} {o1 : Nat} {r : Int32} {w' : zW} (h : fX1_bringRoad w o1 = some (r, w')) : zE (fun o => (o1 ≤ o ∧ o < o1 + 10) ∨ o = 43) w w' := by
  unfold fX1_bringRoad at h
  have E0 : zE (fun o => (o1 ≤ o ∧ o < o1 + 10) ∨ o = 43) w w := zE.rfl
  obtain ⟨v2, e188, h⟩ := zbind h
  by_cases c189 : v2 = 0
  · replace h := zite_t c189 h
    obtain ⟨w4, e190, h⟩ := zbind h
    have E191 : zE (fun o => (o1 ≤ o ∧ o < o1 + 10) ∨ o = 43) w w4 := E0.tr (eX4_advance e190) (fun o h => by first | omega | (simp only [zIsLand, zIsSheet] at *; omega))
    obtain ⟨x5, e192, h⟩ := zbind h
    obtain ⟨v8, e193, h⟩ := zbind h
    by_cases c194 : v8 = 0
    · replace h := zite_t c194 h
      obtain ⟨rfl, rfl⟩ := zpi2 h
      exact E191
    · replace h := zite_f c194 h
      obtain ⟨w10, e195, h⟩ := zbind h
      have E196 : zE (fun o => (o1 ≤ o ∧ o < o1 + 10) ∨ o = 43) w w10 := E191.tr (eX4_advance e195) (fun o h => by first | omega | (simp only [zIsLand, zIsSheet] at *; omega))
      obtain ⟨v12, e197, h⟩ := zbind h
      by_cases c198 : v12 = 0
      · replace h := zite_t c198 h
        obtain ⟨rfl, rfl⟩ := zpi2 h
        exact E196
      · replace h := zite_f c198 h
        obtain ⟨w14, e199, h⟩ := zbind h
        have E200 : zE (fun o => (o1 ≤ o ∧ o < o1 + 10) ∨ o = 43) w w14 := E196.tr (eX4_advance e199) (fun o h => by first | omega | (simp only [zIsLand, zIsSheet] at *; omega))
        obtain ⟨x15, e201, h⟩ := zbind h
        obtain ⟨v18, e202, h⟩ := zbind h
        by_cases c203 : v18 = 0
        · replace h := zite_t c203 h
          obtain ⟨rfl, rfl⟩ := zpi2 h
          exact E200
        · replace h := zite_f c203 h
          by_cases c204 : x5 = x15
          · replace h := zite_t c204 h
            obtain ⟨rfl, rfl⟩ := zpi2 h
            exact E200
          · replace h := zite_f c204 h
            obtain ⟨v20, e205, h⟩ := zbind h
            by_cases c206 : v20 = 0
            · replace h := zite_t c206 h
              obtain ⟨w22, e207, h⟩ := zbind h
              have E208 : zE (fun o => (o1 ≤ o ∧ o < o1 + 10) ∨ o = 43) w w22 := E200.tr (eX4_advance e207) (fun o h => by first | omega | (simp only [zIsLand, zIsSheet] at *; omega))
              obtain ⟨v24, e209, h⟩ := zbind h
              by_cases c210 : v24 = 0
              · replace h := zite_t c210 h
                obtain ⟨v26, w27, e211, h⟩ := zb2_inv h
                have E212 : zE (fun o => (o1 ≤ o ∧ o < o1 + 10) ∨ o = 43) w w27 := E208.tr (eX0_addRoad e211) (fun o h => by first | omega | (simp only [zIsLand, zIsSheet] at *; omega))
                obtain ⟨rfl, rfl⟩ := zpi2 h
                exact E212
              · replace h := zite_f c210 h
                obtain ⟨w29, e213, h⟩ := zbind h
                have E214 : zE (fun o => (o1 ≤ o ∧ o < o1 + 10) ∨ o = 43) w w29 := E208.tr (eX4_advance e213) (fun o h => by first | omega | (simp only [zIsLand, zIsSheet] at *; omega))
                obtain ⟨v31, e215, h⟩ := zbind h
                by_cases c216 : v31 = 0
                · replace h := zite_t c216 h
                  obtain ⟨rfl, rfl⟩ := zpi2 h
                  exact E214
                · replace h := zite_f c216 h
                  obtain ⟨x32, e217, h⟩ := zbind h
                  obtain ⟨w35, e218, h⟩ := zbind h
                  have E219 : zE (fun o => (o1 ≤ o ∧ o < o1 + 10) ∨ o = 43) w w35 := E214.tr (eX4_advance e218) (fun o h => by first | omega | (simp only [zIsLand, zIsSheet] at *; omega))
                  obtain ⟨v37, w38, e220, h⟩ := zb2_inv h
                  have E221 : zE (fun o => (o1 ≤ o ∧ o < o1 + 10) ∨ o = 43) w w38 := E219.tr (eX0_addRoad e220) (fun o h => by first | omega | (simp only [zIsLand, zIsSheet] at *; omega))
                  obtain ⟨rfl, rfl⟩ := zpi2 h
                  exact E221
            · replace h := zite_f c206 h
              obtain ⟨rfl, rfl⟩ := zpi2 h
              exact E200
  · replace h := zite_f c189 h
    obtain ⟨rfl, rfl⟩ := zpi2 h
    exact E0
set_option maxRecDepth 100000 in
theorem eX1_bringSlide {w : zW} {o1 : Nat} {r : Int32} {w' : zW} (h : fX1_bringSlide w o1 = some (r, w')) : zE (fun o => (o1 ≤ o ∧ o < o1 + 10) ∨ o = 43) w w' := by
  unfold fX1_bringSlide at h
  have E0 : zE (fun o => (o1 ≤ o ∧ o < o1 + 10) ∨ o = 43) w w := zE.rfl
  obtain ⟨w2, e222, h⟩ := zbind h
  have E223 : zE (fun o => (o1 ≤ o ∧ o < o1 + 10) ∨ o = 43) w w2 := E0.tr (eX4_advance e222) (fun o h => by first | omega | (simp only [zIsLand, zIsSheet] at *; omega))
  obtain ⟨x3, e224, h⟩ := zbind h
  obtain ⟨v6, e225, h⟩ := zbind h
  by_cases c226 : v6 = 0
  · replace h := zite_t c226 h
    obtain ⟨rfl, rfl⟩ := zpi2 h
    exact E223
  · replace h := zite_f c226 h
    obtain ⟨w8, e227, h⟩ := zbind h
    have E228 : zE (fun o => (o1 ≤ o ∧ o < o1 + 10) ∨ o = 43) w w8 := E223.tr (eX4_advance e227) (fun o h => by first | omega | (simp only [zIsLand, zIsSheet] at *; omega))
    obtain ⟨v10, e229, h⟩ := zbind h
    by_cases c230 : v10 = 0
    · replace h := zite_t c230 h
      obtain ⟨rfl, rfl⟩ := zpi2 h
      exact E228
    · replace h := zite_f c230 h
      obtain ⟨w12, e231, h⟩ := zbind h
      have E232 : zE (fun o => (o1 ≤ o ∧ o < o1 + 10) ∨ o = 43) w w12 := E228.tr (eX0_setHeight e231) (fun o h => by first | omega | (simp only [zIsLand, zIsSheet] at *; omega))
      obtain ⟨w14, e233, h⟩ := zbind h
      have E234 : zE (fun o => (o1 ≤ o ∧ o < o1 + 10) ∨ o = 43) w w14 := E232.tr (eX4_advance e233) (fun o h => by first | omega | (simp only [zIsLand, zIsSheet] at *; omega))
      obtain ⟨rfl, rfl⟩ := zpi2 h
      exact E234
set_option maxRecDepth 100000 in
theorem eX1_bringVillage {w : zW} {o1 : Nat} {r : Int32} {w' : zW} (h : fX1_bringVillage w o1 = some (r, w')) : zE (fun o => (o1 ≤ o ∧ o < o1 + 10) ∨ o = 43) w w' := by
  unfold fX1_bringVillage at h
  have E0 : zE (fun o => (o1 ≤ o ∧ o < o1 + 10) ∨ o = 43) w w := zE.rfl
  obtain ⟨v2, e235, h⟩ := zbind h
  by_cases c236 : v2 = 0
  · replace h := zite_t c236 h
    obtain ⟨w4, e237, h⟩ := zbind h
    have E238 : zE (fun o => (o1 ≤ o ∧ o < o1 + 10) ∨ o = 43) w w4 := E0.tr (eX4_advance e237) (fun o h => by first | omega | (simp only [zIsLand, zIsSheet] at *; omega))
    obtain ⟨v6, e239, h⟩ := zbind h
    by_cases c240 : v6 = 0
    · replace h := zite_t c240 h
      obtain ⟨rfl, rfl⟩ := zpi2 h
      exact E238
    · replace h := zite_f c240 h
      obtain ⟨x7, e241, h⟩ := zbind h
      obtain ⟨w10, e242, h⟩ := zbind h
      have E243 : zE (fun o => (o1 ≤ o ∧ o < o1 + 10) ∨ o = 43) w w10 := E238.tr (eX4_advance e242) (fun o h => by first | omega | (simp only [zIsLand, zIsSheet] at *; omega))
      obtain ⟨v12, e244, h⟩ := zbind h
      obtain ⟨w15, e245, h⟩ := zbind h
      have E246 : zE (fun o => (o1 ≤ o ∧ o < o1 + 10) ∨ o = 43) w w15 := by
        by_cases c247 : v12 = 0
        · replace e245 := zite_t c247 e245
          obtain rfl := Option.some.inj e245
          exact E243
        · replace e245 := zite_f c247 e245
          obtain ⟨w19, e248, e245⟩ := zbind e245
          have E249 : zE (fun o => (o1 ≤ o ∧ o < o1 + 10) ∨ o = 43) w w19 := E243.tr (eX4_advance e248) (fun o h => by first | omega | (simp only [zIsLand, zIsSheet] at *; omega))
          obtain rfl := Option.some.inj e245
          exact E249
      obtain ⟨v21, w22, e250, h⟩ := zb2_inv h
      have E251 : zE (fun o => (o1 ≤ o ∧ o < o1 + 10) ∨ o = 43) w w22 := E246.tr (eX0_addVillage e250) (fun o h => by first | omega | (simp only [zIsLand, zIsSheet] at *; omega))
      obtain ⟨rfl, rfl⟩ := zpi2 h
      exact E251
  · replace h := zite_f c236 h
    obtain ⟨rfl, rfl⟩ := zpi2 h
    exact E0
set_option maxRecDepth 100000 in
theorem eX1_bringItem {w : zW} {o1 : Nat} {r : Int32} {w' : zW} (h : fX1_bringItem w o1 = some (r, w')) : zE (fun o => (o1 ≤ o ∧ o < o1 + 10) ∨ o = 43) w w' := by
  unfold fX1_bringItem at h
  have E0 : zE (fun o => (o1 ≤ o ∧ o < o1 + 10) ∨ o = 43) w w := zE.rfl
  obtain ⟨v2, e252, h⟩ := zbind h
  by_cases c253 : v2 = 0
  · replace h := zite_t c253 h
    obtain ⟨v4, e254, h⟩ := zbind h
    by_cases c255 : v4 = 0
    · replace h := zite_t c255 h
      obtain ⟨v6, e256, h⟩ := zbind h
      by_cases c257 : v6 = 0
      · replace h := zite_t c257 h
        obtain ⟨v8, e258, h⟩ := zbind h
        by_cases c259 : v8 = 0
        · replace h := zite_t c259 h
          obtain ⟨v10, e260, h⟩ := zbind h
          by_cases c261 : v10 < 0
          · replace h := zite_t c261 h
            obtain ⟨rfl, rfl⟩ := zpi2 h
            exact E0
          · replace h := zite_f c261 h
            obtain ⟨v12, w13, e262, h⟩ := zb2_inv h
            have E263 : zE (fun o => (o1 ≤ o ∧ o < o1 + 10) ∨ o = 43) w w13 := E0.tr (eX1_bringLetter e262) (fun o h => by first | omega | (simp only [zIsLand, zIsSheet] at *; omega))
            by_cases c264 : v12 = 0
            · replace h := zite_t c264 h
              obtain ⟨rfl, rfl⟩ := zpi2 h
              exact E263
            · replace h := zite_f c264 h
              obtain ⟨rfl, rfl⟩ := zpi2 h
              exact E263
        · replace h := zite_f c259 h
          obtain ⟨v17, w18, e265, h⟩ := zb2_inv h
          have E266 : zE (fun o => (o1 ≤ o ∧ o < o1 + 10) ∨ o = 43) w w18 := E0.tr (eX1_bringEvery e265) (fun o h => by first | omega | (simp only [zIsLand, zIsSheet] at *; omega))
          obtain ⟨b19, e267, h⟩ := zbind h
          obtain ⟨rfl, rfl⟩ := zpi2 h
          exact E266
      · replace h := zite_f c257 h
        obtain ⟨v23, w24, e268, h⟩ := zb2_inv h
        have E269 : zE (fun o => (o1 ≤ o ∧ o < o1 + 10) ∨ o = 43) w w24 := E0.tr (eX1_bringSlide e268) (fun o h => by first | omega | (simp only [zIsLand, zIsSheet] at *; omega))
        obtain ⟨b25, e270, h⟩ := zbind h
        obtain ⟨rfl, rfl⟩ := zpi2 h
        exact E269
    · replace h := zite_f c255 h
      obtain ⟨v29, w30, e271, h⟩ := zb2_inv h
      have E272 : zE (fun o => (o1 ≤ o ∧ o < o1 + 10) ∨ o = 43) w w30 := E0.tr (eX1_bringRoad e271) (fun o h => by first | omega | (simp only [zIsLand, zIsSheet] at *; omega))
      obtain ⟨b31, e273, h⟩ := zbind h
      obtain ⟨rfl, rfl⟩ := zpi2 h
      exact E272
  · replace h := zite_f c253 h
    obtain ⟨v35, w36, e274, h⟩ := zb2_inv h
    have E275 : zE (fun o => (o1 ≤ o ∧ o < o1 + 10) ∨ o = 43) w w36 := E0.tr (eX1_bringVillage e274) (fun o h => by first | omega | (simp only [zIsLand, zIsSheet] at *; omega))
    obtain ⟨b37, e276, h⟩ := zbind h
    obtain ⟨rfl, rfl⟩ := zpi2 h
    exact E275
set_option maxRecDepth 100000 in
theorem eX4_rewind {w : zW}  {w' : zW} (h : fX4_rewind w  = some w') : zE (fun o => o = 43) w w' := by
  unfold fX4_rewind at h
  have E0 : zE (fun o => o = 43) w w := zE.rfl
  obtain ⟨w1, e277, h⟩ := zbind h
  have E278 : zE (fun o => o = 43) w w1 := E0.zsf e277 (by first | omega | (simp only [zIsLand, zIsSheet] at *; omega))
  obtain ⟨w4, e279, h⟩ := zbind h
  have E280 : zE (fun o => o = 43) w w4 := E278.tr (eX4_advance e279) (fun o h => by first | omega | (simp only [zIsLand, zIsSheet] at *; omega))
  obtain rfl := Option.some.inj h
  exact E280
set_option maxRecDepth 100000 in
theorem elX1_bring_6 {o1 : Nat}  : ∀ (n : Nat) (w4 : zW) (x3 : Int32) (s : ((Int32 × zW) ⊕ zW)), lpX1_bring_6 o1 n w4 x3 = some s → (∀ a, s = .inl a → zE (fun o => (o1 ≤ o ∧ o < o1 + 10) ∨ o = 43) w4 a.2) ∧ (∀ a, s = .inr a → zE (fun o => (o1 ≤ o ∧ o < o1 + 10) ∨ o = 43) w4 a) := by
  intro n
  induction n with
  | zero => intro w4 x3 s h; simp [lpX1_bring_6] at h
  | succ n ih =>
    intro w4 x3 s h
    rw [lpX1_bring_6] at h
    have E0 : zE (fun o => (o1 ≤ o ∧ o < o1 + 10) ∨ o = 43) w4 w4 := zE.rfl
    by_cases c281 : (120 : Int32) < x3
    · replace h := zite_t c281 h
      obtain rfl := Option.some.inj h
      exact ⟨fun a ha => (nomatch ha), fun a ha => (by obtain rfl := Sum.inr.inj ha; exact E0)⟩
    · replace h := zite_f c281 h
      obtain ⟨v7, w8, e282, h⟩ := zb2_inv h
      have E283 : zE (fun o => (o1 ≤ o ∧ o < o1 + 10) ∨ o = 43) w4 w8 := E0.tr (eX1_bringItem e282) (fun o h => by first | omega | (simp only [zIsLand, zIsSheet] at *; omega))
      by_cases c284 : v7 = 0
      · replace h := zite_t c284 h
        obtain rfl := Option.some.inj h
        exact ⟨fun a ha => (by obtain rfl := Sum.inl.inj ha; exact E283), fun a ha => (nomatch ha)⟩
      · replace h := zite_f c284 h
        obtain ⟨v10, e285, h⟩ := zbind h
        by_cases c286 : v10 = 0
        · replace h := zite_t c286 h
          obtain ⟨v12, e287, h⟩ := zbind h
          by_cases c288 : v12 = 0
          · replace h := zite_t c288 h
            obtain rfl := Option.some.inj h
            exact ⟨fun a ha => (by obtain rfl := Sum.inl.inj ha; exact E283), fun a ha => (nomatch ha)⟩
          · replace h := zite_f c288 h
            obtain ⟨w14, e289, h⟩ := zbind h
            have E290 : zE (fun o => (o1 ≤ o ∧ o < o1 + 10) ∨ o = 43) w4 w14 := E283.tr (eX4_advance e289) (fun o h => by first | omega | (simp only [zIsLand, zIsSheet] at *; omega))
            exact ⟨fun a ha => E290.trs ((ih _ _ _ h).1 a ha), fun a ha => E290.trs ((ih _ _ _ h).2 a ha)⟩
        · replace h := zite_f c286 h
          obtain rfl := Option.some.inj h
          exact ⟨fun a ha => (by obtain rfl := Sum.inl.inj ha; exact E283), fun a ha => (nomatch ha)⟩
set_option maxRecDepth 100000 in
theorem eX1_bring {w : zW} {o1 : Nat} {r : Int32} {w' : zW} (h : fX1_bring w o1 = some (r, w')) : zE (fun o => (o1 ≤ o ∧ o < o1 + 10) ∨ o = 43) w w' := by
  unfold fX1_bring at h
  have E0 : zE (fun o => (o1 ≤ o ∧ o < o1 + 10) ∨ o = 43) w w := zE.rfl
  obtain ⟨w2, e294, h⟩ := zbind h
  have E295 : zE (fun o => (o1 ≤ o ∧ o < o1 + 10) ∨ o = 43) w w2 := E0.tr (eX4_rewind e294) (fun o h => by first | omega | (simp only [zIsLand, zIsSheet] at *; omega))
  rcases zbs_inv h with e296 | ⟨w21, e296, h⟩
  · exact E295.tr ((elX1_bring_6 _ _ _ _ e296).1 _ rfl) (fun o h => by first | omega | (simp only [zIsLand, zIsSheet] at *; omega))
  · have E297 := E295.tr ((elX1_bring_6 _ _ _ _ e296).2 _ rfl) (fun o h => by first | omega | (simp only [zIsLand, zIsSheet] at *; omega))
    obtain ⟨rfl, rfl⟩ := zpi2 h
    exact E297
set_option maxRecDepth 100000 in
theorem eX3_put {w : zW} {o0 : Nat} {p1 : Int32} {p2 : Int64} {w' : zW} (h : fX3_put w o0 p1 p2 = some w') : zE (fun o => (o0 ≤ o ∧ o < o0 + 2)) w w' := by
  unfold fX3_put at h
  have E0 : zE (fun o => (o0 ≤ o ∧ o < o0 + 2)) w w := zE.rfl
  obtain ⟨v2, e298, h⟩ := zbind h
  by_cases c299 : v2 = 0
  · replace h := zite_t c299 h
    obtain rfl := Option.some.inj h
    exact E0
  · replace h := zite_f c299 h
    obtain ⟨v4, e300, h⟩ := zbind h
    obtain ⟨w5, e301, h⟩ := zbind h
    have E302 : zE (fun o => (o0 ≤ o ∧ o < o0 + 2)) w w5 := E0.zwl e301 (by first | omega | (simp only [zIsLand, zIsSheet] at *; omega))
    obtain rfl := Option.some.inj h
    exact E302
set_option maxRecDepth 100000 in
theorem elX3_renew_29 {o0 : Nat}  : ∀ (n : Nat) (w9 : zW) (x8 : Int32) (s : zW), lpX3_renew_29 o0 n w9 x8 = some s → zE (fun o => (o0 ≤ o ∧ o < o0 + 2)) w9 s := by
  intro n
  induction n with
  | zero => intro w9 x8 s h; simp [lpX3_renew_29] at h
  | succ n ih =>
    intro w9 x8 s h
    rw [lpX3_renew_29] at h
    have E0 : zE (fun o => (o0 ≤ o ∧ o < o0 + 2)) w9 w9 := zE.rfl
    by_cases c303 : (40 : Int32) ≤ x8
    · replace h := zite_t c303 h
      obtain rfl := Option.some.inj h
      exact E0
    · replace h := zite_f c303 h
      obtain ⟨w11, e304, h⟩ := zbind h
      have E305 : zE (fun o => (o0 ≤ o ∧ o < o0 + 2)) w9 w11 := E0.zwl e304 (by first | omega | (simp only [zIsLand, zIsSheet] at *; omega))
      exact E305.trs (ih _ _ _ h)
set_option maxRecDepth 100000 in
theorem eX3_renew {w : zW} {o0 : Nat} {p1 : Int32} {p2 : Int32} {w' : zW} (h : fX3_renew w o0 p1 p2 = some w') : zE (fun o => (o0 ≤ o ∧ o < o0 + 2)) w w' := by
  unfold fX3_renew at h
  have E0 : zE (fun o => (o0 ≤ o ∧ o < o0 + 2)) w w := zE.rfl
  obtain ⟨w1, e306, h⟩ := zbind h
  have E307 : zE (fun o => (o0 ≤ o ∧ o < o0 + 2)) w w1 := E0.zsf e306 (by first | omega | (simp only [zIsLand, zIsSheet] at *; omega))
  obtain ⟨x3, e308, h⟩ := zbind h
  obtain ⟨w6, e309, h⟩ := zbind h
  have E310 : zE (fun o => (o0 ≤ o ∧ o < o0 + 2)) w w6 := E307.zsf e309 (by first | omega | (simp only [zIsLand, zIsSheet] at *; omega))
  obtain ⟨w16, e311, h⟩ := zbind h
  have E312 : zE (fun o => (o0 ≤ o ∧ o < o0 + 2)) w w16 := E310.tr (elX3_renew_29 _ _ _ _ e311) (fun o h => by first | omega | (simp only [zIsLand, zIsSheet] at *; omega))
  obtain rfl := Option.some.inj h
  exact E312
set_option maxRecDepth 100000 in
theorem eX4_append {w : zW} {p1 : Int32} {w' : zW} (h : fX4_append w p1 = some w') : zE (fun o => o = 43 ∨ o = 44) w w' := by
  unfold fX4_append at h
  have E0 : zE (fun o => o = 43 ∨ o = 44) w w := zE.rfl
  by_cases c313 : (w.1 43 1) < 0
  · replace h := zite_t c313 h
    obtain rfl := Option.some.inj h
    exact E0
  · replace h := zite_f c313 h
    by_cases c314 : (120 : Int32) ≤ (w.1 43 1)
    · replace h := zite_t c314 h
      obtain rfl := Option.some.inj h
      exact E0
    · replace h := zite_f c314 h
      obtain ⟨w1, e315, h⟩ := zbind h
      have E316 : zE (fun o => o = 43 ∨ o = 44) w w1 := E0.zsf e315 (by first | omega | (simp only [zIsLand, zIsSheet] at *; omega))
      obtain ⟨w3, e317, h⟩ := zbind h
      have E318 : zE (fun o => o = 43 ∨ o = 44) w w3 := E316.zwr e317 (by first | omega | (simp only [zIsLand, zIsSheet] at *; omega))
      obtain rfl := Option.some.inj h
      exact E318
set_option maxRecDepth 100000 in
theorem elX5_shortenBy_34 {x3 : Int32} {x5 : Int32} {v7 : Int32}  : ∀ (n : Nat) (w10 : zW) (x9 : Int32) (s : zW), lpX5_shortenBy_34 x3 x5 v7 n w10 x9 = some s → zE (fun o => o = 42) w10 s := by
  intro n
  induction n with
  | zero => intro w10 x9 s h; simp [lpX5_shortenBy_34] at h
  | succ n ih =>
    intro w10 x9 s h
    rw [lpX5_shortenBy_34] at h
    have E0 : zE (fun o => o = 42) w10 w10 := zE.rfl
    by_cases c319 : (w10.1 40 2) ≤ x9
    · replace h := zite_t c319 h
      obtain rfl := Option.some.inj h
      exact E0
    · replace h := zite_f c319 h
      obtain ⟨v12, e320, h⟩ := zbind h
      obtain ⟨v14, e321, h⟩ := zbind h
      obtain ⟨w16, e322, h⟩ := zbind h
      have E323 : zE (fun o => o = 42) w10 w16 := E0.zwr e322 (by first | omega | (simp only [zIsLand, zIsSheet] at *; omega))
      exact E323.trs (ih _ _ _ h)
set_option maxRecDepth 100000 in
theorem eX5_shortenBy {w : zW} {p1 : Int32} {p2 : Int32} {w' : zW} (h : fX5_shortenBy w p1 p2 = some w') : zE (fun o => o = 42) w w' := by
  unfold fX5_shortenBy at h
  have E0 : zE (fun o => o = 42) w w := zE.rfl
  obtain ⟨v2, e324, h⟩ := zbind h
  by_cases c325 : v2 = 0
  · replace h := zite_t c325 h
    obtain rfl := Option.some.inj h
    exact E0
  · replace h := zite_f c325 h
    obtain ⟨x3, e326, h⟩ := zbind h
    obtain ⟨x5, e327, h⟩ := zbind h
    obtain ⟨v7, e328, h⟩ := zbind h
    obtain ⟨w21, e329, h⟩ := zbind h
    have E330 : zE (fun o => o = 42) w w21 := E0.tr (elX5_shortenBy_34 _ _ _ _ e329) (fun o h => by first | omega | (simp only [zIsLand, zIsSheet] at *; omega))
    obtain rfl := Option.some.inj h
    exact E330
set_option maxRecDepth 100000 in
theorem elX5_joinSteps_18   : ∀ (n : Nat) (w4 : zW) (x3 : Int32) (s : zW), lpX5_joinSteps_18  n w4 x3 = some s → zE (fun o => o = 42) w4 s := by
  intro n
  induction n with
  | zero => intro w4 x3 s h; simp [lpX5_joinSteps_18] at h
  | succ n ih =>
    intro w4 x3 s h
    rw [lpX5_joinSteps_18] at h
    have E0 : zE (fun o => o = 42) w4 w4 := zE.rfl
    by_cases c331 : (w4.1 40 2) ≤ x3
    · replace h := zite_t c331 h
      obtain rfl := Option.some.inj h
      exact E0
    · replace h := zite_f c331 h
      obtain ⟨w6, e332, h⟩ := zbind h
      have E333 : zE (fun o => o = 42) w4 w6 := E0.zwr e332 (by first | omega | (simp only [zIsLand, zIsSheet] at *; omega))
      exact E333.trs (ih _ _ _ h)
set_option maxRecDepth 100000 in
theorem elX5_joinSteps_56 {x12 : Int32}  : ∀ (n : Nat) (w16 : zW) (x15 : Int32) (s : zW), lpX5_joinSteps_56 x12 n w16 x15 = some s → zE (fun o => o = 42) w16 s := by
  intro n
  induction n with
  | zero => intro w16 x15 s h; simp [lpX5_joinSteps_56] at h
  | succ n ih =>
    intro w16 x15 s h
    rw [lpX5_joinSteps_56] at h
    have E0 : zE (fun o => o = 42) w16 w16 := zE.rfl
    by_cases c334 : (w16.1 40 2) ≤ x15
    · replace h := zite_t c334 h
      obtain rfl := Option.some.inj h
      exact E0
    · replace h := zite_f c334 h
      obtain ⟨v18, e335, h⟩ := zbind h
      obtain ⟨w22, e336, h⟩ := zbind h
      have E337 : zE (fun o => o = 42) w16 w22 := by
        by_cases c338 : (1000000 : Int32) ≤ v18
        · replace e336 := zite_t c338 e336
          obtain rfl := Option.some.inj e336
          exact E0
        · replace e336 := zite_f c338 e336
          obtain ⟨w26, e339, e336⟩ := zbind e336
          have E340 : zE (fun o => o = 42) w16 w26 := E0.tr (eX5_shortenBy e339) (fun o h => by first | omega | (simp only [zIsLand, zIsSheet] at *; omega))
          obtain rfl := Option.some.inj e336
          exact E340
      exact E337.trs (ih _ _ _ h)
set_option maxRecDepth 100000 in
theorem elX5_joinSteps_46   : ∀ (n : Nat) (w13 : zW) (x12 : Int32) (s : zW), lpX5_joinSteps_46  n w13 x12 = some s → zE (fun o => o = 42) w13 s := by
  intro n
  induction n with
  | zero => intro w13 x12 s h; simp [lpX5_joinSteps_46] at h
  | succ n ih =>
    intro w13 x12 s h
    rw [lpX5_joinSteps_46] at h
    have E0 : zE (fun o => o = 42) w13 w13 := zE.rfl
    by_cases c341 : (w13.1 40 2) ≤ x12
    · replace h := zite_t c341 h
      obtain rfl := Option.some.inj h
      exact E0
    · replace h := zite_f c341 h
      obtain ⟨w31, e342, h⟩ := zbind h
      have E343 : zE (fun o => o = 42) w13 w31 := E0.tr (elX5_joinSteps_56 _ _ _ _ e342) (fun o h => by first | omega | (simp only [zIsLand, zIsSheet] at *; omega))
      exact E343.trs (ih _ _ _ h)
set_option maxRecDepth 100000 in
theorem eX5_joinSteps {w : zW}  {w' : zW} (h : fX5_joinSteps w  = some w') : zE (fun o => o = 42) w w' := by
  unfold fX5_joinSteps at h
  have E0 : zE (fun o => o = 42) w w := zE.rfl
  obtain ⟨w1, e344, h⟩ := zbind h
  have E345 : zE (fun o => o = 42) w w1 := E0.zcpi e344 (by first | omega | (simp only [zIsLand, zIsSheet] at *; omega))
  obtain ⟨w11, e346, h⟩ := zbind h
  have E347 : zE (fun o => o = 42) w w11 := E345.tr (elX5_joinSteps_18 _ _ _ _ e346) (fun o h => by first | omega | (simp only [zIsLand, zIsSheet] at *; omega))
  obtain ⟨w35, e348, h⟩ := zbind h
  have E349 : zE (fun o => o = 42) w w35 := E347.tr (elX5_joinSteps_46 _ _ _ _ e348) (fun o h => by first | omega | (simp only [zIsLand, zIsSheet] at *; omega))
  obtain rfl := Option.some.inj h
  exact E349
set_option maxRecDepth 100000 in
theorem eX5_layStep {w : zW} {o1 : Nat} {p2 : Int32} {p3 : Int32} {p4 : Int32} {p5 : Int32} {w' : zW} (h : fX5_layStep w o1 p2 p3 p4 p5 = some w') : zE (fun o => o = 41) w w' := by
  unfold fX5_layStep at h
  have E0 : zE (fun o => o = 41) w w := zE.rfl
  obtain ⟨v2, e350, h⟩ := zbind h
  by_cases c351 : v2 = 0
  · replace h := zite_t c351 h
    obtain rfl := Option.some.inj h
    exact E0
  · replace h := zite_f c351 h
    obtain ⟨v4, e352, h⟩ := zbind h
    by_cases c353 : v4 = 0
    · replace h := zite_t c353 h
      obtain rfl := Option.some.inj h
      exact E0
    · replace h := zite_f c353 h
      obtain ⟨w5, e354, h⟩ := zbind h
      have E355 : zE (fun o => o = 41) w w5 := E0.zwr e354 (by first | omega | (simp only [zIsLand, zIsSheet] at *; omega))
      obtain rfl := Option.some.inj h
      exact E355
set_option maxRecDepth 100000 in
theorem elX5_layOut_52 {o1 : Nat} {p2 : Int32}  : ∀ (n : Nat) (w20 : zW) (x19 : Int32) (s : zW), lpX5_layOut_52 o1 p2 n w20 x19 = some s → zE (fun o => o = 40 ∨ o = 41 ∨ o = 42) w20 s := by
  intro n
  induction n with
  | zero => intro w20 x19 s h; simp [lpX5_layOut_52] at h
  | succ n ih =>
    intro w20 x19 s h
    rw [lpX5_layOut_52] at h
    have E0 : zE (fun o => o = 40 ∨ o = 41 ∨ o = 42) w20 w20 := zE.rfl
    by_cases c356 : (144 : Int32) ≤ x19
    · replace h := zite_t c356 h
      obtain rfl := Option.some.inj h
      exact E0
    · replace h := zite_f c356 h
      obtain ⟨w22, e357, h⟩ := zbind h
      have E358 : zE (fun o => o = 40 ∨ o = 41 ∨ o = 42) w20 w22 := E0.zwr e357 (by first | omega | (simp only [zIsLand, zIsSheet] at *; omega))
      exact E358.trs (ih _ _ _ h)
set_option maxRecDepth 100000 in
theorem elX5_layOut_75 {o1 : Nat} {p2 : Int32}  : ∀ (n : Nat) (w29 : zW) (x28 : Int32) (s : zW), lpX5_layOut_75 o1 p2 n w29 x28 = some s → zE (fun o => o = 40 ∨ o = 41 ∨ o = 42) w29 s := by
  intro n
  induction n with
  | zero => intro w29 x28 s h; simp [lpX5_layOut_75] at h
  | succ n ih =>
    intro w29 x28 s h
    rw [lpX5_layOut_75] at h
    have E0 : zE (fun o => o = 40 ∨ o = 41 ∨ o = 42) w29 w29 := zE.rfl
    by_cases c359 : (w29.1 o1 3) ≤ x28
    · replace h := zite_t c359 h
      obtain rfl := Option.some.inj h
      exact E0
    · replace h := zite_f c359 h
      obtain ⟨v31, e360, h⟩ := zbind h
      obtain ⟨v34, e361, h⟩ := zbind h
      obtain ⟨v35, e362, h⟩ := zbind h
      obtain ⟨v37, e363, h⟩ := zbind h
      obtain ⟨w40, e364, h⟩ := zbind h
      have E365 : zE (fun o => o = 40 ∨ o = 41 ∨ o = 42) w29 w40 := E0.tr (eX5_layStep e364) (fun o h => by first | omega | (simp only [zIsLand, zIsSheet] at *; omega))
      obtain ⟨v41, e366, h⟩ := zbind h
      obtain ⟨v43, e367, h⟩ := zbind h
      obtain ⟨w46, e368, h⟩ := zbind h
      have E369 : zE (fun o => o = 40 ∨ o = 41 ∨ o = 42) w29 w46 := E365.tr (eX5_layStep e368) (fun o h => by first | omega | (simp only [zIsLand, zIsSheet] at *; omega))
      exact E369.trs (ih _ _ _ h)
set_option maxRecDepth 100000 in
theorem eX5_layOut {w : zW} {o1 : Nat} {p2 : Int32} {w' : zW} (h : fX5_layOut w o1 p2 = some w') : zE (fun o => o = 40 ∨ o = 41 ∨ o = 42) w w' := by
  unfold fX5_layOut at h
  have E0 : zE (fun o => o = 40 ∨ o = 41 ∨ o = 42) w w := zE.rfl
  obtain ⟨w1, e370, h⟩ := zbind h
  have E371 : zE (fun o => o = 40 ∨ o = 41 ∨ o = 42) w w1 := E0.zsf e370 (by first | omega | (simp only [zIsLand, zIsSheet] at *; omega))
  obtain ⟨v4, e372, h⟩ := zbind h
  obtain ⟨w5, e373, h⟩ := zbind h
  have E374 : zE (fun o => o = 40 ∨ o = 41 ∨ o = 42) w w5 := E371.zsf e373 (by first | omega | (simp only [zIsLand, zIsSheet] at *; omega))
  obtain ⟨v8, e375, h⟩ := zbind h
  obtain ⟨w9, e376, h⟩ := zbind h
  have E377 : zE (fun o => o = 40 ∨ o = 41 ∨ o = 42) w w9 := E374.zsf e376 (by first | omega | (simp only [zIsLand, zIsSheet] at *; omega))
  obtain ⟨w11, e378, h⟩ := zbind h
  have E379 : zE (fun o => o = 40 ∨ o = 41 ∨ o = 42) w w11 := E377.zsf e378 (by first | omega | (simp only [zIsLand, zIsSheet] at *; omega))
  obtain ⟨v14, e380, h⟩ := zbind h
  obtain ⟨b15, e381, h⟩ := zbind h
  obtain ⟨w17, e382, h⟩ := zbind h
  have E383 : zE (fun o => o = 40 ∨ o = 41 ∨ o = 42) w w17 := E379.zsf e382 (by first | omega | (simp only [zIsLand, zIsSheet] at *; omega))
  obtain ⟨w27, e384, h⟩ := zbind h
  have E385 : zE (fun o => o = 40 ∨ o = 41 ∨ o = 42) w w27 := E383.tr (elX5_layOut_52 _ _ _ _ e384) (fun o h => by first | omega | (simp only [zIsLand, zIsSheet] at *; omega))
  obtain ⟨w50, e386, h⟩ := zbind h
  have E387 : zE (fun o => o = 40 ∨ o = 41 ∨ o = 42) w w50 := E385.tr (elX5_layOut_75 _ _ _ _ e386) (fun o h => by first | omega | (simp only [zIsLand, zIsSheet] at *; omega))
  obtain ⟨w52, e388, h⟩ := zbind h
  have E389 : zE (fun o => o = 40 ∨ o = 41 ∨ o = 42) w w52 := E387.tr (eX5_joinSteps e388) (fun o h => by first | omega | (simp only [zIsLand, zIsSheet] at *; omega))
  obtain rfl := Option.some.inj h
  exact E389
set_option maxRecDepth 100000 in
theorem eX6_finding {w : zW} {p1 : Int32} {r : Int32} {w' : zW} (h : fX6_finding w p1 = some (r, w')) : zE (fun o => o = 46) w w' := by
  unfold fX6_finding at h
  have E0 : zE (fun o => o = 46) w w := zE.rfl
  obtain ⟨x1, e390, h⟩ := zbind h
  obtain ⟨w8, e391, h⟩ := zbind h
  have E392 : zE (fun o => o = 46) w w8 := by
    by_cases c393 : x1 < 0
    · replace e391 := zite_t c393 e391
      obtain rfl := Option.some.inj e391
      exact E0
    · replace e391 := zite_f c393 e391
      by_cases c394 : (7 : Int32) ≤ x1
      · replace e391 := zite_t c394 e391
        obtain rfl := Option.some.inj e391
        exact E0
      · replace e391 := zite_f c394 e391
        obtain ⟨v11, e395, e391⟩ := zbind e391
        obtain ⟨w13, e396, e391⟩ := zbind e391
        have E397 : zE (fun o => o = 46) w w13 := E0.zwr e396 (by first | omega | (simp only [zIsLand, zIsSheet] at *; omega))
        obtain rfl := Option.some.inj e391
        exact E397
  obtain ⟨rfl, rfl⟩ := zpi2 h
  exact E392
set_option maxRecDepth 100000 in
theorem eX6_as {w : zW} {p1 : Int32} {p2 : Int32} {r : Int32} {w' : zW} (h : fX6_as w p1 p2 = some (r, w')) : zE (fun o => o = 46) w w' := by
  unfold fX6_as at h
  have E0 : zE (fun o => o = 46) w w := zE.rfl
  obtain ⟨v2, e398, h⟩ := zbind h
  by_cases c399 : v2 = 0
  · replace h := zite_t c399 h
    obtain ⟨v4, w5, e400, h⟩ := zb2_inv h
    have E401 : zE (fun o => o = 46) w w5 := E0.tr (eX6_finding e400) (fun o h => by first | omega | (simp only [zIsLand, zIsSheet] at *; omega))
    obtain ⟨rfl, rfl⟩ := zpi2 h
    exact E401
  · replace h := zite_f c399 h
    obtain ⟨v7, e402, h⟩ := zbind h
    by_cases c403 : v7 = 0
    · replace h := zite_t c403 h
      obtain ⟨v19, w20, e404, h⟩ := zb2_inv h
      have E405 : zE (fun o => o = 46) w w20 := E0.tr (eX6_finding e404) (fun o h => by first | omega | (simp only [zIsLand, zIsSheet] at *; omega))
      obtain ⟨rfl, rfl⟩ := zpi2 h
      exact E405
    · replace h := zite_f c403 h
      obtain ⟨v8, e406, h⟩ := zbind h
      obtain ⟨v11, e407, h⟩ := zbind h
      by_cases c408 : v11 = 0
      · replace h := zite_t c408 h
        obtain ⟨v15, w16, e409, h⟩ := zb2_inv h
        have E410 : zE (fun o => o = 46) w w16 := E0.tr (eX6_finding e409) (fun o h => by first | omega | (simp only [zIsLand, zIsSheet] at *; omega))
        obtain ⟨rfl, rfl⟩ := zpi2 h
        exact E410
      · replace h := zite_f c408 h
        obtain ⟨v12, e411, h⟩ := zbind h
        obtain ⟨rfl, rfl⟩ := zpi2 h
        exact E0
set_option maxRecDepth 100000 in
theorem eX6_below {w : zW} {p1 : Int32} {p2 : Int32} {r : Int32} {w' : zW} (h : fX6_below w p1 p2 = some (r, w')) : zE (fun o => o = 40 ∨ o = 41 ∨ o = 42 ∨ o = 46) w w' := by
  unfold fX6_below at h
  have E0 : zE (fun o => o = 40 ∨ o = 41 ∨ o = 42 ∨ o = 46) w w := zE.rfl
  obtain ⟨v2, e412, h⟩ := zbind h
  by_cases c413 : v2 = 0
  · replace h := zite_t c413 h
    obtain ⟨v4, w5, e414, h⟩ := zb2_inv h
    have E415 : zE (fun o => o = 40 ∨ o = 41 ∨ o = 42 ∨ o = 46) w w5 := E0.tr (eX6_finding e414) (fun o h => by first | omega | (simp only [zIsLand, zIsSheet] at *; omega))
    obtain ⟨rfl, rfl⟩ := zpi2 h
    exact E415
  · replace h := zite_f c413 h
    obtain ⟨v7, e416, h⟩ := zbind h
    by_cases c417 : v7 = 0
    · replace h := zite_t c417 h
      obtain ⟨v13, w14, e418, h⟩ := zb2_inv h
      have E419 : zE (fun o => o = 40 ∨ o = 41 ∨ o = 42 ∨ o = 46) w w14 := E0.tr (eX6_finding e418) (fun o h => by first | omega | (simp only [zIsLand, zIsSheet] at *; omega))
      obtain ⟨rfl, rfl⟩ := zpi2 h
      exact E419
    · replace h := zite_f c417 h
      obtain ⟨w9, e420, h⟩ := zbind h
      have E421 : zE (fun o => o = 40 ∨ o = 41 ∨ o = 42 ∨ o = 46) w w9 := E0.tr (eX5_layOut e420) (fun o h => by first | omega | (simp only [zIsLand, zIsSheet] at *; omega))
      obtain ⟨v11, e422, h⟩ := zbind h
      obtain ⟨rfl, rfl⟩ := zpi2 h
      exact E421
set_option maxRecDepth 100000 in
theorem elX6_carryOn_34 {o1 : Nat} {p2 : Int32} {p3 : Int32}  : ∀ (n : Nat) (w10 : zW) (x9 : Int32) (s : zW), lpX6_carryOn_34 o1 p2 p3 n w10 x9 = some s → zE (fun o => (o1 ≤ o ∧ o < o1 + 10) ∨ o = 40 ∨ o = 41 ∨ o = 42) w10 s := by
  intro n
  induction n with
  | zero => intro w10 x9 s h; simp [lpX6_carryOn_34] at h
  | succ n ih =>
    intro w10 x9 s h
    rw [lpX6_carryOn_34] at h
    have E0 : zE (fun o => (o1 ≤ o ∧ o < o1 + 10) ∨ o = 40 ∨ o = 41 ∨ o = 42) w10 w10 := zE.rfl
    by_cases c423 : p3 ≤ x9
    · replace h := zite_t c423 h
      obtain rfl := Option.some.inj h
      exact E0
    · replace h := zite_f c423 h
      obtain ⟨w13, e424, h⟩ := zbind h
      have E425 : zE (fun o => (o1 ≤ o ∧ o < o1 + 10) ∨ o = 40 ∨ o = 41 ∨ o = 42) w10 w13 := E0.tr (eX0_passDay e424) (fun o h => by first | omega | (simp only [zIsLand, zIsSheet] at *; omega))
      exact E425.trs (ih _ _ _ h)
set_option maxRecDepth 100000 in
theorem eX6_carryOn {w : zW} {o1 : Nat} {p2 : Int32} {p3 : Int32} {w' : zW} (h : fX6_carryOn w o1 p2 p3 = some w') : zE (fun o => (o1 ≤ o ∧ o < o1 + 10) ∨ o = 40 ∨ o = 41 ∨ o = 42) w w' := by
  unfold fX6_carryOn at h
  have E0 : zE (fun o => (o1 ≤ o ∧ o < o1 + 10) ∨ o = 40 ∨ o = 41 ∨ o = 42) w w := zE.rfl
  obtain ⟨v2, e426, h⟩ := zbind h
  by_cases c427 : v2 = 0
  · replace h := zite_t c427 h
    obtain rfl := Option.some.inj h
    exact E0
  · replace h := zite_f c427 h
    obtain ⟨v4, e428, h⟩ := zbind h
    by_cases c429 : v4 = 0
    · replace h := zite_t c429 h
      obtain ⟨v5, e430, h⟩ := zbind h
      obtain ⟨w8, e431, h⟩ := zbind h
      have E432 : zE (fun o => (o1 ≤ o ∧ o < o1 + 10) ∨ o = 40 ∨ o = 41 ∨ o = 42) w w8 := E0.tr (eX5_layOut e431) (fun o h => by first | omega | (simp only [zIsLand, zIsSheet] at *; omega))
      obtain ⟨w17, e433, h⟩ := zbind h
      have E434 : zE (fun o => (o1 ≤ o ∧ o < o1 + 10) ∨ o = 40 ∨ o = 41 ∨ o = 42) w w17 := E432.tr (elX6_carryOn_34 _ _ _ _ e433) (fun o h => by first | omega | (simp only [zIsLand, zIsSheet] at *; omega))
      obtain rfl := Option.some.inj h
      exact E434
    · replace h := zite_f c429 h
      obtain rfl := Option.some.inj h
      exact E0
set_option maxRecDepth 100000 in
theorem eX6_copy {w : zW} {p1 : Int32} {p2 : Int32} {p3 : Int32} {p4 : Int32} {p5 : Int32} {r : Int32} {w' : zW} (h : fX6_copy w p1 p2 p3 p4 p5 = some (r, w')) : zE (fun o => o = 46 ∨ (50 ≤ o ∧ o < 58)) w w' := by
  unfold fX6_copy at h
  have E0 : zE (fun o => o = 46 ∨ (50 ≤ o ∧ o < 58)) w w := zE.rfl
  rcases zbo_inv h with ⟨e435, h⟩ | ⟨o2, e435, h⟩
  · skip
    rcases zbo_inv h with ⟨e436, h⟩ | ⟨o5, e436, h⟩
    · skip
      obtain ⟨v8, w9, e437, h⟩ := zb2_inv h
      have E438 : zE (fun o => o = 46 ∨ (50 ≤ o ∧ o < 58)) w w9 := E0.tr (eX6_finding e437) (fun o h => by first | omega | (simp only [zIsLand, zIsSheet] at *; omega))
      obtain ⟨rfl, rfl⟩ := zpi2 h
      exact E438
    · have s439 : zIsSheet o5 := fX6_sheetAt_ok e436
      obtain ⟨v11, w12, e440, h⟩ := zb2_inv h
      have E441 : zE (fun o => o = 46 ∨ (50 ≤ o ∧ o < 58)) w w12 := E0.tr (eX6_finding e440) (fun o h => by first | omega | (simp only [zIsLand, zIsSheet] at *; omega))
      obtain ⟨rfl, rfl⟩ := zpi2 h
      exact E441
  · have s442 : zIsSheet o2 := fX6_sheetAt_ok e435
    rcases zbo_inv h with ⟨e443, h⟩ | ⟨o14, e443, h⟩
    · skip
      obtain ⟨v17, w18, e444, h⟩ := zb2_inv h
      have E445 : zE (fun o => o = 46 ∨ (50 ≤ o ∧ o < 58)) w w18 := E0.tr (eX6_finding e444) (fun o h => by first | omega | (simp only [zIsLand, zIsSheet] at *; omega))
      obtain ⟨rfl, rfl⟩ := zpi2 h
      exact E445
    · have s446 : zIsSheet o14 := fX6_sheetAt_ok e443
      obtain ⟨v20, e447, h⟩ := zbind h
      by_cases c448 : v20 = 0
      · replace h := zite_t c448 h
        obtain ⟨v25, e449, h⟩ := zbind h
        by_cases c450 : v25 = 0
        · replace h := zite_t c450 h
          by_cases c451 : (w.1 o2 0) = (w.1 o14 0)
          · replace h := zite_t c451 h
            obtain ⟨v27, e452, h⟩ := zbind h
            by_cases c453 : v27 = 0
            · replace h := zite_t c453 h
              obtain ⟨v29, w30, e454, h⟩ := zb2_inv h
              have E455 : zE (fun o => o = 46 ∨ (50 ≤ o ∧ o < 58)) w w30 := E0.tr (eX6_finding e454) (fun o h => by first | omega | (simp only [zIsLand, zIsSheet] at *; omega))
              obtain ⟨rfl, rfl⟩ := zpi2 h
              exact E455
            · replace h := zite_f c453 h
              obtain ⟨v32, e456, h⟩ := zbind h
              by_cases c457 : v32 = 0
              · replace h := zite_t c457 h
                obtain ⟨v36, w37, e458, h⟩ := zb2_inv h
                have E459 : zE (fun o => o = 46 ∨ (50 ≤ o ∧ o < 58)) w w37 := E0.tr (eX6_finding e458) (fun o h => by first | omega | (simp only [zIsLand, zIsSheet] at *; omega))
                obtain ⟨rfl, rfl⟩ := zpi2 h
                exact E459
              · replace h := zite_f c457 h
                obtain ⟨w33, e460, h⟩ := zbind h
                have E461 : zE (fun o => o = 46 ∨ (50 ≤ o ∧ o < 58)) w w33 := E0.zcpl e460 (by first | omega | (simp only [zIsLand, zIsSheet] at *; omega))
                obtain ⟨rfl, rfl⟩ := zpi2 h
                exact E461
          · replace h := zite_f c451 h
            obtain ⟨v41, w42, e462, h⟩ := zb2_inv h
            have E463 : zE (fun o => o = 46 ∨ (50 ≤ o ∧ o < 58)) w w42 := E0.tr (eX6_finding e462) (fun o h => by first | omega | (simp only [zIsLand, zIsSheet] at *; omega))
            obtain ⟨rfl, rfl⟩ := zpi2 h
            exact E463
        · replace h := zite_f c450 h
          obtain ⟨v45, w46, e464, h⟩ := zb2_inv h
          have E465 : zE (fun o => o = 46 ∨ (50 ≤ o ∧ o < 58)) w w46 := E0.tr (eX6_finding e464) (fun o h => by first | omega | (simp only [zIsLand, zIsSheet] at *; omega))
          obtain ⟨rfl, rfl⟩ := zpi2 h
          exact E465
      · replace h := zite_f c448 h
        obtain ⟨v22, w23, e466, h⟩ := zb2_inv h
        have E467 : zE (fun o => o = 46 ∨ (50 ≤ o ∧ o < 58)) w w23 := E0.tr (eX6_finding e466) (fun o h => by first | omega | (simp only [zIsLand, zIsSheet] at *; omega))
        obtain ⟨rfl, rfl⟩ := zpi2 h
        exact E467
set_option maxRecDepth 100000 in
theorem eX6_count {w : zW} {p1 : Int32} {r : Int32} {w' : zW} (h : fX6_count w p1 = some (r, w')) : zE (fun o => o = 46) w w' := by
  unfold fX6_count at h
  have E0 : zE (fun o => o = 46) w w := zE.rfl
  by_cases c468 : p1 = 0
  · replace h := zite_t c468 h
    obtain ⟨rfl, rfl⟩ := zpi2 h
    exact E0
  · replace h := zite_f c468 h
    by_cases c469 : p1 = 1
    · replace h := zite_t c469 h
      obtain ⟨rfl, rfl⟩ := zpi2 h
      exact E0
    · replace h := zite_f c469 h
      by_cases c470 : p1 = 2
      · replace h := zite_t c470 h
        obtain ⟨rfl, rfl⟩ := zpi2 h
        exact E0
      · replace h := zite_f c470 h
        by_cases c471 : p1 = 3
        · replace h := zite_t c471 h
          obtain ⟨rfl, rfl⟩ := zpi2 h
          exact E0
        · replace h := zite_f c471 h
          by_cases c472 : p1 = 4
          · replace h := zite_t c472 h
            obtain ⟨v7, e473, h⟩ := zbind h
            obtain ⟨rfl, rfl⟩ := zpi2 h
            exact E0
          · replace h := zite_f c472 h
            obtain ⟨v9, w10, e474, h⟩ := zb2_inv h
            have E475 : zE (fun o => o = 46) w w10 := E0.tr (eX6_finding e474) (fun o h => by first | omega | (simp only [zIsLand, zIsSheet] at *; omega))
            obtain ⟨rfl, rfl⟩ := zpi2 h
            exact E475
set_option maxRecDepth 100000 in
theorem eX6_day {w : zW} {p1 : Int32} {r : Int32} {w' : zW} (h : fX6_day w p1 = some (r, w')) : zE (fun o => (10 ≤ o ∧ o < 10 + 10) ∨ o = 46) w w' := by
  unfold fX6_day at h
  have E0 : zE (fun o => (10 ≤ o ∧ o < 10 + 10) ∨ o = 46) w w := zE.rfl
  by_cases c476 : p1 < 0
  · replace h := zite_t c476 h
    obtain ⟨v2, w3, e477, h⟩ := zb2_inv h
    have E478 : zE (fun o => (10 ≤ o ∧ o < 10 + 10) ∨ o = 46) w w3 := E0.tr (eX6_finding e477) (fun o h => by first | omega | (simp only [zIsLand, zIsSheet] at *; omega))
    obtain ⟨rfl, rfl⟩ := zpi2 h
    exact E478
  · replace h := zite_f c476 h
    by_cases c479 : p1 ≤ (9999 : Int32)
    · replace h := zite_t c479 h
      obtain ⟨x4, e480, h⟩ := zbind h
      obtain ⟨w6, e481, h⟩ := zbind h
      have E482 : zE (fun o => (10 ≤ o ∧ o < 10 + 10) ∨ o = 46) w w6 := E0.zsf e481 (by first | omega | (simp only [zIsLand, zIsSheet] at *; omega))
      obtain ⟨rfl, rfl⟩ := zpi2 h
      exact E482
    · replace h := zite_f c479 h
      obtain ⟨v9, w10, e483, h⟩ := zb2_inv h
      have E484 : zE (fun o => (10 ≤ o ∧ o < 10 + 10) ∨ o = 46) w w10 := E0.tr (eX6_finding e483) (fun o h => by first | omega | (simp only [zIsLand, zIsSheet] at *; omega))
      obtain ⟨rfl, rfl⟩ := zpi2 h
      exact E484
set_option maxRecDepth 100000 in
theorem elX6_days_51 {p1 : Int32} {v5 : Int32}  : ∀ (n : Nat) (w7 : zW) (x6 : Int32) (s : zW), lpX6_days_51 p1 v5 n w7 x6 = some s → zE (fun o => (10 ≤ o ∧ o < 10 + 10) ∨ o = 40 ∨ o = 41 ∨ o = 42 ∨ o = 46) w7 s := by
  intro n
  induction n with
  | zero => intro w7 x6 s h; simp [lpX6_days_51] at h
  | succ n ih =>
    intro w7 x6 s h
    rw [lpX6_days_51] at h
    have E0 : zE (fun o => (10 ≤ o ∧ o < 10 + 10) ∨ o = 40 ∨ o = 41 ∨ o = 42 ∨ o = 46) w7 w7 := zE.rfl
    by_cases c485 : (w7.1 10 9) ≤ x6
    · replace h := zite_t c485 h
      obtain rfl := Option.some.inj h
      exact E0
    · replace h := zite_f c485 h
      obtain ⟨w10, e486, h⟩ := zbind h
      have E487 : zE (fun o => (10 ≤ o ∧ o < 10 + 10) ∨ o = 40 ∨ o = 41 ∨ o = 42 ∨ o = 46) w7 w10 := E0.tr (eX6_carryOn e486) (fun o h => by first | omega | (simp only [zIsLand, zIsSheet] at *; omega))
      exact E487.trs (ih _ _ _ h)
set_option maxRecDepth 100000 in
theorem eX6_days {w : zW} {p1 : Int32} {r : Int32} {w' : zW} (h : fX6_days w p1 = some (r, w')) : zE (fun o => (10 ≤ o ∧ o < 10 + 10) ∨ o = 40 ∨ o = 41 ∨ o = 42 ∨ o = 46) w w' := by
  unfold fX6_days at h
  have E0 : zE (fun o => (10 ≤ o ∧ o < 10 + 10) ∨ o = 40 ∨ o = 41 ∨ o = 42 ∨ o = 46) w w := zE.rfl
  by_cases c488 : p1 < (1 : Int32)
  · replace h := zite_t c488 h
    obtain ⟨v2, w3, e489, h⟩ := zb2_inv h
    have E490 : zE (fun o => (10 ≤ o ∧ o < 10 + 10) ∨ o = 40 ∨ o = 41 ∨ o = 42 ∨ o = 46) w w3 := E0.tr (eX6_finding e489) (fun o h => by first | omega | (simp only [zIsLand, zIsSheet] at *; omega))
    obtain ⟨rfl, rfl⟩ := zpi2 h
    exact E490
  · replace h := zite_f c488 h
    by_cases c491 : p1 ≤ (200 : Int32)
    · replace h := zite_t c491 h
      by_cases c492 : ((w.1 10 8) + p1) ≤ (9999 : Int32)
      · replace h := zite_t c492 h
        obtain ⟨v5, e493, h⟩ := zbind h
        obtain ⟨w14, e494, h⟩ := zbind h
        have E495 : zE (fun o => (10 ≤ o ∧ o < 10 + 10) ∨ o = 40 ∨ o = 41 ∨ o = 42 ∨ o = 46) w w14 := E0.tr (elX6_days_51 _ _ _ _ e494) (fun o h => by first | omega | (simp only [zIsLand, zIsSheet] at *; omega))
        obtain ⟨w15, e496, h⟩ := zbind h
        have E497 : zE (fun o => (10 ≤ o ∧ o < 10 + 10) ∨ o = 40 ∨ o = 41 ∨ o = 42 ∨ o = 46) w w15 := E495.zsf e496 (by first | omega | (simp only [zIsLand, zIsSheet] at *; omega))
        obtain ⟨v18, e498, h⟩ := zbind h
        obtain ⟨rfl, rfl⟩ := zpi2 h
        exact E497
      · replace h := zite_f c492 h
        obtain ⟨v20, w21, e499, h⟩ := zb2_inv h
        have E500 : zE (fun o => (10 ≤ o ∧ o < 10 + 10) ∨ o = 40 ∨ o = 41 ∨ o = 42 ∨ o = 46) w w21 := E0.tr (eX6_finding e499) (fun o h => by first | omega | (simp only [zIsLand, zIsSheet] at *; omega))
        obtain ⟨rfl, rfl⟩ := zpi2 h
        exact E500
    · replace h := zite_f c491 h
      obtain ⟨v24, w25, e501, h⟩ := zb2_inv h
      have E502 : zE (fun o => (10 ≤ o ∧ o < 10 + 10) ∨ o = 40 ∨ o = 41 ∨ o = 42 ∨ o = 46) w w25 := E0.tr (eX6_finding e501) (fun o h => by first | omega | (simp only [zIsLand, zIsSheet] at *; omega))
      obtain ⟨rfl, rfl⟩ := zpi2 h
      exact E502
set_option maxRecDepth 100000 in
theorem elX6_daysAhead_47 {p1 : Int32}  : ∀ (n : Nat) (w10 : zW) (x9 : Int32) (s : ((Int32 × zW) ⊕ zW)), lpX6_daysAhead_47 p1 n w10 x9 = some s → (∀ a, s = .inl a → zE (fun o => (30 ≤ o ∧ o < 30 + 10) ∨ o = 40 ∨ o = 41 ∨ o = 42) w10 a.2) ∧ (∀ a, s = .inr a → zE (fun o => (30 ≤ o ∧ o < 30 + 10) ∨ o = 40 ∨ o = 41 ∨ o = 42) w10 a) := by
  intro n
  induction n with
  | zero => intro w10 x9 s h; simp [lpX6_daysAhead_47] at h
  | succ n ih =>
    intro w10 x9 s h
    rw [lpX6_daysAhead_47] at h
    have E0 : zE (fun o => (30 ≤ o ∧ o < 30 + 10) ∨ o = 40 ∨ o = 41 ∨ o = 42) w10 w10 := zE.rfl
    by_cases c503 : (200 : Int32) ≤ x9
    · replace h := zite_t c503 h
      obtain rfl := Option.some.inj h
      exact ⟨fun a ha => (nomatch ha), fun a ha => (by obtain rfl := Sum.inr.inj ha; exact E0)⟩
    · replace h := zite_f c503 h
      obtain ⟨v13, e504, h⟩ := zbind h
      by_cases c505 : v13 = 0
      · replace h := zite_t c505 h
        obtain ⟨w15, e506, h⟩ := zbind h
        have E507 : zE (fun o => (30 ≤ o ∧ o < 30 + 10) ∨ o = 40 ∨ o = 41 ∨ o = 42) w10 w15 := E0.tr (eX0_passDay e506) (fun o h => by first | omega | (simp only [zIsLand, zIsSheet] at *; omega))
        exact ⟨fun a ha => E507.trs ((ih _ _ _ h).1 a ha), fun a ha => E507.trs ((ih _ _ _ h).2 a ha)⟩
      · replace h := zite_f c505 h
        obtain rfl := Option.some.inj h
        exact ⟨fun a ha => (by obtain rfl := Sum.inl.inj ha; exact E0), fun a ha => (nomatch ha)⟩
set_option maxRecDepth 100000 in
theorem eX6_daysAhead {w : zW} {p1 : Int32} {r : Int32} {w' : zW} (h : fX6_daysAhead w p1 = some (r, w')) : zE (fun o => (30 ≤ o ∧ o < 30 + 10) ∨ o = 40 ∨ o = 41 ∨ o = 42) w w' := by
  unfold fX6_daysAhead at h
  have E0 : zE (fun o => (30 ≤ o ∧ o < 30 + 10) ∨ o = 40 ∨ o = 41 ∨ o = 42) w w := zE.rfl
  obtain ⟨w2, e516, h⟩ := zbind h
  have E517 : zE (fun o => (30 ≤ o ∧ o < 30 + 10) ∨ o = 40 ∨ o = 41 ∨ o = 42) w w2 := E0.tr (eX0_become e516) (fun o h => by first | omega | (simp only [zIsLand, zIsSheet] at *; omega))
  obtain ⟨v4, e518, h⟩ := zbind h
  by_cases c519 : v4 = 0
  · replace h := zite_t c519 h
    obtain ⟨rfl, rfl⟩ := zpi2 h
    exact E517
  · replace h := zite_f c519 h
    obtain ⟨v5, e520, h⟩ := zbind h
    obtain ⟨w8, e521, h⟩ := zbind h
    have E522 : zE (fun o => (30 ≤ o ∧ o < 30 + 10) ∨ o = 40 ∨ o = 41 ∨ o = 42) w w8 := E517.tr (eX5_layOut e521) (fun o h => by first | omega | (simp only [zIsLand, zIsSheet] at *; omega))
    rcases zbs_inv h with e523 | ⟨w20, e523, h⟩
    · exact E522.tr ((elX6_daysAhead_47 _ _ _ _ e523).1 _ rfl) (fun o h => by first | omega | (simp only [zIsLand, zIsSheet] at *; omega))
    · have E524 := E522.tr ((elX6_daysAhead_47 _ _ _ _ e523).2 _ rfl) (fun o h => by first | omega | (simp only [zIsLand, zIsSheet] at *; omega))
      obtain ⟨v22, e525, h⟩ := zbind h
      by_cases c526 : v22 = 0
      · replace h := zite_t c526 h
        obtain ⟨rfl, rfl⟩ := zpi2 h
        exact E524
      · replace h := zite_f c526 h
        obtain ⟨rfl, rfl⟩ := zpi2 h
        exact E524
set_option maxRecDepth 100000 in
theorem eX6_daysUntil {w : zW} {p1 : Int32} {r : Int32} {w' : zW} (h : fX6_daysUntil w p1 = some (r, w')) : zE (fun o => o = 46) w w' := by
  unfold fX6_daysUntil at h
  have E0 : zE (fun o => o = 46) w w := zE.rfl
  by_cases c527 : p1 < (1000000 : Int32)
  · replace h := zite_t c527 h
    obtain ⟨rfl, rfl⟩ := zpi2 h
    exact E0
  · replace h := zite_f c527 h
    obtain ⟨v2, w3, e528, h⟩ := zb2_inv h
    have E529 : zE (fun o => o = 46) w w3 := E0.tr (eX6_finding e528) (fun o h => by first | omega | (simp only [zIsLand, zIsSheet] at *; omega))
    obtain ⟨rfl, rfl⟩ := zpi2 h
    exact E529
set_option maxRecDepth 100000 in
theorem eX6_dig {w : zW} {p1 : Int32} {p2 : Int32} {r : Int32} {w' : zW} (h : fX6_dig w p1 p2 = some (r, w')) : zE (fun o => o = 40 ∨ o = 41 ∨ o = 42 ∨ o = 46) w w' := by
  unfold fX6_dig at h
  have E0 : zE (fun o => o = 40 ∨ o = 41 ∨ o = 42 ∨ o = 46) w w := zE.rfl
  obtain ⟨v2, e530, h⟩ := zbind h
  by_cases c531 : v2 = 0
  · replace h := zite_t c531 h
    obtain ⟨v4, w5, e532, h⟩ := zb2_inv h
    have E533 : zE (fun o => o = 40 ∨ o = 41 ∨ o = 42 ∨ o = 46) w w5 := E0.tr (eX6_finding e532) (fun o h => by first | omega | (simp only [zIsLand, zIsSheet] at *; omega))
    obtain ⟨rfl, rfl⟩ := zpi2 h
    exact E533
  · replace h := zite_f c531 h
    obtain ⟨v7, e534, h⟩ := zbind h
    by_cases c535 : v7 = 0
    · replace h := zite_t c535 h
      obtain ⟨v17, w18, e536, h⟩ := zb2_inv h
      have E537 : zE (fun o => o = 40 ∨ o = 41 ∨ o = 42 ∨ o = 46) w w18 := E0.tr (eX6_finding e536) (fun o h => by first | omega | (simp only [zIsLand, zIsSheet] at *; omega))
      obtain ⟨rfl, rfl⟩ := zpi2 h
      exact E537
    · replace h := zite_f c535 h
      obtain ⟨w9, e538, h⟩ := zbind h
      have E539 : zE (fun o => o = 40 ∨ o = 41 ∨ o = 42 ∨ o = 46) w w9 := E0.tr (eX5_layOut e538) (fun o h => by first | omega | (simp only [zIsLand, zIsSheet] at *; omega))
      obtain ⟨v11, e540, h⟩ := zbind h
      by_cases c541 : 0 ≤ v11
      · replace h := zite_t c541 h
        obtain ⟨rfl, rfl⟩ := zpi2 h
        exact E539
      · replace h := zite_f c541 h
        obtain ⟨v13, w14, e542, h⟩ := zb2_inv h
        have E543 : zE (fun o => o = 40 ∨ o = 41 ∨ o = 42 ∨ o = 46) w w14 := E539.tr (eX6_finding e542) (fun o h => by first | omega | (simp only [zIsLand, zIsSheet] at *; omega))
        obtain ⟨rfl, rfl⟩ := zpi2 h
        exact E543
set_option maxRecDepth 100000 in
theorem eX6_every {w : zW} {p1 : Int32} {r : Int32} {w' : zW} (h : fX6_every w p1 = some (r, w')) : zE (fun o => (10 ≤ o ∧ o < 10 + 10) ∨ o = 46) w w' := by
  unfold fX6_every at h
  have E0 : zE (fun o => (10 ≤ o ∧ o < 10 + 10) ∨ o = 46) w w := zE.rfl
  by_cases c544 : p1 < (1 : Int32)
  · replace h := zite_t c544 h
    obtain ⟨v2, w3, e545, h⟩ := zb2_inv h
    have E546 : zE (fun o => (10 ≤ o ∧ o < 10 + 10) ∨ o = 46) w w3 := E0.tr (eX6_finding e545) (fun o h => by first | omega | (simp only [zIsLand, zIsSheet] at *; omega))
    obtain ⟨rfl, rfl⟩ := zpi2 h
    exact E546
  · replace h := zite_f c544 h
    by_cases c547 : p1 ≤ (99 : Int32)
    · replace h := zite_t c547 h
      obtain ⟨x4, e548, h⟩ := zbind h
      obtain ⟨w6, e549, h⟩ := zbind h
      have E550 : zE (fun o => (10 ≤ o ∧ o < 10 + 10) ∨ o = 46) w w6 := E0.zsf e549 (by first | omega | (simp only [zIsLand, zIsSheet] at *; omega))
      obtain ⟨rfl, rfl⟩ := zpi2 h
      exact E550
    · replace h := zite_f c547 h
      obtain ⟨v9, w10, e551, h⟩ := zb2_inv h
      have E552 : zE (fun o => (10 ≤ o ∧ o < 10 + 10) ∨ o = 46) w w10 := E0.tr (eX6_finding e551) (fun o h => by first | omega | (simp only [zIsLand, zIsSheet] at *; omega))
      obtain ⟨rfl, rfl⟩ := zpi2 h
      exact E552
set_option maxRecDepth 100000 in
theorem eX6_fall {w : zW} {p1 : Int32} {p2 : Int32} {p3 : Int32} {r : Int32} {w' : zW} (h : fX6_fall w p1 p2 p3 = some (r, w')) : zE (fun o => o = 40 ∨ o = 41 ∨ o = 42 ∨ o = 46) w w' := by
  unfold fX6_fall at h
  have E0 : zE (fun o => o = 40 ∨ o = 41 ∨ o = 42 ∨ o = 46) w w := zE.rfl
  obtain ⟨v2, e553, h⟩ := zbind h
  by_cases c554 : v2 = 0
  · replace h := zite_t c554 h
    obtain ⟨v4, w5, e555, h⟩ := zb2_inv h
    have E556 : zE (fun o => o = 40 ∨ o = 41 ∨ o = 42 ∨ o = 46) w w5 := E0.tr (eX6_finding e555) (fun o h => by first | omega | (simp only [zIsLand, zIsSheet] at *; omega))
    obtain ⟨rfl, rfl⟩ := zpi2 h
    exact E556
  · replace h := zite_f c554 h
    obtain ⟨v7, e557, h⟩ := zbind h
    by_cases c558 : v7 = 0
    · replace h := zite_t c558 h
      obtain ⟨v21, w22, e559, h⟩ := zb2_inv h
      have E560 : zE (fun o => o = 40 ∨ o = 41 ∨ o = 42 ∨ o = 46) w w22 := E0.tr (eX6_finding e559) (fun o h => by first | omega | (simp only [zIsLand, zIsSheet] at *; omega))
      obtain ⟨rfl, rfl⟩ := zpi2 h
      exact E560
    · replace h := zite_f c558 h
      obtain ⟨w9, e561, h⟩ := zbind h
      have E562 : zE (fun o => o = 40 ∨ o = 41 ∨ o = 42 ∨ o = 46) w w9 := E0.tr (eX5_layOut e561) (fun o h => by first | omega | (simp only [zIsLand, zIsSheet] at *; omega))
      obtain ⟨v11, e563, h⟩ := zbind h
      by_cases c564 : v11 = 0
      · replace h := zite_t c564 h
        obtain ⟨v17, w18, e565, h⟩ := zb2_inv h
        have E566 : zE (fun o => o = 40 ∨ o = 41 ∨ o = 42 ∨ o = 46) w w18 := E562.tr (eX6_finding e565) (fun o h => by first | omega | (simp only [zIsLand, zIsSheet] at *; omega))
        obtain ⟨rfl, rfl⟩ := zpi2 h
        exact E566
      · replace h := zite_f c564 h
        obtain ⟨v13, e567, h⟩ := zbind h
        obtain ⟨v15, e568, h⟩ := zbind h
        obtain ⟨rfl, rfl⟩ := zpi2 h
        exact E562
set_option maxRecDepth 100000 in
theorem elX6_feed_42 {p1 : Int32}  : ∀ (n : Nat) (w7 : zW) (x6 : Int32) (s : zW), lpX6_feed_42 p1 n w7 x6 = some s → zE (fun o => o = 43 ∨ o = 44 ∨ o = 46) w7 s := by
  intro n
  induction n with
  | zero => intro w7 x6 s h; simp [lpX6_feed_42] at h
  | succ n ih =>
    intro w7 x6 s h
    rw [lpX6_feed_42] at h
    have E0 : zE (fun o => o = 43 ∨ o = 44 ∨ o = 46) w7 w7 := zE.rfl
    by_cases c569 : x6 < 0
    · replace h := zite_t c569 h
      obtain rfl := Option.some.inj h
      exact E0
    · replace h := zite_f c569 h
      obtain ⟨w10, e570, h⟩ := zbind h
      have E571 : zE (fun o => o = 43 ∨ o = 44 ∨ o = 46) w7 w10 := E0.tr (eX4_append e570) (fun o h => by first | omega | (simp only [zIsLand, zIsSheet] at *; omega))
      exact E571.trs (ih _ _ _ h)
set_option maxRecDepth 100000 in
theorem eX6_feed {w : zW} {p1 : Int32} {p2 : Int32} {r : Int32} {w' : zW} (h : fX6_feed w p1 p2 = some (r, w')) : zE (fun o => o = 43 ∨ o = 44 ∨ o = 46) w w' := by
  unfold fX6_feed at h
  have E0 : zE (fun o => o = 43 ∨ o = 44 ∨ o = 46) w w := zE.rfl
  by_cases c572 : p2 < (1 : Int32)
  · replace h := zite_t c572 h
    obtain ⟨v2, w3, e573, h⟩ := zb2_inv h
    have E574 : zE (fun o => o = 43 ∨ o = 44 ∨ o = 46) w w3 := E0.tr (eX6_finding e573) (fun o h => by first | omega | (simp only [zIsLand, zIsSheet] at *; omega))
    obtain ⟨rfl, rfl⟩ := zpi2 h
    exact E574
  · replace h := zite_f c572 h
    by_cases c575 : p2 ≤ (4 : Int32)
    · replace h := zite_t c575 h
      by_cases c576 : ((w.1 43 1) + p2) ≤ (120 : Int32)
      · replace h := zite_t c576 h
        obtain ⟨x4, e577, h⟩ := zbind h
        obtain ⟨w14, e578, h⟩ := zbind h
        have E579 : zE (fun o => o = 43 ∨ o = 44 ∨ o = 46) w w14 := E0.tr (elX6_feed_42 _ _ _ _ e578) (fun o h => by first | omega | (simp only [zIsLand, zIsSheet] at *; omega))
        obtain ⟨rfl, rfl⟩ := zpi2 h
        exact E579
      · replace h := zite_f c576 h
        obtain ⟨v16, w17, e580, h⟩ := zb2_inv h
        have E581 : zE (fun o => o = 43 ∨ o = 44 ∨ o = 46) w w17 := E0.tr (eX6_finding e580) (fun o h => by first | omega | (simp only [zIsLand, zIsSheet] at *; omega))
        obtain ⟨rfl, rfl⟩ := zpi2 h
        exact E581
    · replace h := zite_f c575 h
      obtain ⟨v20, w21, e582, h⟩ := zb2_inv h
      have E583 : zE (fun o => o = 43 ∨ o = 44 ∨ o = 46) w w21 := E0.tr (eX6_finding e582) (fun o h => by first | omega | (simp only [zIsLand, zIsSheet] at *; omega))
      obtain ⟨rfl, rfl⟩ := zpi2 h
      exact E583
set_option maxRecDepth 100000 in
theorem eX6_first {w : zW} {p1 : Int32} {p2 : Int32} {r : Int32} {w' : zW} (h : fX6_first w p1 p2 = some (r, w')) : zE (fun o => (30 ≤ o ∧ o < 30 + 10) ∨ o = 40 ∨ o = 41 ∨ o = 42 ∨ o = 46) w w' := by
  unfold fX6_first at h
  have E0 : zE (fun o => (30 ≤ o ∧ o < 30 + 10) ∨ o = 40 ∨ o = 41 ∨ o = 42 ∨ o = 46) w w := zE.rfl
  obtain ⟨v2, e584, h⟩ := zbind h
  by_cases c585 : v2 = 0
  · replace h := zite_t c585 h
    obtain ⟨v4, w5, e586, h⟩ := zb2_inv h
    have E587 : zE (fun o => (30 ≤ o ∧ o < 30 + 10) ∨ o = 40 ∨ o = 41 ∨ o = 42 ∨ o = 46) w w5 := E0.tr (eX6_finding e586) (fun o h => by first | omega | (simp only [zIsLand, zIsSheet] at *; omega))
    obtain ⟨rfl, rfl⟩ := zpi2 h
    exact E587
  · replace h := zite_f c585 h
    obtain ⟨v7, e588, h⟩ := zbind h
    by_cases c589 : v7 = 0
    · replace h := zite_t c589 h
      obtain ⟨v9, w10, e590, h⟩ := zb2_inv h
      have E591 : zE (fun o => (30 ≤ o ∧ o < 30 + 10) ∨ o = 40 ∨ o = 41 ∨ o = 42 ∨ o = 46) w w10 := E0.tr (eX6_finding e590) (fun o h => by first | omega | (simp only [zIsLand, zIsSheet] at *; omega))
      obtain ⟨rfl, rfl⟩ := zpi2 h
      exact E591
    · replace h := zite_f c589 h
      by_cases c592 : p1 = p2
      · replace h := zite_t c592 h
        obtain ⟨v28, w29, e593, h⟩ := zb2_inv h
        have E594 : zE (fun o => (30 ≤ o ∧ o < 30 + 10) ∨ o = 40 ∨ o = 41 ∨ o = 42 ∨ o = 46) w w29 := E0.tr (eX6_finding e593) (fun o h => by first | omega | (simp only [zIsLand, zIsSheet] at *; omega))
        obtain ⟨rfl, rfl⟩ := zpi2 h
        exact E594
      · replace h := zite_f c592 h
        by_cases c595 : ((w.1 10 8) + (200 : Int32)) ≤ (9999 : Int32)
        · replace h := zite_t c595 h
          obtain ⟨v12, w13, e596, h⟩ := zb2_inv h
          have E597 : zE (fun o => (30 ≤ o ∧ o < 30 + 10) ∨ o = 40 ∨ o = 41 ∨ o = 42 ∨ o = 46) w w13 := E0.tr (eX6_daysAhead e596) (fun o h => by first | omega | (simp only [zIsLand, zIsSheet] at *; omega))
          obtain ⟨v15, w16, e598, h⟩ := zb2_inv h
          have E599 : zE (fun o => (30 ≤ o ∧ o < 30 + 10) ∨ o = 40 ∨ o = 41 ∨ o = 42 ∨ o = 46) w w16 := E597.tr (eX6_daysAhead e598) (fun o h => by first | omega | (simp only [zIsLand, zIsSheet] at *; omega))
          by_cases c600 : v12 = v15
          · replace h := zite_t c600 h
            by_cases c601 : v12 < (1000000 : Int32)
            · replace h := zite_t c601 h
              obtain ⟨rfl, rfl⟩ := zpi2 h
              exact E599
            · replace h := zite_f c601 h
              obtain ⟨v19, w20, e602, h⟩ := zb2_inv h
              have E603 : zE (fun o => (30 ≤ o ∧ o < 30 + 10) ∨ o = 40 ∨ o = 41 ∨ o = 42 ∨ o = 46) w w20 := E599.tr (eX6_finding e602) (fun o h => by first | omega | (simp only [zIsLand, zIsSheet] at *; omega))
              obtain ⟨rfl, rfl⟩ := zpi2 h
              exact E603
          · replace h := zite_f c600 h
            by_cases c604 : v15 ≤ v12
            · replace h := zite_t c604 h
              obtain ⟨rfl, rfl⟩ := zpi2 h
              exact E599
            · replace h := zite_f c604 h
              obtain ⟨rfl, rfl⟩ := zpi2 h
              exact E599
        · replace h := zite_f c595 h
          obtain ⟨v24, w25, e605, h⟩ := zb2_inv h
          have E606 : zE (fun o => (30 ≤ o ∧ o < 30 + 10) ∨ o = 40 ∨ o = 41 ∨ o = 42 ∨ o = 46) w w25 := E0.tr (eX6_finding e605) (fun o h => by first | omega | (simp only [zIsLand, zIsSheet] at *; omega))
          obtain ⟨rfl, rfl⟩ := zpi2 h
          exact E606
set_option maxRecDepth 100000 in
theorem eX6_goes {w : zW} {p1 : Int32} {p2 : Int32} {p3 : Int32} {r : Int32} {w' : zW} (h : fX6_goes w p1 p2 p3 = some (r, w')) : zE (fun o => o = 46) w w' := by
  unfold fX6_goes at h
  have E0 : zE (fun o => o = 46) w w := zE.rfl
  obtain ⟨v2, e607, h⟩ := zbind h
  by_cases c608 : v2 = 0
  · replace h := zite_t c608 h
    obtain ⟨v4, w5, e609, h⟩ := zb2_inv h
    have E610 : zE (fun o => o = 46) w w5 := E0.tr (eX6_finding e609) (fun o h => by first | omega | (simp only [zIsLand, zIsSheet] at *; omega))
    obtain ⟨rfl, rfl⟩ := zpi2 h
    exact E610
  · replace h := zite_f c608 h
    obtain ⟨v7, e611, h⟩ := zbind h
    by_cases c612 : v7 = 0
    · replace h := zite_t c612 h
      obtain ⟨v26, w27, e613, h⟩ := zb2_inv h
      have E614 : zE (fun o => o = 46) w w27 := E0.tr (eX6_finding e613) (fun o h => by first | omega | (simp only [zIsLand, zIsSheet] at *; omega))
      obtain ⟨rfl, rfl⟩ := zpi2 h
      exact E614
    · replace h := zite_f c612 h
      obtain ⟨v8, e615, h⟩ := zbind h
      obtain ⟨v10, e616, h⟩ := zbind h
      obtain ⟨x16, e617, h⟩ := zbind h
      by_cases c618 : x16 = 0
      · replace h := zite_t c618 h
        obtain ⟨rfl, rfl⟩ := zpi2 h
        exact E0
      · replace h := zite_f c618 h
        obtain ⟨rfl, rfl⟩ := zpi2 h
        exact E0
set_option maxRecDepth 100000 in
theorem eX6_hermit {w : zW} {p1 : Int32} {p2 : Int32} {r : Int32} {w' : zW} (h : fX6_hermit w p1 p2 = some (r, w')) : zE (fun o => (10 ≤ o ∧ o < 10 + 10) ∨ o = 46) w w' := by
  unfold fX6_hermit at h
  have E0 : zE (fun o => (10 ≤ o ∧ o < 10 + 10) ∨ o = 46) w w := zE.rfl
  obtain ⟨v2, e619, h⟩ := zbind h
  by_cases c620 : v2 = 0
  · replace h := zite_t c620 h
    obtain ⟨v9, w10, e621, h⟩ := zb2_inv h
    have E622 : zE (fun o => (10 ≤ o ∧ o < 10 + 10) ∨ o = 46) w w10 := E0.tr (eX6_finding e621) (fun o h => by first | omega | (simp only [zIsLand, zIsSheet] at *; omega))
    obtain ⟨rfl, rfl⟩ := zpi2 h
    exact E622
  · replace h := zite_f c620 h
    obtain ⟨v4, e623, h⟩ := zbind h
    obtain ⟨w6, e624, h⟩ := zbind h
    have E625 : zE (fun o => (10 ≤ o ∧ o < 10 + 10) ∨ o = 46) w w6 := E0.tr (eX0_setHermits e624) (fun o h => by first | omega | (simp only [zIsLand, zIsSheet] at *; omega))
    by_cases c626 : v4 = p2
    · replace h := zite_t c626 h
      obtain ⟨rfl, rfl⟩ := zpi2 h
      exact E625
    · replace h := zite_f c626 h
      obtain ⟨rfl, rfl⟩ := zpi2 h
      exact E625
set_option maxRecDepth 100000 in
theorem eX6_image {w : zW}  {r : Int32} {w' : zW} (h : fX6_image w  = some (r, w')) : zE (fun o => (20 ≤ o ∧ o < 20 + 10) ∨ o = 0) w w' := by
  unfold fX6_image at h
  have E0 : zE (fun o => (20 ≤ o ∧ o < 20 + 10) ∨ o = 0) w w := zE.rfl
  obtain ⟨w2, e627, h⟩ := zbind h
  have E628 : zE (fun o => (20 ≤ o ∧ o < 20 + 10) ∨ o = 0) w w2 := E0.tr (eX0_become e627) (fun o h => by first | omega | (simp only [zIsLand, zIsSheet] at *; omega))
  obtain ⟨w3, e629, h⟩ := zbind h
  have E630 : zE (fun o => (20 ≤ o ∧ o < 20 + 10) ∨ o = 0) w w3 := E628.zsf e629 (by first | omega | (simp only [zIsLand, zIsSheet] at *; omega))
  obtain ⟨rfl, rfl⟩ := zpi2 h
  exact E630
set_option maxRecDepth 100000 in
theorem elX6_kind_25 {p1 : Int32} {p2 : Int32}  : ∀ (n : Nat) (w6 : zW) (x3 : Int32) (x4 : Int32) (x5 : Int32) (s : (Int32 × zW)), lpX6_kind_25 p1 p2 n w6 x3 x4 x5 = some s → zE (fun o => o = 40 ∨ o = 41 ∨ o = 42 ∨ o = 46) w6 s.2 := by
  intro n
  induction n with
  | zero => intro w6 x3 x4 x5 s h; simp [lpX6_kind_25] at h
  | succ n ih =>
    intro w6 x3 x4 x5 s h
    rw [lpX6_kind_25] at h
    have E0 : zE (fun o => o = 40 ∨ o = 41 ∨ o = 42 ∨ o = 46) w6 w6 := zE.rfl
    by_cases c631 : (6 : Int32) ≤ x5
    · replace h := zite_t c631 h
      obtain rfl := Option.some.inj h
      exact E0
    · replace h := zite_f c631 h
      obtain ⟨w10, e632, h⟩ := zbind h
      have E633 : zE (fun o => o = 40 ∨ o = 41 ∨ o = 42 ∨ o = 46) w6 w10 := E0.tr (eX5_layOut e632) (fun o h => by first | omega | (simp only [zIsLand, zIsSheet] at *; omega))
      obtain ⟨v12, e634, h⟩ := zbind h
      obtain ⟨x13, x14, e635, h⟩ := zb2_inv h
      exact E633.trs (ih _ _ _ _ _ h)
set_option maxRecDepth 100000 in
theorem eX6_kind {w : zW} {p1 : Int32} {p2 : Int32} {r : Int32} {w' : zW} (h : fX6_kind w p1 p2 = some (r, w')) : zE (fun o => o = 40 ∨ o = 41 ∨ o = 42 ∨ o = 46) w w' := by
  unfold fX6_kind at h
  have E0 : zE (fun o => o = 40 ∨ o = 41 ∨ o = 42 ∨ o = 46) w w := zE.rfl
  obtain ⟨v2, e636, h⟩ := zbind h
  by_cases c637 : v2 = 0
  · replace h := zite_t c637 h
    obtain ⟨v28, w29, e638, h⟩ := zb2_inv h
    have E639 : zE (fun o => o = 40 ∨ o = 41 ∨ o = 42 ∨ o = 46) w w29 := E0.tr (eX6_finding e638) (fun o h => by first | omega | (simp only [zIsLand, zIsSheet] at *; omega))
    obtain ⟨rfl, rfl⟩ := zpi2 h
    exact E639
  · replace h := zite_f c637 h
    obtain ⟨y21, w22, e640, h⟩ := zb2_inv h
    have E641 : zE (fun o => o = 40 ∨ o = 41 ∨ o = 42 ∨ o = 46) w w22 := E0.tr (elX6_kind_25 _ _ _ _ _ _ e640) (fun o h => by first | omega | (simp only [zIsLand, zIsSheet] at *; omega))
    by_cases c642 : 0 ≤ y21
    · replace h := zite_t c642 h
      obtain ⟨rfl, rfl⟩ := zpi2 h
      exact E641
    · replace h := zite_f c642 h
      obtain ⟨v24, w25, e643, h⟩ := zb2_inv h
      have E644 : zE (fun o => o = 40 ∨ o = 41 ∨ o = 42 ∨ o = 46) w w25 := E641.tr (eX6_finding e643) (fun o h => by first | omega | (simp only [zIsLand, zIsSheet] at *; omega))
      obtain ⟨rfl, rfl⟩ := zpi2 h
      exact E644
set_option maxRecDepth 100000 in
theorem elX6_lays_37 {o2 : Nat} (hso2 : zIsSheet o2) : ∀ (n : Nat) (w11 : zW) (x9 : Int32) (x10 : Int32) (s : (Int32 × zW)), lpX6_lays_37 o2 n w11 x9 x10 = some s → zE (fun o => (10 ≤ o ∧ o < 10 + 10) ∨ o = 46) w11 s.2 := by
  intro n
  induction n with
  | zero => intro w11 x9 x10 s h; simp [lpX6_lays_37] at h
  | succ n ih =>
    intro w11 x9 x10 s h
    rw [lpX6_lays_37] at h
    have E0 : zE (fun o => (10 ≤ o ∧ o < 10 + 10) ∨ o = 46) w11 w11 := zE.rfl
    by_cases c645 : (w11.1 o2 1) ≤ x10
    · replace h := zite_t c645 h
      obtain rfl := Option.some.inj h
      exact E0
    · replace h := zite_f c645 h
      by_cases c646 : (w11.1 10 0) ≤ x10
      · replace h := zite_t c646 h
        obtain rfl := Option.some.inj h
        exact E0
      · replace h := zite_f c646 h
        obtain ⟨v15, e647, h⟩ := zbind h
        obtain ⟨x19, w20, e648, h⟩ := zb2_inv h
        have E649 : zE (fun o => (10 ≤ o ∧ o < 10 + 10) ∨ o = 46) w11 w20 := by
          by_cases c650 : (lg_cmp v15 (0 : Int64)) < 0
          · replace e648 := zite_t c650 e648
            obtain ⟨rfl, rfl⟩ := zpi2 e648
            exact E0
          · replace e648 := zite_f c650 e648
            by_cases c651 : 0 < (lg_cmp v15 (9999 : Int64))
            · replace e648 := zite_t c651 e648
              obtain ⟨rfl, rfl⟩ := zpi2 e648
              exact E0
            · replace e648 := zite_f c651 e648
              obtain ⟨w24, e652, e648⟩ := zbind e648
              have E653 : zE (fun o => (10 ≤ o ∧ o < 10 + 10) ∨ o = 46) w11 w24 := E0.tr (eX0_setHeight e652) (fun o h => by first | omega | (simp only [zIsLand, zIsSheet] at *; omega))
              obtain ⟨rfl, rfl⟩ := zpi2 e648
              exact E653
        exact E649.trs (ih _ _ _ _ h)
set_option maxRecDepth 100000 in
theorem eX6_lays {w : zW} {p1 : Int32} {r : Int32} {w' : zW} (h : fX6_lays w p1 = some (r, w')) : zE (fun o => (10 ≤ o ∧ o < 10 + 10) ∨ o = 46) w w' := by
  unfold fX6_lays at h
  have E0 : zE (fun o => (10 ≤ o ∧ o < 10 + 10) ∨ o = 46) w w := zE.rfl
  rcases zbo_inv h with ⟨e654, h⟩ | ⟨o2, e654, h⟩
  · skip
    obtain ⟨v5, w6, e655, h⟩ := zb2_inv h
    have E656 : zE (fun o => (10 ≤ o ∧ o < 10 + 10) ∨ o = 46) w w6 := E0.tr (eX6_finding e655) (fun o h => by first | omega | (simp only [zIsLand, zIsSheet] at *; omega))
    obtain ⟨rfl, rfl⟩ := zpi2 h
    exact E656
  · have s657 : zIsSheet o2 := fX6_sheetAt_ok e654
    obtain ⟨v8, e658, h⟩ := zbind h
    by_cases c659 : v8 = 0
    · replace h := zite_t c659 h
      obtain ⟨y31, w32, e660, h⟩ := zb2_inv h
      have E661 : zE (fun o => (10 ≤ o ∧ o < 10 + 10) ∨ o = 46) w w32 := E0.tr (elX6_lays_37 (by assumption) _ _ _ _ _ e660) (fun o h => by first | omega | (simp only [zIsLand, zIsSheet] at *; omega))
      obtain ⟨rfl, rfl⟩ := zpi2 h
      exact E661
    · replace h := zite_f c659 h
      obtain ⟨v34, w35, e662, h⟩ := zb2_inv h
      have E663 : zE (fun o => (10 ≤ o ∧ o < 10 + 10) ∨ o = 46) w w35 := E0.tr (eX6_finding e662) (fun o h => by first | omega | (simp only [zIsLand, zIsSheet] at *; omega))
      obtain ⟨rfl, rfl⟩ := zpi2 h
      exact E663
set_option maxRecDepth 100000 in
theorem eX6_least {w : zW} {p1 : Int32} {p2 : Int32} {p3 : Int32} {r : Int32} {w' : zW} (h : fX6_least w p1 p2 p3 = some (r, w')) : zE (fun o => o = 40 ∨ o = 41 ∨ o = 42 ∨ o = 46) w w' := by
  unfold fX6_least at h
  have E0 : zE (fun o => o = 40 ∨ o = 41 ∨ o = 42 ∨ o = 46) w w := zE.rfl
  obtain ⟨v2, e664, h⟩ := zbind h
  by_cases c665 : v2 = 0
  · replace h := zite_t c665 h
    obtain ⟨v4, w5, e666, h⟩ := zb2_inv h
    have E667 : zE (fun o => o = 40 ∨ o = 41 ∨ o = 42 ∨ o = 46) w w5 := E0.tr (eX6_finding e666) (fun o h => by first | omega | (simp only [zIsLand, zIsSheet] at *; omega))
    obtain ⟨rfl, rfl⟩ := zpi2 h
    exact E667
  · replace h := zite_f c665 h
    obtain ⟨v7, e668, h⟩ := zbind h
    by_cases c669 : v7 = 0
    · replace h := zite_t c669 h
      obtain ⟨v16, w17, e670, h⟩ := zb2_inv h
      have E671 : zE (fun o => o = 40 ∨ o = 41 ∨ o = 42 ∨ o = 46) w w17 := E0.tr (eX6_finding e670) (fun o h => by first | omega | (simp only [zIsLand, zIsSheet] at *; omega))
      obtain ⟨rfl, rfl⟩ := zpi2 h
      exact E671
    · replace h := zite_f c669 h
      obtain ⟨w9, e672, h⟩ := zbind h
      have E673 : zE (fun o => o = 40 ∨ o = 41 ∨ o = 42 ∨ o = 46) w w9 := E0.tr (eX5_layOut e672) (fun o h => by first | omega | (simp only [zIsLand, zIsSheet] at *; omega))
      obtain ⟨v11, e674, h⟩ := zbind h
      obtain ⟨v13, w14, e675, h⟩ := zb2_inv h
      have E676 : zE (fun o => o = 40 ∨ o = 41 ∨ o = 42 ∨ o = 46) w w14 := E673.tr (eX6_daysUntil e675) (fun o h => by first | omega | (simp only [zIsLand, zIsSheet] at *; omega))
      obtain ⟨rfl, rfl⟩ := zpi2 h
      exact E676
set_option maxRecDepth 100000 in
theorem eX6_live {w : zW} {p1 : Int32} {p2 : Int32} {r : Int32} {w' : zW} (h : fX6_live w p1 p2 = some (r, w')) : zE (fun o => o = 40 ∨ o = 41 ∨ o = 42 ∨ o = 46) w w' := by
  unfold fX6_live at h
  have E0 : zE (fun o => o = 40 ∨ o = 41 ∨ o = 42 ∨ o = 46) w w := zE.rfl
  obtain ⟨v2, e677, h⟩ := zbind h
  by_cases c678 : v2 = 0
  · replace h := zite_t c678 h
    obtain ⟨v4, w5, e679, h⟩ := zb2_inv h
    have E680 : zE (fun o => o = 40 ∨ o = 41 ∨ o = 42 ∨ o = 46) w w5 := E0.tr (eX6_finding e679) (fun o h => by first | omega | (simp only [zIsLand, zIsSheet] at *; omega))
    obtain ⟨rfl, rfl⟩ := zpi2 h
    exact E680
  · replace h := zite_f c678 h
    by_cases c681 : p2 = 0
    · replace h := zite_t c681 h
      obtain ⟨v7, w8, e682, h⟩ := zb2_inv h
      have E683 : zE (fun o => o = 40 ∨ o = 41 ∨ o = 42 ∨ o = 46) w w8 := E0.tr (eX6_finding e682) (fun o h => by first | omega | (simp only [zIsLand, zIsSheet] at *; omega))
      obtain ⟨rfl, rfl⟩ := zpi2 h
      exact E683
    · replace h := zite_f c681 h
      obtain ⟨v10, e684, h⟩ := zbind h
      by_cases c685 : (p2 &&& (v10 ^^^ (-1 : Int32))) = 0
      · replace h := zite_t c685 h
        obtain ⟨w12, e686, h⟩ := zbind h
        have E687 : zE (fun o => o = 40 ∨ o = 41 ∨ o = 42 ∨ o = 46) w w12 := E0.tr (eX5_layOut e686) (fun o h => by first | omega | (simp only [zIsLand, zIsSheet] at *; omega))
        obtain ⟨v14, e688, h⟩ := zbind h
        by_cases c689 : 0 ≤ v14
        · replace h := zite_t c689 h
          obtain ⟨rfl, rfl⟩ := zpi2 h
          exact E687
        · replace h := zite_f c689 h
          obtain ⟨v16, w17, e690, h⟩ := zb2_inv h
          have E691 : zE (fun o => o = 40 ∨ o = 41 ∨ o = 42 ∨ o = 46) w w17 := E687.tr (eX6_finding e690) (fun o h => by first | omega | (simp only [zIsLand, zIsSheet] at *; omega))
          obtain ⟨rfl, rfl⟩ := zpi2 h
          exact E691
      · replace h := zite_f c685 h
        obtain ⟨v20, w21, e692, h⟩ := zb2_inv h
        have E693 : zE (fun o => o = 40 ∨ o = 41 ∨ o = 42 ∨ o = 46) w w21 := E0.tr (eX6_finding e692) (fun o h => by first | omega | (simp only [zIsLand, zIsSheet] at *; omega))
        obtain ⟨rfl, rfl⟩ := zpi2 h
        exact E693
set_option maxRecDepth 100000 in
theorem eX6_needs {w : zW} {p1 : Int32} {p2 : Int32} {r : Int32} {w' : zW} (h : fX6_needs w p1 p2 = some (r, w')) : zE (fun o => o = 46) w w' := by
  unfold fX6_needs at h
  have E0 : zE (fun o => o = 46) w w := zE.rfl
  obtain ⟨v2, e694, h⟩ := zbind h
  by_cases c695 : v2 = 0
  · replace h := zite_t c695 h
    obtain ⟨v4, w5, e696, h⟩ := zb2_inv h
    have E697 : zE (fun o => o = 46) w w5 := E0.tr (eX6_finding e696) (fun o h => by first | omega | (simp only [zIsLand, zIsSheet] at *; omega))
    obtain ⟨rfl, rfl⟩ := zpi2 h
    exact E697
  · replace h := zite_f c695 h
    obtain ⟨v7, e698, h⟩ := zbind h
    by_cases c699 : v7 = 0
    · replace h := zite_t c699 h
      obtain ⟨v13, w14, e700, h⟩ := zb2_inv h
      have E701 : zE (fun o => o = 46) w w14 := E0.tr (eX6_finding e700) (fun o h => by first | omega | (simp only [zIsLand, zIsSheet] at *; omega))
      obtain ⟨rfl, rfl⟩ := zpi2 h
      exact E701
    · replace h := zite_f c699 h
      obtain ⟨v8, e702, h⟩ := zbind h
      obtain ⟨v11, e703, h⟩ := zbind h
      obtain ⟨rfl, rfl⟩ := zpi2 h
      exact E0
set_option maxRecDepth 100000 in
theorem eX6_next {w : zW} {p1 : Int32} {r : Int32} {w' : zW} (h : fX6_next w p1 = some (r, w')) : zE (fun o => o = 40 ∨ o = 41 ∨ o = 42 ∨ o = 46) w w' := by
  unfold fX6_next at h
  have E0 : zE (fun o => o = 40 ∨ o = 41 ∨ o = 42 ∨ o = 46) w w := zE.rfl
  obtain ⟨v2, e704, h⟩ := zbind h
  by_cases c705 : v2 = 0
  · replace h := zite_t c705 h
    obtain ⟨v20, w21, e706, h⟩ := zb2_inv h
    have E707 : zE (fun o => o = 40 ∨ o = 41 ∨ o = 42 ∨ o = 46) w w21 := E0.tr (eX6_finding e706) (fun o h => by first | omega | (simp only [zIsLand, zIsSheet] at *; omega))
    obtain ⟨rfl, rfl⟩ := zpi2 h
    exact E707
  · replace h := zite_f c705 h
    obtain ⟨v3, e708, h⟩ := zbind h
    by_cases c709 : v3 ≤ 0
    · replace h := zite_t c709 h
      obtain ⟨v5, e710, h⟩ := zbind h
      obtain ⟨w8, e711, h⟩ := zbind h
      have E712 : zE (fun o => o = 40 ∨ o = 41 ∨ o = 42 ∨ o = 46) w w8 := E0.tr (eX5_layOut e711) (fun o h => by first | omega | (simp only [zIsLand, zIsSheet] at *; omega))
      obtain ⟨v9, e713, h⟩ := zbind h
      obtain ⟨v11, e714, h⟩ := zbind h
      obtain ⟨w14, e715, h⟩ := zbind h
      have E716 : zE (fun o => o = 40 ∨ o = 41 ∨ o = 42 ∨ o = 46) w w14 := E712.tr (eX5_lookAhead e715) (fun o h => by first | omega | (simp only [zIsLand, zIsSheet] at *; omega))
      obtain ⟨rfl, rfl⟩ := zpi2 h
      exact E716
    · replace h := zite_f c709 h
      obtain ⟨v16, w17, e717, h⟩ := zb2_inv h
      have E718 : zE (fun o => o = 40 ∨ o = 41 ∨ o = 42 ∨ o = 46) w w17 := E0.tr (eX6_finding e717) (fun o h => by first | omega | (simp only [zIsLand, zIsSheet] at *; omega))
      obtain ⟨rfl, rfl⟩ := zpi2 h
      exact E718
set_option maxRecDepth 100000 in
theorem eX6_now {w : zW} {p1 : Int32} {r : Int32} {w' : zW} (h : fX6_now w p1 = some (r, w')) : zE (fun o => o = 46) w w' := by
  unfold fX6_now at h
  have E0 : zE (fun o => o = 46) w w := zE.rfl
  by_cases c719 : p1 = 0
  · replace h := zite_t c719 h
    obtain ⟨rfl, rfl⟩ := zpi2 h
    exact E0
  · replace h := zite_f c719 h
    by_cases c720 : p1 = 1
    · replace h := zite_t c720 h
      obtain ⟨rfl, rfl⟩ := zpi2 h
      exact E0
    · replace h := zite_f c720 h
      by_cases c721 : p1 = 2
      · replace h := zite_t c721 h
        obtain ⟨v7, e722, h⟩ := zbind h
        obtain ⟨rfl, rfl⟩ := zpi2 h
        exact E0
      · replace h := zite_f c721 h
        by_cases c723 : p1 = 3
        · replace h := zite_t c723 h
          obtain ⟨v9, e724, h⟩ := zbind h
          obtain ⟨rfl, rfl⟩ := zpi2 h
          exact E0
        · replace h := zite_f c723 h
          by_cases c725 : p1 = 4
          · replace h := zite_t c725 h
            obtain ⟨v11, e726, h⟩ := zbind h
            obtain ⟨v13, e727, h⟩ := zbind h
            obtain ⟨rfl, rfl⟩ := zpi2 h
            exact E0
          · replace h := zite_f c725 h
            obtain ⟨v15, w16, e728, h⟩ := zb2_inv h
            have E729 : zE (fun o => o = 46) w w16 := E0.tr (eX6_finding e728) (fun o h => by first | omega | (simp only [zIsLand, zIsSheet] at *; omega))
            obtain ⟨rfl, rfl⟩ := zpi2 h
            exact E729
set_option maxRecDepth 100000 in
theorem eX6_of {w : zW} {p1 : Int32} {p2 : Int32} {r : Int32} {w' : zW} (h : fX6_of w p1 p2 = some (r, w')) : zE (fun o => o = 46) w w' := by
  unfold fX6_of at h
  have E0 : zE (fun o => o = 46) w w := zE.rfl
  obtain ⟨v2, e730, h⟩ := zbind h
  by_cases c731 : v2 = 0
  · replace h := zite_t c731 h
    obtain ⟨v26, w27, e732, h⟩ := zb2_inv h
    have E733 : zE (fun o => o = 46) w w27 := E0.tr (eX6_finding e732) (fun o h => by first | omega | (simp only [zIsLand, zIsSheet] at *; omega))
    obtain ⟨rfl, rfl⟩ := zpi2 h
    exact E733
  · replace h := zite_f c731 h
    by_cases c734 : p2 = 0
    · replace h := zite_t c734 h
      obtain ⟨v9, e735, h⟩ := zbind h
      obtain ⟨rfl, rfl⟩ := zpi2 h
      exact E0
    · replace h := zite_f c734 h
      by_cases c736 : p2 = 1
      · replace h := zite_t c736 h
        obtain ⟨v11, e737, h⟩ := zbind h
        obtain ⟨rfl, rfl⟩ := zpi2 h
        exact E0
      · replace h := zite_f c736 h
        by_cases c738 : p2 = 2
        · replace h := zite_t c738 h
          obtain ⟨v13, e739, h⟩ := zbind h
          obtain ⟨rfl, rfl⟩ := zpi2 h
          exact E0
        · replace h := zite_f c738 h
          by_cases c740 : p2 = 3
          · replace h := zite_t c740 h
            obtain ⟨v15, e741, h⟩ := zbind h
            obtain ⟨rfl, rfl⟩ := zpi2 h
            exact E0
          · replace h := zite_f c740 h
            by_cases c742 : p2 = 4
            · replace h := zite_t c742 h
              obtain ⟨v17, e743, h⟩ := zbind h
              obtain ⟨rfl, rfl⟩ := zpi2 h
              exact E0
            · replace h := zite_f c742 h
              by_cases c744 : p2 = 5
              · replace h := zite_t c744 h
                obtain ⟨v20, e745, h⟩ := zbind h
                by_cases c746 : v20 = 0
                · replace h := zite_t c746 h
                  obtain ⟨rfl, rfl⟩ := zpi2 h
                  exact E0
                · replace h := zite_f c746 h
                  obtain ⟨rfl, rfl⟩ := zpi2 h
                  exact E0
              · replace h := zite_f c744 h
                obtain ⟨v23, w24, e747, h⟩ := zb2_inv h
                have E748 : zE (fun o => o = 46) w w24 := E0.tr (eX6_finding e747) (fun o h => by first | omega | (simp only [zIsLand, zIsSheet] at *; omega))
                obtain ⟨rfl, rfl⟩ := zpi2 h
                exact E748
set_option maxRecDepth 100000 in
theorem eX6_on {w : zW} {p1 : Int32} {p2 : Int32} {r : Int32} {w' : zW} (h : fX6_on w p1 p2 = some (r, w')) : zE (fun o => (30 ≤ o ∧ o < 30 + 10) ∨ o = 40 ∨ o = 41 ∨ o = 42 ∨ o = 46) w w' := by
  unfold fX6_on at h
  have E0 : zE (fun o => (30 ≤ o ∧ o < 30 + 10) ∨ o = 40 ∨ o = 41 ∨ o = 42 ∨ o = 46) w w := zE.rfl
  obtain ⟨v2, e749, h⟩ := zbind h
  by_cases c750 : v2 = 0
  · replace h := zite_t c750 h
    obtain ⟨v4, w5, e751, h⟩ := zb2_inv h
    have E752 : zE (fun o => (30 ≤ o ∧ o < 30 + 10) ∨ o = 40 ∨ o = 41 ∨ o = 42 ∨ o = 46) w w5 := E0.tr (eX6_finding e751) (fun o h => by first | omega | (simp only [zIsLand, zIsSheet] at *; omega))
    obtain ⟨rfl, rfl⟩ := zpi2 h
    exact E752
  · replace h := zite_f c750 h
    by_cases c753 : p2 < 0
    · replace h := zite_t c753 h
      obtain ⟨v7, w8, e754, h⟩ := zb2_inv h
      have E755 : zE (fun o => (30 ≤ o ∧ o < 30 + 10) ∨ o = 40 ∨ o = 41 ∨ o = 42 ∨ o = 46) w w8 := E0.tr (eX6_finding e754) (fun o h => by first | omega | (simp only [zIsLand, zIsSheet] at *; omega))
      obtain ⟨rfl, rfl⟩ := zpi2 h
      exact E755
    · replace h := zite_f c753 h
      by_cases c756 : p2 ≤ (200 : Int32)
      · replace h := zite_t c756 h
        by_cases c757 : ((w.1 10 8) + p2) ≤ (9999 : Int32)
        · replace h := zite_t c757 h
          obtain ⟨w10, e758, h⟩ := zbind h
          have E759 : zE (fun o => (30 ≤ o ∧ o < 30 + 10) ∨ o = 40 ∨ o = 41 ∨ o = 42 ∨ o = 46) w w10 := E0.tr (eX0_become e758) (fun o h => by first | omega | (simp only [zIsLand, zIsSheet] at *; omega))
          obtain ⟨w12, e760, h⟩ := zbind h
          have E761 : zE (fun o => (30 ≤ o ∧ o < 30 + 10) ∨ o = 40 ∨ o = 41 ∨ o = 42 ∨ o = 46) w w12 := E759.tr (eX6_carryOn e760) (fun o h => by first | omega | (simp only [zIsLand, zIsSheet] at *; omega))
          obtain ⟨v13, e762, h⟩ := zbind h
          obtain ⟨rfl, rfl⟩ := zpi2 h
          exact E761
        · replace h := zite_f c757 h
          obtain ⟨v16, w17, e763, h⟩ := zb2_inv h
          have E764 : zE (fun o => (30 ≤ o ∧ o < 30 + 10) ∨ o = 40 ∨ o = 41 ∨ o = 42 ∨ o = 46) w w17 := E0.tr (eX6_finding e763) (fun o h => by first | omega | (simp only [zIsLand, zIsSheet] at *; omega))
          obtain ⟨rfl, rfl⟩ := zpi2 h
          exact E764
      · replace h := zite_f c756 h
        obtain ⟨v20, w21, e765, h⟩ := zb2_inv h
        have E766 : zE (fun o => (30 ≤ o ∧ o < 30 + 10) ∨ o = 40 ∨ o = 41 ∨ o = 42 ∨ o = 46) w w21 := E0.tr (eX6_finding e765) (fun o h => by first | omega | (simp only [zIsLand, zIsSheet] at *; omega))
        obtain ⟨rfl, rfl⟩ := zpi2 h
        exact E766
set_option maxRecDepth 100000 in
theorem eX6_peak {w : zW}  {r : Int32} {w' : zW} (h : fX6_peak w  = some (r, w')) : zE (fun o => o = 46) w w' := by
  unfold fX6_peak at h
  have E0 : zE (fun o => o = 46) w w := zE.rfl
  by_cases c767 : (w.1 10 0) = 0
  · replace h := zite_t c767 h
    obtain ⟨v4, w5, e768, h⟩ := zb2_inv h
    have E769 : zE (fun o => o = 46) w w5 := E0.tr (eX6_finding e768) (fun o h => by first | omega | (simp only [zIsLand, zIsSheet] at *; omega))
    obtain ⟨rfl, rfl⟩ := zpi2 h
    exact E769
  · replace h := zite_f c767 h
    obtain ⟨v2, e770, h⟩ := zbind h
    obtain ⟨rfl, rfl⟩ := zpi2 h
    exact E0
set_option maxRecDepth 100000 in
theorem eX6_quiet {w : zW} {p1 : Int32} {r : Int32} {w' : zW} (h : fX6_quiet w p1 = some (r, w')) : zE (fun o => o = 40 ∨ o = 41 ∨ o = 42 ∨ o = 46) w w' := by
  unfold fX6_quiet at h
  have E0 : zE (fun o => o = 40 ∨ o = 41 ∨ o = 42 ∨ o = 46) w w := zE.rfl
  obtain ⟨v2, e771, h⟩ := zbind h
  by_cases c772 : v2 = 0
  · replace h := zite_t c772 h
    obtain ⟨v8, w9, e773, h⟩ := zb2_inv h
    have E774 : zE (fun o => o = 40 ∨ o = 41 ∨ o = 42 ∨ o = 46) w w9 := E0.tr (eX6_finding e773) (fun o h => by first | omega | (simp only [zIsLand, zIsSheet] at *; omega))
    obtain ⟨rfl, rfl⟩ := zpi2 h
    exact E774
  · replace h := zite_f c772 h
    obtain ⟨w4, e775, h⟩ := zbind h
    have E776 : zE (fun o => o = 40 ∨ o = 41 ∨ o = 42 ∨ o = 46) w w4 := E0.tr (eX5_layOut e775) (fun o h => by first | omega | (simp only [zIsLand, zIsSheet] at *; omega))
    obtain ⟨v6, e777, h⟩ := zbind h
    obtain ⟨rfl, rfl⟩ := zpi2 h
    exact E776
set_option maxRecDepth 100000 in
theorem eX6_reach {w : zW} {p1 : Int32} {p2 : Int32} {r : Int32} {w' : zW} (h : fX6_reach w p1 p2 = some (r, w')) : zE (fun o => o = 40 ∨ o = 41 ∨ o = 42 ∨ o = 46) w w' := by
  unfold fX6_reach at h
  have E0 : zE (fun o => o = 40 ∨ o = 41 ∨ o = 42 ∨ o = 46) w w := zE.rfl
  obtain ⟨v2, e778, h⟩ := zbind h
  by_cases c779 : v2 = 0
  · replace h := zite_t c779 h
    obtain ⟨v4, w5, e780, h⟩ := zb2_inv h
    have E781 : zE (fun o => o = 40 ∨ o = 41 ∨ o = 42 ∨ o = 46) w w5 := E0.tr (eX6_finding e780) (fun o h => by first | omega | (simp only [zIsLand, zIsSheet] at *; omega))
    obtain ⟨rfl, rfl⟩ := zpi2 h
    exact E781
  · replace h := zite_f c779 h
    obtain ⟨v7, e782, h⟩ := zbind h
    by_cases c783 : v7 = 0
    · replace h := zite_t c783 h
      obtain ⟨v13, w14, e784, h⟩ := zb2_inv h
      have E785 : zE (fun o => o = 40 ∨ o = 41 ∨ o = 42 ∨ o = 46) w w14 := E0.tr (eX6_finding e784) (fun o h => by first | omega | (simp only [zIsLand, zIsSheet] at *; omega))
      obtain ⟨rfl, rfl⟩ := zpi2 h
      exact E785
    · replace h := zite_f c783 h
      obtain ⟨w9, e786, h⟩ := zbind h
      have E787 : zE (fun o => o = 40 ∨ o = 41 ∨ o = 42 ∨ o = 46) w w9 := E0.tr (eX5_layOut e786) (fun o h => by first | omega | (simp only [zIsLand, zIsSheet] at *; omega))
      obtain ⟨v11, e788, h⟩ := zbind h
      obtain ⟨rfl, rfl⟩ := zpi2 h
      exact E787
set_option maxRecDepth 100000 in
theorem eX6_rise {w : zW} {p1 : Int32} {p2 : Int32} {p3 : Int32} {r : Int32} {w' : zW} (h : fX6_rise w p1 p2 p3 = some (r, w')) : zE (fun o => o = 40 ∨ o = 41 ∨ o = 42 ∨ o = 46) w w' := by
  unfold fX6_rise at h
  have E0 : zE (fun o => o = 40 ∨ o = 41 ∨ o = 42 ∨ o = 46) w w := zE.rfl
  obtain ⟨v2, e811, h⟩ := zbind h
  by_cases c812 : v2 = 0
  · replace h := zite_t c812 h
    obtain ⟨v4, w5, e813, h⟩ := zb2_inv h
    have E814 : zE (fun o => o = 40 ∨ o = 41 ∨ o = 42 ∨ o = 46) w w5 := E0.tr (eX6_finding e813) (fun o h => by first | omega | (simp only [zIsLand, zIsSheet] at *; omega))
    obtain ⟨rfl, rfl⟩ := zpi2 h
    exact E814
  · replace h := zite_f c812 h
    obtain ⟨v7, e815, h⟩ := zbind h
    by_cases c816 : v7 = 0
    · replace h := zite_t c816 h
      obtain ⟨v22, w23, e817, h⟩ := zb2_inv h
      have E818 : zE (fun o => o = 40 ∨ o = 41 ∨ o = 42 ∨ o = 46) w w23 := E0.tr (eX6_finding e817) (fun o h => by first | omega | (simp only [zIsLand, zIsSheet] at *; omega))
      obtain ⟨rfl, rfl⟩ := zpi2 h
      exact E818
    · replace h := zite_f c816 h
      obtain ⟨w9, e819, h⟩ := zbind h
      have E820 : zE (fun o => o = 40 ∨ o = 41 ∨ o = 42 ∨ o = 46) w w9 := E0.tr (eX5_layOut e819) (fun o h => by first | omega | (simp only [zIsLand, zIsSheet] at *; omega))
      obtain ⟨v11, e821, h⟩ := zbind h
      by_cases c822 : v11 = 0
      · replace h := zite_t c822 h
        obtain ⟨v13, e823, h⟩ := zbind h
        by_cases c824 : v13 ≤ (9999 : Int32)
        · replace h := zite_t c824 h
          obtain ⟨rfl, rfl⟩ := zpi2 h
          exact E820
        · replace h := zite_f c824 h
          obtain ⟨v15, w16, e825, h⟩ := zb2_inv h
          have E826 : zE (fun o => o = 40 ∨ o = 41 ∨ o = 42 ∨ o = 46) w w16 := E820.tr (eX6_finding e825) (fun o h => by first | omega | (simp only [zIsLand, zIsSheet] at *; omega))
          obtain ⟨rfl, rfl⟩ := zpi2 h
          exact E826
      · replace h := zite_f c822 h
        obtain ⟨v19, e827, h⟩ := zbind h
        obtain ⟨rfl, rfl⟩ := zpi2 h
        exact E820
set_option maxRecDepth 100000 in
theorem eX6_road {w : zW} {p1 : Int32} {p2 : Int32} {p3 : Int32} {r : Int32} {w' : zW} (h : fX6_road w p1 p2 p3 = some (r, w')) : zE (fun o => (10 ≤ o ∧ o < 10 + 10) ∨ o = 46) w w' := by
  unfold fX6_road at h
  have E0 : zE (fun o => (10 ≤ o ∧ o < 10 + 10) ∨ o = 46) w w := zE.rfl
  obtain ⟨v2, e828, h⟩ := zbind h
  by_cases c829 : v2 = 0
  · replace h := zite_t c829 h
    obtain ⟨v4, w5, e830, h⟩ := zb2_inv h
    have E831 : zE (fun o => (10 ≤ o ∧ o < 10 + 10) ∨ o = 46) w w5 := E0.tr (eX6_finding e830) (fun o h => by first | omega | (simp only [zIsLand, zIsSheet] at *; omega))
    obtain ⟨rfl, rfl⟩ := zpi2 h
    exact E831
  · replace h := zite_f c829 h
    by_cases c832 : p3 < (1 : Int32)
    · replace h := zite_t c832 h
      obtain ⟨v7, w8, e833, h⟩ := zb2_inv h
      have E834 : zE (fun o => (10 ≤ o ∧ o < 10 + 10) ∨ o = 46) w w8 := E0.tr (eX6_finding e833) (fun o h => by first | omega | (simp only [zIsLand, zIsSheet] at *; omega))
      obtain ⟨rfl, rfl⟩ := zpi2 h
      exact E834
    · replace h := zite_f c832 h
      by_cases c835 : p3 ≤ (9 : Int32)
      · replace h := zite_t c835 h
        obtain ⟨v10, e836, h⟩ := zbind h
        by_cases c837 : v10 = 0
        · replace h := zite_t c837 h
          obtain ⟨v12, e838, h⟩ := zbind h
          by_cases c839 : v12 = 0
          · replace h := zite_t c839 h
            obtain ⟨v14, w15, e840, h⟩ := zb2_inv h
            have E841 : zE (fun o => (10 ≤ o ∧ o < 10 + 10) ∨ o = 46) w w15 := E0.tr (eX0_addRoad e840) (fun o h => by first | omega | (simp only [zIsLand, zIsSheet] at *; omega))
            obtain ⟨rfl, rfl⟩ := zpi2 h
            exact E841
          · replace h := zite_f c839 h
            obtain ⟨v17, w18, e842, h⟩ := zb2_inv h
            have E843 : zE (fun o => (10 ≤ o ∧ o < 10 + 10) ∨ o = 46) w w18 := E0.tr (eX6_finding e842) (fun o h => by first | omega | (simp only [zIsLand, zIsSheet] at *; omega))
            obtain ⟨rfl, rfl⟩ := zpi2 h
            exact E843
        · replace h := zite_f c837 h
          obtain ⟨v21, w22, e844, h⟩ := zb2_inv h
          have E845 : zE (fun o => (10 ≤ o ∧ o < 10 + 10) ∨ o = 46) w w22 := E0.tr (eX6_finding e844) (fun o h => by first | omega | (simp only [zIsLand, zIsSheet] at *; omega))
          obtain ⟨rfl, rfl⟩ := zpi2 h
          exact E845
      · replace h := zite_f c835 h
        obtain ⟨v25, w26, e846, h⟩ := zb2_inv h
        have E847 : zE (fun o => (10 ≤ o ∧ o < 10 + 10) ∨ o = 46) w w26 := E0.tr (eX6_finding e846) (fun o h => by first | omega | (simp only [zIsLand, zIsSheet] at *; omega))
        obtain ⟨rfl, rfl⟩ := zpi2 h
        exact E847
set_option maxRecDepth 100000 in
theorem eX6_roadOf {w : zW} {p1 : Int32} {p2 : Int32} {r : Int32} {w' : zW} (h : fX6_roadOf w p1 p2 = some (r, w')) : zE (fun o => o = 46) w w' := by
  unfold fX6_roadOf at h
  have E0 : zE (fun o => o = 46) w w := zE.rfl
  obtain ⟨v2, e848, h⟩ := zbind h
  by_cases c849 : v2 = 0
  · replace h := zite_t c849 h
    obtain ⟨v16, w17, e850, h⟩ := zb2_inv h
    have E851 : zE (fun o => o = 46) w w17 := E0.tr (eX6_finding e850) (fun o h => by first | omega | (simp only [zIsLand, zIsSheet] at *; omega))
    obtain ⟨rfl, rfl⟩ := zpi2 h
    exact E851
  · replace h := zite_f c849 h
    by_cases c852 : p2 = 0
    · replace h := zite_t c852 h
      obtain ⟨v6, e853, h⟩ := zbind h
      obtain ⟨rfl, rfl⟩ := zpi2 h
      exact E0
    · replace h := zite_f c852 h
      by_cases c854 : p2 = 1
      · replace h := zite_t c854 h
        obtain ⟨v8, e855, h⟩ := zbind h
        obtain ⟨rfl, rfl⟩ := zpi2 h
        exact E0
      · replace h := zite_f c854 h
        by_cases c856 : p2 = 2
        · replace h := zite_t c856 h
          obtain ⟨v10, e857, h⟩ := zbind h
          obtain ⟨rfl, rfl⟩ := zpi2 h
          exact E0
        · replace h := zite_f c856 h
          obtain ⟨v13, w14, e858, h⟩ := zb2_inv h
          have E859 : zE (fun o => o = 46) w w14 := E0.tr (eX6_finding e858) (fun o h => by first | omega | (simp only [zIsLand, zIsSheet] at *; omega))
          obtain ⟨rfl, rfl⟩ := zpi2 h
          exact E859
set_option maxRecDepth 100000 in
theorem eX6_round {w : zW} {p1 : Int32} {p2 : Int32} {p3 : Int32} {r : Int32} {w' : zW} (h : fX6_round w p1 p2 p3 = some (r, w')) : zE (fun o => o = 40 ∨ o = 41 ∨ o = 42 ∨ o = 46) w w' := by
  unfold fX6_round at h
  have E0 : zE (fun o => o = 40 ∨ o = 41 ∨ o = 42 ∨ o = 46) w w := zE.rfl
  obtain ⟨v2, e860, h⟩ := zbind h
  by_cases c861 : v2 = 0
  · replace h := zite_t c861 h
    obtain ⟨v4, w5, e862, h⟩ := zb2_inv h
    have E863 : zE (fun o => o = 40 ∨ o = 41 ∨ o = 42 ∨ o = 46) w w5 := E0.tr (eX6_finding e862) (fun o h => by first | omega | (simp only [zIsLand, zIsSheet] at *; omega))
    obtain ⟨rfl, rfl⟩ := zpi2 h
    exact E863
  · replace h := zite_f c861 h
    obtain ⟨v7, e864, h⟩ := zbind h
    by_cases c865 : v7 = 0
    · replace h := zite_t c865 h
      obtain ⟨v16, w17, e866, h⟩ := zb2_inv h
      have E867 : zE (fun o => o = 40 ∨ o = 41 ∨ o = 42 ∨ o = 46) w w17 := E0.tr (eX6_finding e866) (fun o h => by first | omega | (simp only [zIsLand, zIsSheet] at *; omega))
      obtain ⟨rfl, rfl⟩ := zpi2 h
      exact E867
    · replace h := zite_f c865 h
      obtain ⟨w9, e868, h⟩ := zbind h
      have E869 : zE (fun o => o = 40 ∨ o = 41 ∨ o = 42 ∨ o = 46) w w9 := E0.tr (eX5_layOut e868) (fun o h => by first | omega | (simp only [zIsLand, zIsSheet] at *; omega))
      obtain ⟨v11, e870, h⟩ := zbind h
      obtain ⟨v13, w14, e871, h⟩ := zb2_inv h
      have E872 : zE (fun o => o = 40 ∨ o = 41 ∨ o = 42 ∨ o = 46) w w14 := E869.tr (eX6_daysUntil e871) (fun o h => by first | omega | (simp only [zIsLand, zIsSheet] at *; omega))
      obtain ⟨rfl, rfl⟩ := zpi2 h
      exact E872
set_option maxRecDepth 100000 in
theorem eX6_sea {w : zW}  {r : Int32} {w' : zW} (h : fX6_sea w  = some (r, w')) : zE (fun o => o = 46) w w' := by
  unfold fX6_sea at h
  have E0 : zE (fun o => o = 46) w w := zE.rfl
  by_cases c873 : (w.1 10 0) = 0
  · replace h := zite_t c873 h
    obtain ⟨v4, w5, e874, h⟩ := zb2_inv h
    have E875 : zE (fun o => o = 46) w w5 := E0.tr (eX6_finding e874) (fun o h => by first | omega | (simp only [zIsLand, zIsSheet] at *; omega))
    obtain ⟨rfl, rfl⟩ := zpi2 h
    exact E875
  · replace h := zite_f c873 h
    obtain ⟨v2, e876, h⟩ := zbind h
    obtain ⟨rfl, rfl⟩ := zpi2 h
    exact E0
set_option maxRecDepth 100000 in
theorem eX6_send {w : zW} {p1 : Int32} {p2 : Int32} {p3 : Int32} {r : Int32} {w' : zW} (h : fX6_send w p1 p2 p3 = some (r, w')) : zE (fun o => (10 ≤ o ∧ o < 10 + 10) ∨ o = 46) w w' := by
  unfold fX6_send at h
  have E0 : zE (fun o => (10 ≤ o ∧ o < 10 + 10) ∨ o = 46) w w := zE.rfl
  obtain ⟨v2, e877, h⟩ := zbind h
  by_cases c878 : v2 = 0
  · replace h := zite_t c878 h
    obtain ⟨v4, w5, e879, h⟩ := zb2_inv h
    have E880 : zE (fun o => (10 ≤ o ∧ o < 10 + 10) ∨ o = 46) w w5 := E0.tr (eX6_finding e879) (fun o h => by first | omega | (simp only [zIsLand, zIsSheet] at *; omega))
    obtain ⟨rfl, rfl⟩ := zpi2 h
    exact E880
  · replace h := zite_f c878 h
    obtain ⟨v7, e881, h⟩ := zbind h
    by_cases c882 : v7 = 0
    · replace h := zite_t c882 h
      obtain ⟨v18, w19, e883, h⟩ := zb2_inv h
      have E884 : zE (fun o => (10 ≤ o ∧ o < 10 + 10) ∨ o = 46) w w19 := E0.tr (eX6_finding e883) (fun o h => by first | omega | (simp only [zIsLand, zIsSheet] at *; omega))
      obtain ⟨rfl, rfl⟩ := zpi2 h
      exact E884
    · replace h := zite_f c882 h
      obtain ⟨v9, e885, h⟩ := zbind h
      by_cases c886 : v9 = 0
      · replace h := zite_t c886 h
        obtain ⟨v11, w12, e887, h⟩ := zb2_inv h
        have E888 : zE (fun o => (10 ≤ o ∧ o < 10 + 10) ∨ o = 46) w w12 := E0.tr (eX0_addLetter e887) (fun o h => by first | omega | (simp only [zIsLand, zIsSheet] at *; omega))
        obtain ⟨rfl, rfl⟩ := zpi2 h
        exact E888
      · replace h := zite_f c886 h
        obtain ⟨v14, w15, e889, h⟩ := zb2_inv h
        have E890 : zE (fun o => (10 ≤ o ∧ o < 10 + 10) ∨ o = 46) w w15 := E0.tr (eX6_finding e889) (fun o h => by first | omega | (simp only [zIsLand, zIsSheet] at *; omega))
        obtain ⟨rfl, rfl⟩ := zpi2 h
        exact E890
set_option maxRecDepth 100000 in
theorem eX6_sheet {w : zW} {p1 : Int32} {p2 : Int32} {p3 : Int32} {r : Int32} {w' : zW} (h : fX6_sheet w p1 p2 p3 = some (r, w')) : zE (fun o => o = 46 ∨ (50 ≤ o ∧ o < 58)) w w' := by
  unfold fX6_sheet at h
  have E0 : zE (fun o => o = 46 ∨ (50 ≤ o ∧ o < 58)) w w := zE.rfl
  rcases zbo_inv h with ⟨e891, h⟩ | ⟨o2, e891, h⟩
  · skip
    obtain ⟨v5, w6, e892, h⟩ := zb2_inv h
    have E893 : zE (fun o => o = 46 ∨ (50 ≤ o ∧ o < 58)) w w6 := E0.tr (eX6_finding e892) (fun o h => by first | omega | (simp only [zIsLand, zIsSheet] at *; omega))
    obtain ⟨rfl, rfl⟩ := zpi2 h
    exact E893
  · have s894 : zIsSheet o2 := fX6_sheetAt_ok e891
    obtain ⟨v8, e895, h⟩ := zbind h
    by_cases c896 : v8 = 0
    · replace h := zite_t c896 h
      obtain ⟨v20, w21, e897, h⟩ := zb2_inv h
      have E898 : zE (fun o => o = 46 ∨ (50 ≤ o ∧ o < 58)) w w21 := E0.tr (eX6_finding e897) (fun o h => by first | omega | (simp only [zIsLand, zIsSheet] at *; omega))
      obtain ⟨rfl, rfl⟩ := zpi2 h
      exact E898
    · replace h := zite_f c896 h
      by_cases c899 : 0 ≤ p3
      · replace h := zite_t c899 h
        by_cases c900 : p3 ≤ (40 : Int32)
        · replace h := zite_t c900 h
          obtain ⟨w10, e901, h⟩ := zbind h
          have E902 : zE (fun o => o = 46 ∨ (50 ≤ o ∧ o < 58)) w w10 := E0.tr (eX3_renew e901) (fun o h => by first | omega | (simp only [zIsLand, zIsSheet] at *; omega))
          obtain ⟨rfl, rfl⟩ := zpi2 h
          exact E902
        · replace h := zite_f c900 h
          obtain ⟨v12, w13, e903, h⟩ := zb2_inv h
          have E904 : zE (fun o => o = 46 ∨ (50 ≤ o ∧ o < 58)) w w13 := E0.tr (eX6_finding e903) (fun o h => by first | omega | (simp only [zIsLand, zIsSheet] at *; omega))
          obtain ⟨rfl, rfl⟩ := zpi2 h
          exact E904
      · replace h := zite_f c899 h
        obtain ⟨v16, w17, e905, h⟩ := zb2_inv h
        have E906 : zE (fun o => o = 46 ∨ (50 ≤ o ∧ o < 58)) w w17 := E0.tr (eX6_finding e905) (fun o h => by first | omega | (simp only [zIsLand, zIsSheet] at *; omega))
        obtain ⟨rfl, rfl⟩ := zpi2 h
        exact E906
set_option maxRecDepth 100000 in
theorem eX6_slide {w : zW} {p1 : Int32} {p2 : Int32} {r : Int32} {w' : zW} (h : fX6_slide w p1 p2 = some (r, w')) : zE (fun o => (10 ≤ o ∧ o < 10 + 10) ∨ o = 46) w w' := by
  unfold fX6_slide at h
  have E0 : zE (fun o => (10 ≤ o ∧ o < 10 + 10) ∨ o = 46) w w := zE.rfl
  obtain ⟨v2, e907, h⟩ := zbind h
  by_cases c908 : v2 = 0
  · replace h := zite_t c908 h
    obtain ⟨v4, w5, e909, h⟩ := zb2_inv h
    have E910 : zE (fun o => (10 ≤ o ∧ o < 10 + 10) ∨ o = 46) w w5 := E0.tr (eX6_finding e909) (fun o h => by first | omega | (simp only [zIsLand, zIsSheet] at *; omega))
    obtain ⟨rfl, rfl⟩ := zpi2 h
    exact E910
  · replace h := zite_f c908 h
    obtain ⟨v7, e911, h⟩ := zbind h
    by_cases c912 : v7 = 0
    · replace h := zite_t c912 h
      obtain ⟨v13, w14, e913, h⟩ := zb2_inv h
      have E914 : zE (fun o => (10 ≤ o ∧ o < 10 + 10) ∨ o = 46) w w14 := E0.tr (eX6_finding e913) (fun o h => by first | omega | (simp only [zIsLand, zIsSheet] at *; omega))
      obtain ⟨rfl, rfl⟩ := zpi2 h
      exact E914
    · replace h := zite_f c912 h
      obtain ⟨v9, e915, h⟩ := zbind h
      obtain ⟨w11, e916, h⟩ := zbind h
      have E917 : zE (fun o => (10 ≤ o ∧ o < 10 + 10) ∨ o = 46) w w11 := E0.tr (eX0_setHeight e916) (fun o h => by first | omega | (simp only [zIsLand, zIsSheet] at *; omega))
      obtain ⟨rfl, rfl⟩ := zpi2 h
      exact E917
set_option maxRecDepth 100000 in
theorem eX6_status {w : zW} {p1 : Int32} {r : Int32} {w' : zW} (h : fX6_status w p1 = some (r, w')) : zE (fun o => o = 46) w w' := by
  unfold fX6_status at h
  have E0 : zE (fun o => o = 46) w w := zE.rfl
  by_cases c918 : p1 < (-1 : Int32)
  · replace h := zite_t c918 h
    obtain ⟨v2, w3, e919, h⟩ := zb2_inv h
    have E920 : zE (fun o => o = 46) w w3 := E0.tr (eX6_finding e919) (fun o h => by first | omega | (simp only [zIsLand, zIsSheet] at *; omega))
    obtain ⟨rfl, rfl⟩ := zpi2 h
    exact E920
  · replace h := zite_f c918 h
    by_cases c921 : p1 < (7 : Int32)
    · replace h := zite_t c921 h
      by_cases c922 : p1 < 0
      · replace h := zite_t c922 h
        obtain ⟨y14, e923, h⟩ := zbind h
        obtain ⟨rfl, rfl⟩ := zpi2 h
        exact E0
      · replace h := zite_f c922 h
        obtain ⟨v15, e924, h⟩ := zbind h
        obtain ⟨rfl, rfl⟩ := zpi2 h
        exact E0
    · replace h := zite_f c921 h
      obtain ⟨v19, w20, e925, h⟩ := zb2_inv h
      have E926 : zE (fun o => o = 46) w w20 := E0.tr (eX6_finding e925) (fun o h => by first | omega | (simp only [zIsLand, zIsSheet] at *; omega))
      obtain ⟨rfl, rfl⟩ := zpi2 h
      exact E926
set_option maxRecDepth 100000 in
theorem elX6_table_92 {p3 : Int32} {o2 : Nat} {x18 : Int32} (hso2 : zIsSheet o2) : ∀ (n : Nat) (w21 : zW) (x20 : Int32) (s : zW), lpX6_table_92 p3 o2 x18 n w21 x20 = some s → zE (fun o => o = 40 ∨ o = 41 ∨ o = 42 ∨ o = 46 ∨ (50 ≤ o ∧ o < 58)) w21 s := by
  intro n
  induction n with
  | zero => intro w21 x20 s h; simp [lpX6_table_92] at h
  | succ n ih =>
    intro w21 x20 s h
    rw [lpX6_table_92] at h
    have E0 : zE (fun o => o = 40 ∨ o = 41 ∨ o = 42 ∨ o = 46 ∨ (50 ≤ o ∧ o < 58)) w21 w21 := zE.rfl
    by_cases c927 : x18 ≤ x20
    · replace h := zite_t c927 h
      obtain rfl := Option.some.inj h
      exact E0
    · replace h := zite_f c927 h
      obtain ⟨v24, e928, h⟩ := zbind h
      obtain ⟨x25, e929, h⟩ := zbind h
      obtain ⟨w29, e930, h⟩ := zbind h
      have E931 : zE (fun o => o = 40 ∨ o = 41 ∨ o = 42 ∨ o = 46 ∨ (50 ≤ o ∧ o < 58)) w21 w29 := E0.tr (eX3_put e930) (fun o h => by first | omega | (simp only [zIsLand, zIsSheet] at *; omega))
      exact E931.trs (ih _ _ _ h)
set_option maxRecDepth 100000 in
theorem eX6_table {w : zW} {p1 : Int32} {p2 : Int32} {p3 : Int32} {r : Int32} {w' : zW} (h : fX6_table w p1 p2 p3 = some (r, w')) : zE (fun o => o = 40 ∨ o = 41 ∨ o = 42 ∨ o = 46 ∨ (50 ≤ o ∧ o < 58)) w w' := by
  unfold fX6_table at h
  have E0 : zE (fun o => o = 40 ∨ o = 41 ∨ o = 42 ∨ o = 46 ∨ (50 ≤ o ∧ o < 58)) w w := zE.rfl
  rcases zbo_inv h with ⟨e932, h⟩ | ⟨o2, e932, h⟩
  · skip
    obtain ⟨v5, w6, e933, h⟩ := zb2_inv h
    have E934 : zE (fun o => o = 40 ∨ o = 41 ∨ o = 42 ∨ o = 46 ∨ (50 ≤ o ∧ o < 58)) w w6 := E0.tr (eX6_finding e933) (fun o h => by first | omega | (simp only [zIsLand, zIsSheet] at *; omega))
    obtain ⟨rfl, rfl⟩ := zpi2 h
    exact E934
  · have s935 : zIsSheet o2 := fX6_sheetAt_ok e932
    obtain ⟨v8, e936, h⟩ := zbind h
    by_cases c937 : v8 = 0
    · replace h := zite_t c937 h
      obtain ⟨v10, e938, h⟩ := zbind h
      by_cases c939 : v10 = 0
      · replace h := zite_t c939 h
        obtain ⟨v12, w13, e940, h⟩ := zb2_inv h
        have E941 : zE (fun o => o = 40 ∨ o = 41 ∨ o = 42 ∨ o = 46 ∨ (50 ≤ o ∧ o < 58)) w w13 := E0.tr (eX6_finding e940) (fun o h => by first | omega | (simp only [zIsLand, zIsSheet] at *; omega))
        obtain ⟨rfl, rfl⟩ := zpi2 h
        exact E941
      · replace h := zite_f c939 h
        obtain ⟨v15, e942, h⟩ := zbind h
        by_cases c943 : v15 = 0
        · replace h := zite_t c943 h
          obtain ⟨v36, w37, e944, h⟩ := zb2_inv h
          have E945 : zE (fun o => o = 40 ∨ o = 41 ∨ o = 42 ∨ o = 46 ∨ (50 ≤ o ∧ o < 58)) w w37 := E0.tr (eX6_finding e944) (fun o h => by first | omega | (simp only [zIsLand, zIsSheet] at *; omega))
          obtain ⟨rfl, rfl⟩ := zpi2 h
          exact E945
        · replace h := zite_f c943 h
          obtain ⟨w17, e946, h⟩ := zbind h
          have E947 : zE (fun o => o = 40 ∨ o = 41 ∨ o = 42 ∨ o = 46 ∨ (50 ≤ o ∧ o < 58)) w w17 := E0.tr (eX5_layOut e946) (fun o h => by first | omega | (simp only [zIsLand, zIsSheet] at *; omega))
          obtain ⟨x18, e948, h⟩ := zbind h
          obtain ⟨w34, e949, h⟩ := zbind h
          have E950 : zE (fun o => o = 40 ∨ o = 41 ∨ o = 42 ∨ o = 46 ∨ (50 ≤ o ∧ o < 58)) w w34 := E947.tr (elX6_table_92 (by assumption) _ _ _ _ e949) (fun o h => by first | omega | (simp only [zIsLand, zIsSheet] at *; omega))
          obtain ⟨rfl, rfl⟩ := zpi2 h
          exact E950
    · replace h := zite_f c937 h
      obtain ⟨v41, w42, e951, h⟩ := zb2_inv h
      have E952 : zE (fun o => o = 40 ∨ o = 41 ∨ o = 42 ∨ o = 46 ∨ (50 ≤ o ∧ o < 58)) w w42 := E0.tr (eX6_finding e951) (fun o h => by first | omega | (simp only [zIsLand, zIsSheet] at *; omega))
      obtain ⟨rfl, rfl⟩ := zpi2 h
      exact E952
set_option maxRecDepth 100000 in
theorem eX6_tear {w : zW}  {r : Int32} {w' : zW} (h : fX6_tear w  = some (r, w')) : zE (fun o => o = 0) w w' := by
  unfold fX6_tear at h
  have E0 : zE (fun o => o = 0) w w := zE.rfl
  obtain ⟨x1, e953, h⟩ := zbind h
  obtain ⟨w4, e954, h⟩ := zbind h
  have E955 : zE (fun o => o = 0) w w4 := E0.zsf e954 (by first | omega | (simp only [zIsLand, zIsSheet] at *; omega))
  obtain ⟨rfl, rfl⟩ := zpi2 h
  exact E955
set_option maxRecDepth 100000 in
theorem eX6_text {w : zW}  {r : Int32} {w' : zW} (h : fX6_text w  = some (r, w')) : zE (fun o => (10 ≤ o ∧ o < 10 + 10) ∨ (30 ≤ o ∧ o < 30 + 10) ∨ o = 43) w w' := by
  unfold fX6_text at h
  have E0 : zE (fun o => (10 ≤ o ∧ o < 10 + 10) ∨ (30 ≤ o ∧ o < 30 + 10) ∨ o = 43) w w := zE.rfl
  obtain ⟨w2, e956, h⟩ := zbind h
  have E957 : zE (fun o => (10 ≤ o ∧ o < 10 + 10) ∨ (30 ≤ o ∧ o < 30 + 10) ∨ o = 43) w w2 := E0.tr (eX0_become e956) (fun o h => by first | omega | (simp only [zIsLand, zIsSheet] at *; omega))
  obtain ⟨v4, w5, e958, h⟩ := zb2_inv h
  have E959 : zE (fun o => (10 ≤ o ∧ o < 10 + 10) ∨ (30 ≤ o ∧ o < 30 + 10) ∨ o = 43) w w5 := E957.tr (eX1_bring e958) (fun o h => by first | omega | (simp only [zIsLand, zIsSheet] at *; omega))
  obtain ⟨w6, e960, h⟩ := zbind h
  have E961 : zE (fun o => (10 ≤ o ∧ o < 10 + 10) ∨ (30 ≤ o ∧ o < 30 + 10) ∨ o = 43) w w6 := E959.zsf e960 (by first | omega | (simp only [zIsLand, zIsSheet] at *; omega))
  obtain ⟨w10, e962, h⟩ := zbind h
  have E963 : zE (fun o => (10 ≤ o ∧ o < 10 + 10) ∨ (30 ≤ o ∧ o < 30 + 10) ∨ o = 43) w w10 := by
    by_cases c964 : v4 < 0
    · replace e962 := zite_t c964 e962
      obtain rfl := Option.some.inj e962
      exact E961
    · replace e962 := zite_f c964 e962
      obtain ⟨w14, e965, e962⟩ := zbind e962
      have E966 : zE (fun o => (10 ≤ o ∧ o < 10 + 10) ∨ (30 ≤ o ∧ o < 30 + 10) ∨ o = 43) w w14 := E961.tr (eX0_become e965) (fun o h => by first | omega | (simp only [zIsLand, zIsSheet] at *; omega))
      obtain rfl := Option.some.inj e962
      exact E966
  obtain ⟨rfl, rfl⟩ := zpi2 h
  exact E963
set_option maxRecDepth 100000 in
theorem eX6_turn {w : zW} {p1 : Int32} {p2 : Int32} {r : Int32} {w' : zW} (h : fX6_turn w p1 p2 = some (r, w')) : zE (fun o => (10 ≤ o ∧ o < 10 + 10) ∨ o = 46) w w' := by
  unfold fX6_turn at h
  have E0 : zE (fun o => (10 ≤ o ∧ o < 10 + 10) ∨ o = 46) w w := zE.rfl
  obtain ⟨v2, e967, h⟩ := zbind h
  by_cases c968 : v2 = 0
  · replace h := zite_t c968 h
    obtain ⟨v4, w5, e969, h⟩ := zb2_inv h
    have E970 : zE (fun o => (10 ≤ o ∧ o < 10 + 10) ∨ o = 46) w w5 := E0.tr (eX6_finding e969) (fun o h => by first | omega | (simp only [zIsLand, zIsSheet] at *; omega))
    obtain ⟨rfl, rfl⟩ := zpi2 h
    exact E970
  · replace h := zite_f c968 h
    obtain ⟨v7, e971, h⟩ := zbind h
    by_cases c972 : v7 = 0
    · replace h := zite_t c972 h
      obtain ⟨v13, w14, e973, h⟩ := zb2_inv h
      have E974 : zE (fun o => (10 ≤ o ∧ o < 10 + 10) ∨ o = 46) w w14 := E0.tr (eX6_finding e973) (fun o h => by first | omega | (simp only [zIsLand, zIsSheet] at *; omega))
      obtain ⟨rfl, rfl⟩ := zpi2 h
      exact E974
    · replace h := zite_f c972 h
      obtain ⟨v8, e975, h⟩ := zbind h
      obtain ⟨w10, e976, h⟩ := zbind h
      have E977 : zE (fun o => (10 ≤ o ∧ o < 10 + 10) ∨ o = 46) w w10 := E0.zwr e976 (by first | omega | (simp only [zIsLand, zIsSheet] at *; omega))
      obtain ⟨rfl, rfl⟩ := zpi2 h
      exact E977
set_option maxRecDepth 100000 in
theorem eX6_undo {w : zW}  {r : Int32} {w' : zW} (h : fX6_undo w  = some (r, w')) : zE (fun o => (10 ≤ o ∧ o < 10 + 10) ∨ o = 46) w w' := by
  unfold fX6_undo at h
  have E0 : zE (fun o => (10 ≤ o ∧ o < 10 + 10) ∨ o = 46) w w := zE.rfl
  by_cases c978 : (w.1 0 7) = 0
  · replace h := zite_t c978 h
    obtain ⟨v4, w5, e979, h⟩ := zb2_inv h
    have E980 : zE (fun o => (10 ≤ o ∧ o < 10 + 10) ∨ o = 46) w w5 := E0.tr (eX6_finding e979) (fun o h => by first | omega | (simp only [zIsLand, zIsSheet] at *; omega))
    obtain ⟨rfl, rfl⟩ := zpi2 h
    exact E980
  · replace h := zite_f c978 h
    obtain ⟨w2, e981, h⟩ := zbind h
    have E982 : zE (fun o => (10 ≤ o ∧ o < 10 + 10) ∨ o = 46) w w2 := E0.tr (eX0_become e981) (fun o h => by first | omega | (simp only [zIsLand, zIsSheet] at *; omega))
    obtain ⟨rfl, rfl⟩ := zpi2 h
    exact E982
set_option maxRecDepth 100000 in
theorem eX6_village {w : zW} {p1 : Int32} {r : Int32} {w' : zW} (h : fX6_village w p1 = some (r, w')) : zE (fun o => (10 ≤ o ∧ o < 10 + 10) ∨ o = 46) w w' := by
  unfold fX6_village at h
  have E0 : zE (fun o => (10 ≤ o ∧ o < 10 + 10) ∨ o = 46) w w := zE.rfl
  obtain ⟨v2, e983, h⟩ := zbind h
  by_cases c984 : v2 = 0
  · replace h := zite_t c984 h
    obtain ⟨v13, w14, e985, h⟩ := zb2_inv h
    have E986 : zE (fun o => (10 ≤ o ∧ o < 10 + 10) ∨ o = 46) w w14 := E0.tr (eX6_finding e985) (fun o h => by first | omega | (simp only [zIsLand, zIsSheet] at *; omega))
    obtain ⟨rfl, rfl⟩ := zpi2 h
    exact E986
  · replace h := zite_f c984 h
    obtain ⟨v4, e987, h⟩ := zbind h
    by_cases c988 : v4 = 0
    · replace h := zite_t c988 h
      obtain ⟨v6, w7, e989, h⟩ := zb2_inv h
      have E990 : zE (fun o => (10 ≤ o ∧ o < 10 + 10) ∨ o = 46) w w7 := E0.tr (eX0_addVillage e989) (fun o h => by first | omega | (simp only [zIsLand, zIsSheet] at *; omega))
      obtain ⟨rfl, rfl⟩ := zpi2 h
      exact E990
    · replace h := zite_f c988 h
      obtain ⟨v9, w10, e991, h⟩ := zb2_inv h
      have E992 : zE (fun o => (10 ≤ o ∧ o < 10 + 10) ∨ o = 46) w w10 := E0.tr (eX6_finding e991) (fun o h => by first | omega | (simp only [zIsLand, zIsSheet] at *; omega))
      obtain ⟨rfl, rfl⟩ := zpi2 h
      exact E992
set_option maxRecDepth 100000 in
theorem eX6_villageOf {w : zW} {p1 : Int32} {p2 : Int32} {r : Int32} {w' : zW} (h : fX6_villageOf w p1 p2 = some (r, w')) : zE (fun o => o = 46) w w' := by
  unfold fX6_villageOf at h
  have E0 : zE (fun o => o = 46) w w := zE.rfl
  obtain ⟨v2, e993, h⟩ := zbind h
  by_cases c994 : v2 = 0
  · replace h := zite_t c994 h
    obtain ⟨v20, w21, e995, h⟩ := zb2_inv h
    have E996 : zE (fun o => o = 46) w w21 := E0.tr (eX6_finding e995) (fun o h => by first | omega | (simp only [zIsLand, zIsSheet] at *; omega))
    obtain ⟨rfl, rfl⟩ := zpi2 h
    exact E996
  · replace h := zite_f c994 h
    by_cases c997 : p2 = 0
    · replace h := zite_t c997 h
      obtain ⟨v8, e998, h⟩ := zbind h
      obtain ⟨rfl, rfl⟩ := zpi2 h
      exact E0
    · replace h := zite_f c997 h
      by_cases c999 : p2 = 1
      · replace h := zite_t c999 h
        obtain ⟨v10, e1000, h⟩ := zbind h
        by_cases c1001 : v10 = 0
        · replace h := zite_t c1001 h
          obtain ⟨rfl, rfl⟩ := zpi2 h
          exact E0
        · replace h := zite_f c1001 h
          obtain ⟨rfl, rfl⟩ := zpi2 h
          exact E0
      · replace h := zite_f c999 h
        by_cases c1002 : p2 = 2
        · replace h := zite_t c1002 h
          obtain ⟨v13, e1003, h⟩ := zbind h
          obtain ⟨rfl, rfl⟩ := zpi2 h
          exact E0
        · replace h := zite_f c1002 h
          by_cases c1004 : p2 = 3
          · replace h := zite_t c1004 h
            obtain ⟨v15, e1005, h⟩ := zbind h
            obtain ⟨rfl, rfl⟩ := zpi2 h
            exact E0
          · replace h := zite_f c1004 h
            obtain ⟨v17, w18, e1006, h⟩ := zb2_inv h
            have E1007 : zE (fun o => o = 46) w w18 := E0.tr (eX6_finding e1006) (fun o h => by first | omega | (simp only [zIsLand, zIsSheet] at *; omega))
            obtain ⟨rfl, rfl⟩ := zpi2 h
            exact E1007
set_option maxRecDepth 100000 in
theorem eX6_when {w : zW} {p1 : Int32} {r : Int32} {w' : zW} (h : fX6_when w p1 = some (r, w')) : zE (fun o => (30 ≤ o ∧ o < 30 + 10) ∨ o = 40 ∨ o = 41 ∨ o = 42 ∨ o = 46) w w' := by
  unfold fX6_when at h
  have E0 : zE (fun o => (30 ≤ o ∧ o < 30 + 10) ∨ o = 40 ∨ o = 41 ∨ o = 42 ∨ o = 46) w w := zE.rfl
  obtain ⟨v2, e1008, h⟩ := zbind h
  by_cases c1009 : v2 = 0
  · replace h := zite_t c1009 h
    obtain ⟨v15, w16, e1010, h⟩ := zb2_inv h
    have E1011 : zE (fun o => (30 ≤ o ∧ o < 30 + 10) ∨ o = 40 ∨ o = 41 ∨ o = 42 ∨ o = 46) w w16 := E0.tr (eX6_finding e1010) (fun o h => by first | omega | (simp only [zIsLand, zIsSheet] at *; omega))
    obtain ⟨rfl, rfl⟩ := zpi2 h
    exact E1011
  · replace h := zite_f c1009 h
    by_cases c1012 : ((w.1 10 8) + (200 : Int32)) ≤ (9999 : Int32)
    · replace h := zite_t c1012 h
      obtain ⟨v4, w5, e1013, h⟩ := zb2_inv h
      have E1014 : zE (fun o => (30 ≤ o ∧ o < 30 + 10) ∨ o = 40 ∨ o = 41 ∨ o = 42 ∨ o = 46) w w5 := E0.tr (eX6_daysAhead e1013) (fun o h => by first | omega | (simp only [zIsLand, zIsSheet] at *; omega))
      by_cases c1015 : v4 < (1000000 : Int32)
      · replace h := zite_t c1015 h
        obtain ⟨rfl, rfl⟩ := zpi2 h
        exact E1014
      · replace h := zite_f c1015 h
        obtain ⟨v7, w8, e1016, h⟩ := zb2_inv h
        have E1017 : zE (fun o => (30 ≤ o ∧ o < 30 + 10) ∨ o = 40 ∨ o = 41 ∨ o = 42 ∨ o = 46) w w8 := E1014.tr (eX6_finding e1016) (fun o h => by first | omega | (simp only [zIsLand, zIsSheet] at *; omega))
        obtain ⟨rfl, rfl⟩ := zpi2 h
        exact E1017
    · replace h := zite_f c1012 h
      obtain ⟨v11, w12, e1018, h⟩ := zb2_inv h
      have E1019 : zE (fun o => (30 ≤ o ∧ o < 30 + 10) ∨ o = 40 ∨ o = 41 ∨ o = 42 ∨ o = 46) w w12 := E0.tr (eX6_finding e1018) (fun o h => by first | omega | (simp only [zIsLand, zIsSheet] at *; omega))
      obtain ⟨rfl, rfl⟩ := zpi2 h
      exact E1019
set_option maxRecDepth 100000 in
theorem eX6_whence {w : zW} {p1 : Int32} {p2 : Int32} {r : Int32} {w' : zW} (h : fX6_whence w p1 p2 = some (r, w')) : zE (fun o => o = 40 ∨ o = 41 ∨ o = 42 ∨ o = 46) w w' := by
  unfold fX6_whence at h
  have E0 : zE (fun o => o = 40 ∨ o = 41 ∨ o = 42 ∨ o = 46) w w := zE.rfl
  obtain ⟨v2, e1020, h⟩ := zbind h
  by_cases c1021 : v2 = 0
  · replace h := zite_t c1021 h
    obtain ⟨v4, w5, e1022, h⟩ := zb2_inv h
    have E1023 : zE (fun o => o = 40 ∨ o = 41 ∨ o = 42 ∨ o = 46) w w5 := E0.tr (eX6_finding e1022) (fun o h => by first | omega | (simp only [zIsLand, zIsSheet] at *; omega))
    obtain ⟨rfl, rfl⟩ := zpi2 h
    exact E1023
  · replace h := zite_f c1021 h
    obtain ⟨v7, e1024, h⟩ := zbind h
    by_cases c1025 : v7 = 0
    · replace h := zite_t c1025 h
      obtain ⟨v13, w14, e1026, h⟩ := zb2_inv h
      have E1027 : zE (fun o => o = 40 ∨ o = 41 ∨ o = 42 ∨ o = 46) w w14 := E0.tr (eX6_finding e1026) (fun o h => by first | omega | (simp only [zIsLand, zIsSheet] at *; omega))
      obtain ⟨rfl, rfl⟩ := zpi2 h
      exact E1027
    · replace h := zite_f c1025 h
      obtain ⟨w9, e1028, h⟩ := zbind h
      have E1029 : zE (fun o => o = 40 ∨ o = 41 ∨ o = 42 ∨ o = 46) w w9 := E0.tr (eX5_layOut e1028) (fun o h => by first | omega | (simp only [zIsLand, zIsSheet] at *; omega))
      obtain ⟨v11, e1030, h⟩ := zbind h
      obtain ⟨rfl, rfl⟩ := zpi2 h
      exact E1029
set_option maxRecDepth 100000 in
theorem eX6_wipe {w : zW}  {r : Int32} {w' : zW} (h : fX6_wipe w  = some (r, w')) : zE (fun o => o = 43) w w' := by
  unfold fX6_wipe at h
  have E0 : zE (fun o => o = 43) w w := zE.rfl
  obtain ⟨x1, e1031, h⟩ := zbind h
  obtain ⟨w3, e1032, h⟩ := zbind h
  have E1033 : zE (fun o => o = 43) w w3 := E0.zsf e1032 (by first | omega | (simp only [zIsLand, zIsSheet] at *; omega))
  obtain ⟨rfl, rfl⟩ := zpi2 h
  exact E1033
set_option maxRecDepth 100000 in
theorem eX6_write {w : zW} {p1 : Int32} {p2 : Int32} {p3 : Int64} {r : Int64} {w' : zW} (h : fX6_write w p1 p2 p3 = some (r, w')) : zE (fun o => o = 46 ∨ (50 ≤ o ∧ o < 58)) w w' := by
  unfold fX6_write at h
  have E0 : zE (fun o => o = 46 ∨ (50 ≤ o ∧ o < 58)) w w := zE.rfl
  rcases zbo_inv h with ⟨e1034, h⟩ | ⟨o2, e1034, h⟩
  · skip
    obtain ⟨v5, w6, e1035, h⟩ := zb2_inv h
    have E1036 : zE (fun o => o = 46 ∨ (50 ≤ o ∧ o < 58)) w w6 := E0.tr (eX6_finding e1035) (fun o h => by first | omega | (simp only [zIsLand, zIsSheet] at *; omega))
    obtain ⟨rfl, rfl⟩ := zpi2 h
    exact E1036
  · have s1037 : zIsSheet o2 := fX6_sheetAt_ok e1034
    obtain ⟨v8, e1038, h⟩ := zbind h
    by_cases c1039 : v8 = 0
    · replace h := zite_t c1039 h
      obtain ⟨v10, e1040, h⟩ := zbind h
      by_cases c1041 : v10 = 0
      · replace h := zite_t c1041 h
        obtain ⟨v16, w17, e1042, h⟩ := zb2_inv h
        have E1043 : zE (fun o => o = 46 ∨ (50 ≤ o ∧ o < 58)) w w17 := E0.tr (eX6_finding e1042) (fun o h => by first | omega | (simp only [zIsLand, zIsSheet] at *; omega))
        obtain ⟨rfl, rfl⟩ := zpi2 h
        exact E1043
      · replace h := zite_f c1041 h
        obtain ⟨v12, e1044, h⟩ := zbind h
        obtain ⟨w14, e1045, h⟩ := zbind h
        have E1046 : zE (fun o => o = 46 ∨ (50 ≤ o ∧ o < 58)) w w14 := E0.tr (eX3_put e1045) (fun o h => by first | omega | (simp only [zIsLand, zIsSheet] at *; omega))
        obtain ⟨rfl, rfl⟩ := zpi2 h
        exact E1046
    · replace h := zite_f c1039 h
      obtain ⟨v20, w21, e1047, h⟩ := zb2_inv h
      have E1048 : zE (fun o => o = 46 ∨ (50 ≤ o ∧ o < 58)) w w21 := E0.tr (eX6_finding e1047) (fun o h => by first | omega | (simp only [zIsLand, zIsSheet] at *; omega))
      obtain ⟨rfl, rfl⟩ := zpi2 h
      exact E1048
set_option maxRecDepth 100000 in
theorem eX7_takesBalloon {w : zW}  {r : Int32} {w' : zW} (h : fX7_takesBalloon w  = some (r, w')) : zE (fun o => o = 63) w w' := by
  unfold fX7_takesBalloon at h
  have E0 : zE (fun o => o = 63) w w := zE.rfl
  obtain ⟨v2, e1049, h⟩ := zbind h
  obtain ⟨v4, e1050, h⟩ := zbind h
  obtain ⟨v5, e1051, h⟩ := zbind h
  by_cases c1052 : v5 = (1000000000 : Int32)
  · replace h := zite_t c1052 h
    obtain ⟨rfl, rfl⟩ := zpi2 h
    exact E0
  · replace h := zite_f c1052 h
    obtain ⟨v7, e1053, h⟩ := zbind h
    obtain ⟨v9, e1054, h⟩ := zbind h
    obtain ⟨v11, e1055, h⟩ := zbind h
    obtain ⟨v13, e1056, h⟩ := zbind h
    obtain ⟨x17, e1057, h⟩ := zbind h
    obtain ⟨x22, e1058, h⟩ := zbind h
    obtain ⟨v24, e1059, h⟩ := zbind h
    obtain ⟨x26, e1060, h⟩ := zbind h
    obtain ⟨x31, e1061, h⟩ := zbind h
    obtain ⟨w36, e1062, h⟩ := zbind h
    have E1063 : zE (fun o => o = 63) w w36 := E0.zwr e1062 (by first | omega | (simp only [zIsLand, zIsSheet] at *; omega))
    obtain ⟨b38, e1064, h⟩ := zbind h
    obtain ⟨rfl, rfl⟩ := zpi2 h
    exact E1063
set_option maxRecDepth 100000 in
theorem eX7_takesRoad {w : zW} {p1 : Int32} {p2 : Int32} {p3 : Int32} {p4 : Int32} {r : Int32} {w' : zW} (h : fX7_takesRoad w p1 p2 p3 p4 = some (r, w')) : zE (fun o => o = 63) w w' := by
  unfold fX7_takesRoad at h
  have E0 : zE (fun o => o = 63) w w := zE.rfl
  obtain ⟨v1, e1065, h⟩ := zbind h
  by_cases c1066 : v1 = (1000000000 : Int32)
  · replace h := zite_t c1066 h
    obtain ⟨rfl, rfl⟩ := zpi2 h
    exact E0
  · replace h := zite_f c1066 h
    obtain ⟨v4, e1067, h⟩ := zbind h
    by_cases c1068 : v4 = 0
    · replace h := zite_t c1068 h
      obtain ⟨rfl, rfl⟩ := zpi2 h
      exact E0
    · replace h := zite_f c1068 h
      obtain ⟨v5, e1069, h⟩ := zbind h
      obtain ⟨v8, e1070, h⟩ := zbind h
      obtain ⟨x9, e1071, h⟩ := zbind h
      obtain ⟨v11, e1072, h⟩ := zbind h
      obtain ⟨x13, e1073, h⟩ := zbind h
      obtain ⟨x18, e1074, h⟩ := zbind h
      obtain ⟨w23, e1075, h⟩ := zbind h
      have E1076 : zE (fun o => o = 63) w w23 := E0.zwr e1075 (by first | omega | (simp only [zIsLand, zIsSheet] at *; omega))
      obtain ⟨b25, e1077, h⟩ := zbind h
      obtain ⟨rfl, rfl⟩ := zpi2 h
      exact E1076
set_option maxRecDepth 100000 in
theorem elX7_goesOn_5 {p1 : Int32} {p2 : Int32}  : ∀ (n : Nat) (w3 : zW) (x1 : Int32) (x2 : Int32) (s : (Int32 × zW)), lpX7_goesOn_5 p1 p2 n w3 x1 x2 = some s → zE (fun o => o = 63) w3 s.2 := by
  intro n
  induction n with
  | zero => intro w3 x1 x2 s h; simp [lpX7_goesOn_5] at h
  | succ n ih =>
    intro w3 x1 x2 s h
    rw [lpX7_goesOn_5] at h
    have E0 : zE (fun o => o = 63) w3 w3 := zE.rfl
    obtain ⟨v6, e1078, h⟩ := zbind h
    by_cases c1079 : v6 ≤ x2
    · replace h := zite_t c1079 h
      obtain rfl := Option.some.inj h
      exact E0
    · replace h := zite_f c1079 h
      obtain ⟨v9, e1080, h⟩ := zbind h
      obtain ⟨v11, e1081, h⟩ := zbind h
      obtain ⟨v13, e1082, h⟩ := zbind h
      obtain ⟨v15, w16, e1083, h⟩ := zb2_inv h
      have E1084 : zE (fun o => o = 63) w3 w16 := E0.tr (eX7_takesRoad e1083) (fun o h => by first | omega | (simp only [zIsLand, zIsSheet] at *; omega))
      obtain ⟨v18, e1085, h⟩ := zbind h
      obtain ⟨v20, e1086, h⟩ := zbind h
      obtain ⟨v22, e1087, h⟩ := zbind h
      obtain ⟨v24, w25, e1088, h⟩ := zb2_inv h
      have E1089 : zE (fun o => o = 63) w3 w25 := E1084.tr (eX7_takesRoad e1088) (fun o h => by first | omega | (simp only [zIsLand, zIsSheet] at *; omega))
      obtain ⟨x28, e1090, h⟩ := zbind h
      exact E1089.trs (ih _ _ _ _ h)
set_option maxRecDepth 100000 in
theorem eX7_goesOn {w : zW} {p1 : Int32} {p2 : Int32} {r : Int32} {w' : zW} (h : fX7_goesOn w p1 p2 = some (r, w')) : zE (fun o => o = 63) w w' := by
  unfold fX7_goesOn at h
  have E0 : zE (fun o => o = 63) w w := zE.rfl
  obtain ⟨y37, w38, e1091, h⟩ := zb2_inv h
  have E1092 : zE (fun o => o = 63) w w38 := E0.tr (elX7_goesOn_5 _ _ _ _ _ e1091) (fun o h => by first | omega | (simp only [zIsLand, zIsSheet] at *; omega))
  obtain ⟨x43, w44, e1093, h⟩ := zb2_inv h
  have E1094 : zE (fun o => o = 63) w w44 := by
    by_cases c1095 : p2 = 0
    · replace e1093 := zite_t c1095 e1093
      obtain ⟨rfl, rfl⟩ := zpi2 e1093
      exact E1092
    · replace e1093 := zite_f c1095 e1093
      obtain ⟨v48, w49, e1096, e1093⟩ := zb2_inv e1093
      have E1097 : zE (fun o => o = 63) w w49 := E1092.tr (eX7_takesBalloon e1096) (fun o h => by first | omega | (simp only [zIsLand, zIsSheet] at *; omega))
      by_cases c1098 : v48 = 0
      · replace e1093 := zite_t c1098 e1093
        obtain ⟨rfl, rfl⟩ := zpi2 e1093
        exact E1097
      · replace e1093 := zite_f c1098 e1093
        obtain ⟨rfl, rfl⟩ := zpi2 e1093
        exact E1097
  by_cases c1099 : y37 = 0
  · replace h := zite_t c1099 h
    by_cases c1100 : x43 = 0
    · replace h := zite_t c1100 h
      obtain ⟨rfl, rfl⟩ := zpi2 h
      exact E1094
    · replace h := zite_f c1100 h
      obtain ⟨rfl, rfl⟩ := zpi2 h
      exact E1094
  · replace h := zite_f c1099 h
    obtain ⟨rfl, rfl⟩ := zpi2 h
    exact E1094
set_option maxRecDepth 100000 in
theorem elX7_find_3 {p1 : Int32} {p2 : Int32} {p3 : Int32} {p4 : Int32}  : ∀ (n : Nat) (w2 : zW) (x1 : Int32) (s : zW), lpX7_find_3 p1 p2 p3 p4 n w2 x1 = some s → zE (fun o => o = 63) w2 s := by
  intro n
  induction n with
  | zero => intro w2 x1 s h; simp [lpX7_find_3] at h
  | succ n ih =>
    intro w2 x1 s h
    rw [lpX7_find_3] at h
    have E0 : zE (fun o => o = 63) w2 w2 := zE.rfl
    by_cases c1101 : (12 : Int32) ≤ x1
    · replace h := zite_t c1101 h
      obtain rfl := Option.some.inj h
      exact E0
    · replace h := zite_f c1101 h
      obtain ⟨w4, e1102, h⟩ := zbind h
      have E1103 : zE (fun o => o = 63) w2 w4 := E0.zwr e1102 (by first | omega | (simp only [zIsLand, zIsSheet] at *; omega))
      exact E1103.trs (ih _ _ _ h)
set_option maxRecDepth 100000 in
theorem elX7_find_55 {p1 : Int32} {x15 : Int32}  : ∀ (n : Nat) (w22 : zW) (x21 : Int32) (s : zW), lpX7_find_55 p1 x15 n w22 x21 = some s → zE (fun o => o = 63) w22 s := by
  intro n
  induction n with
  | zero => intro w22 x21 s h; simp [lpX7_find_55] at h
  | succ n ih =>
    intro w22 x21 s h
    rw [lpX7_find_55] at h
    have E0 : zE (fun o => o = 63) w22 w22 := zE.rfl
    by_cases c1104 : x21 = 0
    · replace h := zite_t c1104 h
      obtain rfl := Option.some.inj h
      exact E0
    · replace h := zite_f c1104 h
      obtain ⟨v25, w26, e1105, h⟩ := zb2_inv h
      have E1106 : zE (fun o => o = 63) w22 w26 := E0.tr (eX7_goesOn e1105) (fun o h => by first | omega | (simp only [zIsLand, zIsSheet] at *; omega))
      exact E1106.trs (ih _ _ _ h)
set_option maxRecDepth 100000 in
theorem eX7_find {w : zW} {p1 : Int32} {p2 : Int32} {p3 : Int32} {p4 : Int32} {w' : zW} (h : fX7_find w p1 p2 p3 p4 = some w') : zE (fun o => o = 63) w w' := by
  unfold fX7_find at h
  have E0 : zE (fun o => o = 63) w w := zE.rfl
  obtain ⟨w9, e1107, h⟩ := zbind h
  have E1108 : zE (fun o => o = 63) w w9 := E0.tr (elX7_find_3 _ _ _ _ e1107) (fun o h => by first | omega | (simp only [zIsLand, zIsSheet] at *; omega))
  obtain ⟨w10, e1109, h⟩ := zbind h
  have E1110 : zE (fun o => o = 63) w w10 := E1108.zwr e1109 (by first | omega | (simp only [zIsLand, zIsSheet] at *; omega))
  obtain ⟨x15, e1111, h⟩ := zbind h
  obtain ⟨w30, e1112, h⟩ := zbind h
  have E1113 : zE (fun o => o = 63) w w30 := E1110.tr (elX7_find_55 _ _ _ _ e1112) (fun o h => by first | omega | (simp only [zIsLand, zIsSheet] at *; omega))
  obtain rfl := Option.some.inj h
  exact E1113
set_option maxRecDepth 100000 in
theorem eX7_earliest {w : zW} {p1 : Int32} {p2 : Int32} {p3 : Int32} {p4 : Int32} {r : Int32} {w' : zW} (h : fX7_earliest w p1 p2 p3 p4 = some (r, w')) : zE (fun o => o = 63) w w' := by
  unfold fX7_earliest at h
  have E0 : zE (fun o => o = 63) w w := zE.rfl
  obtain ⟨w2, e1114, h⟩ := zbind h
  have E1115 : zE (fun o => o = 63) w w2 := E0.tr (eX7_find e1114) (fun o h => by first | omega | (simp only [zIsLand, zIsSheet] at *; omega))
  obtain ⟨v3, e1116, h⟩ := zbind h
  obtain ⟨rfl, rfl⟩ := zpi2 h
  exact E1115
set_option maxRecDepth 100000 in
theorem eX7_keeps {w : zW} {p1 : Int32} {p2 : Int32} {p3 : Int32} {p4 : Int32} {p5 : Int32} {r : Int32} {w' : zW} (h : fX7_keeps w p1 p2 p3 p4 p5 = some (r, w')) : zE (fun o => o = 63) w w' := by
  unfold fX7_keeps at h
  have E0 : zE (fun o => o = 63) w w := zE.rfl
  obtain ⟨v2, w3, e1117, h⟩ := zb2_inv h
  have E1118 : zE (fun o => o = 63) w w3 := E0.tr (eX7_earliest e1117) (fun o h => by first | omega | (simp only [zIsLand, zIsSheet] at *; omega))
  by_cases c1119 : v2 = p5
  · replace h := zite_t c1119 h
    obtain ⟨rfl, rfl⟩ := zpi2 h
    exact E1118
  · replace h := zite_f c1119 h
    obtain ⟨rfl, rfl⟩ := zpi2 h
    exact E1118
set_option maxRecDepth 100000 in
theorem elX7_findWay_109 {v2 : Int32} {v4 : Int32} {v6 : Int32} {x16 : Int32} {x37 : Int32}  : ∀ (n : Nat) (w51 : zW) (x50 : Int32) (s : zW), lpX7_findWay_109 v2 v4 v6 x16 x37 n w51 x50 = some s → zE (fun o => o = 60 ∨ o = 63) w51 s := by
  intro n
  induction n with
  | zero => intro w51 x50 s h; simp [lpX7_findWay_109] at h
  | succ n ih =>
    intro w51 x50 s h
    rw [lpX7_findWay_109] at h
    have E0 : zE (fun o => o = 60 ∨ o = 63) w51 w51 := zE.rfl
    obtain ⟨v53, e1120, h⟩ := zbind h
    by_cases c1121 : v53 ≤ x50
    · replace h := zite_t c1121 h
      obtain rfl := Option.some.inj h
      exact E0
    · replace h := zite_f c1121 h
      by_cases c1122 : 0 ≤ (w51.1 60 3)
      · replace h := zite_t c1122 h
        obtain rfl := Option.some.inj h
        exact E0
      · replace h := zite_f c1122 h
        obtain ⟨x57, e1123, h⟩ := zbind h
        obtain ⟨x69, e1124, h⟩ := zbind h
        obtain ⟨x85, w86, e1125, h⟩ := zb2_inv h
        have E1126 : zE (fun o => o = 60 ∨ o = 63) w51 w86 := by
          by_cases c1127 : x69 ≤ 0
          · replace e1125 := zite_t c1127 e1125
            obtain ⟨rfl, rfl⟩ := zpi2 e1125
            exact E0
          · replace e1125 := zite_f c1127 e1125
            obtain ⟨v89, e1128, e1125⟩ := zbind e1125
            obtain ⟨v92, w93, e1129, e1125⟩ := zb2_inv e1125
            have E1130 : zE (fun o => o = 60 ∨ o = 63) w51 w93 := E0.tr (eX7_keeps e1129) (fun o h => by first | omega | (simp only [zIsLand, zIsSheet] at *; omega))
            by_cases c1131 : v92 = 0
            · replace e1125 := zite_t c1131 e1125
              obtain ⟨rfl, rfl⟩ := zpi2 e1125
              exact E1130
            · replace e1125 := zite_f c1131 e1125
              obtain ⟨rfl, rfl⟩ := zpi2 e1125
              exact E1130
        obtain ⟨x105, w106, e1132, h⟩ := zb2_inv h
        have E1133 : zE (fun o => o = 60 ∨ o = 63) w51 w106 := by
          by_cases c1134 : x85 = 0
          · replace e1132 := zite_t c1134 e1132
            by_cases c1135 : x37 = 0
            · replace e1132 := zite_t c1135 e1132
              obtain ⟨rfl, rfl⟩ := zpi2 e1132
              exact E1126
            · replace e1132 := zite_f c1135 e1132
              obtain ⟨v110, e1136, e1132⟩ := zbind e1132
              by_cases c1137 : x50 = v110
              · replace e1132 := zite_t c1137 e1132
                obtain ⟨v111, e1138, e1132⟩ := zbind e1132
                obtain ⟨v114, w115, e1139, e1132⟩ := zb2_inv e1132
                have E1140 : zE (fun o => o = 60 ∨ o = 63) w51 w115 := E1126.tr (eX7_keeps e1139) (fun o h => by first | omega | (simp only [zIsLand, zIsSheet] at *; omega))
                by_cases c1141 : v114 = 0
                · replace e1132 := zite_t c1141 e1132
                  obtain ⟨rfl, rfl⟩ := zpi2 e1132
                  exact E1140
                · replace e1132 := zite_f c1141 e1132
                  obtain ⟨rfl, rfl⟩ := zpi2 e1132
                  exact E1140
              · replace e1132 := zite_f c1137 e1132
                obtain ⟨rfl, rfl⟩ := zpi2 e1132
                exact E1126
          · replace e1132 := zite_f c1134 e1132
            obtain ⟨rfl, rfl⟩ := zpi2 e1132
            exact E1126
        obtain ⟨x120, e1142, h⟩ := zbind h
        obtain ⟨w124, e1143, h⟩ := zbind h
        have E1144 : zE (fun o => o = 60 ∨ o = 63) w51 w124 := E1133.zsf e1143 (by first | omega | (simp only [zIsLand, zIsSheet] at *; omega))
        obtain ⟨x126, e1145, h⟩ := zbind h
        obtain ⟨w129, e1146, h⟩ := zbind h
        have E1147 : zE (fun o => o = 60 ∨ o = 63) w51 w129 := E1144.zsf e1146 (by first | omega | (simp only [zIsLand, zIsSheet] at *; omega))
        exact E1147.trs (ih _ _ _ h)
set_option maxRecDepth 100000 in
theorem eX7_findWay {w : zW} {p1 : Int32} {w' : zW} (h : fX7_findWay w p1 = some w') : zE (fun o => o = 60 ∨ o = 63) w w' := by
  unfold fX7_findWay at h
  have E0 : zE (fun o => o = 60 ∨ o = 63) w w := zE.rfl
  obtain ⟨v2, e1148, h⟩ := zbind h
  obtain ⟨v4, e1149, h⟩ := zbind h
  obtain ⟨v6, e1150, h⟩ := zbind h
  obtain ⟨w7, e1151, h⟩ := zbind h
  have E1152 : zE (fun o => o = 60 ∨ o = 63) w w7 := E0.zsf e1151 (by first | omega | (simp only [zIsLand, zIsSheet] at *; omega))
  obtain ⟨w9, e1153, h⟩ := zbind h
  have E1154 : zE (fun o => o = 60 ∨ o = 63) w w9 := E1152.zsf e1153 (by first | omega | (simp only [zIsLand, zIsSheet] at *; omega))
  obtain ⟨x16, w17, e1155, h⟩ := zb2_inv h
  have E1156 : zE (fun o => o = 60 ∨ o = 63) w w17 := by
    by_cases c1157 : v4 = v6
    · replace e1155 := zite_t c1157 e1155
      obtain ⟨rfl, rfl⟩ := zpi2 e1155
      exact E1154
    · replace e1155 := zite_f c1157 e1155
      obtain ⟨v20, e1158, e1155⟩ := zbind e1155
      obtain ⟨v23, w24, e1159, e1155⟩ := zb2_inv e1155
      have E1160 : zE (fun o => o = 60 ∨ o = 63) w w24 := E1154.tr (eX7_earliest e1159) (fun o h => by first | omega | (simp only [zIsLand, zIsSheet] at *; omega))
      obtain ⟨rfl, rfl⟩ := zpi2 e1155
      exact E1160
  by_cases c1161 : x16 = (1000000000 : Int32)
  · replace h := zite_t c1161 h
    obtain rfl := Option.some.inj h
    exact E1156
  · replace h := zite_f c1161 h
    obtain ⟨v26, e1162, h⟩ := zbind h
    obtain ⟨x37, e1163, h⟩ := zbind h
    obtain ⟨w141, e1164, h⟩ := zbind h
    have E1165 : zE (fun o => o = 60 ∨ o = 63) w w141 := E1156.tr (elX7_findWay_109 _ _ _ _ e1164) (fun o h => by first | omega | (simp only [zIsLand, zIsSheet] at *; omega))
    obtain rfl := Option.some.inj h
    exact E1165
set_option maxRecDepth 100000 in
theorem eX7_sets {w : zW} {p1 : Int32} {p2 : Int32} {p3 : Int32} {w' : zW} (h : fX7_sets w p1 p2 p3 = some w') : zE (fun o => o = 61) w w' := by
  unfold fX7_sets at h
  have E0 : zE (fun o => o = 61) w w := zE.rfl
  obtain ⟨w1, e1166, h⟩ := zbind h
  have E1167 : zE (fun o => o = 61) w w1 := E0.zwr e1166 (by first | omega | (simp only [zIsLand, zIsSheet] at *; omega))
  obtain rfl := Option.some.inj h
  exact E1167
set_option maxRecDepth 100000 in
theorem elX7_aDay_2   : ∀ (n : Nat) (w2 : zW) (x1 : Int32) (s : zW), lpX7_aDay_2  n w2 x1 = some s → zE (fun o => o = 60 ∨ o = 61 ∨ o = 63) w2 s := by
  intro n
  induction n with
  | zero => intro w2 x1 s h; simp [lpX7_aDay_2] at h
  | succ n ih =>
    intro w2 x1 s h
    rw [lpX7_aDay_2] at h
    have E0 : zE (fun o => o = 60 ∨ o = 61 ∨ o = 63) w2 w2 := zE.rfl
    obtain ⟨v4, e1168, h⟩ := zbind h
    by_cases c1169 : v4 ≤ x1
    · replace h := zite_t c1169 h
      obtain rfl := Option.some.inj h
      exact E0
    · replace h := zite_f c1169 h
      obtain ⟨v7, e1170, h⟩ := zbind h
      obtain ⟨w15, e1171, h⟩ := zbind h
      have E1172 : zE (fun o => o = 60 ∨ o = 61 ∨ o = 63) w2 w15 := by
        by_cases c1173 : v7 = 0
        · replace e1171 := zite_t c1173 e1171
          obtain ⟨w19, e1174, e1171⟩ := zbind e1171
          have E1175 : zE (fun o => o = 60 ∨ o = 61 ∨ o = 63) w2 w19 := E0.tr (eX7_findWay e1174) (fun o h => by first | omega | (simp only [zIsLand, zIsSheet] at *; omega))
          by_cases c1176 : (w19.1 60 3) < 0
          · replace e1171 := zite_t c1176 e1171
            obtain rfl := Option.some.inj e1171
            exact E1175
          · replace e1171 := zite_f c1176 e1171
            obtain ⟨w21, e1177, e1171⟩ := zbind e1171
            have E1178 : zE (fun o => o = 60 ∨ o = 61 ∨ o = 63) w2 w21 := E1175.tr (eX7_sets e1177) (fun o h => by first | omega | (simp only [zIsLand, zIsSheet] at *; omega))
            obtain ⟨w23, e1179, e1171⟩ := zbind e1171
            have E1180 : zE (fun o => o = 60 ∨ o = 61 ∨ o = 63) w2 w23 := E1178.tr (eX7_sets e1179) (fun o h => by first | omega | (simp only [zIsLand, zIsSheet] at *; omega))
            obtain rfl := Option.some.inj e1171
            exact E1180
        · replace e1171 := zite_f c1173 e1171
          obtain rfl := Option.some.inj e1171
          exact E0
      exact E1172.trs (ih _ _ _ h)
set_option maxRecDepth 100000 in
theorem elX7_aDay_61   : ∀ (n : Nat) (w31 : zW) (x30 : Int32) (s : zW), lpX7_aDay_61  n w31 x30 = some s → zE (fun o => o = 60 ∨ o = 61 ∨ o = 63) w31 s := by
  intro n
  induction n with
  | zero => intro w31 x30 s h; simp [lpX7_aDay_61] at h
  | succ n ih =>
    intro w31 x30 s h
    rw [lpX7_aDay_61] at h
    have E0 : zE (fun o => o = 60 ∨ o = 61 ∨ o = 63) w31 w31 := zE.rfl
    obtain ⟨v33, e1181, h⟩ := zbind h
    by_cases c1182 : v33 ≤ x30
    · replace h := zite_t c1182 h
      obtain rfl := Option.some.inj h
      exact E0
    · replace h := zite_f c1182 h
      obtain ⟨v36, e1183, h⟩ := zbind h
      obtain ⟨x37, e1184, h⟩ := zbind h
      obtain ⟨w41, e1185, h⟩ := zbind h
      have E1186 : zE (fun o => o = 60 ∨ o = 61 ∨ o = 63) w31 w41 := E0.tr (eX7_sets e1185) (fun o h => by first | omega | (simp only [zIsLand, zIsSheet] at *; omega))
      exact E1186.trs (ih _ _ _ h)
set_option maxRecDepth 100000 in
theorem eX7_aDay {w : zW}  {w' : zW} (h : fX7_aDay w  = some w') : zE (fun o => o = 60 ∨ o = 61 ∨ o = 63) w w' := by
  unfold fX7_aDay at h
  have E0 : zE (fun o => o = 60 ∨ o = 61 ∨ o = 63) w w := zE.rfl
  obtain ⟨w29, e1187, h⟩ := zbind h
  have E1188 : zE (fun o => o = 60 ∨ o = 61 ∨ o = 63) w w29 := E0.tr (elX7_aDay_2 _ _ _ _ e1187) (fun o h => by first | omega | (simp only [zIsLand, zIsSheet] at *; omega))
  obtain ⟨w46, e1189, h⟩ := zbind h
  have E1190 : zE (fun o => o = 60 ∨ o = 61 ∨ o = 63) w w46 := E1188.tr (elX7_aDay_61 _ _ _ _ e1189) (fun o h => by first | omega | (simp only [zIsLand, zIsSheet] at *; omega))
  obtain ⟨v47, e1191, h⟩ := zbind h
  obtain ⟨w49, e1192, h⟩ := zbind h
  have E1193 : zE (fun o => o = 60 ∨ o = 61 ∨ o = 63) w w49 := E1190.zwr e1192 (by first | omega | (simp only [zIsLand, zIsSheet] at *; omega))
  obtain rfl := Option.some.inj h
  exact E1193
set_option maxRecDepth 100000 in
theorem eX7_addLetter {w : zW} {p1 : Int32} {p2 : Int32} {p3 : Int32} {w' : zW} (h : fX7_addLetter w p1 p2 p3 = some w') : zE (fun o => o = 61) w w' := by
  unfold fX7_addLetter at h
  have E0 : zE (fun o => o = 61) w w := zE.rfl
  obtain ⟨v1, e1194, h⟩ := zbind h
  obtain ⟨w4, e1195, h⟩ := zbind h
  have E1196 : zE (fun o => o = 61) w w4 := E0.tr (eX7_sets e1195) (fun o h => by first | omega | (simp only [zIsLand, zIsSheet] at *; omega))
  obtain ⟨w6, e1197, h⟩ := zbind h
  have E1198 : zE (fun o => o = 61) w w6 := E1196.tr (eX7_sets e1197) (fun o h => by first | omega | (simp only [zIsLand, zIsSheet] at *; omega))
  obtain ⟨w8, e1199, h⟩ := zbind h
  have E1200 : zE (fun o => o = 61) w w8 := E1198.tr (eX7_sets e1199) (fun o h => by first | omega | (simp only [zIsLand, zIsSheet] at *; omega))
  obtain ⟨v9, e1201, h⟩ := zbind h
  obtain ⟨w12, e1202, h⟩ := zbind h
  have E1203 : zE (fun o => o = 61) w w12 := E1200.tr (eX7_sets e1202) (fun o h => by first | omega | (simp only [zIsLand, zIsSheet] at *; omega))
  obtain ⟨w14, e1204, h⟩ := zbind h
  have E1205 : zE (fun o => o = 61) w w14 := E1203.tr (eX7_sets e1204) (fun o h => by first | omega | (simp only [zIsLand, zIsSheet] at *; omega))
  obtain ⟨v15, e1206, h⟩ := zbind h
  obtain ⟨w17, e1207, h⟩ := zbind h
  have E1208 : zE (fun o => o = 61) w w17 := E1205.zwr e1207 (by first | omega | (simp only [zIsLand, zIsSheet] at *; omega))
  obtain rfl := Option.some.inj h
  exact E1208
set_option maxRecDepth 100000 in
theorem eX7_addRoad {w : zW} {p1 : Int32} {p2 : Int32} {p3 : Int32} {w' : zW} (h : fX7_addRoad w p1 p2 p3 = some w') : zE (fun o => o = 61) w w' := by
  unfold fX7_addRoad at h
  have E0 : zE (fun o => o = 61) w w := zE.rfl
  obtain ⟨v1, e1209, h⟩ := zbind h
  obtain ⟨x3, e1210, h⟩ := zbind h
  obtain ⟨w5, e1211, h⟩ := zbind h
  have E1212 : zE (fun o => o = 61) w w5 := E0.zwr e1211 (by first | omega | (simp only [zIsLand, zIsSheet] at *; omega))
  obtain ⟨w7, e1213, h⟩ := zbind h
  have E1214 : zE (fun o => o = 61) w w7 := E1212.zwr e1213 (by first | omega | (simp only [zIsLand, zIsSheet] at *; omega))
  obtain ⟨w9, e1215, h⟩ := zbind h
  have E1216 : zE (fun o => o = 61) w w9 := E1214.zwr e1215 (by first | omega | (simp only [zIsLand, zIsSheet] at *; omega))
  obtain ⟨v11, e1217, h⟩ := zbind h
  obtain ⟨w13, e1218, h⟩ := zbind h
  have E1219 : zE (fun o => o = 61) w w13 := E1216.zwr e1218 (by first | omega | (simp only [zIsLand, zIsSheet] at *; omega))
  obtain rfl := Option.some.inj h
  exact E1219
set_option maxRecDepth 100000 in
theorem eX7_addVillage {w : zW} {p1 : Int32} {p2 : Int32} {w' : zW} (h : fX7_addVillage w p1 p2 = some w') : zE (fun o => o = 61) w w' := by
  unfold fX7_addVillage at h
  have E0 : zE (fun o => o = 61) w w := zE.rfl
  obtain ⟨v1, e1220, h⟩ := zbind h
  obtain ⟨w3, e1221, h⟩ := zbind h
  have E1222 : zE (fun o => o = 61) w w3 := E0.zwr e1221 (by first | omega | (simp only [zIsLand, zIsSheet] at *; omega))
  obtain ⟨x5, e1223, h⟩ := zbind h
  obtain ⟨w8, e1224, h⟩ := zbind h
  have E1225 : zE (fun o => o = 61) w w8 := E1222.zwr e1224 (by first | omega | (simp only [zIsLand, zIsSheet] at *; omega))
  obtain ⟨v10, e1226, h⟩ := zbind h
  obtain ⟨w12, e1227, h⟩ := zbind h
  have E1228 : zE (fun o => o = 61) w w12 := E1225.zwr e1227 (by first | omega | (simp only [zIsLand, zIsSheet] at *; omega))
  obtain rfl := Option.some.inj h
  exact E1228
set_option maxRecDepth 100000 in
theorem elX7_advance_8   : ∀ (n : Nat) (w3 : zW) (s : zW), lpX7_advance_8  n w3 = some s → zE (fun o => o = 60) w3 s := by
  intro n
  induction n with
  | zero => intro w3 s h; simp [lpX7_advance_8] at h
  | succ n ih =>
    intro w3 s h
    rw [lpX7_advance_8] at h
    have E0 : zE (fun o => o = 60) w3 w3 := zE.rfl
    obtain ⟨v6, e1229, h⟩ := zbind h
    by_cases c1230 : v6 = (32 : Int32)
    · replace h := zite_t c1230 h
      obtain ⟨w7, e1231, h⟩ := zbind h
      have E1232 : zE (fun o => o = 60) w3 w7 := E0.zsf e1231 (by first | omega | (simp only [zIsLand, zIsSheet] at *; omega))
      exact E1232.trs (ih _ _ h)
    · replace h := zite_f c1230 h
      obtain rfl := Option.some.inj h
      exact E0
set_option maxRecDepth 100000 in
theorem elX7_advance_126   : ∀ (n : Nat) (w48 : zW) (s : zW), lpX7_advance_126  n w48 = some s → zE (fun o => o = 60) w48 s := by
  intro n
  induction n with
  | zero => intro w48 s h; simp [lpX7_advance_126] at h
  | succ n ih =>
    intro w48 s h
    rw [lpX7_advance_126] at h
    have E0 : zE (fun o => o = 60) w48 w48 := zE.rfl
    by_cases c1233 : (w48.1 60 8) = (1 : Int32)
    · replace h := zite_t c1233 h
      obtain ⟨v51, e1234, h⟩ := zbind h
      obtain ⟨v53, e1235, h⟩ := zbind h
      by_cases c1236 : v53 = 0
      · replace h := zite_t c1236 h
        obtain rfl := Option.some.inj h
        exact E0
      · replace h := zite_f c1236 h
        obtain ⟨x56, e1237, h⟩ := zbind h
        obtain ⟨w61, e1238, h⟩ := zbind h
        have E1239 : zE (fun o => o = 60) w48 w61 := E0.zsg e1238 (by first | omega | (simp only [zIsLand, zIsSheet] at *; omega))
        obtain ⟨w63, e1240, h⟩ := zbind h
        have E1241 : zE (fun o => o = 60) w48 w63 := E1239.zsf e1240 (by first | omega | (simp only [zIsLand, zIsSheet] at *; omega))
        exact E1241.trs (ih _ _ h)
    · replace h := zite_f c1233 h
      obtain rfl := Option.some.inj h
      exact E0
set_option maxRecDepth 100000 in
theorem elX7_advance_207   : ∀ (n : Nat) (w71 : zW) (s : zW), lpX7_advance_207  n w71 = some s → zE (fun o => o = 60) w71 s := by
  intro n
  induction n with
  | zero => intro w71 s h; simp [lpX7_advance_207] at h
  | succ n ih =>
    intro w71 s h
    rw [lpX7_advance_207] at h
    have E0 : zE (fun o => o = 60) w71 w71 := zE.rfl
    by_cases c1242 : (w71.1 60 8) = (2 : Int32)
    · replace h := zite_t c1242 h
      obtain ⟨v74, e1243, h⟩ := zbind h
      obtain ⟨v76, e1244, h⟩ := zbind h
      by_cases c1245 : v76 = 0
      · replace h := zite_t c1245 h
        obtain rfl := Option.some.inj h
        exact E0
      · replace h := zite_f c1245 h
        obtain ⟨x79, e1246, h⟩ := zbind h
        obtain ⟨w84, e1247, h⟩ := zbind h
        have E1248 : zE (fun o => o = 60) w71 w84 := E0.zsf e1247 (by first | omega | (simp only [zIsLand, zIsSheet] at *; omega))
        obtain ⟨w86, e1249, h⟩ := zbind h
        have E1250 : zE (fun o => o = 60) w71 w86 := E1248.zsf e1249 (by first | omega | (simp only [zIsLand, zIsSheet] at *; omega))
        exact E1250.trs (ih _ _ h)
    · replace h := zite_f c1242 h
      obtain rfl := Option.some.inj h
      exact E0
set_option maxRecDepth 100000 in
theorem eX7_advance {w : zW}  {w' : zW} (h : fX7_advance w  = some w') : zE (fun o => o = 60) w w' := by
  unfold fX7_advance at h
  have E0 : zE (fun o => o = 60) w w := zE.rfl
  obtain ⟨w1, e1251, h⟩ := zbind h
  have E1252 : zE (fun o => o = 60) w w1 := E0.zsf e1251 (by first | omega | (simp only [zIsLand, zIsSheet] at *; omega))
  obtain ⟨w12, e1253, h⟩ := zbind h
  have E1254 : zE (fun o => o = 60) w w12 := E1252.tr (elX7_advance_8 _ _ _ e1253) (fun o h => by first | omega | (simp only [zIsLand, zIsSheet] at *; omega))
  obtain ⟨w13, e1255, h⟩ := zbind h
  have E1256 : zE (fun o => o = 60) w w13 := E1254.zsf e1255 (by first | omega | (simp only [zIsLand, zIsSheet] at *; omega))
  obtain ⟨v16, e1257, h⟩ := zbind h
  obtain ⟨x23, e1258, h⟩ := zbind h
  obtain ⟨w32, e1259, h⟩ := zbind h
  have E1260 : zE (fun o => o = 60) w w32 := E1256.zsf e1259 (by first | omega | (simp only [zIsLand, zIsSheet] at *; omega))
  obtain ⟨w34, e1261, h⟩ := zbind h
  have E1262 : zE (fun o => o = 60) w w34 := E1260.zsg e1261 (by first | omega | (simp only [zIsLand, zIsSheet] at *; omega))
  obtain ⟨x36, e1263, h⟩ := zbind h
  obtain ⟨w39, e1264, h⟩ := zbind h
  have E1265 : zE (fun o => o = 60) w w39 := E1262.zsf e1264 (by first | omega | (simp only [zIsLand, zIsSheet] at *; omega))
  obtain ⟨w43, e1266, h⟩ := zbind h
  have E1267 : zE (fun o => o = 60) w w43 := by
    by_cases c1268 : (w39.1 60 8) = (3 : Int32)
    · replace e1266 := zite_t c1268 e1266
      obtain ⟨w46, e1269, e1266⟩ := zbind e1266
      have E1270 : zE (fun o => o = 60) w w46 := E1265.zsf e1269 (by first | omega | (simp only [zIsLand, zIsSheet] at *; omega))
      obtain rfl := Option.some.inj e1266
      exact E1270
    · replace e1266 := zite_f c1268 e1266
      obtain rfl := Option.some.inj e1266
      exact E1265
  obtain ⟨w70, e1271, h⟩ := zbind h
  have E1272 : zE (fun o => o = 60) w w70 := E1267.tr (elX7_advance_126 _ _ _ e1271) (fun o h => by first | omega | (simp only [zIsLand, zIsSheet] at *; omega))
  obtain ⟨w93, e1273, h⟩ := zbind h
  have E1274 : zE (fun o => o = 60) w w93 := E1272.tr (elX7_advance_207 _ _ _ e1273) (fun o h => by first | omega | (simp only [zIsLand, zIsSheet] at *; omega))
  obtain rfl := Option.some.inj h
  exact E1274
set_option maxRecDepth 100000 in
theorem eX7_finds {w : zW} {p1 : Int32} {r : Int32} {w' : zW} (h : fX7_finds w p1 = some (r, w')) : zE (fun o => o = 62) w w' := by
  unfold fX7_finds at h
  have E0 : zE (fun o => o = 62) w w := zE.rfl
  obtain ⟨v1, e1275, h⟩ := zbind h
  obtain ⟨w3, e1276, h⟩ := zbind h
  have E1277 : zE (fun o => o = 62) w w3 := E0.zwr e1276 (by first | omega | (simp only [zIsLand, zIsSheet] at *; omega))
  obtain ⟨rfl, rfl⟩ := zpi2 h
  exact E1277
set_option maxRecDepth 100000 in
theorem eX7_as {w : zW} {p1 : Int32} {p2 : Int32} {r : Int32} {w' : zW} (h : fX7_as w p1 p2 = some (r, w')) : zE (fun o => o = 62) w w' := by
  unfold fX7_as at h
  have E0 : zE (fun o => o = 62) w w := zE.rfl
  obtain ⟨v2, e1278, h⟩ := zbind h
  by_cases c1279 : v2 = 0
  · replace h := zite_t c1279 h
    obtain ⟨v4, w5, e1280, h⟩ := zb2_inv h
    have E1281 : zE (fun o => o = 62) w w5 := E0.tr (eX7_finds e1280) (fun o h => by first | omega | (simp only [zIsLand, zIsSheet] at *; omega))
    obtain ⟨rfl, rfl⟩ := zpi2 h
    exact E1281
  · replace h := zite_f c1279 h
    obtain ⟨v7, e1282, h⟩ := zbind h
    by_cases c1283 : v7 = 0
    · replace h := zite_t c1283 h
      obtain ⟨v19, w20, e1284, h⟩ := zb2_inv h
      have E1285 : zE (fun o => o = 62) w w20 := E0.tr (eX7_finds e1284) (fun o h => by first | omega | (simp only [zIsLand, zIsSheet] at *; omega))
      obtain ⟨rfl, rfl⟩ := zpi2 h
      exact E1285
    · replace h := zite_f c1283 h
      obtain ⟨v9, e1286, h⟩ := zbind h
      obtain ⟨v11, e1287, h⟩ := zbind h
      by_cases c1288 : v11 = 0
      · replace h := zite_t c1288 h
        obtain ⟨v13, w14, e1289, h⟩ := zb2_inv h
        have E1290 : zE (fun o => o = 62) w w14 := E0.tr (eX7_finds e1289) (fun o h => by first | omega | (simp only [zIsLand, zIsSheet] at *; omega))
        obtain ⟨rfl, rfl⟩ := zpi2 h
        exact E1290
      · replace h := zite_f c1288 h
        obtain ⟨v16, e1291, h⟩ := zbind h
        obtain ⟨rfl, rfl⟩ := zpi2 h
        exact E0
set_option maxRecDepth 100000 in
theorem eX7_back {w : zW} {p1 : Int32} {p2 : Int32} {p3 : Int32} {r : Int32} {w' : zW} (h : fX7_back w p1 p2 p3 = some (r, w')) : zE (fun o => o = 63) w w' := by
  unfold fX7_back at h
  have E0 : zE (fun o => o = 63) w w := zE.rfl
  obtain ⟨v1, e1292, h⟩ := zbind h
  obtain ⟨v4, w5, e1293, h⟩ := zb2_inv h
  have E1294 : zE (fun o => o = 63) w w5 := E0.tr (eX7_earliest e1293) (fun o h => by first | omega | (simp only [zIsLand, zIsSheet] at *; omega))
  by_cases c1295 : v4 = (1000000000 : Int32)
  · replace h := zite_t c1295 h
    obtain ⟨rfl, rfl⟩ := zpi2 h
    exact E1294
  · replace h := zite_f c1295 h
    obtain ⟨v7, w8, e1296, h⟩ := zb2_inv h
    have E1297 : zE (fun o => o = 63) w w8 := E1294.tr (eX7_earliest e1296) (fun o h => by first | omega | (simp only [zIsLand, zIsSheet] at *; omega))
    obtain ⟨rfl, rfl⟩ := zpi2 h
    exact E1297
set_option maxRecDepth 100000 in
theorem eX7_reachOf {w : zW} {p1 : Int32} {p2 : Int32} {p3 : Int32} {r : Int32} {w' : zW} (h : fX7_reachOf w p1 p2 p3 = some (r, w')) : zE (fun o => o = 63) w w' := by
  unfold fX7_reachOf at h
  have E0 : zE (fun o => o = 63) w w := zE.rfl
  obtain ⟨v1, e1298, h⟩ := zbind h
  obtain ⟨w4, e1299, h⟩ := zbind h
  have E1300 : zE (fun o => o = 63) w w4 := E0.tr (eX7_find e1299) (fun o h => by first | omega | (simp only [zIsLand, zIsSheet] at *; omega))
  obtain ⟨v6, e1301, h⟩ := zbind h
  obtain ⟨rfl, rfl⟩ := zpi2 h
  exact E1300
set_option maxRecDepth 100000 in
theorem eX7_below {w : zW} {p1 : Int32} {p2 : Int32} {r : Int32} {w' : zW} (h : fX7_below w p1 p2 = some (r, w')) : zE (fun o => o = 62 ∨ o = 63) w w' := by
  unfold fX7_below at h
  have E0 : zE (fun o => o = 62 ∨ o = 63) w w := zE.rfl
  obtain ⟨v2, e1302, h⟩ := zbind h
  by_cases c1303 : v2 = 0
  · replace h := zite_t c1303 h
    obtain ⟨v4, w5, e1304, h⟩ := zb2_inv h
    have E1305 : zE (fun o => o = 62 ∨ o = 63) w w5 := E0.tr (eX7_finds e1304) (fun o h => by first | omega | (simp only [zIsLand, zIsSheet] at *; omega))
    obtain ⟨rfl, rfl⟩ := zpi2 h
    exact E1305
  · replace h := zite_f c1303 h
    obtain ⟨v7, e1306, h⟩ := zbind h
    by_cases c1307 : v7 = 0
    · replace h := zite_t c1307 h
      obtain ⟨v9, w10, e1308, h⟩ := zb2_inv h
      have E1309 : zE (fun o => o = 62 ∨ o = 63) w w10 := E0.tr (eX7_finds e1308) (fun o h => by first | omega | (simp only [zIsLand, zIsSheet] at *; omega))
      obtain ⟨rfl, rfl⟩ := zpi2 h
      exact E1309
    · replace h := zite_f c1307 h
      obtain ⟨v12, w13, e1310, h⟩ := zb2_inv h
      have E1311 : zE (fun o => o = 62 ∨ o = 63) w w13 := E0.tr (eX7_reachOf e1310) (fun o h => by first | omega | (simp only [zIsLand, zIsSheet] at *; omega))
      obtain ⟨rfl, rfl⟩ := zpi2 h
      exact E1311
set_option maxRecDepth 100000 in
theorem elX7_copy_102 {p1 : Int32} {p2 : Int32} {p3 : Int32} {p4 : Int32} {p5 : Int32}  : ∀ (n : Nat) (w27 : zW) (x26 : Int32) (s : zW), lpX7_copy_102 p1 p2 p3 p4 p5 n w27 x26 = some s → zE (fun o => o = 62 ∨ o = 68 ∨ o = 69) w27 s := by
  intro n
  induction n with
  | zero => intro w27 x26 s h; simp [lpX7_copy_102] at h
  | succ n ih =>
    intro w27 x26 s h
    rw [lpX7_copy_102] at h
    have E0 : zE (fun o => o = 62 ∨ o = 68 ∨ o = 69) w27 w27 := zE.rfl
    by_cases c1312 : p5 ≤ x26
    · replace h := zite_t c1312 h
      obtain rfl := Option.some.inj h
      exact E0
    · replace h := zite_f c1312 h
      obtain ⟨v29, e1313, h⟩ := zbind h
      obtain ⟨w31, e1314, h⟩ := zbind h
      have E1315 : zE (fun o => o = 62 ∨ o = 68 ∨ o = 69) w27 w31 := E0.zwl e1314 (by first | omega | (simp only [zIsLand, zIsSheet] at *; omega))
      exact E1315.trs (ih _ _ _ h)
set_option maxRecDepth 100000 in
theorem elX7_copy_139 {p3 : Int32} {p4 : Int32} {p5 : Int32}  : ∀ (n : Nat) (w38 : zW) (x37 : Int32) (s : zW), lpX7_copy_139 p3 p4 p5 n w38 x37 = some s → zE (fun o => o = 62 ∨ o = 68 ∨ o = 69) w38 s := by
  intro n
  induction n with
  | zero => intro w38 x37 s h; simp [lpX7_copy_139] at h
  | succ n ih =>
    intro w38 x37 s h
    rw [lpX7_copy_139] at h
    have E0 : zE (fun o => o = 62 ∨ o = 68 ∨ o = 69) w38 w38 := zE.rfl
    by_cases c1316 : p5 ≤ x37
    · replace h := zite_t c1316 h
      obtain rfl := Option.some.inj h
      exact E0
    · replace h := zite_f c1316 h
      obtain ⟨v40, e1317, h⟩ := zbind h
      obtain ⟨w42, e1318, h⟩ := zbind h
      have E1319 : zE (fun o => o = 62 ∨ o = 68 ∨ o = 69) w38 w42 := E0.zwl e1318 (by first | omega | (simp only [zIsLand, zIsSheet] at *; omega))
      exact E1319.trs (ih _ _ _ h)
set_option maxRecDepth 100000 in
theorem eX7_copy {w : zW} {p1 : Int32} {p2 : Int32} {p3 : Int32} {p4 : Int32} {p5 : Int32} {r : Int32} {w' : zW} (h : fX7_copy w p1 p2 p3 p4 p5 = some (r, w')) : zE (fun o => o = 62 ∨ o = 68 ∨ o = 69) w w' := by
  unfold fX7_copy at h
  have E0 : zE (fun o => o = 62 ∨ o = 68 ∨ o = 69) w w := zE.rfl
  obtain ⟨v2, e1320, h⟩ := zbind h
  by_cases c1321 : v2 = 0
  · replace h := zite_t c1321 h
    obtain ⟨v4, w5, e1322, h⟩ := zb2_inv h
    have E1323 : zE (fun o => o = 62 ∨ o = 68 ∨ o = 69) w w5 := E0.tr (eX7_finds e1322) (fun o h => by first | omega | (simp only [zIsLand, zIsSheet] at *; omega))
    obtain ⟨rfl, rfl⟩ := zpi2 h
    exact E1323
  · replace h := zite_f c1321 h
    obtain ⟨v7, e1324, h⟩ := zbind h
    by_cases c1325 : v7 = 0
    · replace h := zite_t c1325 h
      obtain ⟨v63, w64, e1326, h⟩ := zb2_inv h
      have E1327 : zE (fun o => o = 62 ∨ o = 68 ∨ o = 69) w w64 := E0.tr (eX7_finds e1326) (fun o h => by first | omega | (simp only [zIsLand, zIsSheet] at *; omega))
      obtain ⟨rfl, rfl⟩ := zpi2 h
      exact E1327
    · replace h := zite_f c1325 h
      obtain ⟨v8, e1328, h⟩ := zbind h
      by_cases c1329 : v8 = 0
      · replace h := zite_t c1329 h
        obtain ⟨v11, w12, e1330, h⟩ := zb2_inv h
        have E1331 : zE (fun o => o = 62 ∨ o = 68 ∨ o = 69) w w12 := E0.tr (eX7_finds e1330) (fun o h => by first | omega | (simp only [zIsLand, zIsSheet] at *; omega))
        obtain ⟨rfl, rfl⟩ := zpi2 h
        exact E1331
      · replace h := zite_f c1329 h
        obtain ⟨v13, e1332, h⟩ := zbind h
        by_cases c1333 : v13 = 0
        · replace h := zite_t c1333 h
          obtain ⟨v58, w59, e1334, h⟩ := zb2_inv h
          have E1335 : zE (fun o => o = 62 ∨ o = 68 ∨ o = 69) w w59 := E0.tr (eX7_finds e1334) (fun o h => by first | omega | (simp only [zIsLand, zIsSheet] at *; omega))
          obtain ⟨rfl, rfl⟩ := zpi2 h
          exact E1335
        · replace h := zite_f c1333 h
          obtain ⟨v15, e1336, h⟩ := zbind h
          obtain ⟨v17, e1337, h⟩ := zbind h
          by_cases c1338 : v15 = v17
          · replace h := zite_t c1338 h
            obtain ⟨v20, e1339, h⟩ := zbind h
            by_cases c1340 : v20 = 0
            · replace h := zite_t c1340 h
              obtain ⟨v22, w23, e1341, h⟩ := zb2_inv h
              have E1342 : zE (fun o => o = 62 ∨ o = 68 ∨ o = 69) w w23 := E0.tr (eX7_finds e1341) (fun o h => by first | omega | (simp only [zIsLand, zIsSheet] at *; omega))
              obtain ⟨rfl, rfl⟩ := zpi2 h
              exact E1342
            · replace h := zite_f c1340 h
              obtain ⟨v25, e1343, h⟩ := zbind h
              by_cases c1344 : v25 = 0
              · replace h := zite_t c1344 h
                obtain ⟨v49, w50, e1345, h⟩ := zb2_inv h
                have E1346 : zE (fun o => o = 62 ∨ o = 68 ∨ o = 69) w w50 := E0.tr (eX7_finds e1345) (fun o h => by first | omega | (simp only [zIsLand, zIsSheet] at *; omega))
                obtain ⟨rfl, rfl⟩ := zpi2 h
                exact E1346
              · replace h := zite_f c1344 h
                obtain ⟨w36, e1347, h⟩ := zbind h
                have E1348 : zE (fun o => o = 62 ∨ o = 68 ∨ o = 69) w w36 := E0.tr (elX7_copy_102 _ _ _ _ e1347) (fun o h => by first | omega | (simp only [zIsLand, zIsSheet] at *; omega))
                obtain ⟨w47, e1349, h⟩ := zbind h
                have E1350 : zE (fun o => o = 62 ∨ o = 68 ∨ o = 69) w w47 := E1348.tr (elX7_copy_139 _ _ _ _ e1349) (fun o h => by first | omega | (simp only [zIsLand, zIsSheet] at *; omega))
                obtain ⟨rfl, rfl⟩ := zpi2 h
                exact E1350
          · replace h := zite_f c1338 h
            obtain ⟨v54, w55, e1351, h⟩ := zb2_inv h
            have E1352 : zE (fun o => o = 62 ∨ o = 68 ∨ o = 69) w w55 := E0.tr (eX7_finds e1351) (fun o h => by first | omega | (simp only [zIsLand, zIsSheet] at *; omega))
            obtain ⟨rfl, rfl⟩ := zpi2 h
            exact E1352
set_option maxRecDepth 100000 in
theorem eX7_count {w : zW} {p1 : Int32} {r : Int32} {w' : zW} (h : fX7_count w p1 = some (r, w')) : zE (fun o => o = 62) w w' := by
  unfold fX7_count at h
  have E0 : zE (fun o => o = 62) w w := zE.rfl
  by_cases c1353 : p1 = 0
  · replace h := zite_t c1353 h
    obtain ⟨v6, e1354, h⟩ := zbind h
    obtain ⟨rfl, rfl⟩ := zpi2 h
    exact E0
  · replace h := zite_f c1353 h
    by_cases c1355 : p1 = 1
    · replace h := zite_t c1355 h
      obtain ⟨v8, e1356, h⟩ := zbind h
      obtain ⟨rfl, rfl⟩ := zpi2 h
      exact E0
    · replace h := zite_f c1355 h
      by_cases c1357 : p1 = 2
      · replace h := zite_t c1357 h
        obtain ⟨v10, e1358, h⟩ := zbind h
        obtain ⟨rfl, rfl⟩ := zpi2 h
        exact E0
      · replace h := zite_f c1357 h
        by_cases c1359 : p1 = 3
        · replace h := zite_t c1359 h
          obtain ⟨rfl, rfl⟩ := zpi2 h
          exact E0
        · replace h := zite_f c1359 h
          by_cases c1360 : p1 = 4
          · replace h := zite_t c1360 h
            obtain ⟨y24, e1361, h⟩ := zbind h
            obtain ⟨rfl, rfl⟩ := zpi2 h
            exact E0
          · replace h := zite_f c1360 h
            obtain ⟨v26, w27, e1362, h⟩ := zb2_inv h
            have E1363 : zE (fun o => o = 62) w w27 := E0.tr (eX7_finds e1362) (fun o h => by first | omega | (simp only [zIsLand, zIsSheet] at *; omega))
            obtain ⟨rfl, rfl⟩ := zpi2 h
            exact E1363
set_option maxRecDepth 100000 in
theorem eX7_day {w : zW} {p1 : Int32} {r : Int32} {w' : zW} (h : fX7_day w p1 = some (r, w')) : zE (fun o => o = 61 ∨ o = 62) w w' := by
  unfold fX7_day at h
  have E0 : zE (fun o => o = 61 ∨ o = 62) w w := zE.rfl
  obtain ⟨v2, e1364, h⟩ := zbind h
  by_cases c1365 : v2 = 0
  · replace h := zite_t c1365 h
    obtain ⟨v8, w9, e1366, h⟩ := zb2_inv h
    have E1367 : zE (fun o => o = 61 ∨ o = 62) w w9 := E0.tr (eX7_finds e1366) (fun o h => by first | omega | (simp only [zIsLand, zIsSheet] at *; omega))
    obtain ⟨rfl, rfl⟩ := zpi2 h
    exact E1367
  · replace h := zite_f c1365 h
    obtain ⟨v3, e1368, h⟩ := zbind h
    obtain ⟨w5, e1369, h⟩ := zbind h
    have E1370 : zE (fun o => o = 61 ∨ o = 62) w w5 := E0.zwr e1369 (by first | omega | (simp only [zIsLand, zIsSheet] at *; omega))
    obtain ⟨rfl, rfl⟩ := zpi2 h
    exact E1370
set_option maxRecDepth 100000 in
theorem elX7_days_46 {p1 : Int32} {v6 : Int32}  : ∀ (n : Nat) (w8 : zW) (x7 : Int32) (s : zW), lpX7_days_46 p1 v6 n w8 x7 = some s → zE (fun o => o = 60 ∨ o = 61 ∨ o = 62 ∨ o = 63) w8 s := by
  intro n
  induction n with
  | zero => intro w8 x7 s h; simp [lpX7_days_46] at h
  | succ n ih =>
    intro w8 x7 s h
    rw [lpX7_days_46] at h
    have E0 : zE (fun o => o = 60 ∨ o = 61 ∨ o = 62 ∨ o = 63) w8 w8 := zE.rfl
    by_cases c1371 : p1 ≤ x7
    · replace h := zite_t c1371 h
      obtain rfl := Option.some.inj h
      exact E0
    · replace h := zite_f c1371 h
      obtain ⟨w11, e1372, h⟩ := zbind h
      have E1373 : zE (fun o => o = 60 ∨ o = 61 ∨ o = 62 ∨ o = 63) w8 w11 := E0.tr (eX7_aDay e1372) (fun o h => by first | omega | (simp only [zIsLand, zIsSheet] at *; omega))
      exact E1373.trs (ih _ _ _ h)
set_option maxRecDepth 100000 in
theorem eX7_days {w : zW} {p1 : Int32} {r : Int32} {w' : zW} (h : fX7_days w p1 = some (r, w')) : zE (fun o => o = 60 ∨ o = 61 ∨ o = 62 ∨ o = 63) w w' := by
  unfold fX7_days at h
  have E0 : zE (fun o => o = 60 ∨ o = 61 ∨ o = 62 ∨ o = 63) w w := zE.rfl
  obtain ⟨v2, e1374, h⟩ := zbind h
  by_cases c1375 : v2 = 0
  · replace h := zite_t c1375 h
    obtain ⟨v25, w26, e1376, h⟩ := zb2_inv h
    have E1377 : zE (fun o => o = 60 ∨ o = 61 ∨ o = 62 ∨ o = 63) w w26 := E0.tr (eX7_finds e1376) (fun o h => by first | omega | (simp only [zIsLand, zIsSheet] at *; omega))
    obtain ⟨rfl, rfl⟩ := zpi2 h
    exact E1377
  · replace h := zite_f c1375 h
    obtain ⟨v3, e1378, h⟩ := zbind h
    by_cases c1379 : (v3 + p1) ≤ (9999 : Int32)
    · replace h := zite_t c1379 h
      obtain ⟨v6, e1380, h⟩ := zbind h
      obtain ⟨w15, e1381, h⟩ := zbind h
      have E1382 : zE (fun o => o = 60 ∨ o = 61 ∨ o = 62 ∨ o = 63) w w15 := E0.tr (elX7_days_46 _ _ _ _ e1381) (fun o h => by first | omega | (simp only [zIsLand, zIsSheet] at *; omega))
      obtain ⟨v17, e1383, h⟩ := zbind h
      obtain ⟨v19, e1384, h⟩ := zbind h
      obtain ⟨rfl, rfl⟩ := zpi2 h
      exact E1382
    · replace h := zite_f c1379 h
      obtain ⟨v21, w22, e1385, h⟩ := zb2_inv h
      have E1386 : zE (fun o => o = 60 ∨ o = 61 ∨ o = 62 ∨ o = 63) w w22 := E0.tr (eX7_finds e1385) (fun o h => by first | omega | (simp only [zIsLand, zIsSheet] at *; omega))
      obtain ⟨rfl, rfl⟩ := zpi2 h
      exact E1386
set_option maxRecDepth 100000 in
theorem elX7_moveAll_2 {p1 : Int32} {o2 : Nat}  : ∀ (n : Nat) (w2 : zW) (x1 : Int32) (s : zW), lpX7_moveAll_2 p1 o2 n w2 x1 = some s → zE (fun o => o = o2 ∨ o = 61) w2 s := by
  intro n
  induction n with
  | zero => intro w2 x1 s h; simp [lpX7_moveAll_2] at h
  | succ n ih =>
    intro w2 x1 s h
    rw [lpX7_moveAll_2] at h
    have E0 : zE (fun o => o = o2 ∨ o = 61) w2 w2 := zE.rfl
    by_cases c1387 : (151 : Int32) ≤ x1
    · replace h := zite_t c1387 h
      obtain rfl := Option.some.inj h
      exact E0
    · replace h := zite_f c1387 h
      obtain ⟨w12, e1388, h⟩ := zbind h
      have E1389 : zE (fun o => o = o2 ∨ o = 61) w2 w12 := by
        by_cases c1390 : p1 = 0
        · replace e1388 := zite_t c1390 e1388
          obtain ⟨v15, e1391, e1388⟩ := zbind e1388
          obtain ⟨w17, e1392, e1388⟩ := zbind e1388
          have E1393 : zE (fun o => o = o2 ∨ o = 61) w2 w17 := E0.zwr e1392 (by first | omega | (simp only [zIsLand, zIsSheet] at *; omega))
          obtain rfl := Option.some.inj e1388
          exact E1393
        · replace e1388 := zite_f c1390 e1388
          obtain ⟨v19, e1394, e1388⟩ := zbind e1388
          obtain ⟨w21, e1395, e1388⟩ := zbind e1388
          have E1396 : zE (fun o => o = o2 ∨ o = 61) w2 w21 := E0.zwr e1395 (by first | omega | (simp only [zIsLand, zIsSheet] at *; omega))
          obtain rfl := Option.some.inj e1388
          exact E1396
      exact E1389.trs (ih _ _ _ h)
set_option maxRecDepth 100000 in
theorem eX7_moveAll {w : zW} {p1 : Int32} {o2 : Nat} {w' : zW} (h : fX7_moveAll w p1 o2 = some w') : zE (fun o => o = o2 ∨ o = 61) w w' := by
  unfold fX7_moveAll at h
  have E0 : zE (fun o => o = o2 ∨ o = 61) w w := zE.rfl
  obtain ⟨w27, e1397, h⟩ := zbind h
  have E1398 : zE (fun o => o = o2 ∨ o = 61) w w27 := E0.tr (elX7_moveAll_2 _ _ _ _ e1397) (fun o h => by first | omega | (simp only [zIsLand, zIsSheet] at *; omega))
  obtain rfl := Option.some.inj h
  exact E1398
set_option maxRecDepth 100000 in
theorem elX7_daysTill_11 {p1 : Int32}  : ∀ (n : Nat) (w4 : zW) (x3 : Int32) (s : (Int32 × zW)), lpX7_daysTill_11 p1 n w4 x3 = some s → zE (fun o => o = 60 ∨ o = 61 ∨ o = 63 ∨ o = 64) w4 s.2 := by
  intro n
  induction n with
  | zero => intro w4 x3 s h; simp [lpX7_daysTill_11] at h
  | succ n ih =>
    intro w4 x3 s h
    rw [lpX7_daysTill_11] at h
    have E0 : zE (fun o => o = 60 ∨ o = 61 ∨ o = 63 ∨ o = 64) w4 w4 := zE.rfl
    by_cases c1399 : (200 : Int32) ≤ x3
    · replace h := zite_t c1399 h
      obtain rfl := Option.some.inj h
      exact E0
    · replace h := zite_f c1399 h
      obtain ⟨v8, e1400, h⟩ := zbind h
      by_cases c1401 : v8 = 0
      · replace h := zite_t c1401 h
        obtain ⟨w10, e1402, h⟩ := zbind h
        have E1403 : zE (fun o => o = 60 ∨ o = 61 ∨ o = 63 ∨ o = 64) w4 w10 := E0.tr (eX7_aDay e1402) (fun o h => by first | omega | (simp only [zIsLand, zIsSheet] at *; omega))
        exact E1403.trs (ih _ _ _ h)
      · replace h := zite_f c1401 h
        obtain rfl := Option.some.inj h
        exact E0
set_option maxRecDepth 100000 in
theorem eX7_daysTill {w : zW} {p1 : Int32} {r : Int32} {w' : zW} (h : fX7_daysTill w p1 = some (r, w')) : zE (fun o => o = 60 ∨ o = 61 ∨ o = 63 ∨ o = 64) w w' := by
  unfold fX7_daysTill at h
  have E0 : zE (fun o => o = 60 ∨ o = 61 ∨ o = 63 ∨ o = 64) w w := zE.rfl
  obtain ⟨w2, e1404, h⟩ := zbind h
  have E1405 : zE (fun o => o = 60 ∨ o = 61 ∨ o = 63 ∨ o = 64) w w2 := E0.tr (eX7_moveAll e1404) (fun o h => by first | omega | (simp only [zIsLand, zIsSheet] at *; omega))
  obtain ⟨y15, w16, e1406, h⟩ := zb2_inv h
  have E1407 : zE (fun o => o = 60 ∨ o = 61 ∨ o = 63 ∨ o = 64) w w16 := E1405.tr (elX7_daysTill_11 _ _ _ _ e1406) (fun o h => by first | omega | (simp only [zIsLand, zIsSheet] at *; omega))
  obtain ⟨v18, e1408, h⟩ := zbind h
  obtain ⟨x19, e1409, h⟩ := zbind h
  obtain ⟨w23, e1410, h⟩ := zbind h
  have E1411 : zE (fun o => o = 60 ∨ o = 61 ∨ o = 63 ∨ o = 64) w w23 := E1407.tr (eX7_moveAll e1410) (fun o h => by first | omega | (simp only [zIsLand, zIsSheet] at *; omega))
  obtain ⟨rfl, rfl⟩ := zpi2 h
  exact E1411
set_option maxRecDepth 100000 in
theorem elX7_reachWith_23 {p1 : Int32} {p2 : Int32} {p3 : Int32}  : ∀ (n : Nat) (w9 : zW) (x8 : Int32) (s : zW), lpX7_reachWith_23 p1 p2 p3 n w9 x8 = some s → zE (fun o => o = 63) w9 s := by
  intro n
  induction n with
  | zero => intro w9 x8 s h; simp [lpX7_reachWith_23] at h
  | succ n ih =>
    intro w9 x8 s h
    rw [lpX7_reachWith_23] at h
    have E0 : zE (fun o => o = 63) w9 w9 := zE.rfl
    by_cases c1412 : x8 = 0
    · replace h := zite_t c1412 h
      obtain rfl := Option.some.inj h
      exact E0
    · replace h := zite_f c1412 h
      obtain ⟨v12, e1413, h⟩ := zbind h
      obtain ⟨v14, w15, e1414, h⟩ := zb2_inv h
      have E1415 : zE (fun o => o = 63) w9 w15 := E0.tr (eX7_goesOn e1414) (fun o h => by first | omega | (simp only [zIsLand, zIsSheet] at *; omega))
      obtain ⟨v17, w18, e1416, h⟩ := zb2_inv h
      have E1417 : zE (fun o => o = 63) w9 w18 := E1415.tr (eX7_takesRoad e1416) (fun o h => by first | omega | (simp only [zIsLand, zIsSheet] at *; omega))
      obtain ⟨v20, w21, e1418, h⟩ := zb2_inv h
      have E1419 : zE (fun o => o = 63) w9 w21 := E1417.tr (eX7_takesRoad e1418) (fun o h => by first | omega | (simp only [zIsLand, zIsSheet] at *; omega))
      obtain ⟨x24, e1420, h⟩ := zbind h
      exact E1419.trs (ih _ _ _ h)
set_option maxRecDepth 100000 in
theorem eX7_reachWith {w : zW} {p1 : Int32} {p2 : Int32} {p3 : Int32} {r : Int32} {w' : zW} (h : fX7_reachWith w p1 p2 p3 = some (r, w')) : zE (fun o => o = 63) w w' := by
  unfold fX7_reachWith at h
  have E0 : zE (fun o => o = 63) w w := zE.rfl
  obtain ⟨v1, e1421, h⟩ := zbind h
  obtain ⟨w4, e1422, h⟩ := zbind h
  have E1423 : zE (fun o => o = 63) w w4 := E0.tr (eX7_find e1422) (fun o h => by first | omega | (simp only [zIsLand, zIsSheet] at *; omega))
  obtain ⟨v6, w7, e1424, h⟩ := zb2_inv h
  have E1425 : zE (fun o => o = 63) w w7 := E1423.tr (eX7_takesRoad e1424) (fun o h => by first | omega | (simp only [zIsLand, zIsSheet] at *; omega))
  obtain ⟨w33, e1426, h⟩ := zbind h
  have E1427 : zE (fun o => o = 63) w w33 := E1425.tr (elX7_reachWith_23 _ _ _ _ e1426) (fun o h => by first | omega | (simp only [zIsLand, zIsSheet] at *; omega))
  obtain ⟨v35, e1428, h⟩ := zbind h
  obtain ⟨rfl, rfl⟩ := zpi2 h
  exact E1427
set_option maxRecDepth 100000 in
theorem elX7_dig_39 {p1 : Int32} {p2 : Int32}  : ∀ (n : Nat) (w16 : zW) (x13 : Int32) (x14 : Int32) (x15 : Int32) (s : (Int32 × zW)), lpX7_dig_39 p1 p2 n w16 x13 x14 x15 = some s → zE (fun o => o = 62 ∨ o = 63) w16 s.2 := by
  intro n
  induction n with
  | zero => intro w16 x13 x14 x15 s h; simp [lpX7_dig_39] at h
  | succ n ih =>
    intro w16 x13 x14 x15 s h
    rw [lpX7_dig_39] at h
    have E0 : zE (fun o => o = 62 ∨ o = 63) w16 w16 := zE.rfl
    obtain ⟨v19, e1429, h⟩ := zbind h
    by_cases c1430 : v19 ≤ x15
    · replace h := zite_t c1430 h
      obtain rfl := Option.some.inj h
      exact E0
    · replace h := zite_f c1430 h
      obtain ⟨x26, w27, e1431, h⟩ := zb2_inv h
      have E1432 : zE (fun o => o = 62 ∨ o = 63) w16 w27 := by
        by_cases c1433 : x15 = p2
        · replace e1431 := zite_t c1433 e1431
          obtain ⟨rfl, rfl⟩ := zpi2 e1431
          exact E0
        · replace e1431 := zite_f c1433 e1431
          obtain ⟨v31, w32, e1434, e1431⟩ := zb2_inv e1431
          have E1435 : zE (fun o => o = 62 ∨ o = 63) w16 w32 := E0.tr (eX7_reachWith e1434) (fun o h => by first | omega | (simp only [zIsLand, zIsSheet] at *; omega))
          obtain ⟨v34, e1436, e1431⟩ := zbind e1431
          obtain ⟨rfl, rfl⟩ := zpi2 e1431
          exact E1435
      obtain ⟨x35, e1437, h⟩ := zbind h
      obtain ⟨x38, e1438, h⟩ := zbind h
      exact E1432.trs (ih _ _ _ _ _ h)
set_option maxRecDepth 100000 in
theorem eX7_dig {w : zW} {p1 : Int32} {p2 : Int32} {r : Int32} {w' : zW} (h : fX7_dig w p1 p2 = some (r, w')) : zE (fun o => o = 62 ∨ o = 63) w w' := by
  unfold fX7_dig at h
  have E0 : zE (fun o => o = 62 ∨ o = 63) w w := zE.rfl
  obtain ⟨v2, e1439, h⟩ := zbind h
  by_cases c1440 : v2 = 0
  · replace h := zite_t c1440 h
    obtain ⟨v4, w5, e1441, h⟩ := zb2_inv h
    have E1442 : zE (fun o => o = 62 ∨ o = 63) w w5 := E0.tr (eX7_finds e1441) (fun o h => by first | omega | (simp only [zIsLand, zIsSheet] at *; omega))
    obtain ⟨rfl, rfl⟩ := zpi2 h
    exact E1442
  · replace h := zite_f c1440 h
    obtain ⟨v7, e1443, h⟩ := zbind h
    by_cases c1444 : v7 = 0
    · replace h := zite_t c1444 h
      obtain ⟨v54, w55, e1445, h⟩ := zb2_inv h
      have E1446 : zE (fun o => o = 62 ∨ o = 63) w w55 := E0.tr (eX7_finds e1445) (fun o h => by first | omega | (simp only [zIsLand, zIsSheet] at *; omega))
      obtain ⟨rfl, rfl⟩ := zpi2 h
      exact E1446
    · replace h := zite_f c1444 h
      obtain ⟨v9, w10, e1447, h⟩ := zb2_inv h
      have E1448 : zE (fun o => o = 62 ∨ o = 63) w w10 := E0.tr (eX7_reachOf e1447) (fun o h => by first | omega | (simp only [zIsLand, zIsSheet] at *; omega))
      obtain ⟨v12, e1449, h⟩ := zbind h
      obtain ⟨y47, w48, e1450, h⟩ := zb2_inv h
      have E1451 : zE (fun o => o = 62 ∨ o = 63) w w48 := E1448.tr (elX7_dig_39 _ _ _ _ _ _ e1450) (fun o h => by first | omega | (simp only [zIsLand, zIsSheet] at *; omega))
      by_cases c1452 : 0 ≤ y47
      · replace h := zite_t c1452 h
        obtain ⟨rfl, rfl⟩ := zpi2 h
        exact E1451
      · replace h := zite_f c1452 h
        obtain ⟨v50, w51, e1453, h⟩ := zb2_inv h
        have E1454 : zE (fun o => o = 62 ∨ o = 63) w w51 := E1451.tr (eX7_finds e1453) (fun o h => by first | omega | (simp only [zIsLand, zIsSheet] at *; omega))
        obtain ⟨rfl, rfl⟩ := zpi2 h
        exact E1454
set_option maxRecDepth 100000 in
theorem eX7_every {w : zW} {p1 : Int32} {r : Int32} {w' : zW} (h : fX7_every w p1 = some (r, w')) : zE (fun o => o = 61 ∨ o = 62) w w' := by
  unfold fX7_every at h
  have E0 : zE (fun o => o = 61 ∨ o = 62) w w := zE.rfl
  obtain ⟨v2, e1455, h⟩ := zbind h
  by_cases c1456 : v2 = 0
  · replace h := zite_t c1456 h
    obtain ⟨v8, w9, e1457, h⟩ := zb2_inv h
    have E1458 : zE (fun o => o = 61 ∨ o = 62) w w9 := E0.tr (eX7_finds e1457) (fun o h => by first | omega | (simp only [zIsLand, zIsSheet] at *; omega))
    obtain ⟨rfl, rfl⟩ := zpi2 h
    exact E1458
  · replace h := zite_f c1456 h
    obtain ⟨v3, e1459, h⟩ := zbind h
    obtain ⟨w5, e1460, h⟩ := zbind h
    have E1461 : zE (fun o => o = 61 ∨ o = 62) w w5 := E0.zwr e1460 (by first | omega | (simp only [zIsLand, zIsSheet] at *; omega))
    obtain ⟨rfl, rfl⟩ := zpi2 h
    exact E1461
set_option maxRecDepth 100000 in
theorem eX7_fall {w : zW} {p1 : Int32} {p2 : Int32} {p3 : Int32} {r : Int32} {w' : zW} (h : fX7_fall w p1 p2 p3 = some (r, w')) : zE (fun o => o = 62 ∨ o = 63) w w' := by
  unfold fX7_fall at h
  have E0 : zE (fun o => o = 62 ∨ o = 63) w w := zE.rfl
  obtain ⟨v2, e1462, h⟩ := zbind h
  by_cases c1463 : v2 = 0
  · replace h := zite_t c1463 h
    obtain ⟨v17, w18, e1464, h⟩ := zb2_inv h
    have E1465 : zE (fun o => o = 62 ∨ o = 63) w w18 := E0.tr (eX7_finds e1464) (fun o h => by first | omega | (simp only [zIsLand, zIsSheet] at *; omega))
    obtain ⟨rfl, rfl⟩ := zpi2 h
    exact E1465
  · replace h := zite_f c1463 h
    obtain ⟨v4, w5, e1466, h⟩ := zb2_inv h
    have E1467 : zE (fun o => o = 62 ∨ o = 63) w w5 := E0.tr (eX7_reachOf e1466) (fun o h => by first | omega | (simp only [zIsLand, zIsSheet] at *; omega))
    obtain ⟨v7, e1468, h⟩ := zbind h
    by_cases c1469 : v7 = 0
    · replace h := zite_t c1469 h
      obtain ⟨v9, w10, e1470, h⟩ := zb2_inv h
      have E1471 : zE (fun o => o = 62 ∨ o = 63) w w10 := E1467.tr (eX7_finds e1470) (fun o h => by first | omega | (simp only [zIsLand, zIsSheet] at *; omega))
      obtain ⟨rfl, rfl⟩ := zpi2 h
      exact E1471
    · replace h := zite_f c1469 h
      obtain ⟨v12, e1472, h⟩ := zbind h
      obtain ⟨v14, e1473, h⟩ := zbind h
      obtain ⟨rfl, rfl⟩ := zpi2 h
      exact E1467
set_option maxRecDepth 100000 in
theorem elX7_feed_38 {p1 : Int32}  : ∀ (n : Nat) (w6 : zW) (x5 : Int32) (s : zW), lpX7_feed_38 p1 n w6 x5 = some s → zE (fun o => o = 60 ∨ o = 62 ∨ o = 65) w6 s := by
  intro n
  induction n with
  | zero => intro w6 x5 s h; simp [lpX7_feed_38] at h
  | succ n ih =>
    intro w6 x5 s h
    rw [lpX7_feed_38] at h
    have E0 : zE (fun o => o = 60 ∨ o = 62 ∨ o = 65) w6 w6 := zE.rfl
    by_cases c1474 : x5 < 0
    · replace h := zite_t c1474 h
      obtain rfl := Option.some.inj h
      exact E0
    · replace h := zite_f c1474 h
      obtain ⟨w8, e1475, h⟩ := zbind h
      have E1476 : zE (fun o => o = 60 ∨ o = 62 ∨ o = 65) w6 w8 := E0.zwr e1475 (by first | omega | (simp only [zIsLand, zIsSheet] at *; omega))
      obtain ⟨w10, e1477, h⟩ := zbind h
      have E1478 : zE (fun o => o = 60 ∨ o = 62 ∨ o = 65) w6 w10 := E1476.zsf e1477 (by first | omega | (simp only [zIsLand, zIsSheet] at *; omega))
      exact E1478.trs (ih _ _ _ h)
set_option maxRecDepth 100000 in
theorem eX7_feed {w : zW} {p1 : Int32} {p2 : Int32} {r : Int32} {w' : zW} (h : fX7_feed w p1 p2 = some (r, w')) : zE (fun o => o = 60 ∨ o = 62 ∨ o = 65) w w' := by
  unfold fX7_feed at h
  have E0 : zE (fun o => o = 60 ∨ o = 62 ∨ o = 65) w w := zE.rfl
  obtain ⟨v2, e1479, h⟩ := zbind h
  by_cases c1480 : v2 = 0
  · replace h := zite_t c1480 h
    obtain ⟨v21, w22, e1481, h⟩ := zb2_inv h
    have E1482 : zE (fun o => o = 60 ∨ o = 62 ∨ o = 65) w w22 := E0.tr (eX7_finds e1481) (fun o h => by first | omega | (simp only [zIsLand, zIsSheet] at *; omega))
    obtain ⟨rfl, rfl⟩ := zpi2 h
    exact E1482
  · replace h := zite_f c1480 h
    by_cases c1483 : ((w.1 60 7) + p2) ≤ (120 : Int32)
    · replace h := zite_t c1483 h
      obtain ⟨x3, e1484, h⟩ := zbind h
      obtain ⟨w15, e1485, h⟩ := zbind h
      have E1486 : zE (fun o => o = 60 ∨ o = 62 ∨ o = 65) w w15 := E0.tr (elX7_feed_38 _ _ _ _ e1485) (fun o h => by first | omega | (simp only [zIsLand, zIsSheet] at *; omega))
      obtain ⟨rfl, rfl⟩ := zpi2 h
      exact E1486
    · replace h := zite_f c1483 h
      obtain ⟨v17, w18, e1487, h⟩ := zb2_inv h
      have E1488 : zE (fun o => o = 60 ∨ o = 62 ∨ o = 65) w w18 := E0.tr (eX7_finds e1487) (fun o h => by first | omega | (simp only [zIsLand, zIsSheet] at *; omega))
      obtain ⟨rfl, rfl⟩ := zpi2 h
      exact E1488
set_option maxRecDepth 100000 in
theorem eX7_first {w : zW} {p1 : Int32} {p2 : Int32} {r : Int32} {w' : zW} (h : fX7_first w p1 p2 = some (r, w')) : zE (fun o => o = 60 ∨ o = 61 ∨ o = 62 ∨ o = 63 ∨ o = 64) w w' := by
  unfold fX7_first at h
  have E0 : zE (fun o => o = 60 ∨ o = 61 ∨ o = 62 ∨ o = 63 ∨ o = 64) w w := zE.rfl
  obtain ⟨v2, e1489, h⟩ := zbind h
  by_cases c1490 : v2 = 0
  · replace h := zite_t c1490 h
    obtain ⟨v4, w5, e1491, h⟩ := zb2_inv h
    have E1492 : zE (fun o => o = 60 ∨ o = 61 ∨ o = 62 ∨ o = 63 ∨ o = 64) w w5 := E0.tr (eX7_finds e1491) (fun o h => by first | omega | (simp only [zIsLand, zIsSheet] at *; omega))
    obtain ⟨rfl, rfl⟩ := zpi2 h
    exact E1492
  · replace h := zite_f c1490 h
    obtain ⟨v7, e1493, h⟩ := zbind h
    by_cases c1494 : v7 = 0
    · replace h := zite_t c1494 h
      obtain ⟨v9, w10, e1495, h⟩ := zb2_inv h
      have E1496 : zE (fun o => o = 60 ∨ o = 61 ∨ o = 62 ∨ o = 63 ∨ o = 64) w w10 := E0.tr (eX7_finds e1495) (fun o h => by first | omega | (simp only [zIsLand, zIsSheet] at *; omega))
      obtain ⟨rfl, rfl⟩ := zpi2 h
      exact E1496
    · replace h := zite_f c1494 h
      by_cases c1497 : p1 = p2
      · replace h := zite_t c1497 h
        obtain ⟨v37, w38, e1498, h⟩ := zb2_inv h
        have E1499 : zE (fun o => o = 60 ∨ o = 61 ∨ o = 62 ∨ o = 63 ∨ o = 64) w w38 := E0.tr (eX7_finds e1498) (fun o h => by first | omega | (simp only [zIsLand, zIsSheet] at *; omega))
        obtain ⟨rfl, rfl⟩ := zpi2 h
        exact E1499
      · replace h := zite_f c1497 h
        obtain ⟨v11, e1500, h⟩ := zbind h
        by_cases c1501 : v11 ≤ (9799 : Int32)
        · replace h := zite_t c1501 h
          obtain ⟨v14, w15, e1502, h⟩ := zb2_inv h
          have E1503 : zE (fun o => o = 60 ∨ o = 61 ∨ o = 62 ∨ o = 63 ∨ o = 64) w w15 := E0.tr (eX7_daysTill e1502) (fun o h => by first | omega | (simp only [zIsLand, zIsSheet] at *; omega))
          obtain ⟨v17, w18, e1504, h⟩ := zb2_inv h
          have E1505 : zE (fun o => o = 60 ∨ o = 61 ∨ o = 62 ∨ o = 63 ∨ o = 64) w w18 := E1503.tr (eX7_daysTill e1504) (fun o h => by first | omega | (simp only [zIsLand, zIsSheet] at *; omega))
          by_cases c1506 : 0 ≤ v14
          · replace h := zite_t c1506 h
            by_cases c1507 : v14 = v17
            · replace h := zite_t c1507 h
              obtain ⟨rfl, rfl⟩ := zpi2 h
              exact E1505
            · replace h := zite_f c1507 h
              by_cases c1508 : v17 < 0
              · replace h := zite_t c1508 h
                obtain ⟨rfl, rfl⟩ := zpi2 h
                exact E1505
              · replace h := zite_f c1508 h
                by_cases c1509 : v14 < 0
                · replace h := zite_t c1509 h
                  obtain ⟨rfl, rfl⟩ := zpi2 h
                  exact E1505
                · replace h := zite_f c1509 h
                  by_cases c1510 : v17 ≤ v14
                  · replace h := zite_t c1510 h
                    obtain ⟨rfl, rfl⟩ := zpi2 h
                    exact E1505
                  · replace h := zite_f c1510 h
                    obtain ⟨rfl, rfl⟩ := zpi2 h
                    exact E1505
          · replace h := zite_f c1506 h
            by_cases c1511 : 0 ≤ v17
            · replace h := zite_t c1511 h
              by_cases c1512 : v14 = v17
              · replace h := zite_t c1512 h
                obtain ⟨rfl, rfl⟩ := zpi2 h
                exact E1505
              · replace h := zite_f c1512 h
                by_cases c1513 : v17 < 0
                · replace h := zite_t c1513 h
                  obtain ⟨rfl, rfl⟩ := zpi2 h
                  exact E1505
                · replace h := zite_f c1513 h
                  by_cases c1514 : v14 < 0
                  · replace h := zite_t c1514 h
                    obtain ⟨rfl, rfl⟩ := zpi2 h
                    exact E1505
                  · replace h := zite_f c1514 h
                    by_cases c1515 : v17 ≤ v14
                    · replace h := zite_t c1515 h
                      obtain ⟨rfl, rfl⟩ := zpi2 h
                      exact E1505
                    · replace h := zite_f c1515 h
                      obtain ⟨rfl, rfl⟩ := zpi2 h
                      exact E1505
            · replace h := zite_f c1511 h
              obtain ⟨v28, w29, e1516, h⟩ := zb2_inv h
              have E1517 : zE (fun o => o = 60 ∨ o = 61 ∨ o = 62 ∨ o = 63 ∨ o = 64) w w29 := E1505.tr (eX7_finds e1516) (fun o h => by first | omega | (simp only [zIsLand, zIsSheet] at *; omega))
              obtain ⟨rfl, rfl⟩ := zpi2 h
              exact E1517
        · replace h := zite_f c1501 h
          obtain ⟨v33, w34, e1518, h⟩ := zb2_inv h
          have E1519 : zE (fun o => o = 60 ∨ o = 61 ∨ o = 62 ∨ o = 63 ∨ o = 64) w w34 := E0.tr (eX7_finds e1518) (fun o h => by first | omega | (simp only [zIsLand, zIsSheet] at *; omega))
          obtain ⟨rfl, rfl⟩ := zpi2 h
          exact E1519
set_option maxRecDepth 100000 in
theorem eX7_goes {w : zW} {p1 : Int32} {p2 : Int32} {p3 : Int32} {r : Int32} {w' : zW} (h : fX7_goes w p1 p2 p3 = some (r, w')) : zE (fun o => o = 62) w w' := by
  unfold fX7_goes at h
  have E0 : zE (fun o => o = 62) w w := zE.rfl
  obtain ⟨v2, e1520, h⟩ := zbind h
  by_cases c1521 : v2 = 0
  · replace h := zite_t c1521 h
    obtain ⟨v4, w5, e1522, h⟩ := zb2_inv h
    have E1523 : zE (fun o => o = 62) w w5 := E0.tr (eX7_finds e1522) (fun o h => by first | omega | (simp only [zIsLand, zIsSheet] at *; omega))
    obtain ⟨rfl, rfl⟩ := zpi2 h
    exact E1523
  · replace h := zite_f c1521 h
    obtain ⟨v7, e1524, h⟩ := zbind h
    by_cases c1525 : v7 = 0
    · replace h := zite_t c1525 h
      obtain ⟨v24, w25, e1526, h⟩ := zb2_inv h
      have E1527 : zE (fun o => o = 62) w w25 := E0.tr (eX7_finds e1526) (fun o h => by first | omega | (simp only [zIsLand, zIsSheet] at *; omega))
      obtain ⟨rfl, rfl⟩ := zpi2 h
      exact E1527
    · replace h := zite_f c1525 h
      obtain ⟨x8, e1528, h⟩ := zbind h
      obtain ⟨v12, e1529, h⟩ := zbind h
      obtain ⟨x13, e1530, h⟩ := zbind h
      obtain ⟨v17, e1531, h⟩ := zbind h
      obtain ⟨v19, e1532, h⟩ := zbind h
      by_cases c1533 : v19 = 0
      · replace h := zite_t c1533 h
        obtain ⟨rfl, rfl⟩ := zpi2 h
        exact E0
      · replace h := zite_f c1533 h
        obtain ⟨rfl, rfl⟩ := zpi2 h
        exact E0
set_option maxRecDepth 100000 in
theorem eX7_hermit {w : zW} {p1 : Int32} {p2 : Int32} {r : Int32} {w' : zW} (h : fX7_hermit w p1 p2 = some (r, w')) : zE (fun o => o = 61 ∨ o = 62) w w' := by
  unfold fX7_hermit at h
  have E0 : zE (fun o => o = 61 ∨ o = 62) w w := zE.rfl
  obtain ⟨v2, e1534, h⟩ := zbind h
  by_cases c1535 : v2 = 0
  · replace h := zite_t c1535 h
    obtain ⟨v13, w14, e1536, h⟩ := zb2_inv h
    have E1537 : zE (fun o => o = 61 ∨ o = 62) w w14 := E0.tr (eX7_finds e1536) (fun o h => by first | omega | (simp only [zIsLand, zIsSheet] at *; omega))
    obtain ⟨rfl, rfl⟩ := zpi2 h
    exact E1537
  · replace h := zite_f c1535 h
    obtain ⟨v4, e1538, h⟩ := zbind h
    obtain ⟨x5, e1539, h⟩ := zbind h
    obtain ⟨w8, e1540, h⟩ := zbind h
    have E1541 : zE (fun o => o = 61 ∨ o = 62) w w8 := E0.zwr e1540 (by first | omega | (simp only [zIsLand, zIsSheet] at *; omega))
    by_cases c1542 : v4 = p2
    · replace h := zite_t c1542 h
      obtain ⟨rfl, rfl⟩ := zpi2 h
      exact E1541
    · replace h := zite_f c1542 h
      obtain ⟨rfl, rfl⟩ := zpi2 h
      exact E1541
set_option maxRecDepth 100000 in
theorem eX7_image {w : zW}  {r : Int32} {w' : zW} (h : fX7_image w  = some (r, w')) : zE (fun o => o = 60 ∨ o = 61 ∨ o = 70) w w' := by
  unfold fX7_image at h
  have E0 : zE (fun o => o = 60 ∨ o = 61 ∨ o = 70) w w := zE.rfl
  obtain ⟨w2, e1543, h⟩ := zbind h
  have E1544 : zE (fun o => o = 60 ∨ o = 61 ∨ o = 70) w w2 := E0.tr (eX7_moveAll e1543) (fun o h => by first | omega | (simp only [zIsLand, zIsSheet] at *; omega))
  obtain ⟨w3, e1545, h⟩ := zbind h
  have E1546 : zE (fun o => o = 60 ∨ o = 61 ∨ o = 70) w w3 := E1544.zsf e1545 (by first | omega | (simp only [zIsLand, zIsSheet] at *; omega))
  obtain ⟨rfl, rfl⟩ := zpi2 h
  exact E1546
set_option maxRecDepth 100000 in
theorem elX7_kind_32 {p1 : Int32} {p2 : Int32}  : ∀ (n : Nat) (w11 : zW) (x8 : Int32) (x9 : Int32) (x10 : Int32) (s : (Int32 × zW)), lpX7_kind_32 p1 p2 n w11 x8 x9 x10 = some s → zE (fun o => o = 62 ∨ o = 63) w11 s.2 := by
  intro n
  induction n with
  | zero => intro w11 x8 x9 x10 s h; simp [lpX7_kind_32] at h
  | succ n ih =>
    intro w11 x8 x9 x10 s h
    rw [lpX7_kind_32] at h
    have E0 : zE (fun o => o = 62 ∨ o = 63) w11 w11 := zE.rfl
    by_cases c1547 : (5 : Int32) < x10
    · replace h := zite_t c1547 h
      obtain rfl := Option.some.inj h
      exact E0
    · replace h := zite_f c1547 h
      obtain ⟨v14, e1548, h⟩ := zbind h
      obtain ⟨v17, w18, e1549, h⟩ := zb2_inv h
      have E1550 : zE (fun o => o = 62 ∨ o = 63) w11 w18 := E0.tr (eX7_earliest e1549) (fun o h => by first | omega | (simp only [zIsLand, zIsSheet] at *; omega))
      obtain ⟨x19, e1551, h⟩ := zbind h
      obtain ⟨x22, e1552, h⟩ := zbind h
      exact E1550.trs (ih _ _ _ _ _ h)
set_option maxRecDepth 100000 in
theorem eX7_kind {w : zW} {p1 : Int32} {p2 : Int32} {r : Int32} {w' : zW} (h : fX7_kind w p1 p2 = some (r, w')) : zE (fun o => o = 62 ∨ o = 63) w w' := by
  unfold fX7_kind at h
  have E0 : zE (fun o => o = 62 ∨ o = 63) w w := zE.rfl
  obtain ⟨v2, e1553, h⟩ := zbind h
  by_cases c1554 : v2 = 0
  · replace h := zite_t c1554 h
    obtain ⟨v4, w5, e1555, h⟩ := zb2_inv h
    have E1556 : zE (fun o => o = 62 ∨ o = 63) w w5 := E0.tr (eX7_finds e1555) (fun o h => by first | omega | (simp only [zIsLand, zIsSheet] at *; omega))
    obtain ⟨rfl, rfl⟩ := zpi2 h
    exact E1556
  · replace h := zite_f c1554 h
    obtain ⟨v7, e1557, h⟩ := zbind h
    by_cases c1558 : v7 = 0
    · replace h := zite_t c1558 h
      obtain ⟨v37, w38, e1559, h⟩ := zb2_inv h
      have E1560 : zE (fun o => o = 62 ∨ o = 63) w w38 := E0.tr (eX7_finds e1559) (fun o h => by first | omega | (simp only [zIsLand, zIsSheet] at *; omega))
      obtain ⟨rfl, rfl⟩ := zpi2 h
      exact E1560
    · replace h := zite_f c1558 h
      obtain ⟨y30, w31, e1561, h⟩ := zb2_inv h
      have E1562 : zE (fun o => o = 62 ∨ o = 63) w w31 := E0.tr (elX7_kind_32 _ _ _ _ _ _ e1561) (fun o h => by first | omega | (simp only [zIsLand, zIsSheet] at *; omega))
      by_cases c1563 : 0 ≤ y30
      · replace h := zite_t c1563 h
        obtain ⟨rfl, rfl⟩ := zpi2 h
        exact E1562
      · replace h := zite_f c1563 h
        obtain ⟨v33, w34, e1564, h⟩ := zb2_inv h
        have E1565 : zE (fun o => o = 62 ∨ o = 63) w w34 := E1562.tr (eX7_finds e1564) (fun o h => by first | omega | (simp only [zIsLand, zIsSheet] at *; omega))
        obtain ⟨rfl, rfl⟩ := zpi2 h
        exact E1565
set_option maxRecDepth 100000 in
theorem elX7_lays_35 {p1 : Int32}  : ∀ (n : Nat) (w7 : zW) (x5 : Int32) (x6 : Int32) (s : (Int32 × zW)), lpX7_lays_35 p1 n w7 x5 x6 = some s → zE (fun o => o = 61 ∨ o = 62) w7 s.2 := by
  intro n
  induction n with
  | zero => intro w7 x5 x6 s h; simp [lpX7_lays_35] at h
  | succ n ih =>
    intro w7 x5 x6 s h
    rw [lpX7_lays_35] at h
    have E0 : zE (fun o => o = 61 ∨ o = 62) w7 w7 := zE.rfl
    obtain ⟨v10, e1566, h⟩ := zbind h
    by_cases c1567 : v10 ≤ x6
    · replace h := zite_t c1567 h
      obtain rfl := Option.some.inj h
      exact E0
    · replace h := zite_f c1567 h
      obtain ⟨v12, e1568, h⟩ := zbind h
      by_cases c1569 : v12 ≤ x6
      · replace h := zite_t c1569 h
        obtain rfl := Option.some.inj h
        exact E0
      · replace h := zite_f c1569 h
        obtain ⟨v14, e1570, h⟩ := zbind h
        obtain ⟨x19, w20, e1571, h⟩ := zb2_inv h
        have E1572 : zE (fun o => o = 61 ∨ o = 62) w7 w20 := by
          by_cases c1573 : (lg_cmp v14 (0 : Int64)) < 0
          · replace e1571 := zite_t c1573 e1571
            obtain ⟨rfl, rfl⟩ := zpi2 e1571
            exact E0
          · replace e1571 := zite_f c1573 e1571
            by_cases c1574 : 0 < (lg_cmp v14 (9999 : Int64))
            · replace e1571 := zite_t c1574 e1571
              obtain ⟨rfl, rfl⟩ := zpi2 e1571
              exact E0
            · replace e1571 := zite_f c1574 e1571
              obtain ⟨w23, e1575, e1571⟩ := zbind e1571
              have E1576 : zE (fun o => o = 61 ∨ o = 62) w7 w23 := E0.zwr e1575 (by first | omega | (simp only [zIsLand, zIsSheet] at *; omega))
              obtain ⟨rfl, rfl⟩ := zpi2 e1571
              exact E1576
        exact E1572.trs (ih _ _ _ _ h)
set_option maxRecDepth 100000 in
theorem eX7_lays {w : zW} {p1 : Int32} {r : Int32} {w' : zW} (h : fX7_lays w p1 = some (r, w')) : zE (fun o => o = 61 ∨ o = 62) w w' := by
  unfold fX7_lays at h
  have E0 : zE (fun o => o = 61 ∨ o = 62) w w := zE.rfl
  obtain ⟨v2, e1577, h⟩ := zbind h
  by_cases c1578 : v2 = 0
  · replace h := zite_t c1578 h
    obtain ⟨v38, w39, e1579, h⟩ := zb2_inv h
    have E1580 : zE (fun o => o = 61 ∨ o = 62) w w39 := E0.tr (eX7_finds e1579) (fun o h => by first | omega | (simp only [zIsLand, zIsSheet] at *; omega))
    obtain ⟨rfl, rfl⟩ := zpi2 h
    exact E1580
  · replace h := zite_f c1578 h
    obtain ⟨v3, e1581, h⟩ := zbind h
    by_cases c1582 : v3 = 0
    · replace h := zite_t c1582 h
      obtain ⟨v34, w35, e1583, h⟩ := zb2_inv h
      have E1584 : zE (fun o => o = 61 ∨ o = 62) w w35 := E0.tr (eX7_finds e1583) (fun o h => by first | omega | (simp only [zIsLand, zIsSheet] at *; omega))
      obtain ⟨rfl, rfl⟩ := zpi2 h
      exact E1584
    · replace h := zite_f c1582 h
      obtain ⟨y31, w32, e1585, h⟩ := zb2_inv h
      have E1586 : zE (fun o => o = 61 ∨ o = 62) w w32 := E0.tr (elX7_lays_35 _ _ _ _ _ e1585) (fun o h => by first | omega | (simp only [zIsLand, zIsSheet] at *; omega))
      obtain ⟨rfl, rfl⟩ := zpi2 h
      exact E1586
set_option maxRecDepth 100000 in
theorem eX7_least {w : zW} {p1 : Int32} {p2 : Int32} {p3 : Int32} {r : Int32} {w' : zW} (h : fX7_least w p1 p2 p3 = some (r, w')) : zE (fun o => o = 62 ∨ o = 63) w w' := by
  unfold fX7_least at h
  have E0 : zE (fun o => o = 62 ∨ o = 63) w w := zE.rfl
  obtain ⟨v2, e1587, h⟩ := zbind h
  by_cases c1588 : v2 = 0
  · replace h := zite_t c1588 h
    obtain ⟨v15, w16, e1589, h⟩ := zb2_inv h
    have E1590 : zE (fun o => o = 62 ∨ o = 63) w w16 := E0.tr (eX7_finds e1589) (fun o h => by first | omega | (simp only [zIsLand, zIsSheet] at *; omega))
    obtain ⟨rfl, rfl⟩ := zpi2 h
    exact E1590
  · replace h := zite_f c1588 h
    obtain ⟨v3, e1591, h⟩ := zbind h
    obtain ⟨v6, w7, e1592, h⟩ := zb2_inv h
    have E1593 : zE (fun o => o = 62 ∨ o = 63) w w7 := E0.tr (eX7_earliest e1592) (fun o h => by first | omega | (simp only [zIsLand, zIsSheet] at *; omega))
    by_cases c1594 : v6 = (1000000000 : Int32)
    · replace h := zite_t c1594 h
      obtain ⟨v11, w12, e1595, h⟩ := zb2_inv h
      have E1596 : zE (fun o => o = 62 ∨ o = 63) w w12 := E1593.tr (eX7_finds e1595) (fun o h => by first | omega | (simp only [zIsLand, zIsSheet] at *; omega))
      obtain ⟨rfl, rfl⟩ := zpi2 h
      exact E1596
    · replace h := zite_f c1594 h
      obtain ⟨v8, e1597, h⟩ := zbind h
      obtain ⟨rfl, rfl⟩ := zpi2 h
      exact E1593
set_option maxRecDepth 100000 in
theorem elX7_live_58 {p1 : Int32} {p2 : Int32} {x10 : Int32} {x11 : Int32} {x12 : Int32}  : ∀ (n : Nat) (w20 : zW) (x18 : Int32) (x19 : Int32) (s : (Int32 × zW)), lpX7_live_58 p1 p2 x10 x11 x12 n w20 x18 x19 = some s → zE (fun o => o = 62 ∨ o = 63) w20 s.2 := by
  intro n
  induction n with
  | zero => intro w20 x18 x19 s h; simp [lpX7_live_58] at h
  | succ n ih =>
    intro w20 x18 x19 s h
    rw [lpX7_live_58] at h
    have E0 : zE (fun o => o = 62 ∨ o = 63) w20 w20 := zE.rfl
    obtain ⟨v23, e1598, h⟩ := zbind h
    by_cases c1599 : v23 ≤ x19
    · replace h := zite_t c1599 h
      obtain rfl := Option.some.inj h
      exact E0
    · replace h := zite_f c1599 h
      obtain ⟨v26, e1600, h⟩ := zbind h
      obtain ⟨x31, w32, e1601, h⟩ := zb2_inv h
      have E1602 : zE (fun o => o = 62 ∨ o = 63) w20 w32 := by
        by_cases c1603 : v26 = 0
        · replace e1601 := zite_t c1603 e1601
          obtain ⟨rfl, rfl⟩ := zpi2 e1601
          exact E0
        · replace e1601 := zite_f c1603 e1601
          by_cases c1604 : (1000000000 : Int32) ≤ x18
          · replace e1601 := zite_t c1604 e1601
            obtain ⟨rfl, rfl⟩ := zpi2 e1601
            exact E0
          · replace e1601 := zite_f c1604 e1601
            obtain ⟨v36, w37, e1605, e1601⟩ := zb2_inv e1601
            have E1606 : zE (fun o => o = 62 ∨ o = 63) w20 w37 := E0.tr (eX7_back e1605) (fun o h => by first | omega | (simp only [zIsLand, zIsSheet] at *; omega))
            obtain ⟨rfl, rfl⟩ := zpi2 e1601
            exact E1606
      obtain ⟨x39, e1607, h⟩ := zbind h
      exact E1602.trs (ih _ _ _ _ h)
set_option maxRecDepth 100000 in
theorem elX7_live_41 {p1 : Int32} {p2 : Int32}  : ∀ (n : Nat) (w13 : zW) (x10 : Int32) (x11 : Int32) (x12 : Int32) (s : (Int32 × zW)), lpX7_live_41 p1 p2 n w13 x10 x11 x12 = some s → zE (fun o => o = 62 ∨ o = 63) w13 s.2 := by
  intro n
  induction n with
  | zero => intro w13 x10 x11 x12 s h; simp [lpX7_live_41] at h
  | succ n ih =>
    intro w13 x10 x11 x12 s h
    rw [lpX7_live_41] at h
    have E0 : zE (fun o => o = 62 ∨ o = 63) w13 w13 := zE.rfl
    obtain ⟨v16, e1608, h⟩ := zbind h
    by_cases c1609 : v16 ≤ x12
    · replace h := zite_t c1609 h
      obtain rfl := Option.some.inj h
      exact E0
    · replace h := zite_f c1609 h
      obtain ⟨y47, w48, e1610, h⟩ := zb2_inv h
      have E1611 : zE (fun o => o = 62 ∨ o = 63) w13 w48 := E0.tr (elX7_live_58 _ _ _ _ _ e1610) (fun o h => by first | omega | (simp only [zIsLand, zIsSheet] at *; omega))
      obtain ⟨x49, e1612, h⟩ := zbind h
      obtain ⟨x52, e1613, h⟩ := zbind h
      exact E1611.trs (ih _ _ _ _ _ h)
set_option maxRecDepth 100000 in
theorem eX7_live {w : zW} {p1 : Int32} {p2 : Int32} {r : Int32} {w' : zW} (h : fX7_live w p1 p2 = some (r, w')) : zE (fun o => o = 62 ∨ o = 63) w w' := by
  unfold fX7_live at h
  have E0 : zE (fun o => o = 62 ∨ o = 63) w w := zE.rfl
  obtain ⟨v2, e1614, h⟩ := zbind h
  by_cases c1615 : v2 = 0
  · replace h := zite_t c1615 h
    obtain ⟨v4, w5, e1616, h⟩ := zb2_inv h
    have E1617 : zE (fun o => o = 62 ∨ o = 63) w w5 := E0.tr (eX7_finds e1616) (fun o h => by first | omega | (simp only [zIsLand, zIsSheet] at *; omega))
    obtain ⟨rfl, rfl⟩ := zpi2 h
    exact E1617
  · replace h := zite_f c1615 h
    obtain ⟨v6, e1618, h⟩ := zbind h
    obtain ⟨v9, e1619, h⟩ := zbind h
    by_cases c1620 : v9 = 0
    · replace h := zite_t c1620 h
      obtain ⟨v67, w68, e1621, h⟩ := zb2_inv h
      have E1622 : zE (fun o => o = 62 ∨ o = 63) w w68 := E0.tr (eX7_finds e1621) (fun o h => by first | omega | (simp only [zIsLand, zIsSheet] at *; omega))
      obtain ⟨rfl, rfl⟩ := zpi2 h
      exact E1622
    · replace h := zite_f c1620 h
      obtain ⟨y60, w61, e1623, h⟩ := zb2_inv h
      have E1624 : zE (fun o => o = 62 ∨ o = 63) w w61 := E0.tr (elX7_live_41 _ _ _ _ _ _ e1623) (fun o h => by first | omega | (simp only [zIsLand, zIsSheet] at *; omega))
      by_cases c1625 : 0 ≤ y60
      · replace h := zite_t c1625 h
        obtain ⟨rfl, rfl⟩ := zpi2 h
        exact E1624
      · replace h := zite_f c1625 h
        obtain ⟨v63, w64, e1626, h⟩ := zb2_inv h
        have E1627 : zE (fun o => o = 62 ∨ o = 63) w w64 := E1624.tr (eX7_finds e1626) (fun o h => by first | omega | (simp only [zIsLand, zIsSheet] at *; omega))
        obtain ⟨rfl, rfl⟩ := zpi2 h
        exact E1627
set_option maxRecDepth 100000 in
theorem eX7_wantNumber {w : zW} {p1 : Int32} {p2 : Int32} {r : Int32} {w' : zW} (h : fX7_wantNumber w p1 p2 = some (r, w')) : zE (fun o => o = 60) w w' := by
  unfold fX7_wantNumber at h
  have E0 : zE (fun o => o = 60) w w := zE.rfl
  obtain ⟨x1, e1628, h⟩ := zbind h
  obtain ⟨x7, e1629, h⟩ := zbind h
  obtain ⟨b14, e1630, h⟩ := zbind h
  obtain ⟨w16, e1631, h⟩ := zbind h
  have E1632 : zE (fun o => o = 60) w w16 := E0.zsf e1631 (by first | omega | (simp only [zIsLand, zIsSheet] at *; omega))
  obtain ⟨w20, e1633, h⟩ := zbind h
  have E1634 : zE (fun o => o = 60) w w20 := by
    by_cases c1635 : (w16.1 60 13) = 0
    · replace e1633 := zite_t c1635 e1633
      obtain rfl := Option.some.inj e1633
      exact E1632
    · replace e1633 := zite_f c1635 e1633
      obtain ⟨w24, e1636, e1633⟩ := zbind e1633
      have E1637 : zE (fun o => o = 60) w w24 := E1632.tr (eX7_advance e1636) (fun o h => by first | omega | (simp only [zIsLand, zIsSheet] at *; omega))
      obtain rfl := Option.some.inj e1633
      exact E1637
  obtain ⟨rfl, rfl⟩ := zpi2 h
  exact E1634
set_option maxRecDepth 100000 in
theorem eX7_mayWant {w : zW} {p1 : Int64} {p3 : Int32} {p4 : Int32} {p5 : Int32} {r : Int32} {w' : zW} (h : fX7_mayWant w p1 p3 p4 p5 = some (r, w')) : zE (fun o => o = 60) w w' := by
  unfold fX7_mayWant at h
  have E0 : zE (fun o => o = 60) w w := zE.rfl
  by_cases c1638 : (w.1 60 13) = 0
  · replace h := zite_t c1638 h
    obtain ⟨rfl, rfl⟩ := zpi2 h
    exact E0
  · replace h := zite_f c1638 h
    obtain ⟨v2, e1639, h⟩ := zbind h
    by_cases c1640 : v2 = 0
    · replace h := zite_t c1640 h
      obtain ⟨rfl, rfl⟩ := zpi2 h
      exact E0
    · replace h := zite_f c1640 h
      obtain ⟨w4, e1641, h⟩ := zbind h
      have E1642 : zE (fun o => o = 60) w w4 := E0.tr (eX7_advance e1641) (fun o h => by first | omega | (simp only [zIsLand, zIsSheet] at *; omega))
      obtain ⟨v6, w7, e1643, h⟩ := zb2_inv h
      have E1644 : zE (fun o => o = 60) w w7 := E1642.tr (eX7_wantNumber e1643) (fun o h => by first | omega | (simp only [zIsLand, zIsSheet] at *; omega))
      obtain ⟨rfl, rfl⟩ := zpi2 h
      exact E1644
set_option maxRecDepth 100000 in
theorem eX7_needs {w : zW} {p1 : Int32} {p2 : Int32} {r : Int32} {w' : zW} (h : fX7_needs w p1 p2 = some (r, w')) : zE (fun o => o = 62) w w' := by
  unfold fX7_needs at h
  have E0 : zE (fun o => o = 62) w w := zE.rfl
  obtain ⟨v2, e1645, h⟩ := zbind h
  by_cases c1646 : v2 = 0
  · replace h := zite_t c1646 h
    obtain ⟨v4, w5, e1647, h⟩ := zb2_inv h
    have E1648 : zE (fun o => o = 62) w w5 := E0.tr (eX7_finds e1647) (fun o h => by first | omega | (simp only [zIsLand, zIsSheet] at *; omega))
    obtain ⟨rfl, rfl⟩ := zpi2 h
    exact E1648
  · replace h := zite_f c1646 h
    obtain ⟨v7, e1649, h⟩ := zbind h
    by_cases c1650 : v7 = 0
    · replace h := zite_t c1650 h
      obtain ⟨v9, w10, e1651, h⟩ := zb2_inv h
      have E1652 : zE (fun o => o = 62) w w10 := E0.tr (eX7_finds e1651) (fun o h => by first | omega | (simp only [zIsLand, zIsSheet] at *; omega))
      obtain ⟨rfl, rfl⟩ := zpi2 h
      exact E1652
    · replace h := zite_f c1650 h
      obtain ⟨v12, e1653, h⟩ := zbind h
      obtain ⟨v14, e1654, h⟩ := zbind h
      obtain ⟨rfl, rfl⟩ := zpi2 h
      exact E0
set_option maxRecDepth 100000 in
theorem eX7_next {w : zW} {p1 : Int32} {r : Int32} {w' : zW} (h : fX7_next w p1 = some (r, w')) : zE (fun o => o = 60 ∨ o = 62 ∨ o = 63) w w' := by
  unfold fX7_next at h
  have E0 : zE (fun o => o = 60 ∨ o = 62 ∨ o = 63) w w := zE.rfl
  obtain ⟨v2, e1655, h⟩ := zbind h
  by_cases c1656 : v2 = 0
  · replace h := zite_t c1656 h
    obtain ⟨v12, w13, e1657, h⟩ := zb2_inv h
    have E1658 : zE (fun o => o = 60 ∨ o = 62 ∨ o = 63) w w13 := E0.tr (eX7_finds e1657) (fun o h => by first | omega | (simp only [zIsLand, zIsSheet] at *; omega))
    obtain ⟨rfl, rfl⟩ := zpi2 h
    exact E1658
  · replace h := zite_f c1656 h
    obtain ⟨v4, e1659, h⟩ := zbind h
    by_cases c1660 : v4 ≤ 0
    · replace h := zite_t c1660 h
      obtain ⟨w6, e1661, h⟩ := zbind h
      have E1662 : zE (fun o => o = 60 ∨ o = 62 ∨ o = 63) w w6 := E0.tr (eX7_findWay e1661) (fun o h => by first | omega | (simp only [zIsLand, zIsSheet] at *; omega))
      obtain ⟨rfl, rfl⟩ := zpi2 h
      exact E1662
    · replace h := zite_f c1660 h
      obtain ⟨v8, w9, e1663, h⟩ := zb2_inv h
      have E1664 : zE (fun o => o = 60 ∨ o = 62 ∨ o = 63) w w9 := E0.tr (eX7_finds e1663) (fun o h => by first | omega | (simp only [zIsLand, zIsSheet] at *; omega))
      obtain ⟨rfl, rfl⟩ := zpi2 h
      exact E1664
set_option maxRecDepth 100000 in
theorem eX7_now {w : zW} {p1 : Int32} {r : Int32} {w' : zW} (h : fX7_now w p1 = some (r, w')) : zE (fun o => o = 62) w w' := by
  unfold fX7_now at h
  have E0 : zE (fun o => o = 62) w w := zE.rfl
  by_cases c1665 : p1 = 0
  · replace h := zite_t c1665 h
    obtain ⟨v6, e1666, h⟩ := zbind h
    obtain ⟨rfl, rfl⟩ := zpi2 h
    exact E0
  · replace h := zite_f c1665 h
    by_cases c1667 : p1 = 1
    · replace h := zite_t c1667 h
      obtain ⟨v8, e1668, h⟩ := zbind h
      obtain ⟨rfl, rfl⟩ := zpi2 h
      exact E0
    · replace h := zite_f c1667 h
      by_cases c1669 : p1 = 2
      · replace h := zite_t c1669 h
        obtain ⟨v11, e1670, h⟩ := zbind h
        obtain ⟨v13, e1671, h⟩ := zbind h
        obtain ⟨rfl, rfl⟩ := zpi2 h
        exact E0
      · replace h := zite_f c1669 h
        by_cases c1672 : p1 = 3
        · replace h := zite_t c1672 h
          obtain ⟨v15, e1673, h⟩ := zbind h
          obtain ⟨rfl, rfl⟩ := zpi2 h
          exact E0
        · replace h := zite_f c1672 h
          by_cases c1674 : p1 = 4
          · replace h := zite_t c1674 h
            obtain ⟨v16, e1675, h⟩ := zbind h
            obtain ⟨v19, e1676, h⟩ := zbind h
            obtain ⟨v21, e1677, h⟩ := zbind h
            obtain ⟨v23, e1678, h⟩ := zbind h
            obtain ⟨rfl, rfl⟩ := zpi2 h
            exact E0
          · replace h := zite_f c1674 h
            obtain ⟨v25, w26, e1679, h⟩ := zb2_inv h
            have E1680 : zE (fun o => o = 62) w w26 := E0.tr (eX7_finds e1679) (fun o h => by first | omega | (simp only [zIsLand, zIsSheet] at *; omega))
            obtain ⟨rfl, rfl⟩ := zpi2 h
            exact E1680
set_option maxRecDepth 100000 in
theorem eX7_of {w : zW} {p1 : Int32} {p2 : Int32} {r : Int32} {w' : zW} (h : fX7_of w p1 p2 = some (r, w')) : zE (fun o => o = 62) w w' := by
  unfold fX7_of at h
  have E0 : zE (fun o => o = 62) w w := zE.rfl
  obtain ⟨v2, e1681, h⟩ := zbind h
  by_cases c1682 : v2 = 0
  · replace h := zite_t c1682 h
    obtain ⟨v4, w5, e1683, h⟩ := zb2_inv h
    have E1684 : zE (fun o => o = 62) w w5 := E0.tr (eX7_finds e1683) (fun o h => by first | omega | (simp only [zIsLand, zIsSheet] at *; omega))
    obtain ⟨rfl, rfl⟩ := zpi2 h
    exact E1684
  · replace h := zite_f c1682 h
    obtain ⟨v7, e1685, h⟩ := zbind h
    by_cases c1686 : v7 = 0
    · replace h := zite_t c1686 h
      obtain ⟨v15, w16, e1687, h⟩ := zb2_inv h
      have E1688 : zE (fun o => o = 62) w w16 := E0.tr (eX7_finds e1687) (fun o h => by first | omega | (simp only [zIsLand, zIsSheet] at *; omega))
      obtain ⟨rfl, rfl⟩ := zpi2 h
      exact E1688
    · replace h := zite_f c1686 h
      by_cases c1689 : (5 : Int32) ≤ p2
      · replace h := zite_t c1689 h
        obtain ⟨v9, e1690, h⟩ := zbind h
        by_cases c1691 : v9 = 0
        · replace h := zite_t c1691 h
          obtain ⟨rfl, rfl⟩ := zpi2 h
          exact E0
        · replace h := zite_f c1691 h
          obtain ⟨rfl, rfl⟩ := zpi2 h
          exact E0
      · replace h := zite_f c1689 h
        obtain ⟨v12, e1692, h⟩ := zbind h
        obtain ⟨rfl, rfl⟩ := zpi2 h
        exact E0
set_option maxRecDepth 100000 in
theorem elX7_on_58 {p1 : Int32} {p2 : Int32}  : ∀ (n : Nat) (w13 : zW) (x12 : Int32) (s : zW), lpX7_on_58 p1 p2 n w13 x12 = some s → zE (fun o => o = 60 ∨ o = 61 ∨ o = 62 ∨ o = 63 ∨ o = 64) w13 s := by
  intro n
  induction n with
  | zero => intro w13 x12 s h; simp [lpX7_on_58] at h
  | succ n ih =>
    intro w13 x12 s h
    rw [lpX7_on_58] at h
    have E0 : zE (fun o => o = 60 ∨ o = 61 ∨ o = 62 ∨ o = 63 ∨ o = 64) w13 w13 := zE.rfl
    by_cases c1693 : p2 ≤ x12
    · replace h := zite_t c1693 h
      obtain rfl := Option.some.inj h
      exact E0
    · replace h := zite_f c1693 h
      obtain ⟨w16, e1694, h⟩ := zbind h
      have E1695 : zE (fun o => o = 60 ∨ o = 61 ∨ o = 62 ∨ o = 63 ∨ o = 64) w13 w16 := E0.tr (eX7_aDay e1694) (fun o h => by first | omega | (simp only [zIsLand, zIsSheet] at *; omega))
      exact E1695.trs (ih _ _ _ h)
set_option maxRecDepth 100000 in
theorem eX7_on {w : zW} {p1 : Int32} {p2 : Int32} {r : Int32} {w' : zW} (h : fX7_on w p1 p2 = some (r, w')) : zE (fun o => o = 60 ∨ o = 61 ∨ o = 62 ∨ o = 63 ∨ o = 64) w w' := by
  unfold fX7_on at h
  have E0 : zE (fun o => o = 60 ∨ o = 61 ∨ o = 62 ∨ o = 63 ∨ o = 64) w w := zE.rfl
  obtain ⟨v2, e1696, h⟩ := zbind h
  by_cases c1697 : v2 = 0
  · replace h := zite_t c1697 h
    obtain ⟨v4, w5, e1698, h⟩ := zb2_inv h
    have E1699 : zE (fun o => o = 60 ∨ o = 61 ∨ o = 62 ∨ o = 63 ∨ o = 64) w w5 := E0.tr (eX7_finds e1698) (fun o h => by first | omega | (simp only [zIsLand, zIsSheet] at *; omega))
    obtain ⟨rfl, rfl⟩ := zpi2 h
    exact E1699
  · replace h := zite_f c1697 h
    obtain ⟨v7, e1700, h⟩ := zbind h
    by_cases c1701 : v7 = 0
    · replace h := zite_t c1701 h
      obtain ⟨v30, w31, e1702, h⟩ := zb2_inv h
      have E1703 : zE (fun o => o = 60 ∨ o = 61 ∨ o = 62 ∨ o = 63 ∨ o = 64) w w31 := E0.tr (eX7_finds e1702) (fun o h => by first | omega | (simp only [zIsLand, zIsSheet] at *; omega))
      obtain ⟨rfl, rfl⟩ := zpi2 h
      exact E1703
    · replace h := zite_f c1701 h
      obtain ⟨v8, e1704, h⟩ := zbind h
      by_cases c1705 : (v8 + p2) ≤ (9999 : Int32)
      · replace h := zite_t c1705 h
        obtain ⟨w11, e1706, h⟩ := zbind h
        have E1707 : zE (fun o => o = 60 ∨ o = 61 ∨ o = 62 ∨ o = 63 ∨ o = 64) w w11 := E0.tr (eX7_moveAll e1706) (fun o h => by first | omega | (simp only [zIsLand, zIsSheet] at *; omega))
        obtain ⟨w20, e1708, h⟩ := zbind h
        have E1709 : zE (fun o => o = 60 ∨ o = 61 ∨ o = 62 ∨ o = 63 ∨ o = 64) w w20 := E1707.tr (elX7_on_58 _ _ _ _ e1708) (fun o h => by first | omega | (simp only [zIsLand, zIsSheet] at *; omega))
        obtain ⟨v22, e1710, h⟩ := zbind h
        obtain ⟨w24, e1711, h⟩ := zbind h
        have E1712 : zE (fun o => o = 60 ∨ o = 61 ∨ o = 62 ∨ o = 63 ∨ o = 64) w w24 := E1709.tr (eX7_moveAll e1711) (fun o h => by first | omega | (simp only [zIsLand, zIsSheet] at *; omega))
        obtain ⟨rfl, rfl⟩ := zpi2 h
        exact E1712
      · replace h := zite_f c1705 h
        obtain ⟨v26, w27, e1713, h⟩ := zb2_inv h
        have E1714 : zE (fun o => o = 60 ∨ o = 61 ∨ o = 62 ∨ o = 63 ∨ o = 64) w w27 := E0.tr (eX7_finds e1713) (fun o h => by first | omega | (simp only [zIsLand, zIsSheet] at *; omega))
        obtain ⟨rfl, rfl⟩ := zpi2 h
        exact E1714
set_option maxRecDepth 100000 in
theorem eX7_peak {w : zW}  {r : Int32} {w' : zW} (h : fX7_peak w  = some (r, w')) : zE (fun o => o = 62) w w' := by
  unfold fX7_peak at h
  have E0 : zE (fun o => o = 62) w w := zE.rfl
  obtain ⟨v1, e1715, h⟩ := zbind h
  by_cases c1716 : v1 = 0
  · replace h := zite_t c1716 h
    obtain ⟨v6, w7, e1717, h⟩ := zb2_inv h
    have E1718 : zE (fun o => o = 62) w w7 := E0.tr (eX7_finds e1717) (fun o h => by first | omega | (simp only [zIsLand, zIsSheet] at *; omega))
    obtain ⟨rfl, rfl⟩ := zpi2 h
    exact E1718
  · replace h := zite_f c1716 h
    obtain ⟨v4, e1719, h⟩ := zbind h
    obtain ⟨rfl, rfl⟩ := zpi2 h
    exact E0
set_option maxRecDepth 100000 in
theorem elX7_quiet_40 {p1 : Int32} {x4 : Int32} {v11 : Int32}  : ∀ (n : Nat) (w15 : zW) (x13 : Int32) (x14 : Int32) (s : (Int32 × zW)), lpX7_quiet_40 p1 x4 v11 n w15 x13 x14 = some s → zE (fun o => o = 62 ∨ o = 63) w15 s.2 := by
  intro n
  induction n with
  | zero => intro w15 x13 x14 s h; simp [lpX7_quiet_40] at h
  | succ n ih =>
    intro w15 x13 x14 s h
    rw [lpX7_quiet_40] at h
    have E0 : zE (fun o => o = 62 ∨ o = 63) w15 w15 := zE.rfl
    obtain ⟨v18, e1720, h⟩ := zbind h
    by_cases c1721 : v18 ≤ x14
    · replace h := zite_t c1721 h
      obtain rfl := Option.some.inj h
      exact E0
    · replace h := zite_f c1721 h
      obtain ⟨x30, w31, e1722, h⟩ := zb2_inv h
      have E1723 : zE (fun o => o = 62 ∨ o = 63) w15 w31 := by
        by_cases c1724 : x14 = x4
        · replace e1722 := zite_t c1724 e1722
          obtain ⟨rfl, rfl⟩ := zpi2 e1722
          exact E0
        · replace e1722 := zite_f c1724 e1722
          obtain ⟨v35, e1725, e1722⟩ := zbind e1722
          by_cases c1726 : v35 = 0
          · replace e1722 := zite_t c1726 e1722
            obtain ⟨rfl, rfl⟩ := zpi2 e1722
            exact E0
          · replace e1722 := zite_f c1726 e1722
            by_cases c1727 : x4 < x14
            · replace e1722 := zite_t c1727 e1722
              obtain ⟨rfl, rfl⟩ := zpi2 e1722
              exact E0
            · replace e1722 := zite_f c1727 e1722
              obtain ⟨v37, w38, e1728, e1722⟩ := zb2_inv e1722
              have E1729 : zE (fun o => o = 62 ∨ o = 63) w15 w38 := E0.tr (eX7_reachOf e1728) (fun o h => by first | omega | (simp only [zIsLand, zIsSheet] at *; omega))
              obtain ⟨v40, e1730, e1722⟩ := zbind e1722
              by_cases c1731 : v40 = 0
              · replace e1722 := zite_t c1731 e1722
                obtain ⟨rfl, rfl⟩ := zpi2 e1722
                exact E1729
              · replace e1722 := zite_f c1731 e1722
                obtain ⟨rfl, rfl⟩ := zpi2 e1722
                exact E1729
      obtain ⟨x44, e1732, h⟩ := zbind h
      obtain ⟨x47, e1733, h⟩ := zbind h
      exact E1723.trs (ih _ _ _ _ h)
set_option maxRecDepth 100000 in
theorem elX7_quiet_18 {p1 : Int32}  : ∀ (n : Nat) (w5 : zW) (x3 : Int32) (x4 : Int32) (s : (Int32 × zW)), lpX7_quiet_18 p1 n w5 x3 x4 = some s → zE (fun o => o = 62 ∨ o = 63) w5 s.2 := by
  intro n
  induction n with
  | zero => intro w5 x3 x4 s h; simp [lpX7_quiet_18] at h
  | succ n ih =>
    intro w5 x3 x4 s h
    rw [lpX7_quiet_18] at h
    have E0 : zE (fun o => o = 62 ∨ o = 63) w5 w5 := zE.rfl
    obtain ⟨v8, e1734, h⟩ := zbind h
    by_cases c1735 : v8 ≤ x4
    · replace h := zite_t c1735 h
      obtain rfl := Option.some.inj h
      exact E0
    · replace h := zite_f c1735 h
      obtain ⟨v11, w12, e1736, h⟩ := zb2_inv h
      have E1737 : zE (fun o => o = 62 ∨ o = 63) w5 w12 := E0.tr (eX7_reachOf e1736) (fun o h => by first | omega | (simp only [zIsLand, zIsSheet] at *; omega))
      obtain ⟨y54, w55, e1738, h⟩ := zb2_inv h
      have E1739 : zE (fun o => o = 62 ∨ o = 63) w5 w55 := E1737.tr (elX7_quiet_40 _ _ _ _ _ e1738) (fun o h => by first | omega | (simp only [zIsLand, zIsSheet] at *; omega))
      exact E1739.trs (ih _ _ _ _ h)
set_option maxRecDepth 100000 in
theorem eX7_quiet {w : zW} {p1 : Int32} {r : Int32} {w' : zW} (h : fX7_quiet w p1 = some (r, w')) : zE (fun o => o = 62 ∨ o = 63) w w' := by
  unfold fX7_quiet at h
  have E0 : zE (fun o => o = 62 ∨ o = 63) w w := zE.rfl
  obtain ⟨v2, e1740, h⟩ := zbind h
  by_cases c1741 : v2 = 0
  · replace h := zite_t c1741 h
    obtain ⟨v68, w69, e1742, h⟩ := zb2_inv h
    have E1743 : zE (fun o => o = 62 ∨ o = 63) w w69 := E0.tr (eX7_finds e1742) (fun o h => by first | omega | (simp only [zIsLand, zIsSheet] at *; omega))
    obtain ⟨rfl, rfl⟩ := zpi2 h
    exact E1743
  · replace h := zite_f c1741 h
    obtain ⟨y59, w60, e1744, h⟩ := zb2_inv h
    have E1745 : zE (fun o => o = 62 ∨ o = 63) w w60 := E0.tr (elX7_quiet_18 _ _ _ _ _ e1744) (fun o h => by first | omega | (simp only [zIsLand, zIsSheet] at *; omega))
    obtain ⟨v61, e1746, h⟩ := zbind h
    obtain ⟨v63, e1747, h⟩ := zbind h
    obtain ⟨v65, e1748, h⟩ := zbind h
    obtain ⟨rfl, rfl⟩ := zpi2 h
    exact E1745
set_option maxRecDepth 100000 in
theorem eX7_reach {w : zW} {p1 : Int32} {p2 : Int32} {r : Int32} {w' : zW} (h : fX7_reach w p1 p2 = some (r, w')) : zE (fun o => o = 62 ∨ o = 63) w w' := by
  unfold fX7_reach at h
  have E0 : zE (fun o => o = 62 ∨ o = 63) w w := zE.rfl
  obtain ⟨v2, e1749, h⟩ := zbind h
  by_cases c1750 : v2 = 0
  · replace h := zite_t c1750 h
    obtain ⟨v4, w5, e1751, h⟩ := zb2_inv h
    have E1752 : zE (fun o => o = 62 ∨ o = 63) w w5 := E0.tr (eX7_finds e1751) (fun o h => by first | omega | (simp only [zIsLand, zIsSheet] at *; omega))
    obtain ⟨rfl, rfl⟩ := zpi2 h
    exact E1752
  · replace h := zite_f c1750 h
    obtain ⟨v7, e1753, h⟩ := zbind h
    by_cases c1754 : v7 = 0
    · replace h := zite_t c1754 h
      obtain ⟨v9, w10, e1755, h⟩ := zb2_inv h
      have E1756 : zE (fun o => o = 62 ∨ o = 63) w w10 := E0.tr (eX7_finds e1755) (fun o h => by first | omega | (simp only [zIsLand, zIsSheet] at *; omega))
      obtain ⟨rfl, rfl⟩ := zpi2 h
      exact E1756
    · replace h := zite_f c1754 h
      obtain ⟨v12, w13, e1757, h⟩ := zb2_inv h
      have E1758 : zE (fun o => o = 62 ∨ o = 63) w w13 := E0.tr (eX7_reachOf e1757) (fun o h => by first | omega | (simp only [zIsLand, zIsSheet] at *; omega))
      obtain ⟨rfl, rfl⟩ := zpi2 h
      exact E1758
set_option maxRecDepth 100000 in
theorem eX7_read {w : zW} {p1 : Int32} {p2 : Int32} {r : Int32} {w' : zW} (h : fX7_read w p1 p2 = some (r, w')) : zE (fun o => o = 62) w w' := by
  unfold fX7_read at h
  have E0 : zE (fun o => o = 62) w w := zE.rfl
  obtain ⟨v2, e1759, h⟩ := zbind h
  obtain ⟨x9, e1760, h⟩ := zbind h
  by_cases c1761 : x9 = 0
  · replace h := zite_t c1761 h
    obtain ⟨y66, e1762, h⟩ := zbind h
    obtain ⟨rfl, rfl⟩ := zpi2 h
    exact E0
  · replace h := zite_f c1761 h
    obtain ⟨v68, w69, e1763, h⟩ := zb2_inv h
    have E1764 : zE (fun o => o = 62) w w69 := E0.tr (eX7_finds e1763) (fun o h => by first | omega | (simp only [zIsLand, zIsSheet] at *; omega))
    obtain ⟨rfl, rfl⟩ := zpi2 h
    exact E1764
set_option maxRecDepth 100000 in
theorem elX7_rise_37 {p1 : Int32} {p2 : Int32} {p3 : Int32} {v7 : Int32}  : ∀ (n : Nat) (w10 : zW) (x8 : Int32) (x9 : Int32) (s : (Int32 × zW)), lpX7_rise_37 p1 p2 p3 v7 n w10 x8 x9 = some s → zE (fun o => o = 61 ∨ o = 62 ∨ o = 63) w10 s.2 := by
  intro n
  induction n with
  | zero => intro w10 x8 x9 s h; simp [lpX7_rise_37] at h
  | succ n ih =>
    intro w10 x8 x9 s h
    rw [lpX7_rise_37] at h
    have E0 : zE (fun o => o = 61 ∨ o = 62 ∨ o = 63) w10 w10 := zE.rfl
    obtain ⟨v13, e1765, h⟩ := zbind h
    by_cases c1766 : (((2 : Int32) * v13) + (1 : Int32)) ≤ x9
    · replace h := zite_t c1766 h
      obtain rfl := Option.some.inj h
      exact E0
    · replace h := zite_f c1766 h
      obtain ⟨x26, e1767, h⟩ := zbind h
      obtain ⟨x63, e1768, h⟩ := zbind h
      obtain ⟨x104, w105, e1769, h⟩ := zb2_inv h
      have E1770 : zE (fun o => o = 61 ∨ o = 62 ∨ o = 63) w10 w105 := by
        by_cases c1771 : x63 < v7
        · replace e1769 := zite_t c1771 e1769
          obtain ⟨rfl, rfl⟩ := zpi2 e1769
          exact E0
        · replace e1769 := zite_f c1771 e1769
          by_cases c1772 : x8 ≤ x63
          · replace e1769 := zite_t c1772 e1769
            obtain ⟨rfl, rfl⟩ := zpi2 e1769
            exact E0
          · replace e1769 := zite_f c1772 e1769
            by_cases c1773 : (9999 : Int32) < x63
            · replace e1769 := zite_t c1773 e1769
              obtain ⟨rfl, rfl⟩ := zpi2 e1769
              exact E0
            · replace e1769 := zite_f c1773 e1769
              obtain ⟨w108, e1774, e1769⟩ := zbind e1769
              have E1775 : zE (fun o => o = 61 ∨ o = 62 ∨ o = 63) w10 w108 := E0.zwr e1774 (by first | omega | (simp only [zIsLand, zIsSheet] at *; omega))
              obtain ⟨v111, w112, e1776, e1769⟩ := zb2_inv e1769
              have E1777 : zE (fun o => o = 61 ∨ o = 62 ∨ o = 63) w10 w112 := E1775.tr (eX7_reachOf e1776) (fun o h => by first | omega | (simp only [zIsLand, zIsSheet] at *; omega))
              obtain ⟨v114, e1778, e1769⟩ := zbind e1769
              obtain ⟨x115, e1779, e1769⟩ := zbind e1769
              obtain ⟨w118, e1780, e1769⟩ := zbind e1769
              have E1781 : zE (fun o => o = 61 ∨ o = 62 ∨ o = 63) w10 w118 := E1777.zwr e1780 (by first | omega | (simp only [zIsLand, zIsSheet] at *; omega))
              obtain ⟨rfl, rfl⟩ := zpi2 e1769
              exact E1781
      exact E1770.trs (ih _ _ _ _ h)
set_option maxRecDepth 100000 in
theorem eX7_rise {w : zW} {p1 : Int32} {p2 : Int32} {p3 : Int32} {r : Int32} {w' : zW} (h : fX7_rise w p1 p2 p3 = some (r, w')) : zE (fun o => o = 61 ∨ o = 62 ∨ o = 63) w w' := by
  unfold fX7_rise at h
  have E0 : zE (fun o => o = 61 ∨ o = 62 ∨ o = 63) w w := zE.rfl
  obtain ⟨v2, e1782, h⟩ := zbind h
  by_cases c1783 : v2 = 0
  · replace h := zite_t c1783 h
    obtain ⟨v4, w5, e1784, h⟩ := zb2_inv h
    have E1785 : zE (fun o => o = 61 ∨ o = 62 ∨ o = 63) w w5 := E0.tr (eX7_finds e1784) (fun o h => by first | omega | (simp only [zIsLand, zIsSheet] at *; omega))
    obtain ⟨rfl, rfl⟩ := zpi2 h
    exact E1785
  · replace h := zite_f c1783 h
    by_cases c1786 : p2 = p3
    · replace h := zite_t c1786 h
      obtain ⟨v136, w137, e1787, h⟩ := zb2_inv h
      have E1788 : zE (fun o => o = 61 ∨ o = 62 ∨ o = 63) w w137 := E0.tr (eX7_finds e1787) (fun o h => by first | omega | (simp only [zIsLand, zIsSheet] at *; omega))
      obtain ⟨rfl, rfl⟩ := zpi2 h
      exact E1788
    · replace h := zite_f c1786 h
      obtain ⟨v7, e1789, h⟩ := zbind h
      obtain ⟨y129, w130, e1790, h⟩ := zb2_inv h
      have E1791 : zE (fun o => o = 61 ∨ o = 62 ∨ o = 63) w w130 := E0.tr (elX7_rise_37 _ _ _ _ _ e1790) (fun o h => by first | omega | (simp only [zIsLand, zIsSheet] at *; omega))
      by_cases c1792 : y129 ≤ (9999 : Int32)
      · replace h := zite_t c1792 h
        obtain ⟨rfl, rfl⟩ := zpi2 h
        exact E1791
      · replace h := zite_f c1792 h
        obtain ⟨v132, w133, e1793, h⟩ := zb2_inv h
        have E1794 : zE (fun o => o = 61 ∨ o = 62 ∨ o = 63) w w133 := E1791.tr (eX7_finds e1793) (fun o h => by first | omega | (simp only [zIsLand, zIsSheet] at *; omega))
        obtain ⟨rfl, rfl⟩ := zpi2 h
        exact E1794
set_option maxRecDepth 100000 in
theorem eX7_road {w : zW} {p1 : Int32} {p2 : Int32} {p3 : Int32} {r : Int32} {w' : zW} (h : fX7_road w p1 p2 p3 = some (r, w')) : zE (fun o => o = 61 ∨ o = 62) w w' := by
  unfold fX7_road at h
  have E0 : zE (fun o => o = 61 ∨ o = 62) w w := zE.rfl
  obtain ⟨v2, e1795, h⟩ := zbind h
  by_cases c1796 : v2 = 0
  · replace h := zite_t c1796 h
    obtain ⟨v4, w5, e1797, h⟩ := zb2_inv h
    have E1798 : zE (fun o => o = 61 ∨ o = 62) w w5 := E0.tr (eX7_finds e1797) (fun o h => by first | omega | (simp only [zIsLand, zIsSheet] at *; omega))
    obtain ⟨rfl, rfl⟩ := zpi2 h
    exact E1798
  · replace h := zite_f c1796 h
    obtain ⟨v7, e1799, h⟩ := zbind h
    by_cases c1800 : v7 = 0
    · replace h := zite_t c1800 h
      obtain ⟨v9, w10, e1801, h⟩ := zb2_inv h
      have E1802 : zE (fun o => o = 61 ∨ o = 62) w w10 := E0.tr (eX7_finds e1801) (fun o h => by first | omega | (simp only [zIsLand, zIsSheet] at *; omega))
      obtain ⟨rfl, rfl⟩ := zpi2 h
      exact E1802
    · replace h := zite_f c1800 h
      by_cases c1803 : p1 = p2
      · replace h := zite_t c1803 h
        obtain ⟨v12, w13, e1804, h⟩ := zb2_inv h
        have E1805 : zE (fun o => o = 61 ∨ o = 62) w w13 := E0.tr (eX7_finds e1804) (fun o h => by first | omega | (simp only [zIsLand, zIsSheet] at *; omega))
        obtain ⟨rfl, rfl⟩ := zpi2 h
        exact E1805
      · replace h := zite_f c1803 h
        obtain ⟨v15, e1806, h⟩ := zbind h
        by_cases c1807 : v15 = 0
        · replace h := zite_t c1807 h
          obtain ⟨v33, w34, e1808, h⟩ := zb2_inv h
          have E1809 : zE (fun o => o = 61 ∨ o = 62) w w34 := E0.tr (eX7_finds e1808) (fun o h => by first | omega | (simp only [zIsLand, zIsSheet] at *; omega))
          obtain ⟨rfl, rfl⟩ := zpi2 h
          exact E1809
        · replace h := zite_f c1807 h
          obtain ⟨v17, e1810, h⟩ := zbind h
          by_cases c1811 : v17 < 0
          · replace h := zite_t c1811 h
            obtain ⟨v18, e1812, h⟩ := zbind h
            by_cases c1813 : v18 = (24 : Int32)
            · replace h := zite_t c1813 h
              obtain ⟨v25, w26, e1814, h⟩ := zb2_inv h
              have E1815 : zE (fun o => o = 61 ∨ o = 62) w w26 := E0.tr (eX7_finds e1814) (fun o h => by first | omega | (simp only [zIsLand, zIsSheet] at *; omega))
              obtain ⟨rfl, rfl⟩ := zpi2 h
              exact E1815
            · replace h := zite_f c1813 h
              obtain ⟨w21, e1816, h⟩ := zbind h
              have E1817 : zE (fun o => o = 61 ∨ o = 62) w w21 := E0.tr (eX7_addRoad e1816) (fun o h => by first | omega | (simp only [zIsLand, zIsSheet] at *; omega))
              obtain ⟨v22, e1818, h⟩ := zbind h
              obtain ⟨rfl, rfl⟩ := zpi2 h
              exact E1817
          · replace h := zite_f c1811 h
            obtain ⟨v29, w30, e1819, h⟩ := zb2_inv h
            have E1820 : zE (fun o => o = 61 ∨ o = 62) w w30 := E0.tr (eX7_finds e1819) (fun o h => by first | omega | (simp only [zIsLand, zIsSheet] at *; omega))
            obtain ⟨rfl, rfl⟩ := zpi2 h
            exact E1820
set_option maxRecDepth 100000 in
theorem eX7_roadOf {w : zW} {p1 : Int32} {p2 : Int32} {r : Int32} {w' : zW} (h : fX7_roadOf w p1 p2 = some (r, w')) : zE (fun o => o = 62) w w' := by
  unfold fX7_roadOf at h
  have E0 : zE (fun o => o = 62) w w := zE.rfl
  obtain ⟨v2, e1821, h⟩ := zbind h
  by_cases c1822 : v2 = 0
  · replace h := zite_t c1822 h
    obtain ⟨v4, w5, e1823, h⟩ := zb2_inv h
    have E1824 : zE (fun o => o = 62) w w5 := E0.tr (eX7_finds e1823) (fun o h => by first | omega | (simp only [zIsLand, zIsSheet] at *; omega))
    obtain ⟨rfl, rfl⟩ := zpi2 h
    exact E1824
  · replace h := zite_f c1822 h
    obtain ⟨v7, e1825, h⟩ := zbind h
    by_cases c1826 : v7 = 0
    · replace h := zite_t c1826 h
      obtain ⟨v9, w10, e1827, h⟩ := zb2_inv h
      have E1828 : zE (fun o => o = 62) w w10 := E0.tr (eX7_finds e1827) (fun o h => by first | omega | (simp only [zIsLand, zIsSheet] at *; omega))
      obtain ⟨rfl, rfl⟩ := zpi2 h
      exact E1828
    · replace h := zite_f c1826 h
      obtain ⟨v12, e1829, h⟩ := zbind h
      obtain ⟨rfl, rfl⟩ := zpi2 h
      exact E0
set_option maxRecDepth 100000 in
theorem eX7_round {w : zW} {p1 : Int32} {p2 : Int32} {p3 : Int32} {r : Int32} {w' : zW} (h : fX7_round w p1 p2 p3 = some (r, w')) : zE (fun o => o = 62 ∨ o = 63) w w' := by
  unfold fX7_round at h
  have E0 : zE (fun o => o = 62 ∨ o = 63) w w := zE.rfl
  obtain ⟨v2, e1830, h⟩ := zbind h
  by_cases c1831 : v2 = 0
  · replace h := zite_t c1831 h
    obtain ⟨v13, w14, e1832, h⟩ := zb2_inv h
    have E1833 : zE (fun o => o = 62 ∨ o = 63) w w14 := E0.tr (eX7_finds e1832) (fun o h => by first | omega | (simp only [zIsLand, zIsSheet] at *; omega))
    obtain ⟨rfl, rfl⟩ := zpi2 h
    exact E1833
  · replace h := zite_f c1831 h
    obtain ⟨v4, w5, e1834, h⟩ := zb2_inv h
    have E1835 : zE (fun o => o = 62 ∨ o = 63) w w5 := E0.tr (eX7_back e1834) (fun o h => by first | omega | (simp only [zIsLand, zIsSheet] at *; omega))
    by_cases c1836 : v4 = (1000000000 : Int32)
    · replace h := zite_t c1836 h
      obtain ⟨v9, w10, e1837, h⟩ := zb2_inv h
      have E1838 : zE (fun o => o = 62 ∨ o = 63) w w10 := E1835.tr (eX7_finds e1837) (fun o h => by first | omega | (simp only [zIsLand, zIsSheet] at *; omega))
      obtain ⟨rfl, rfl⟩ := zpi2 h
      exact E1838
    · replace h := zite_f c1836 h
      obtain ⟨v6, e1839, h⟩ := zbind h
      obtain ⟨rfl, rfl⟩ := zpi2 h
      exact E1835
set_option maxRecDepth 100000 in
theorem eX7_sea {w : zW}  {r : Int32} {w' : zW} (h : fX7_sea w  = some (r, w')) : zE (fun o => o = 62) w w' := by
  unfold fX7_sea at h
  have E0 : zE (fun o => o = 62) w w := zE.rfl
  obtain ⟨v1, e1840, h⟩ := zbind h
  by_cases c1841 : v1 = 0
  · replace h := zite_t c1841 h
    obtain ⟨v6, w7, e1842, h⟩ := zb2_inv h
    have E1843 : zE (fun o => o = 62) w w7 := E0.tr (eX7_finds e1842) (fun o h => by first | omega | (simp only [zIsLand, zIsSheet] at *; omega))
    obtain ⟨rfl, rfl⟩ := zpi2 h
    exact E1843
  · replace h := zite_f c1841 h
    obtain ⟨v4, e1844, h⟩ := zbind h
    obtain ⟨rfl, rfl⟩ := zpi2 h
    exact E0
set_option maxRecDepth 100000 in
theorem eX7_send {w : zW} {p1 : Int32} {p2 : Int32} {p3 : Int32} {r : Int32} {w' : zW} (h : fX7_send w p1 p2 p3 = some (r, w')) : zE (fun o => o = 61 ∨ o = 62) w w' := by
  unfold fX7_send at h
  have E0 : zE (fun o => o = 61 ∨ o = 62) w w := zE.rfl
  obtain ⟨v2, e1845, h⟩ := zbind h
  by_cases c1846 : v2 = 0
  · replace h := zite_t c1846 h
    obtain ⟨v14, w15, e1847, h⟩ := zb2_inv h
    have E1848 : zE (fun o => o = 61 ∨ o = 62) w w15 := E0.tr (eX7_finds e1847) (fun o h => by first | omega | (simp only [zIsLand, zIsSheet] at *; omega))
    obtain ⟨rfl, rfl⟩ := zpi2 h
    exact E1848
  · replace h := zite_f c1846 h
    obtain ⟨v3, e1849, h⟩ := zbind h
    by_cases c1850 : v3 = (10 : Int32)
    · replace h := zite_t c1850 h
      obtain ⟨v10, w11, e1851, h⟩ := zb2_inv h
      have E1852 : zE (fun o => o = 61 ∨ o = 62) w w11 := E0.tr (eX7_finds e1851) (fun o h => by first | omega | (simp only [zIsLand, zIsSheet] at *; omega))
      obtain ⟨rfl, rfl⟩ := zpi2 h
      exact E1852
    · replace h := zite_f c1850 h
      obtain ⟨w6, e1853, h⟩ := zbind h
      have E1854 : zE (fun o => o = 61 ∨ o = 62) w w6 := E0.tr (eX7_addLetter e1853) (fun o h => by first | omega | (simp only [zIsLand, zIsSheet] at *; omega))
      obtain ⟨v7, e1855, h⟩ := zbind h
      obtain ⟨rfl, rfl⟩ := zpi2 h
      exact E1854
set_option maxRecDepth 100000 in
theorem elX7_sheet_86 {p1 : Int32}  : ∀ (n : Nat) (w14 : zW) (x13 : Int32) (s : zW), lpX7_sheet_86 p1 n w14 x13 = some s → zE (fun o => o = 62 ∨ o = 66 ∨ o = 67 ∨ o = 68) w14 s := by
  intro n
  induction n with
  | zero => intro w14 x13 s h; simp [lpX7_sheet_86] at h
  | succ n ih =>
    intro w14 x13 s h
    rw [lpX7_sheet_86] at h
    have E0 : zE (fun o => o = 62 ∨ o = 66 ∨ o = 67 ∨ o = 68) w14 w14 := zE.rfl
    by_cases c1856 : (40 : Int32) ≤ x13
    · replace h := zite_t c1856 h
      obtain rfl := Option.some.inj h
      exact E0
    · replace h := zite_f c1856 h
      obtain ⟨w16, e1857, h⟩ := zbind h
      have E1858 : zE (fun o => o = 62 ∨ o = 66 ∨ o = 67 ∨ o = 68) w14 w16 := E0.zwl e1857 (by first | omega | (simp only [zIsLand, zIsSheet] at *; omega))
      exact E1858.trs (ih _ _ _ h)
set_option maxRecDepth 100000 in
theorem eX7_sheet {w : zW} {p1 : Int32} {p2 : Int32} {p3 : Int32} {r : Int32} {w' : zW} (h : fX7_sheet w p1 p2 p3 = some (r, w')) : zE (fun o => o = 62 ∨ o = 66 ∨ o = 67 ∨ o = 68) w w' := by
  unfold fX7_sheet at h
  have E0 : zE (fun o => o = 62 ∨ o = 66 ∨ o = 67 ∨ o = 68) w w := zE.rfl
  obtain ⟨v2, e1859, h⟩ := zbind h
  by_cases c1860 : v2 = 0
  · replace h := zite_t c1860 h
    obtain ⟨v4, w5, e1861, h⟩ := zb2_inv h
    have E1862 : zE (fun o => o = 62 ∨ o = 66 ∨ o = 67 ∨ o = 68) w w5 := E0.tr (eX7_finds e1861) (fun o h => by first | omega | (simp only [zIsLand, zIsSheet] at *; omega))
    obtain ⟨rfl, rfl⟩ := zpi2 h
    exact E1862
  · replace h := zite_f c1860 h
    by_cases c1863 : p2 = 0
    · replace h := zite_t c1863 h
      by_cases c1864 : 0 ≤ p3
      · replace h := zite_t c1864 h
        by_cases c1865 : p3 ≤ (40 : Int32)
        · replace h := zite_t c1865 h
          obtain ⟨w6, e1866, h⟩ := zbind h
          have E1867 : zE (fun o => o = 62 ∨ o = 66 ∨ o = 67 ∨ o = 68) w w6 := E0.zwr e1866 (by first | omega | (simp only [zIsLand, zIsSheet] at *; omega))
          obtain ⟨x8, e1868, h⟩ := zbind h
          obtain ⟨w11, e1869, h⟩ := zbind h
          have E1870 : zE (fun o => o = 62 ∨ o = 66 ∨ o = 67 ∨ o = 68) w w11 := E1867.zwr e1869 (by first | omega | (simp only [zIsLand, zIsSheet] at *; omega))
          obtain ⟨w21, e1871, h⟩ := zbind h
          have E1872 : zE (fun o => o = 62 ∨ o = 66 ∨ o = 67 ∨ o = 68) w w21 := E1870.tr (elX7_sheet_86 _ _ _ _ e1871) (fun o h => by first | omega | (simp only [zIsLand, zIsSheet] at *; omega))
          obtain ⟨v22, e1873, h⟩ := zbind h
          obtain ⟨rfl, rfl⟩ := zpi2 h
          exact E1872
        · replace h := zite_f c1865 h
          obtain ⟨v26, w27, e1874, h⟩ := zb2_inv h
          have E1875 : zE (fun o => o = 62 ∨ o = 66 ∨ o = 67 ∨ o = 68) w w27 := E0.tr (eX7_finds e1874) (fun o h => by first | omega | (simp only [zIsLand, zIsSheet] at *; omega))
          obtain ⟨rfl, rfl⟩ := zpi2 h
          exact E1875
      · replace h := zite_f c1864 h
        obtain ⟨v30, w31, e1876, h⟩ := zb2_inv h
        have E1877 : zE (fun o => o = 62 ∨ o = 66 ∨ o = 67 ∨ o = 68) w w31 := E0.tr (eX7_finds e1876) (fun o h => by first | omega | (simp only [zIsLand, zIsSheet] at *; omega))
        obtain ⟨rfl, rfl⟩ := zpi2 h
        exact E1877
    · replace h := zite_f c1863 h
      by_cases c1878 : p2 = (8 : Int32)
      · replace h := zite_t c1878 h
        by_cases c1879 : 0 ≤ p3
        · replace h := zite_t c1879 h
          by_cases c1880 : p3 ≤ (40 : Int32)
          · replace h := zite_t c1880 h
            obtain ⟨w33, e1881, h⟩ := zbind h
            have E1882 : zE (fun o => o = 62 ∨ o = 66 ∨ o = 67 ∨ o = 68) w w33 := E0.zwr e1881 (by first | omega | (simp only [zIsLand, zIsSheet] at *; omega))
            obtain ⟨x35, e1883, h⟩ := zbind h
            obtain ⟨w38, e1884, h⟩ := zbind h
            have E1885 : zE (fun o => o = 62 ∨ o = 66 ∨ o = 67 ∨ o = 68) w w38 := E1882.zwr e1884 (by first | omega | (simp only [zIsLand, zIsSheet] at *; omega))
            obtain ⟨w48, e1886, h⟩ := zbind h
            have E1887 : zE (fun o => o = 62 ∨ o = 66 ∨ o = 67 ∨ o = 68) w w48 := E1885.tr (elX7_sheet_86 _ _ _ _ e1886) (fun o h => by first | omega | (simp only [zIsLand, zIsSheet] at *; omega))
            obtain ⟨v49, e1888, h⟩ := zbind h
            obtain ⟨rfl, rfl⟩ := zpi2 h
            exact E1887
          · replace h := zite_f c1880 h
            obtain ⟨v53, w54, e1889, h⟩ := zb2_inv h
            have E1890 : zE (fun o => o = 62 ∨ o = 66 ∨ o = 67 ∨ o = 68) w w54 := E0.tr (eX7_finds e1889) (fun o h => by first | omega | (simp only [zIsLand, zIsSheet] at *; omega))
            obtain ⟨rfl, rfl⟩ := zpi2 h
            exact E1890
        · replace h := zite_f c1879 h
          obtain ⟨v57, w58, e1891, h⟩ := zb2_inv h
          have E1892 : zE (fun o => o = 62 ∨ o = 66 ∨ o = 67 ∨ o = 68) w w58 := E0.tr (eX7_finds e1891) (fun o h => by first | omega | (simp only [zIsLand, zIsSheet] at *; omega))
          obtain ⟨rfl, rfl⟩ := zpi2 h
          exact E1892
      · replace h := zite_f c1878 h
        by_cases c1893 : p2 = (16 : Int32)
        · replace h := zite_t c1893 h
          by_cases c1894 : 0 ≤ p3
          · replace h := zite_t c1894 h
            by_cases c1895 : p3 ≤ (40 : Int32)
            · replace h := zite_t c1895 h
              obtain ⟨w60, e1896, h⟩ := zbind h
              have E1897 : zE (fun o => o = 62 ∨ o = 66 ∨ o = 67 ∨ o = 68) w w60 := E0.zwr e1896 (by first | omega | (simp only [zIsLand, zIsSheet] at *; omega))
              obtain ⟨x62, e1898, h⟩ := zbind h
              obtain ⟨w65, e1899, h⟩ := zbind h
              have E1900 : zE (fun o => o = 62 ∨ o = 66 ∨ o = 67 ∨ o = 68) w w65 := E1897.zwr e1899 (by first | omega | (simp only [zIsLand, zIsSheet] at *; omega))
              obtain ⟨w75, e1901, h⟩ := zbind h
              have E1902 : zE (fun o => o = 62 ∨ o = 66 ∨ o = 67 ∨ o = 68) w w75 := E1900.tr (elX7_sheet_86 _ _ _ _ e1901) (fun o h => by first | omega | (simp only [zIsLand, zIsSheet] at *; omega))
              obtain ⟨v76, e1903, h⟩ := zbind h
              obtain ⟨rfl, rfl⟩ := zpi2 h
              exact E1902
            · replace h := zite_f c1895 h
              obtain ⟨v80, w81, e1904, h⟩ := zb2_inv h
              have E1905 : zE (fun o => o = 62 ∨ o = 66 ∨ o = 67 ∨ o = 68) w w81 := E0.tr (eX7_finds e1904) (fun o h => by first | omega | (simp only [zIsLand, zIsSheet] at *; omega))
              obtain ⟨rfl, rfl⟩ := zpi2 h
              exact E1905
          · replace h := zite_f c1894 h
            obtain ⟨v84, w85, e1906, h⟩ := zb2_inv h
            have E1907 : zE (fun o => o = 62 ∨ o = 66 ∨ o = 67 ∨ o = 68) w w85 := E0.tr (eX7_finds e1906) (fun o h => by first | omega | (simp only [zIsLand, zIsSheet] at *; omega))
            obtain ⟨rfl, rfl⟩ := zpi2 h
            exact E1907
        · replace h := zite_f c1893 h
          by_cases c1908 : p2 = (64 : Int32)
          · replace h := zite_t c1908 h
            by_cases c1909 : 0 ≤ p3
            · replace h := zite_t c1909 h
              by_cases c1910 : p3 ≤ (40 : Int32)
              · replace h := zite_t c1910 h
                obtain ⟨w87, e1911, h⟩ := zbind h
                have E1912 : zE (fun o => o = 62 ∨ o = 66 ∨ o = 67 ∨ o = 68) w w87 := E0.zwr e1911 (by first | omega | (simp only [zIsLand, zIsSheet] at *; omega))
                obtain ⟨x89, e1913, h⟩ := zbind h
                obtain ⟨w92, e1914, h⟩ := zbind h
                have E1915 : zE (fun o => o = 62 ∨ o = 66 ∨ o = 67 ∨ o = 68) w w92 := E1912.zwr e1914 (by first | omega | (simp only [zIsLand, zIsSheet] at *; omega))
                obtain ⟨w102, e1916, h⟩ := zbind h
                have E1917 : zE (fun o => o = 62 ∨ o = 66 ∨ o = 67 ∨ o = 68) w w102 := E1915.tr (elX7_sheet_86 _ _ _ _ e1916) (fun o h => by first | omega | (simp only [zIsLand, zIsSheet] at *; omega))
                obtain ⟨v103, e1918, h⟩ := zbind h
                obtain ⟨rfl, rfl⟩ := zpi2 h
                exact E1917
              · replace h := zite_f c1910 h
                obtain ⟨v107, w108, e1919, h⟩ := zb2_inv h
                have E1920 : zE (fun o => o = 62 ∨ o = 66 ∨ o = 67 ∨ o = 68) w w108 := E0.tr (eX7_finds e1919) (fun o h => by first | omega | (simp only [zIsLand, zIsSheet] at *; omega))
                obtain ⟨rfl, rfl⟩ := zpi2 h
                exact E1920
            · replace h := zite_f c1909 h
              obtain ⟨v111, w112, e1921, h⟩ := zb2_inv h
              have E1922 : zE (fun o => o = 62 ∨ o = 66 ∨ o = 67 ∨ o = 68) w w112 := E0.tr (eX7_finds e1921) (fun o h => by first | omega | (simp only [zIsLand, zIsSheet] at *; omega))
              obtain ⟨rfl, rfl⟩ := zpi2 h
              exact E1922
          · replace h := zite_f c1908 h
            obtain ⟨v115, w116, e1923, h⟩ := zb2_inv h
            have E1924 : zE (fun o => o = 62 ∨ o = 66 ∨ o = 67 ∨ o = 68) w w116 := E0.tr (eX7_finds e1923) (fun o h => by first | omega | (simp only [zIsLand, zIsSheet] at *; omega))
            obtain ⟨rfl, rfl⟩ := zpi2 h
            exact E1924
set_option maxRecDepth 100000 in
theorem eX7_slide {w : zW} {p1 : Int32} {p2 : Int32} {r : Int32} {w' : zW} (h : fX7_slide w p1 p2 = some (r, w')) : zE (fun o => o = 61 ∨ o = 62) w w' := by
  unfold fX7_slide at h
  have E0 : zE (fun o => o = 61 ∨ o = 62) w w := zE.rfl
  obtain ⟨v2, e1925, h⟩ := zbind h
  by_cases c1926 : v2 = 0
  · replace h := zite_t c1926 h
    obtain ⟨v4, w5, e1927, h⟩ := zb2_inv h
    have E1928 : zE (fun o => o = 61 ∨ o = 62) w w5 := E0.tr (eX7_finds e1927) (fun o h => by first | omega | (simp only [zIsLand, zIsSheet] at *; omega))
    obtain ⟨rfl, rfl⟩ := zpi2 h
    exact E1928
  · replace h := zite_f c1926 h
    obtain ⟨v7, e1929, h⟩ := zbind h
    by_cases c1930 : v7 = 0
    · replace h := zite_t c1930 h
      obtain ⟨v13, w14, e1931, h⟩ := zb2_inv h
      have E1932 : zE (fun o => o = 61 ∨ o = 62) w w14 := E0.tr (eX7_finds e1931) (fun o h => by first | omega | (simp only [zIsLand, zIsSheet] at *; omega))
      obtain ⟨rfl, rfl⟩ := zpi2 h
      exact E1932
    · replace h := zite_f c1930 h
      obtain ⟨v9, e1933, h⟩ := zbind h
      obtain ⟨w10, e1934, h⟩ := zbind h
      have E1935 : zE (fun o => o = 61 ∨ o = 62) w w10 := E0.zwr e1934 (by first | omega | (simp only [zIsLand, zIsSheet] at *; omega))
      obtain ⟨rfl, rfl⟩ := zpi2 h
      exact E1935
set_option maxRecDepth 100000 in
theorem eX7_status {w : zW} {p1 : Int32} {r : Int32} {w' : zW} (h : fX7_status w p1 = some (r, w')) : zE (fun o => o = 62) w w' := by
  unfold fX7_status at h
  have E0 : zE (fun o => o = 62) w w := zE.rfl
  obtain ⟨v2, e1936, h⟩ := zbind h
  by_cases c1937 : v2 = 0
  · replace h := zite_t c1937 h
    obtain ⟨v22, w23, e1938, h⟩ := zb2_inv h
    have E1939 : zE (fun o => o = 62) w w23 := E0.tr (eX7_finds e1938) (fun o h => by first | omega | (simp only [zIsLand, zIsSheet] at *; omega))
    obtain ⟨rfl, rfl⟩ := zpi2 h
    exact E1939
  · replace h := zite_f c1937 h
    obtain ⟨y13, e1940, h⟩ := zbind h
    by_cases c1941 : 0 ≤ p1
    · replace h := zite_t c1941 h
      obtain ⟨x14, e1942, h⟩ := zbind h
      obtain ⟨v17, e1943, h⟩ := zbind h
      obtain ⟨rfl, rfl⟩ := zpi2 h
      exact E0
    · replace h := zite_f c1941 h
      obtain ⟨rfl, rfl⟩ := zpi2 h
      exact E0
set_option maxRecDepth 100000 in
theorem elX7_table_78 {p1 : Int32}  : ∀ (n : Nat) (w29 : zW) (x28 : Int32) (s : (Int32 × zW)), lpX7_table_78 p1 n w29 x28 = some s → zE (fun o => o = 62 ∨ o = 63 ∨ o = 68) w29 s.2 := by
  intro n
  induction n with
  | zero => intro w29 x28 s h; simp [lpX7_table_78] at h
  | succ n ih =>
    intro w29 x28 s h
    rw [lpX7_table_78] at h
    have E0 : zE (fun o => o = 62 ∨ o = 63 ∨ o = 68) w29 w29 := zE.rfl
    obtain ⟨v32, e1944, h⟩ := zbind h
    by_cases c1945 : v32 ≤ x28
    · replace h := zite_t c1945 h
      obtain rfl := Option.some.inj h
      exact E0
    · replace h := zite_f c1945 h
      obtain ⟨v34, e1946, h⟩ := zbind h
      by_cases c1947 : v34 ≤ x28
      · replace h := zite_t c1947 h
        obtain rfl := Option.some.inj h
        exact E0
      · replace h := zite_f c1947 h
        obtain ⟨v36, e1948, h⟩ := zbind h
        obtain ⟨v38, e1949, h⟩ := zbind h
        obtain ⟨x44, e1950, h⟩ := zbind h
        obtain ⟨v52, e1951, h⟩ := zbind h
        obtain ⟨w53, e1952, h⟩ := zbind h
        have E1953 : zE (fun o => o = 62 ∨ o = 63 ∨ o = 68) w29 w53 := E0.zwl e1952 (by first | omega | (simp only [zIsLand, zIsSheet] at *; omega))
        exact E1953.trs (ih _ _ _ h)
set_option maxRecDepth 100000 in
theorem eX7_table {w : zW} {p1 : Int32} {p2 : Int32} {p3 : Int32} {r : Int32} {w' : zW} (h : fX7_table w p1 p2 p3 = some (r, w')) : zE (fun o => o = 62 ∨ o = 63 ∨ o = 68) w w' := by
  unfold fX7_table at h
  have E0 : zE (fun o => o = 62 ∨ o = 63 ∨ o = 68) w w := zE.rfl
  obtain ⟨v2, e1954, h⟩ := zbind h
  obtain ⟨x12, e1955, h⟩ := zbind h
  by_cases c1956 : x12 = 0
  · replace h := zite_t c1956 h
    obtain ⟨v24, e1957, h⟩ := zbind h
    obtain ⟨w27, e1958, h⟩ := zbind h
    have E1959 : zE (fun o => o = 62 ∨ o = 63 ∨ o = 68) w w27 := E0.tr (eX7_find e1958) (fun o h => by first | omega | (simp only [zIsLand, zIsSheet] at *; omega))
    obtain ⟨y60, w61, e1960, h⟩ := zb2_inv h
    have E1961 : zE (fun o => o = 62 ∨ o = 63 ∨ o = 68) w w61 := E1959.tr (elX7_table_78 _ _ _ _ e1960) (fun o h => by first | omega | (simp only [zIsLand, zIsSheet] at *; omega))
    obtain ⟨rfl, rfl⟩ := zpi2 h
    exact E1961
  · replace h := zite_f c1956 h
    obtain ⟨v63, w64, e1962, h⟩ := zb2_inv h
    have E1963 : zE (fun o => o = 62 ∨ o = 63 ∨ o = 68) w w64 := E0.tr (eX7_finds e1962) (fun o h => by first | omega | (simp only [zIsLand, zIsSheet] at *; omega))
    obtain ⟨rfl, rfl⟩ := zpi2 h
    exact E1963
set_option maxRecDepth 100000 in
theorem eX7_tear {w : zW}  {r : Int32} {w' : zW} (h : fX7_tear w  = some (r, w')) : zE (fun o => o = 60) w w' := by
  unfold fX7_tear at h
  have E0 : zE (fun o => o = 60) w w := zE.rfl
  obtain ⟨x1, e1964, h⟩ := zbind h
  obtain ⟨w4, e1965, h⟩ := zbind h
  have E1966 : zE (fun o => o = 60) w w4 := E0.zsf e1965 (by first | omega | (simp only [zIsLand, zIsSheet] at *; omega))
  obtain ⟨rfl, rfl⟩ := zpi2 h
  exact E1966
set_option maxRecDepth 100000 in
theorem eX7_wantEvery {w : zW}  {w' : zW} (h : fX7_wantEvery w  = some w') : zE (fun o => o = 60 ∨ o = 61) w w' := by
  unfold fX7_wantEvery at h
  have E0 : zE (fun o => o = 60 ∨ o = 61) w w := zE.rfl
  obtain ⟨w2, e1967, h⟩ := zbind h
  have E1968 : zE (fun o => o = 60 ∨ o = 61) w w2 := E0.tr (eX7_advance e1967) (fun o h => by first | omega | (simp only [zIsLand, zIsSheet] at *; omega))
  obtain ⟨v4, w5, e1969, h⟩ := zb2_inv h
  have E1970 : zE (fun o => o = 60 ∨ o = 61) w w5 := E1968.tr (eX7_wantNumber e1969) (fun o h => by first | omega | (simp only [zIsLand, zIsSheet] at *; omega))
  by_cases c1971 : (w5.1 60 13) = 0
  · replace h := zite_t c1971 h
    obtain rfl := Option.some.inj h
    exact E1970
  · replace h := zite_f c1971 h
    obtain ⟨w6, e1972, h⟩ := zbind h
    have E1973 : zE (fun o => o = 60 ∨ o = 61) w w6 := E1970.zwr e1972 (by first | omega | (simp only [zIsLand, zIsSheet] at *; omega))
    obtain rfl := Option.some.inj h
    exact E1973
set_option maxRecDepth 100000 in
theorem eX7_wantWord {w : zW} {p1 : Int64} {w' : zW} (h : fX7_wantWord w p1 = some w') : zE (fun o => o = 60) w w' := by
  unfold fX7_wantWord at h
  have E0 : zE (fun o => o = 60) w w := zE.rfl
  obtain ⟨x4, e1974, h⟩ := zbind h
  obtain ⟨b10, e1975, h⟩ := zbind h
  obtain ⟨w12, e1976, h⟩ := zbind h
  have E1977 : zE (fun o => o = 60) w w12 := E0.zsf e1976 (by first | omega | (simp only [zIsLand, zIsSheet] at *; omega))
  by_cases c1978 : (w12.1 60 13) = 0
  · replace h := zite_t c1978 h
    obtain rfl := Option.some.inj h
    exact E1977
  · replace h := zite_f c1978 h
    obtain ⟨w15, e1979, h⟩ := zbind h
    have E1980 : zE (fun o => o = 60) w w15 := E1977.tr (eX7_advance e1979) (fun o h => by first | omega | (simp only [zIsLand, zIsSheet] at *; omega))
    obtain rfl := Option.some.inj h
    exact E1980
set_option maxRecDepth 100000 in
theorem eX7_wantLetter {w : zW} {p1 : Int32} {w' : zW} (h : fX7_wantLetter w p1 = some w') : zE (fun o => o = 60 ∨ o = 61) w w' := by
  unfold fX7_wantLetter at h
  have E0 : zE (fun o => o = 60 ∨ o = 61) w w := zE.rfl
  obtain ⟨v1, e1981, h⟩ := zbind h
  obtain ⟨x3, e1982, h⟩ := zbind h
  obtain ⟨b6, e1983, h⟩ := zbind h
  obtain ⟨w8, e1984, h⟩ := zbind h
  have E1985 : zE (fun o => o = 60 ∨ o = 61) w w8 := E0.zsf e1984 (by first | omega | (simp only [zIsLand, zIsSheet] at *; omega))
  by_cases c1986 : (w8.1 60 13) = 0
  · replace h := zite_t c1986 h
    obtain rfl := Option.some.inj h
    exact E1985
  · replace h := zite_f c1986 h
    obtain ⟨w11, e1987, h⟩ := zbind h
    have E1988 : zE (fun o => o = 60 ∨ o = 61) w w11 := E1985.tr (eX7_advance e1987) (fun o h => by first | omega | (simp only [zIsLand, zIsSheet] at *; omega))
    obtain ⟨v12, e1989, h⟩ := zbind h
    obtain ⟨v15, w16, e1990, h⟩ := zb2_inv h
    have E1991 : zE (fun o => o = 60 ∨ o = 61) w w16 := E1988.tr (eX7_wantNumber e1990) (fun o h => by first | omega | (simp only [zIsLand, zIsSheet] at *; omega))
    obtain ⟨w18, e1992, h⟩ := zbind h
    have E1993 : zE (fun o => o = 60 ∨ o = 61) w w18 := E1991.tr (eX7_wantWord e1992) (fun o h => by first | omega | (simp only [zIsLand, zIsSheet] at *; omega))
    obtain ⟨v19, e1994, h⟩ := zbind h
    obtain ⟨v22, w23, e1995, h⟩ := zb2_inv h
    have E1996 : zE (fun o => o = 60 ∨ o = 61) w w23 := E1993.tr (eX7_wantNumber e1995) (fun o h => by first | omega | (simp only [zIsLand, zIsSheet] at *; omega))
    by_cases c1997 : (w23.1 60 13) = 0
    · replace h := zite_t c1997 h
      obtain rfl := Option.some.inj h
      exact E1996
    · replace h := zite_f c1997 h
      obtain ⟨w25, e1998, h⟩ := zbind h
      have E1999 : zE (fun o => o = 60 ∨ o = 61) w w25 := E1996.tr (eX7_addLetter e1998) (fun o h => by first | omega | (simp only [zIsLand, zIsSheet] at *; omega))
      obtain rfl := Option.some.inj h
      exact E1999
set_option maxRecDepth 100000 in
theorem eX7_wantRoad {w : zW}  {w' : zW} (h : fX7_wantRoad w  = some w') : zE (fun o => o = 60 ∨ o = 61) w w' := by
  unfold fX7_wantRoad at h
  have E0 : zE (fun o => o = 60 ∨ o = 61) w w := zE.rfl
  obtain ⟨v1, e2000, h⟩ := zbind h
  obtain ⟨x3, e2001, h⟩ := zbind h
  obtain ⟨b6, e2002, h⟩ := zbind h
  obtain ⟨w8, e2003, h⟩ := zbind h
  have E2004 : zE (fun o => o = 60 ∨ o = 61) w w8 := E0.zsf e2003 (by first | omega | (simp only [zIsLand, zIsSheet] at *; omega))
  by_cases c2005 : (w8.1 60 13) = 0
  · replace h := zite_t c2005 h
    obtain rfl := Option.some.inj h
    exact E2004
  · replace h := zite_f c2005 h
    obtain ⟨w11, e2006, h⟩ := zbind h
    have E2007 : zE (fun o => o = 60 ∨ o = 61) w w11 := E2004.tr (eX7_advance e2006) (fun o h => by first | omega | (simp only [zIsLand, zIsSheet] at *; omega))
    obtain ⟨v12, e2008, h⟩ := zbind h
    obtain ⟨v15, w16, e2009, h⟩ := zb2_inv h
    have E2010 : zE (fun o => o = 60 ∨ o = 61) w w16 := E2007.tr (eX7_wantNumber e2009) (fun o h => by first | omega | (simp only [zIsLand, zIsSheet] at *; omega))
    obtain ⟨w18, e2011, h⟩ := zbind h
    have E2012 : zE (fun o => o = 60 ∨ o = 61) w w18 := E2010.tr (eX7_wantWord e2011) (fun o h => by first | omega | (simp only [zIsLand, zIsSheet] at *; omega))
    obtain ⟨x27, e2013, h⟩ := zbind h
    obtain ⟨b38, e2014, h⟩ := zbind h
    obtain ⟨w40, e2015, h⟩ := zbind h
    have E2016 : zE (fun o => o = 60 ∨ o = 61) w w40 := E2012.zsf e2015 (by first | omega | (simp only [zIsLand, zIsSheet] at *; omega))
    obtain ⟨v42, e2017, h⟩ := zbind h
    obtain ⟨v45, w46, e2018, h⟩ := zb2_inv h
    have E2019 : zE (fun o => o = 60 ∨ o = 61) w w46 := E2016.tr (eX7_wantNumber e2018) (fun o h => by first | omega | (simp only [zIsLand, zIsSheet] at *; omega))
    obtain ⟨v48, w49, e2020, h⟩ := zb2_inv h
    have E2021 : zE (fun o => o = 60 ∨ o = 61) w w49 := E2019.tr (eX7_mayWant e2020) (fun o h => by first | omega | (simp only [zIsLand, zIsSheet] at *; omega))
    by_cases c2022 : (w49.1 60 13) = 0
    · replace h := zite_t c2022 h
      obtain rfl := Option.some.inj h
      exact E2021
    · replace h := zite_f c2022 h
      obtain ⟨w51, e2023, h⟩ := zbind h
      have E2024 : zE (fun o => o = 60 ∨ o = 61) w w51 := E2021.tr (eX7_addRoad e2023) (fun o h => by first | omega | (simp only [zIsLand, zIsSheet] at *; omega))
      obtain rfl := Option.some.inj h
      exact E2024
set_option maxRecDepth 100000 in
theorem eX7_wantSlide {w : zW}  {w' : zW} (h : fX7_wantSlide w  = some w') : zE (fun o => o = 60 ∨ o = 61) w w' := by
  unfold fX7_wantSlide at h
  have E0 : zE (fun o => o = 60 ∨ o = 61) w w := zE.rfl
  obtain ⟨w2, e2025, h⟩ := zbind h
  have E2026 : zE (fun o => o = 60 ∨ o = 61) w w2 := E0.tr (eX7_advance e2025) (fun o h => by first | omega | (simp only [zIsLand, zIsSheet] at *; omega))
  obtain ⟨v3, e2027, h⟩ := zbind h
  obtain ⟨v6, w7, e2028, h⟩ := zb2_inv h
  have E2029 : zE (fun o => o = 60 ∨ o = 61) w w7 := E2026.tr (eX7_wantNumber e2028) (fun o h => by first | omega | (simp only [zIsLand, zIsSheet] at *; omega))
  obtain ⟨v9, w10, e2030, h⟩ := zb2_inv h
  have E2031 : zE (fun o => o = 60 ∨ o = 61) w w10 := E2029.tr (eX7_wantNumber e2030) (fun o h => by first | omega | (simp only [zIsLand, zIsSheet] at *; omega))
  by_cases c2032 : (w10.1 60 13) = 0
  · replace h := zite_t c2032 h
    obtain rfl := Option.some.inj h
    exact E2031
  · replace h := zite_f c2032 h
    obtain ⟨w11, e2033, h⟩ := zbind h
    have E2034 : zE (fun o => o = 60 ∨ o = 61) w w11 := E2031.zwr e2033 (by first | omega | (simp only [zIsLand, zIsSheet] at *; omega))
    obtain rfl := Option.some.inj h
    exact E2034
set_option maxRecDepth 100000 in
theorem eX7_wantVillage {w : zW}  {w' : zW} (h : fX7_wantVillage w  = some w') : zE (fun o => o = 60 ∨ o = 61) w w' := by
  unfold fX7_wantVillage at h
  have E0 : zE (fun o => o = 60 ∨ o = 61) w w := zE.rfl
  obtain ⟨v1, e2035, h⟩ := zbind h
  obtain ⟨x3, e2036, h⟩ := zbind h
  obtain ⟨b6, e2037, h⟩ := zbind h
  obtain ⟨w8, e2038, h⟩ := zbind h
  have E2039 : zE (fun o => o = 60 ∨ o = 61) w w8 := E0.zsf e2038 (by first | omega | (simp only [zIsLand, zIsSheet] at *; omega))
  by_cases c2040 : (w8.1 60 13) = 0
  · replace h := zite_t c2040 h
    obtain rfl := Option.some.inj h
    exact E2039
  · replace h := zite_f c2040 h
    obtain ⟨w11, e2041, h⟩ := zbind h
    have E2042 : zE (fun o => o = 60 ∨ o = 61) w w11 := E2039.tr (eX7_advance e2041) (fun o h => by first | omega | (simp only [zIsLand, zIsSheet] at *; omega))
    obtain ⟨v13, w14, e2043, h⟩ := zb2_inv h
    have E2044 : zE (fun o => o = 60 ∨ o = 61) w w14 := E2042.tr (eX7_wantNumber e2043) (fun o h => by first | omega | (simp only [zIsLand, zIsSheet] at *; omega))
    obtain ⟨x18, e2045, h⟩ := zbind h
    obtain ⟨w26, e2046, h⟩ := zbind h
    have E2047 : zE (fun o => o = 60 ∨ o = 61) w w26 := by
      by_cases c2048 : x18 = 0
      · replace e2046 := zite_t c2048 e2046
        obtain rfl := Option.some.inj e2046
        exact E2044
      · replace e2046 := zite_f c2048 e2046
        obtain ⟨w30, e2049, e2046⟩ := zbind e2046
        have E2050 : zE (fun o => o = 60 ∨ o = 61) w w30 := E2044.tr (eX7_advance e2049) (fun o h => by first | omega | (simp only [zIsLand, zIsSheet] at *; omega))
        obtain rfl := Option.some.inj e2046
        exact E2050
    by_cases c2051 : (w26.1 60 13) = 0
    · replace h := zite_t c2051 h
      obtain rfl := Option.some.inj h
      exact E2047
    · replace h := zite_f c2051 h
      obtain ⟨w32, e2052, h⟩ := zbind h
      have E2053 : zE (fun o => o = 60 ∨ o = 61) w w32 := E2047.tr (eX7_addVillage e2052) (fun o h => by first | omega | (simp only [zIsLand, zIsSheet] at *; omega))
      obtain rfl := Option.some.inj h
      exact E2053
set_option maxRecDepth 100000 in
theorem eX7_wantItem {w : zW}  {w' : zW} (h : fX7_wantItem w  = some w') : zE (fun o => o = 60 ∨ o = 61) w w' := by
  unfold fX7_wantItem at h
  have E0 : zE (fun o => o = 60 ∨ o = 61) w w := zE.rfl
  obtain ⟨v2, e2054, h⟩ := zbind h
  by_cases c2055 : v2 = 0
  · replace h := zite_t c2055 h
    obtain ⟨v4, e2056, h⟩ := zbind h
    by_cases c2057 : v4 = 0
    · replace h := zite_t c2057 h
      obtain ⟨v6, e2058, h⟩ := zbind h
      by_cases c2059 : v6 = 0
      · replace h := zite_t c2059 h
        obtain ⟨v8, e2060, h⟩ := zbind h
        by_cases c2061 : v8 = 0
        · replace h := zite_t c2061 h
          obtain ⟨v10, e2062, h⟩ := zbind h
          by_cases c2063 : v10 < 0
          · replace h := zite_t c2063 h
            obtain ⟨w11, e2064, h⟩ := zbind h
            have E2065 : zE (fun o => o = 60 ∨ o = 61) w w11 := E0.zsf e2064 (by first | omega | (simp only [zIsLand, zIsSheet] at *; omega))
            obtain rfl := Option.some.inj h
            exact E2065
          · replace h := zite_f c2063 h
            obtain ⟨v14, e2066, h⟩ := zbind h
            obtain ⟨w16, e2067, h⟩ := zbind h
            have E2068 : zE (fun o => o = 60 ∨ o = 61) w w16 := E0.tr (eX7_wantLetter e2067) (fun o h => by first | omega | (simp only [zIsLand, zIsSheet] at *; omega))
            obtain rfl := Option.some.inj h
            exact E2068
        · replace h := zite_f c2061 h
          obtain ⟨w19, e2069, h⟩ := zbind h
          have E2070 : zE (fun o => o = 60 ∨ o = 61) w w19 := E0.tr (eX7_wantEvery e2069) (fun o h => by first | omega | (simp only [zIsLand, zIsSheet] at *; omega))
          obtain rfl := Option.some.inj h
          exact E2070
      · replace h := zite_f c2059 h
        obtain ⟨w22, e2071, h⟩ := zbind h
        have E2072 : zE (fun o => o = 60 ∨ o = 61) w w22 := E0.tr (eX7_wantSlide e2071) (fun o h => by first | omega | (simp only [zIsLand, zIsSheet] at *; omega))
        obtain rfl := Option.some.inj h
        exact E2072
    · replace h := zite_f c2057 h
      obtain ⟨w25, e2073, h⟩ := zbind h
      have E2074 : zE (fun o => o = 60 ∨ o = 61) w w25 := E0.tr (eX7_wantRoad e2073) (fun o h => by first | omega | (simp only [zIsLand, zIsSheet] at *; omega))
      obtain rfl := Option.some.inj h
      exact E2074
  · replace h := zite_f c2055 h
    obtain ⟨w28, e2075, h⟩ := zbind h
    have E2076 : zE (fun o => o = 60 ∨ o = 61) w w28 := E0.tr (eX7_wantVillage e2075) (fun o h => by first | omega | (simp only [zIsLand, zIsSheet] at *; omega))
    obtain rfl := Option.some.inj h
    exact E2076
set_option maxRecDepth 100000 in
theorem elX7_text_23   : ∀ (n : Nat) (w9 : zW) (x7 : Int32) (x8 : Int32) (s : (Int32 × zW)), lpX7_text_23  n w9 x7 x8 = some s → zE (fun o => o = 60 ∨ o = 61 ∨ o = 71) w9 s.2 := by
  intro n
  induction n with
  | zero => intro w9 x7 x8 s h; simp [lpX7_text_23] at h
  | succ n ih =>
    intro w9 x7 x8 s h
    rw [lpX7_text_23] at h
    have E0 : zE (fun o => o = 60 ∨ o = 61 ∨ o = 71) w9 w9 := zE.rfl
    by_cases c2077 : x8 = 0
    · replace h := zite_t c2077 h
      obtain rfl := Option.some.inj h
      exact E0
    · replace h := zite_f c2077 h
      obtain ⟨w13, e2078, h⟩ := zbind h
      have E2079 : zE (fun o => o = 60 ∨ o = 61 ∨ o = 71) w9 w13 := E0.tr (eX7_advance e2078) (fun o h => by first | omega | (simp only [zIsLand, zIsSheet] at *; omega))
      obtain ⟨w15, e2080, h⟩ := zbind h
      have E2081 : zE (fun o => o = 60 ∨ o = 61 ∨ o = 71) w9 w15 := E2079.tr (eX7_wantItem e2080) (fun o h => by first | omega | (simp only [zIsLand, zIsSheet] at *; omega))
      obtain ⟨x18, e2082, h⟩ := zbind h
      exact E2081.trs (ih _ _ _ _ h)
set_option maxRecDepth 100000 in
theorem eX7_text {w : zW}  {r : Int32} {w' : zW} (h : fX7_text w  = some (r, w')) : zE (fun o => o = 60 ∨ o = 61 ∨ o = 71) w w' := by
  unfold fX7_text at h
  have E0 : zE (fun o => o = 60 ∨ o = 61 ∨ o = 71) w w := zE.rfl
  obtain ⟨w2, e2083, h⟩ := zbind h
  have E2084 : zE (fun o => o = 60 ∨ o = 61 ∨ o = 71) w w2 := E0.tr (eX7_moveAll e2083) (fun o h => by first | omega | (simp only [zIsLand, zIsSheet] at *; omega))
  obtain ⟨w3, e2085, h⟩ := zbind h
  have E2086 : zE (fun o => o = 60 ∨ o = 61 ∨ o = 71) w w3 := E2084.zsf e2085 (by first | omega | (simp only [zIsLand, zIsSheet] at *; omega))
  obtain ⟨w5, e2087, h⟩ := zbind h
  have E2088 : zE (fun o => o = 60 ∨ o = 61 ∨ o = 71) w w5 := E2086.zsf e2087 (by first | omega | (simp only [zIsLand, zIsSheet] at *; omega))
  obtain ⟨y27, w28, e2089, h⟩ := zb2_inv h
  have E2090 : zE (fun o => o = 60 ∨ o = 61 ∨ o = 71) w w28 := E2088.tr (elX7_text_23 _ _ _ _ _ e2089) (fun o h => by first | omega | (simp only [zIsLand, zIsSheet] at *; omega))
  obtain ⟨x30, e2091, h⟩ := zbind h
  obtain ⟨b34, e2092, h⟩ := zbind h
  obtain ⟨w36, e2093, h⟩ := zbind h
  have E2094 : zE (fun o => o = 60 ∨ o = 61 ∨ o = 71) w w36 := E2090.zsf e2093 (by first | omega | (simp only [zIsLand, zIsSheet] at *; omega))
  obtain ⟨w38, e2095, h⟩ := zbind h
  have E2096 : zE (fun o => o = 60 ∨ o = 61 ∨ o = 71) w w38 := E2094.zsf e2095 (by first | omega | (simp only [zIsLand, zIsSheet] at *; omega))
  by_cases c2097 : (w38.1 60 13) = 0
  · replace h := zite_t c2097 h
    obtain ⟨w41, e2098, h⟩ := zbind h
    have E2099 : zE (fun o => o = 60 ∨ o = 61 ∨ o = 71) w w41 := E2096.tr (eX7_moveAll e2098) (fun o h => by first | omega | (simp only [zIsLand, zIsSheet] at *; omega))
    obtain ⟨rfl, rfl⟩ := zpi2 h
    exact E2099
  · replace h := zite_f c2097 h
    obtain ⟨rfl, rfl⟩ := zpi2 h
    exact E2096
set_option maxRecDepth 100000 in
theorem eX7_turn {w : zW} {p1 : Int32} {p2 : Int32} {r : Int32} {w' : zW} (h : fX7_turn w p1 p2 = some (r, w')) : zE (fun o => o = 61 ∨ o = 62) w w' := by
  unfold fX7_turn at h
  have E0 : zE (fun o => o = 61 ∨ o = 62) w w := zE.rfl
  obtain ⟨v2, e2100, h⟩ := zbind h
  by_cases c2101 : v2 = 0
  · replace h := zite_t c2101 h
    obtain ⟨v4, w5, e2102, h⟩ := zb2_inv h
    have E2103 : zE (fun o => o = 61 ∨ o = 62) w w5 := E0.tr (eX7_finds e2102) (fun o h => by first | omega | (simp only [zIsLand, zIsSheet] at *; omega))
    obtain ⟨rfl, rfl⟩ := zpi2 h
    exact E2103
  · replace h := zite_f c2101 h
    obtain ⟨v7, e2104, h⟩ := zbind h
    by_cases c2105 : v7 = 0
    · replace h := zite_t c2105 h
      obtain ⟨v13, w14, e2106, h⟩ := zb2_inv h
      have E2107 : zE (fun o => o = 61 ∨ o = 62) w w14 := E0.tr (eX7_finds e2106) (fun o h => by first | omega | (simp only [zIsLand, zIsSheet] at *; omega))
      obtain ⟨rfl, rfl⟩ := zpi2 h
      exact E2107
    · replace h := zite_f c2105 h
      obtain ⟨v9, e2108, h⟩ := zbind h
      obtain ⟨w11, e2109, h⟩ := zbind h
      have E2110 : zE (fun o => o = 61 ∨ o = 62) w w11 := E0.tr (eX7_sets e2109) (fun o h => by first | omega | (simp only [zIsLand, zIsSheet] at *; omega))
      obtain ⟨rfl, rfl⟩ := zpi2 h
      exact E2110
set_option maxRecDepth 100000 in
theorem eX7_undo {w : zW}  {r : Int32} {w' : zW} (h : fX7_undo w  = some (r, w')) : zE (fun o => o = 61 ∨ o = 62 ∨ o = 70) w w' := by
  unfold fX7_undo at h
  have E0 : zE (fun o => o = 61 ∨ o = 62 ∨ o = 70) w w := zE.rfl
  by_cases c2111 : (w.1 60 20) = 0
  · replace h := zite_t c2111 h
    obtain ⟨v6, w7, e2112, h⟩ := zb2_inv h
    have E2113 : zE (fun o => o = 61 ∨ o = 62 ∨ o = 70) w w7 := E0.tr (eX7_finds e2112) (fun o h => by first | omega | (simp only [zIsLand, zIsSheet] at *; omega))
    obtain ⟨rfl, rfl⟩ := zpi2 h
    exact E2113
  · replace h := zite_f c2111 h
    obtain ⟨w2, e2114, h⟩ := zbind h
    have E2115 : zE (fun o => o = 61 ∨ o = 62 ∨ o = 70) w w2 := E0.tr (eX7_moveAll e2114) (fun o h => by first | omega | (simp only [zIsLand, zIsSheet] at *; omega))
    obtain ⟨v3, e2116, h⟩ := zbind h
    obtain ⟨rfl, rfl⟩ := zpi2 h
    exact E2115
set_option maxRecDepth 100000 in
theorem eX7_village {w : zW} {p1 : Int32} {r : Int32} {w' : zW} (h : fX7_village w p1 = some (r, w')) : zE (fun o => o = 61 ∨ o = 62) w w' := by
  unfold fX7_village at h
  have E0 : zE (fun o => o = 61 ∨ o = 62) w w := zE.rfl
  obtain ⟨v2, e2117, h⟩ := zbind h
  by_cases c2118 : v2 = 0
  · replace h := zite_t c2118 h
    obtain ⟨v14, w15, e2119, h⟩ := zb2_inv h
    have E2120 : zE (fun o => o = 61 ∨ o = 62) w w15 := E0.tr (eX7_finds e2119) (fun o h => by first | omega | (simp only [zIsLand, zIsSheet] at *; omega))
    obtain ⟨rfl, rfl⟩ := zpi2 h
    exact E2120
  · replace h := zite_f c2118 h
    obtain ⟨v3, e2121, h⟩ := zbind h
    by_cases c2122 : v3 = (12 : Int32)
    · replace h := zite_t c2122 h
      obtain ⟨v10, w11, e2123, h⟩ := zb2_inv h
      have E2124 : zE (fun o => o = 61 ∨ o = 62) w w11 := E0.tr (eX7_finds e2123) (fun o h => by first | omega | (simp only [zIsLand, zIsSheet] at *; omega))
      obtain ⟨rfl, rfl⟩ := zpi2 h
      exact E2124
    · replace h := zite_f c2122 h
      obtain ⟨w6, e2125, h⟩ := zbind h
      have E2126 : zE (fun o => o = 61 ∨ o = 62) w w6 := E0.tr (eX7_addVillage e2125) (fun o h => by first | omega | (simp only [zIsLand, zIsSheet] at *; omega))
      obtain ⟨v7, e2127, h⟩ := zbind h
      obtain ⟨rfl, rfl⟩ := zpi2 h
      exact E2126
set_option maxRecDepth 100000 in
theorem eX7_villageOf {w : zW} {p1 : Int32} {p2 : Int32} {r : Int32} {w' : zW} (h : fX7_villageOf w p1 p2 = some (r, w')) : zE (fun o => o = 62) w w' := by
  unfold fX7_villageOf at h
  have E0 : zE (fun o => o = 62) w w := zE.rfl
  obtain ⟨v2, e2128, h⟩ := zbind h
  by_cases c2129 : v2 = 0
  · replace h := zite_t c2129 h
    obtain ⟨v4, w5, e2130, h⟩ := zb2_inv h
    have E2131 : zE (fun o => o = 62) w w5 := E0.tr (eX7_finds e2130) (fun o h => by first | omega | (simp only [zIsLand, zIsSheet] at *; omega))
    obtain ⟨rfl, rfl⟩ := zpi2 h
    exact E2131
  · replace h := zite_f c2129 h
    obtain ⟨v7, e2132, h⟩ := zbind h
    by_cases c2133 : v7 = 0
    · replace h := zite_t c2133 h
      obtain ⟨v20, w21, e2134, h⟩ := zb2_inv h
      have E2135 : zE (fun o => o = 62) w w21 := E0.tr (eX7_finds e2134) (fun o h => by first | omega | (simp only [zIsLand, zIsSheet] at *; omega))
      obtain ⟨rfl, rfl⟩ := zpi2 h
      exact E2135
    · replace h := zite_f c2133 h
      by_cases c2136 : p2 = 0
      · replace h := zite_t c2136 h
        obtain ⟨v17, e2137, h⟩ := zbind h
        obtain ⟨rfl, rfl⟩ := zpi2 h
        exact E0
      · replace h := zite_f c2136 h
        by_cases c2138 : p2 = (1 : Int32)
        · replace h := zite_t c2138 h
          obtain ⟨v13, e2139, h⟩ := zbind h
          obtain ⟨rfl, rfl⟩ := zpi2 h
          exact E0
        · replace h := zite_f c2138 h
          by_cases c2140 : p2 = (2 : Int32)
          · replace h := zite_t c2140 h
            obtain ⟨v11, e2141, h⟩ := zbind h
            obtain ⟨rfl, rfl⟩ := zpi2 h
            exact E0
          · replace h := zite_f c2140 h
            obtain ⟨v9, e2142, h⟩ := zbind h
            obtain ⟨rfl, rfl⟩ := zpi2 h
            exact E0
set_option maxRecDepth 100000 in
theorem eX7_when {w : zW} {p1 : Int32} {r : Int32} {w' : zW} (h : fX7_when w p1 = some (r, w')) : zE (fun o => o = 60 ∨ o = 61 ∨ o = 62 ∨ o = 63 ∨ o = 64) w w' := by
  unfold fX7_when at h
  have E0 : zE (fun o => o = 60 ∨ o = 61 ∨ o = 62 ∨ o = 63 ∨ o = 64) w w := zE.rfl
  obtain ⟨v2, e2143, h⟩ := zbind h
  by_cases c2144 : v2 = 0
  · replace h := zite_t c2144 h
    obtain ⟨v17, w18, e2145, h⟩ := zb2_inv h
    have E2146 : zE (fun o => o = 60 ∨ o = 61 ∨ o = 62 ∨ o = 63 ∨ o = 64) w w18 := E0.tr (eX7_finds e2145) (fun o h => by first | omega | (simp only [zIsLand, zIsSheet] at *; omega))
    obtain ⟨rfl, rfl⟩ := zpi2 h
    exact E2146
  · replace h := zite_f c2144 h
    obtain ⟨v3, e2147, h⟩ := zbind h
    by_cases c2148 : v3 ≤ (9799 : Int32)
    · replace h := zite_t c2148 h
      obtain ⟨v6, w7, e2149, h⟩ := zb2_inv h
      have E2150 : zE (fun o => o = 60 ∨ o = 61 ∨ o = 62 ∨ o = 63 ∨ o = 64) w w7 := E0.tr (eX7_daysTill e2149) (fun o h => by first | omega | (simp only [zIsLand, zIsSheet] at *; omega))
      by_cases c2151 : 0 ≤ v6
      · replace h := zite_t c2151 h
        obtain ⟨rfl, rfl⟩ := zpi2 h
        exact E2150
      · replace h := zite_f c2151 h
        obtain ⟨v9, w10, e2152, h⟩ := zb2_inv h
        have E2153 : zE (fun o => o = 60 ∨ o = 61 ∨ o = 62 ∨ o = 63 ∨ o = 64) w w10 := E2150.tr (eX7_finds e2152) (fun o h => by first | omega | (simp only [zIsLand, zIsSheet] at *; omega))
        obtain ⟨rfl, rfl⟩ := zpi2 h
        exact E2153
    · replace h := zite_f c2148 h
      obtain ⟨v13, w14, e2154, h⟩ := zb2_inv h
      have E2155 : zE (fun o => o = 60 ∨ o = 61 ∨ o = 62 ∨ o = 63 ∨ o = 64) w w14 := E0.tr (eX7_finds e2154) (fun o h => by first | omega | (simp only [zIsLand, zIsSheet] at *; omega))
      obtain ⟨rfl, rfl⟩ := zpi2 h
      exact E2155
set_option maxRecDepth 100000 in
theorem elX7_whence_27 {p1 : Int32} {p2 : Int32}  : ∀ (n : Nat) (w10 : zW) (x8 : Int32) (x9 : Int32) (s : (Int32 × zW)), lpX7_whence_27 p1 p2 n w10 x8 x9 = some s → zE (fun o => o = 62 ∨ o = 63) w10 s.2 := by
  intro n
  induction n with
  | zero => intro w10 x8 x9 s h; simp [lpX7_whence_27] at h
  | succ n ih =>
    intro w10 x8 x9 s h
    rw [lpX7_whence_27] at h
    have E0 : zE (fun o => o = 62 ∨ o = 63) w10 w10 := zE.rfl
    obtain ⟨v13, e2156, h⟩ := zbind h
    by_cases c2157 : v13 ≤ x9
    · replace h := zite_t c2157 h
      obtain rfl := Option.some.inj h
      exact E0
    · replace h := zite_f c2157 h
      obtain ⟨v16, w17, e2158, h⟩ := zb2_inv h
      have E2159 : zE (fun o => o = 62 ∨ o = 63) w10 w17 := E0.tr (eX7_reachOf e2158) (fun o h => by first | omega | (simp only [zIsLand, zIsSheet] at *; omega))
      obtain ⟨v19, e2160, h⟩ := zbind h
      obtain ⟨x20, e2161, h⟩ := zbind h
      obtain ⟨x23, e2162, h⟩ := zbind h
      exact E2159.trs (ih _ _ _ _ h)
set_option maxRecDepth 100000 in
theorem eX7_whence {w : zW} {p1 : Int32} {p2 : Int32} {r : Int32} {w' : zW} (h : fX7_whence w p1 p2 = some (r, w')) : zE (fun o => o = 62 ∨ o = 63) w w' := by
  unfold fX7_whence at h
  have E0 : zE (fun o => o = 62 ∨ o = 63) w w := zE.rfl
  obtain ⟨v2, e2163, h⟩ := zbind h
  by_cases c2164 : v2 = 0
  · replace h := zite_t c2164 h
    obtain ⟨v4, w5, e2165, h⟩ := zb2_inv h
    have E2166 : zE (fun o => o = 62 ∨ o = 63) w w5 := E0.tr (eX7_finds e2165) (fun o h => by first | omega | (simp only [zIsLand, zIsSheet] at *; omega))
    obtain ⟨rfl, rfl⟩ := zpi2 h
    exact E2166
  · replace h := zite_f c2164 h
    obtain ⟨v7, e2167, h⟩ := zbind h
    by_cases c2168 : v7 = 0
    · replace h := zite_t c2168 h
      obtain ⟨v32, w33, e2169, h⟩ := zb2_inv h
      have E2170 : zE (fun o => o = 62 ∨ o = 63) w w33 := E0.tr (eX7_finds e2169) (fun o h => by first | omega | (simp only [zIsLand, zIsSheet] at *; omega))
      obtain ⟨rfl, rfl⟩ := zpi2 h
      exact E2170
    · replace h := zite_f c2168 h
      obtain ⟨y29, w30, e2171, h⟩ := zb2_inv h
      have E2172 : zE (fun o => o = 62 ∨ o = 63) w w30 := E0.tr (elX7_whence_27 _ _ _ _ _ e2171) (fun o h => by first | omega | (simp only [zIsLand, zIsSheet] at *; omega))
      obtain ⟨rfl, rfl⟩ := zpi2 h
      exact E2172
set_option maxRecDepth 100000 in
theorem eX7_wipe {w : zW}  {r : Int32} {w' : zW} (h : fX7_wipe w  = some (r, w')) : zE (fun o => o = 60) w w' := by
  unfold fX7_wipe at h
  have E0 : zE (fun o => o = 60) w w := zE.rfl
  obtain ⟨x1, e2173, h⟩ := zbind h
  obtain ⟨w3, e2174, h⟩ := zbind h
  have E2175 : zE (fun o => o = 60) w w3 := E0.zsf e2174 (by first | omega | (simp only [zIsLand, zIsSheet] at *; omega))
  obtain ⟨rfl, rfl⟩ := zpi2 h
  exact E2175
set_option maxRecDepth 100000 in
theorem eX7_write {w : zW} {p1 : Int32} {p2 : Int32} {p3 : Int64} {r : Int64} {w' : zW} (h : fX7_write w p1 p2 p3 = some (r, w')) : zE (fun o => o = 62 ∨ o = 68) w w' := by
  unfold fX7_write at h
  have E0 : zE (fun o => o = 62 ∨ o = 68) w w := zE.rfl
  obtain ⟨v2, e2176, h⟩ := zbind h
  by_cases c2177 : v2 = 0
  · replace h := zite_t c2177 h
    obtain ⟨v26, w27, e2178, h⟩ := zb2_inv h
    have E2179 : zE (fun o => o = 62 ∨ o = 68) w w27 := E0.tr (eX7_finds e2178) (fun o h => by first | omega | (simp only [zIsLand, zIsSheet] at *; omega))
    obtain ⟨rfl, rfl⟩ := zpi2 h
    exact E2179
  · replace h := zite_f c2177 h
    obtain ⟨v3, e2180, h⟩ := zbind h
    by_cases c2181 : v3 = 0
    · replace h := zite_t c2181 h
      obtain ⟨v22, w23, e2182, h⟩ := zb2_inv h
      have E2183 : zE (fun o => o = 62 ∨ o = 68) w w23 := E0.tr (eX7_finds e2182) (fun o h => by first | omega | (simp only [zIsLand, zIsSheet] at *; omega))
      obtain ⟨rfl, rfl⟩ := zpi2 h
      exact E2183
    · replace h := zite_f c2181 h
      obtain ⟨v5, e2184, h⟩ := zbind h
      obtain ⟨v8, e2185, h⟩ := zbind h
      by_cases c2186 : v8 = 0
      · replace h := zite_t c2186 h
        obtain ⟨v18, w19, e2187, h⟩ := zb2_inv h
        have E2188 : zE (fun o => o = 62 ∨ o = 68) w w19 := E0.tr (eX7_finds e2187) (fun o h => by first | omega | (simp only [zIsLand, zIsSheet] at *; omega))
        obtain ⟨rfl, rfl⟩ := zpi2 h
        exact E2188
      · replace h := zite_f c2186 h
        obtain ⟨v9, e2189, h⟩ := zbind h
        obtain ⟨v11, e2190, h⟩ := zbind h
        obtain ⟨v14, e2191, h⟩ := zbind h
        obtain ⟨w15, e2192, h⟩ := zbind h
        have E2193 : zE (fun o => o = 62 ∨ o = 68) w w15 := E0.zwl e2192 (by first | omega | (simp only [zIsLand, zIsSheet] at *; omega))
        obtain ⟨rfl, rfl⟩ := zpi2 h
        exact E2193
