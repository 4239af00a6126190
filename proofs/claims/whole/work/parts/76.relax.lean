/-! the reference's search: best days that only come down -/
def zN9 : Nat := 1000000000
def zBs (w : zW) (B : Nat → Nat) : Prop := ∀ v, v < 12 → w.1 63 v = nI (B v) ∧ B v ≤ zN9
def zRx (B : Nat → Nat) (b x : Nat) : Nat → Nat := fun v => if v = b then x else B v
def zSm (B : Nat → Nat) : Nat → Nat
  | 0 => 0
  | n + 1 => zSm B n + B n
def zQI (Q : Nat → Nat → Prop) (N : Nat) (B : Nat → Nat) : Prop := ∀ v, v < N → B v < zN9 → Q v (B v)
def zPr (Q : Nat → Nat → Prop) (N : Nat) (f : Bool) (B C : Nat → Nat) : Prop := (∀ v, C v ≤ B v) ∧ (zQI Q N B → zQI Q N C) ∧ (f = false → C = B) ∧ (f = true → zSm C 12 < zSm B 12)
theorem zSm_mono {B C : Nat → Nat} (h : ∀ v, C v ≤ B v) : ∀ n, zSm C n ≤ zSm B n := by
  intro n
  induction n with
  | zero => exact Nat.le_refl _
  | succ n ih => have := h n; unfold zSm; omega
theorem zSm_rx {B : Nat → Nat} {b x : Nat} : ∀ n, (n ≤ b → zSm (zRx B b x) n = zSm B n) ∧ (b < n → zSm (zRx B b x) n + B b = zSm B n + x) := by
  intro n
  induction n with
  | zero => exact ⟨fun _ => rfl, fun h => by omega⟩
  | succ n ih =>
    have e : zSm (zRx B b x) (n + 1) = zSm (zRx B b x) n + (if n = b then x else B n) := rfl
    have e2 : zSm B (n + 1) = zSm B n + B n := rfl
    rw [e, e2]
    refine ⟨fun h => ?_, fun h => ?_⟩
    · rw [if_neg (by omega), ih.1 (by omega)]
    · by_cases c : n = b
      · subst c
        rw [if_pos rfl, ih.1 (by omega)]
        omega
      · rw [if_neg c]
        have := ih.2 (by omega)
        omega
theorem zPr.refl {Q : Nat → Nat → Prop} {N : Nat} {B : Nat → Nat} : zPr Q N false B B := ⟨fun _ => Nat.le_refl _, fun h => h, fun _ => rfl, fun h => by cases h⟩
theorem zPr.trs {Q : Nat → Nat → Prop} {N : Nat} {f g : Bool} {A B C : Nat → Nat} (h : zPr Q N f A B) (k : zPr Q N g B C) : zPr Q N (f || g) A C := by
  refine ⟨fun v => Nat.le_trans (k.1 v) (h.1 v), fun q => k.2.1 (h.2.1 q), fun q => ?_, fun q => ?_⟩
  · rw [Bool.or_eq_false_iff] at q
    rw [k.2.2.1 q.2, h.2.2.1 q.1]
  · rw [Bool.or_eq_true] at q
    have m1 := zSm_mono h.1 12
    have m2 := zSm_mono k.1 12
    rcases q with q | q
    · have := h.2.2.2 q
      omega
    · have := k.2.2.2 q
      omega
theorem zPr.rx {Q : Nat → Nat → Prop} {N : Nat} {B : Nat → Nat} {b x : Nat} (hb : b < 12) (hx : x < B b) (hq : zQI Q N B → Q b x) : zPr Q N true B (zRx B b x) := by
  refine ⟨fun v => ?_, fun q v hv hv2 => ?_, fun q => (by cases q), fun _ => ?_⟩
  · show (if v = b then x else B v) ≤ B v
    by_cases c : v = b
    · subst c; rw [if_pos rfl]; omega
    · rw [if_neg c]; exact Nat.le_refl _
  · have hv2 : (if v = b then x else B v) < zN9 := hv2
    show Q v (if v = b then x else B v)
    by_cases c : v = b
    · subst c; rw [if_pos rfl]; exact hq q
    · rw [if_neg c] at hv2 ⊢; exact q v hv hv2
  · have := (zSm_rx (B := B) (b := b) (x := x) 12).2 hb
    omega
theorem zBs.rx {w : zW} {B : Nat → Nat} (h : zBs w B) {b x : Nat} (hx : x ≤ zN9) : zBs (zsf w 63 b (nI x)) (zRx B b x) := by
  intro v hv
  show _ = nI (if v = b then x else B v) ∧ (if v = b then x else B v) ≤ zN9
  by_cases c : v = b
  · subst c; rw [if_pos rfl, zsf_same]; exact ⟨rfl, hx⟩
  · rw [if_neg c, zsf_k c]; exact h v hv
theorem zBs.same {w : zW} {B : Nat → Nat} (h : zBs w B) {b : Nat} : zBs (zsf w 63 b (nI (B b))) B := by
  intro v hv
  by_cases c : v = b
  · subst c; rw [zsf_same]; exact ⟨rfl, (h v hv).2⟩
  · rw [zsf_k c]; exact h v hv
theorem eq9 {x : Nat} (hx : x ≤ zN9) : (nI x = (1000000000 : Int32)) = (x = zN9) := propext (by
  have z9 : zN9 = 1000000000 := rfl
  rw [zL1000000000]
  exact nI_eq (by omega) (by omega))
theorem le9 {x : Nat} (hx : x < 2 ^ 31) : ((1000000000 : Int32) ≤ nI x) = (zN9 ≤ x) := propext (by rw [zL1000000000]; exact nI_leI (by omega) hx)
section RELAX
variable {w : zW} {S : zLd} {B : Nat → Nat} {k : Nat} {Q : Nat → Nat → Prop}
theorem zMX.e63 {u : zW} (h : zMX w 61 S) (e : zE (fun o => o = 63) w u) : zMX u 61 S := h.keep (e 61 (by omega)).1
theorem rx_tr (hS : zWf S) (hM : zMX w 61 S) (hB : zBs w B) (hk : k < 6) {a b d : Nat} (ha : a < zNv S) (hb : b < zNv S) (hd : d < 10) (hQ : ∀ x, x < zN9 → zGo S k a b = true → Q a x → Q b (x + zNd k d)) : ∃ f C u, fX7_takesRoad w (nI k) (nI a) (nI b) (nI d) = some (if f = true then 1 else 0, u) ∧ zE (fun o => o = 63) w u ∧ zBs u C ∧ zPr Q (zNv S) f B C ∧ (f = false → zGo S k a b = true → B a < zN9 → B b ≤ B a + zNd k d) := by
  have nv := hS.nv
  have z9 : zN9 = 1000000000 := rfl
  have ba := hB a (by omega)
  have bb := hB b (by omega)
  have nd := zNd_le hk hd
  have e1 : zrd w 63 12 (nI a) = some (nI (B a)) := by rw [zrd_nI (by omega) (by omega), ba.1]
  have e2 : zrd w 63 12 (nI b) = some (nI (B b)) := by rw [zrd_nI (by omega) (by omega), bb.1]
  have p : (nI (B b) ≤ nI (B a + zNd k d)) = (B b ≤ B a + zNd k d) := propext (nI_leI (by omega) (by omega))
  have e3 : ∀ y, zwr w 63 12 (nI b) y = some (zsf w 63 b y) := fun y => zwr_nI (by omega) (by omega)
  unfold fX7_takesRoad
  simp only [e1, e2, e3, Option.bind_some, eq9 ba.2, mx_go hS hM hk ha hb, mx_nd w hk hd, nI_add, p, ifb0]
  by_cases c1 : B a = zN9
  · rw [if_pos c1]
    exact ⟨false, B, w, rfl, zE.rfl, hB, zPr.refl, fun _ _ h => by omega⟩
  rw [if_neg c1]
  by_cases c2 : zGo S k a b = true
  · rw [if_neg (by rw [c2]; decide)]
    by_cases c3 : B b ≤ B a + zNd k d
    · refine ⟨false, B, zsf w 63 b (nI (B b)), ?_, zE.sf0 rfl, hB.same, zPr.refl, fun _ _ _ => c3⟩
      simp only [if_pos c3, Option.bind_some, if_true, zgb_0]
      rfl
    · refine ⟨true, zRx B b (B a + zNd k d), zsf w 63 b (nI (B a + zNd k d)), ?_, zE.sf0 rfl, hB.rx (by omega), zPr.rx (by omega) (by omega) (fun q => hQ _ (by omega) c2 (q a ha (by omega))), fun q => by cases q⟩
      simp only [if_neg c3, Option.bind_some, if_neg h10, zgb_1]
      rfl
  · rw [if_pos (by simpa using c2)]
    exact ⟨false, B, w, rfl, zE.rfl, hB, zPr.refl, fun _ h => absurd h c2⟩
theorem zFl_alt {e t : Nat} (he : 1 ≤ e) : zFl e t + 1 = t + (if t % e = 0 then 0 else e - t % e) + 1 := by
  have := Nat.mod_lt t (show e > 0 by omega)
  unfold zFl
  by_cases c : t % e = 0
  · rw [if_pos c, if_pos c]
  · rw [if_neg c, if_neg c]; omega
theorem rx_tb (hS : zWf S) (hM : zMX w 61 S) (hB : zBs w B) (h0 : 0 < zNv S) (hQ : ∀ x, x < zN9 → Q (zSea S) x → Q (zPeak S) (zFl (zEv S) x + 1)) : ∃ f C u, fX7_takesBalloon w = some (if f = true then 1 else 0, u) ∧ zE (fun o => o = 63) w u ∧ zBs u C ∧ zPr Q (zNv S) f B C ∧ (f = false → B (zSea S) < zN9 → B (zPeak S) ≤ zFl (zEv S) (B (zSea S)) + 1) := by
  have nv := hS.nv
  have ev := hS.ev
  have z9 : zN9 = 1000000000 := rfl
  have hs := zSea_lt h0
  have hp := zPeak_lt h0
  have ba := hB (zSea S) (by omega)
  have bb := hB (zPeak S) (by omega)
  have fl := zFl_le (t := B (zSea S)) ev.1
  have m := Nat.mod_lt (B (zSea S)) (show zEv S > 0 by omega)
  have e1 : zrd w 63 12 (nI (zSea S)) = some (nI (B (zSea S))) := by rw [zrd_nI (by omega) (by omega), ba.1]
  have e2 : zrd w 63 12 (nI (zPeak S)) = some (nI (B (zPeak S))) := by rw [zrd_nI (by omega) (by omega), bb.1]
  have e3 : ∀ y, zwr w 63 12 (nI (zPeak S)) y = some (zsf w 63 (zPeak S) y) := fun y => zwr_nI (by omega) (by omega)
  have p : (nI (B (zPeak S)) ≤ nI (zFl (zEv S) (B (zSea S)) + 1)) = (B (zPeak S) ≤ zFl (zEv S) (B (zSea S)) + 1) := propext (nI_leI (by omega) (by omega))
  have e4 : (if B (zSea S) % zEv S = 0 then some (0 : Int32) else some (nI (zEv S) - nI (B (zSea S) % zEv S))) = some (nI (if B (zSea S) % zEv S = 0 then 0 else zEv S - B (zSea S) % zEv S)) := by
    by_cases c : B (zSea S) % zEv S = 0
    · rw [if_pos c, if_pos c]; rfl
    · rw [if_neg c, if_neg c, pk_sub (by omega)]
  unfold fX7_takesBalloon
  simp only [mx_sea hS hM, mx_peak hS hM, e1, e2, e3, Option.bind_some, eq9 ba.2, mx_3 hM, zrem_nI (show B (zSea S) < 2 ^ 31 by omega) (show 0 < zEv S by omega) (show zEv S < 2 ^ 31 by omega), nI_z (show B (zSea S) % zEv S < 2 ^ 31 by omega)]
  by_cases c1 : B (zSea S) = zN9
  · rw [if_pos c1]
    exact ⟨false, B, w, rfl, zE.rfl, hB, zPr.refl, fun _ h => by omega⟩
  rw [if_neg c1, e4, Option.bind_some, nI_add, nI_1, ← zFl_alt ev.1]
  simp only [p]
  by_cases c3 : B (zPeak S) ≤ zFl (zEv S) (B (zSea S)) + 1
  · refine ⟨false, B, zsf w 63 (zPeak S) (nI (B (zPeak S))), ?_, zE.sf0 rfl, hB.same, zPr.refl, fun _ _ => c3⟩
    simp only [if_pos c3, Option.bind_some, if_true, zgb_0]
    rfl
  · refine ⟨true, zRx B (zPeak S) (zFl (zEv S) (B (zSea S)) + 1), zsf w 63 (zPeak S) (nI (zFl (zEv S) (B (zSea S)) + 1)), ?_, zE.sf0 rfl, hB.rx (by omega), zPr.rx (by omega) (by omega) (fun q => hQ _ (by omega) (q _ hs (by omega))), fun q => by cases q⟩
    simp only [if_neg c3, Option.bind_some, if_neg h10, zgb_1]
    rfl
/-- no road brings anything earlier -/
def zClR (S : zLd) (k : Nat) (B : Nat → Nat) (r : Nat) : Prop := (zGo S k (zOn S r) (zOt S r) = true → B (zOn S r) < zN9 → B (zOt S r) ≤ B (zOn S r) + zNd k (zLn S r)) ∧ (zGo S k (zOt S r) (zOn S r) = true → B (zOt S r) < zN9 → B (zOn S r) ≤ B (zOt S r) + zNd k (zLn S r))
def zQR (S : zLd) (k : Nat) (Q : Nat → Nat → Prop) : Prop := ∀ r, r < zNr S → ∀ a b, zJr S a b r → ∀ x, x < zN9 → zGo S k a b = true → Q a x → Q b (x + zNd k (zLn S r))
def zQB (S : zLd) (Q : Nat → Nat → Prop) : Prop := ∀ x, x < zN9 → Q (zSea S) x → Q (zPeak S) (zFl (zEv S) x + 1)
theorem ifor (f g h : Bool) : (if (if f = true then (1 : Int32) else 0) = 0 then (if (if g = true then (1 : Int32) else 0) = 0 then (if (if h = true then (1 : Int32) else 0) = 0 then some (0 : Int32) else some 1) else some 1) else some 1) = some (if (f || (g || h)) = true then 1 else 0) := by cases f <;> cases g <;> cases h <;> rfl
theorem rx_roads (hS : zWf S) (hk : k < 6) (hQ : zQR S k Q) {p2 : Int32} : ∀ m r f (A B : Nat → Nat) (w : zW), r + m = zNr S → zMX w 61 S → zBs w B → zPr Q (zNv S) f A B → (f = false → ∀ q, q < r → zClR S k A q) → ∀ n, m < n → ∃ g C u, lpX7_goesOn_5 (nI k) p2 n w (if f = true then 1 else 0) (nI r) = some (if g = true then 1 else 0, u) ∧ zE (fun o => o = 63) w u ∧ zBs u C ∧ zPr Q (zNv S) g A C ∧ (g = false → ∀ q, q < zNr S → zClR S k A q) := by
  have nr := hS.nr
  intro m
  induction m with
  | zero =>
    intro r f A B w hr hM hB hP hc n hn
    obtain ⟨n, rfl⟩ : ∃ z, n = z + 1 := ⟨n - 1, by omega⟩
    rw [lpX7_goesOn_5, mx_1 hM, Option.bind_some, if_pos ((nI_leI (by omega) (by omega)).mpr (by omega))]
    exact ⟨f, B, w, rfl, zE.rfl, hB, hP, fun h q hq => hc h q (by omega)⟩
  | succ m ih =>
    intro r f A B w hr hM hB hP hc n hn
    obtain ⟨n, rfl⟩ : ∃ z, n = z + 1 := ⟨n - 1, by omega⟩
    have r1 : r < zNr S := by omega
    obtain ⟨g1, g2, g3, g4, g5⟩ := hS.rd r r1
    obtain ⟨f1, B1, w1, a1, a2, a3, a4, a5⟩ := rx_tr hS hM hB hk g1 g2 (show zLn S r < 10 by omega) (fun x hx h1 h2 => hQ r r1 _ _ (Or.inl ⟨rfl, rfl⟩) x hx h1 h2)
    have hM1 := hM.e63 a2
    obtain ⟨f2, B2, w2, b1, b2, b3, b4, b5⟩ := rx_tr hS hM1 a3 hk g2 g1 (show zLn S r < 10 by omega) (fun x hx h1 h2 => hQ r r1 _ _ (Or.inr ⟨rfl, rfl⟩) x hx h1 h2)
    have hP2 := hP.trs (a4.trs b4)
    obtain ⟨g, C, u, c1, c2, c3, c4, c5⟩ := ih (r + 1) (f || (f1 || f2)) A B2 w2 (by omega) (hM1.e63 b2) b3 hP2 (fun h q hq => by
      rw [Bool.or_eq_false_iff, Bool.or_eq_false_iff] at h
      obtain ⟨h1, h2, h3⟩ := h
      have e1 : B = A := hP.2.2.1 h1
      have e2 : B1 = B := a4.2.2.1 h2
      by_cases e : q = r
      · subst e
        have x1 := a5 h2
        have x2 := b5 h3
        rw [e2, e1] at x2
        rw [e1] at x1
        exact ⟨x1, x2⟩
      · exact hc h1 q (by omega)) n (by omega)
    refine ⟨g, C, u, ?_, (a2.trs b2).trs c2, c3, c4, c5⟩
    rw [lpX7_goesOn_5, mx_1 hM, Option.bind_some, if_neg (fun x => by have := (nI_leI (by omega) (by omega)).mp x; omega)]
    simp only [mx_end0 hS hM r1, mx_end1 hS hM r1, mx_end2 hS hM r1, Option.bind_some, a1, zb2_some, mx_end0 hS hM1 r1, mx_end1 hS hM1 r1, mx_end2 hS hM1 r1, b1, ifor, nI_1, c1]
theorem rx_go (hS : zWf S) (hk : k < 6) (h0 : 0 < zNv S) (air : Bool) (hQ : zQR S k Q) (hQB : air = true → zQB S Q) (hM : zMX w 61 S) (hB : zBs w B) : ∃ g C u, fX7_goesOn w (nI k) (if air = true then 1 else 0) = some (if g = true then 1 else 0, u) ∧ zE (fun o => o = 63) w u ∧ zBs u C ∧ zPr Q (zNv S) g B C ∧ (g = false → (∀ q, q < zNr S → zClR S k B q) ∧ (air = true → B (zSea S) < zN9 → B (zPeak S) ≤ zFl (zEv S) (B (zSea S)) + 1)) := by
  have nr := hS.nr
  obtain ⟨g, C, u, c1, c2, c3, c4, c5⟩ := rx_roads hS hk hQ (p2 := if air = true then 1 else 0) (zNr S) 0 false B B w (by omega) hM hB zPr.refl (fun _ q hq => absurd hq (by omega)) zF (by unfold zF; omega)
  unfold fX7_goesOn
  have c1' : lpX7_goesOn_5 (nI k) (if air = true then 1 else 0) zF w 0 0 = some (if g = true then 1 else 0, u) := by rw [← c1]; rfl
  rw [c1', zb2_some]
  cases air with
  | false =>
    refine ⟨g, C, u, ?_, c2, c3, c4, fun h => ⟨c5 h, fun h => by cases h⟩⟩
    cases g <;> rfl
  | true =>
    obtain ⟨f, E, v, e1, e2, e3, e4, e5⟩ := rx_tb hS (hM.e63 c2) c3 h0 (hQB rfl)
    refine ⟨g || f, E, v, ?_, c2.trs e2, e3, c4.trs e4, fun h => ?_⟩
    · simp only [if_true, if_neg h10, e1, zb2_some]
      cases g <;> cases f <;> rfl
    · rw [Bool.or_eq_false_iff] at h
      refine ⟨c5 h.1, fun _ => ?_⟩
      have := e5 h.2
      rw [c4.2.2.1 h.1] at this
      exact this
/-- nothing comes earlier any more -/
def zCl (S : zLd) (k : Nat) (air : Bool) (B : Nat → Nat) : Prop := (∀ q, q < zNr S → zClR S k B q) ∧ (air = true → B (zSea S) < zN9 → B (zPeak S) ≤ zFl (zEv S) (B (zSea S)) + 1)
theorem rx_find (hS : zWf S) (hk : k < 6) (h0 : 0 < zNv S) (air : Bool) (hQ : zQR S k Q) (hQB : air = true → zQB S Q) : ∀ m (A : Nat → Nat) (w : zW), zSm A 12 < m → zMX w 61 S → zBs w A → zQI Q (zNv S) A → ∀ n, m + 1 < n → ∃ C u, lpX7_find_55 (nI k) (if air = true then 1 else 0) n w 1 = some u ∧ zE (fun o => o = 63) w u ∧ zBs u C ∧ zQI Q (zNv S) C ∧ (∀ v, C v ≤ A v) ∧ zCl S k air C := by
  intro m
  induction m with
  | zero => intro A w h; omega
  | succ m ih =>
    intro A w hm hM hB hI n hn
    obtain ⟨n, rfl⟩ : ∃ z, n = z + 1 := ⟨n - 1, by omega⟩
    obtain ⟨g, C, u, c1, c2, c3, c4, c5⟩ := rx_go hS hk h0 air hQ hQB hM hB
    rw [lpX7_find_55, if_neg h10, c1, zb2_some]
    cases g with
    | false =>
      obtain ⟨n, rfl⟩ : ∃ z, n = z + 1 := ⟨n - 1, by omega⟩
      have e := c4.2.2.1 rfl
      refine ⟨C, u, ?_, c2, c3, c4.2.1 hI, c4.1, ?_⟩
      · show lpX7_find_55 (nI k) (if air = true then 1 else 0) (n + 1) u 0 = some u
        rw [lpX7_find_55, if_pos rfl]
      · rw [e]; exact c5 rfl
    | true =>
      have := c4.2.2.2 rfl
      obtain ⟨E, v, e1, e2, e3, e4, e5, e6⟩ := ih C u (by omega) (hM.e63 c2) c3 (c4.2.1 hI) n (by omega)
      exact ⟨E, v, e1, c2.trs e2, e3, e4, fun v => Nat.le_trans (e5 v) (c4.1 v), e6⟩
theorem rx_init {p1 p2 p3 p4 : Int32} : ∀ m v (w u : zW), v + m = 12 → zE (fun o => o = 63) w u → (∀ i, i < v → u.1 63 i = nI zN9) → ∀ n, m < n → ∃ x, lpX7_find_3 p1 p2 p3 p4 n u (nI v) = some x ∧ zE (fun o => o = 63) w x ∧ ∀ i, i < 12 → x.1 63 i = nI zN9 := by
  intro m
  induction m with
  | zero =>
    intro v w u hv hE hA n hn
    obtain ⟨n, rfl⟩ : ∃ z, n = z + 1 := ⟨n - 1, by omega⟩
    rw [lpX7_find_3, zL12, if_pos ((nI_leI (by omega) (by omega)).mpr (by omega))]
    exact ⟨u, rfl, hE, fun i hi => hA i (by omega)⟩
  | succ m ih =>
    intro v w u hv hE hA n hn
    obtain ⟨n, rfl⟩ : ∃ z, n = z + 1 := ⟨n - 1, by omega⟩
    rw [lpX7_find_3, zL12, if_neg (fun x => by have := (nI_leI (by omega) (by omega)).mp x; omega), zwr_nI (by omega) (by omega), Option.bind_some, nI_1]
    refine ih (v + 1) w _ (by omega) (hE.trs (zE.sf0 rfl)) (fun i hi => ?_) n (by omega)
    by_cases c : i = v
    · subst c; rw [zsf_same]; rfl
    · rw [zsf_k c, hA i (by omega)]
theorem mx_flies (hS : zWf S) (hM : zMX w 61 S) (hk : k < 6) (h0 : 0 < zNv S) : fX7_flies w (nI k) = some (if zBl S k = true then 1 else 0) := by
  have p4 : (nI k = 4) = (k = 4) := propext (by rw [zL4]; exact nI_eq (by omega) (by omega))
  have p5 : (nI k = 5) = (k = 5) := propext (by rw [zL5]; exact nI_eq (by omega) (by omega))
  unfold fX7_flies zBl zTk
  simp only [p4, p5, mx_peak hS hM, Option.bind_some, mx_hm hS hM (zPeak_lt h0)]
  by_cases c5 : k = 5
  · subst c5; rfl
  · by_cases c4 : k = 4
    · subst c4
      cases zHm S (zPeak S) <;> rfl
    · simp [c4, c5]
theorem zSm_bd {B : Nat → Nat} {M : Nat} (h : ∀ v, v < 12 → B v ≤ M) : zSm B 12 ≤ 12 * M := by
  have key : ∀ n, n ≤ 12 → zSm B n ≤ n * M := by
    intro n
    induction n with
    | zero => intro _; exact Nat.zero_le _
    | succ n ih =>
      intro hn
      have := ih (by omega)
      have := h n (by omega)
      have e : zSm B (n + 1) = zSm B n + B n := rfl
      rw [e, Nat.succ_mul]
      omega
  exact key 12 (Nat.le_refl _)
/-- the whole search: from a on day t -/
theorem rx_all (hS : zWf S) (hk : k < 6) {a t : Nat} (ha : a < zNv S) (ht : t ≤ 500000) (by' : Bool) (hQ : zQR S k Q) (hQB : (by' && zBl S k) = true → zQB S Q) (hq0 : Q a t) (hM : zMX w 61 S) : ∃ C u, fX7_find w (nI k) (nI a) (nI t) (if by' = true then 1 else 0) = some u ∧ zE (fun o => o = 63) w u ∧ zBs u C ∧ zQI Q (zNv S) C ∧ C a ≤ t ∧ zCl S k (by' && zBl S k) C := by
  have z9 : zN9 = 1000000000 := rfl
  have nv := hS.nv
  have h0 : 0 < zNv S := by omega
  obtain ⟨x, x1, x2, x3⟩ := rx_init (p1 := nI k) (p2 := nI a) (p3 := nI t) (p4 := if by' = true then 1 else 0) 12 0 w w (by omega) zE.rfl (fun i hi => absurd hi (by omega)) zF (by unfold zF; omega)
  have x1' : lpX7_find_3 (nI k) (nI a) (nI t) (if by' = true then 1 else 0) zF w 0 = some x := x1
  have E1 : zE (fun o => o = 63) w (zsf x 63 a (nI t)) := x2.trs (zE.sf0 rfl)
  have hM1 := hM.e63 E1
  have B1 : zBs (zsf x 63 a (nI t)) (zRx (fun _ => zN9) a t) := zBs.rx (B := fun _ => zN9) (fun v hv => ⟨x3 v hv, Nat.le_refl _⟩) (by omega)
  have I1 : zQI Q (zNv S) (zRx (fun _ => zN9) a t) := by
    intro v hv h
    have h : (if v = a then t else zN9) < zN9 := h
    show Q v (if v = a then t else zN9)
    by_cases c : v = a
    · subst c; rw [if_pos rfl]; exact hq0
    · rw [if_neg c] at h; omega
  have sm := zSm_bd (B := zRx (fun _ => zN9) a t) (M := zN9) (fun v _ => by
    show (if v = a then t else zN9) ≤ zN9
    split <;> omega)
  obtain ⟨C, u, c1, c2, c3, c4, c5, c6⟩ := rx_find hS hk h0 (by' && zBl S k) hQ hQB (zSm (zRx (fun _ => zN9) a t) 12 + 1) _ _ (by omega) hM1 B1 I1 zF (by unfold zF; omega)
  refine ⟨C, u, ?_, E1.trs c2, c3, c4, ?_, c6⟩
  · unfold fX7_find
    rw [x1', Option.bind_some, zwr_nI (by omega) (by omega), Option.bind_some, mx_flies hS hM1 hk h0]
    cases by' with
    | false =>
      rw [if_pos (by decide), Option.bind_some]
      rw [show (false && zBl S k) = false from rfl] at c1
      have c1' : lpX7_find_55 (nI k) 0 zF (zsf x 63 a (nI t)) 1 = some u := c1
      rw [c1', Option.bind_some]
    | true =>
      rw [if_neg (by decide), Option.bind_some]
      rw [show (true && zBl S k) = zBl S k from rfl] at c1
      have e : (if (if zBl S k = true then (1 : Int32) else 0) = 0 then some (0 : Int32) else some 1) = some (if zBl S k = true then 1 else 0) := by cases zBl S k <;> rfl
      rw [e, Option.bind_some, c1, Option.bind_some]
  · have := c5 a
    have e : zRx (fun _ => zN9) a t a = t := if_pos rfl
    omega
end RELAX
