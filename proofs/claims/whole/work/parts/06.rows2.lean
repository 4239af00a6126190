def zva (w : zW) (o k q : Nat) : Value := match q with
  | 0 => .int (w.1 o k)
  | 1 => .long (w.2 o k)
  | q + 2 => .ref q
theorem zval_tr (ad : Nat → Nat) (w : zW) (o k q : Nat) : zval ad w o k q = ztr ad (zva w o k q) := by
  match q with
  | 0 => rfl
  | 1 => rfl
  | q + 2 => rfl
theorem zfs_set {ad : Nat → Nat} {w w' : zW} {o : Nat} {k : Nat} {v : Value} : ∀ (qs : List Nat) (b : Nat), (∀ i q, qs[i]? = some q → b + i ≠ k → zval ad w' o (b + i) q = zval ad w o (b + i) q) → (∀ i q, qs[i]? = some q → b + i = k → zval ad w' o (b + i) q = v) → b ≤ k → (zfs ad w o b qs).set (k - b) v = zfs ad w' o b qs := by
  intro qs
  induction qs with
  | nil => intro b _ _ _; rfl
  | cons q qs ih =>
    intro b h1 h2 hb
    by_cases e : b = k
    · subst e
      have e1 : zval ad w' o b q = v := h2 0 q rfl rfl
      have e2 : zfs ad w o (b + 1) qs = zfs ad w' o (b + 1) qs := by
        apply List.ext_getElem?
        intro i
        rw [zfs_get, zfs_get]
        cases hq : qs[i]? with
        | none => rfl
        | some z => simp only [Option.map_some]; rw [show b + 1 + i = b + (i + 1) by omega, h1 (i + 1) z (by simpa using hq) (by omega)]
      simp [zfs, e1, e2]
    · have hs : k - b = (k - (b + 1)) + 1 := by omega
      have e1 : zval ad w' o b q = zval ad w o b q := h1 0 q rfl e
      have e2 := ih (b + 1) (fun i z hz hn => by rw [show b + 1 + i = b + (i + 1) by omega]; exact h1 (i + 1) z (by simpa using hz) (by omega)) (fun i z hz hn => by rw [show b + 1 + i = b + (i + 1) by omega]; exact h2 (i + 1) z (by simpa using hz) (by omega)) (by omega)
      rw [hs]
      simp [zfs, e1, e2]
theorem zfs_setI {ad : Nat → Nat} {w : zW} {o k : Nat} {x : Int32} {qs : List Nat} (hq : qs[k]? = some 0) : (zfs ad w o 0 qs).set k (.int x) = zfs ad (zsf w o k x) o 0 qs := by
  have := zfs_set (ad := ad) (w := w) (w' := zsf w o k x) (o := o) (k := k) (v := .int x) qs 0 (fun i q hi hn => by
    match q with
    | 0 => simp [zval, zsf]; intro h; omega
    | 1 => rfl
    | q + 2 => rfl) (fun i q hi hn => by
    have : i = k := by omega
    subst this
    rw [hq] at hi
    cases hi
    simp [zval, zsf]) (Nat.zero_le _)
  simpa using this
theorem zfs_setJ {ad : Nat → Nat} {w : zW} {o k : Nat} {x : Int64} {qs : List Nat} (hq : qs[k]? = some 1) : (zfs ad w o 0 qs).set k (.long x) = zfs ad (zsg w o k x) o 0 qs := by
  have := zfs_set (ad := ad) (w := w) (w' := zsg w o k x) (o := o) (k := k) (v := .long x) qs 0 (fun i q hi hn => by
    match q with
    | 0 => rfl
    | 1 => simp [zval, zsg]; intro h; omega
    | q + 2 => rfl) (fun i q hi hn => by
    have : i = k := by omega
    subst this
    rw [hq] at hi
    cases hi
    simp [zval, zsg]) (Nat.zero_le _)
  simpa using this
def zrd (w : zW) (o n : Nat) (i : Int32) : Option Int32 := if i < 0 ∨ n ≤ i.toNatClampNeg then none else some (w.1 o i.toNatClampNeg)
def zrl (w : zW) (o n : Nat) (i : Int32) : Option Int64 := if i < 0 ∨ n ≤ i.toNatClampNeg then none else some (w.2 o i.toNatClampNeg)
def zwr (w : zW) (o n : Nat) (i x : Int32) : Option zW := if i < 0 ∨ n ≤ i.toNatClampNeg then none else some (zsf w o i.toNatClampNeg x)
def zwl (w : zW) (o n : Nat) (i : Int32) (x : Int64) : Option zW := if i < 0 ∨ n ≤ i.toNatClampNeg then none else some (zsg w o i.toNatClampNeg x)
/-- an index of a row of N that nobody writes -/
def zix (n : Nat) (i : Int32) : Option Nat := if i < 0 ∨ n ≤ i.toNatClampNeg then none else some i.toNatClampNeg
def zgb (v : Int32) : Option Int32 := if v = 0 ∨ v = 1 then some v else none
def zdiv (x y : Int32) : Option Int32 := if y = 0 then none else some (x / y)
def zrem (x y : Int32) : Option Int32 := if y = 0 then none else some (x - x / y * y)
def zmin (x y : Int32) : Int32 := if y < x then y else x
def zmax (x y : Int32) : Int32 := if x < y then y else x
def zcpi (w : zW) (o1 n1 : Nat) (sp : Int32) (o2 n2 : Nat) (dp n : Int32) : Option zW :=
  if sp < 0 ∨ dp < 0 ∨ n < 0 ∨ n1 < sp.toNatClampNeg + n.toNatClampNeg ∨ n2 < dp.toNatClampNeg + n.toNatClampNeg then none else some (zcf w o2 (va_cpy (w.1 o1) (w.1 o2) sp.toNatClampNeg dp.toNatClampNeg n.toNatClampNeg))
def zcpl (w : zW) (o1 n1 : Nat) (sp : Int32) (o2 n2 : Nat) (dp n : Int32) : Option zW :=
  if sp < 0 ∨ dp < 0 ∨ n < 0 ∨ n1 < sp.toNatClampNeg + n.toNatClampNeg ∨ n2 < dp.toNatClampNeg + n.toNatClampNeg then none else some (zcg w o2 (va_cpy (w.2 o1) (w.2 o2) sp.toNatClampNeg dp.toNatClampNeg n.toNatClampNeg))
theorem zbind {α β : Type} {x : Option α} {f : α → Option β} {r : β} (h : x.bind f = some r) : ∃ a, x = some a ∧ f a = some r := by
  cases x with
  | none => cases h
  | some a => exact ⟨a, rfl, h⟩
theorem zite_t {α : Type} {c : Prop} [Decidable c] {a b r : α} (hc : c) (h : (if c then a else b) = r) : a = r := by rw [if_pos hc] at h; exact h
theorem zite_f {α : Type} {c : Prop} [Decidable c] {a b r : α} (hc : ¬ c) (h : (if c then a else b) = r) : b = r := by rw [if_neg hc] at h; exact h
section ZROWS2
variable {own : String} {cc : ByteArray} {B : zB} {pc : Nat} {ls : List (Option Value)} {st : List Value} {w : zW}
theorem zs_get {ci i k q o N : Nat} {C : String} {T : u_T} {fk : List Nat} (hc : vwCl[ci]? = some (C, T, N)) (hin : ∀ w ∈ u_ws C T N, w ∈ zT) (hk : k < N) (hl : Cond.fieldLink own i C (T k).2.1 (T k).2.2.1 ∈ zT) (hT : (T k).1 = C) (ha : zAt o (0, ci, fk)) (hq : fk[k]? = some q) (hd : decode cc pc = .ok (.getfield i, 3))
    {v : Value} (hv : zva w o k q = v) (kk : zWP own cc B (pc + 3) ls (v :: st) w) : zWP own cc B pc ls (.ref o :: st) w := by
  intro p l e s m args below meth c D ad c3 H locs la hC hP hS hL
  obtain ⟨j, hj⟩ := ha.ix
  have he := zws_get (ad := ad) (c3 := c3) (w := w) hj
  rw [ha.cell] at he
  refine va_get hC.1 hC.2.1 hC.2.2.2.2.2.2.1 hin hC.2.2.2.2.2.1 hC.2.2.2.2.2.2.2.2.1 hP j he hc k hk (hC.2.2.2.2.2.2.1 _ hl) (fun x h => hT ▸ h) (v := ztr ad v) ?_ hd (kk p l e s m args below meth c D ad c3 H locs la hC hP hS hL)
  rw [zfs_get, hq, ← hv]
  simp only [Option.map_some, Nat.zero_add]
  rw [zval_tr]
theorem zs_putI {ci i k o N : Nat} {C : String} {T : u_T} {fk : List Nat} (hc : vwCl[ci]? = some (C, T, N)) (hin : ∀ w ∈ u_ws C T N, w ∈ zT) (ty0 : Nat → FieldType) (hty : ∀ k, k < N → parseFieldDescriptor (T k).2.2.1 = some (ty0 k)) (hnm : ∀ a, a < N → ∀ b, b < N → a ≠ b → (T a).2.1 ≠ (T b).2.1) (hk : k < N) (hl : Cond.fieldLink own i C (T k).2.1 (T k).2.2.1 ∈ zT) (hT : (T k).1 = C) (hfin : (T k).2.2.2 = false) (ha : zAt o (0, ci, fk)) (hq : fk[k]? = some 0) (hd : decode cc pc = .ok (.putfield i, 3))
    {v : Int32} (hn : narrow (ty0 k) (.int v) = .int v) (hfit : fits (ty0 k) (.int v) = true) (kk : zWP own cc B (pc + 3) ls st (zsf w o k v)) : zWP own cc B pc ls (.int v :: .ref o :: st) w := by
  intro p l e s m args below meth c D ad c3 H locs la hC hP hS hL
  obtain ⟨j, hj⟩ := ha.ix
  have he := zws_get (ad := ad) (c3 := c3) (w := w) hj
  rw [ha.cell] at he
  refine va_put hC.1 hC.2.1 hC.2.2.2.2.2.2.1 hin ty0 hty hnm hC.2.2.2.2.2.1 hC.2.2.2.2.2.2.2.2.1 hP (zD hC.2.2.2.2.2.2.2.1 hC.2.2.2.2.2.2.2.2.2.2.1) hS j he hc k hk (hC.2.2.2.2.2.2.1 _ hl) (fun x h => hT ▸ h) hfin (hty k hk) hn hfit (by rw [zfs_len]; exact (List.getElem?_eq_some_iff.mp hq).1) hd (fun H1 locs1 h1 _ h3 => kk p l e s m args below meth c D ad c3 H1 locs1 la hC ?_ h3 hL)
  have e : (zws ad c3 w).set j (ad o, Sum.inr (ci, (zfs ad w o 0 fk).set k (.int v))) = zws ad c3 (zsf w o k v) := by
    rw [zfs_setI hq]
    have := zws_set (ad := ad) (c3 := c3) (w := w) (w' := zsf w o k v) hj zcell_sf
    rw [ha.cell] at this
    exact this
  exact e ▸ h1
theorem zs_putJ {ci i k o N : Nat} {C : String} {T : u_T} {fk : List Nat} (hc : vwCl[ci]? = some (C, T, N)) (hin : ∀ w ∈ u_ws C T N, w ∈ zT) (ty0 : Nat → FieldType) (hty : ∀ k, k < N → parseFieldDescriptor (T k).2.2.1 = some (ty0 k)) (hnm : ∀ a, a < N → ∀ b, b < N → a ≠ b → (T a).2.1 ≠ (T b).2.1) (hk : k < N) (hl : Cond.fieldLink own i C (T k).2.1 (T k).2.2.1 ∈ zT) (hT : (T k).1 = C) (hfin : (T k).2.2.2 = false) (ha : zAt o (0, ci, fk)) (hq : fk[k]? = some 1) (hd : decode cc pc = .ok (.putfield i, 3))
    {v : Int64} (hn : narrow (ty0 k) (.long v) = .long v) (hfit : fits (ty0 k) (.long v) = true) (kk : zWP own cc B (pc + 3) ls st (zsg w o k v)) : zWP own cc B pc ls (.long v :: .ref o :: st) w := by
  intro p l e s m args below meth c D ad c3 H locs la hC hP hS hL
  obtain ⟨j, hj⟩ := ha.ix
  have he := zws_get (ad := ad) (c3 := c3) (w := w) hj
  rw [ha.cell] at he
  refine va_put hC.1 hC.2.1 hC.2.2.2.2.2.2.1 hin ty0 hty hnm hC.2.2.2.2.2.1 hC.2.2.2.2.2.2.2.2.1 hP (zD hC.2.2.2.2.2.2.2.1 hC.2.2.2.2.2.2.2.2.2.2.1) hS j he hc k hk (hC.2.2.2.2.2.2.1 _ hl) (fun x h => hT ▸ h) hfin (hty k hk) hn hfit (by rw [zfs_len]; exact (List.getElem?_eq_some_iff.mp hq).1) hd (fun H1 locs1 h1 _ h3 => kk p l e s m args below meth c D ad c3 H1 locs1 la hC ?_ h3 hL)
  have e : (zws ad c3 w).set j (ad o, Sum.inr (ci, (zfs ad w o 0 fk).set k (.long v))) = zws ad c3 (zsg w o k v) := by
    rw [zfs_setJ hq]
    have := zws_set (ad := ad) (c3 := c3) (w := w) (w' := zsg w o k v) hj zcell_sg
    rw [ha.cell] at this
    exact this
  exact e ▸ h1
theorem zin {α : Type} {i : Int32} {n : Nat} {a : Option α} {v : α} (h : (if i < 0 ∨ n ≤ i.toNatClampNeg then none else a) = some v) : vp_in i n ∧ a = some v := by
  by_cases hc : i < 0 ∨ n ≤ i.toNatClampNeg
  · rw [if_pos hc] at h; cases h
  · rw [if_neg hc] at h; exact ⟨hc, h⟩
theorem zs_iald {o n : Nat} {i v : Int32} (hd : decode cc pc = .ok (.iaload, 1)) (ha : zAt o (1, n, [])) (h : zrd w o n i = some v) (kk : zWP own cc B (pc + 1) ls (.int v :: st) w) : zWP own cc B pc ls (.int i :: .ref o :: st) w := by
  intro p l e s m args below meth c D ad c3 H locs la hC hP hS hL
  obtain ⟨j, hj⟩ := ha.ix
  have he := zws_get (ad := ad) (c3 := c3) (w := w) hj
  rw [ha.cell] at he
  obtain ⟨h1, h2⟩ := zin h
  cases h2
  exact va_iald hC.1 hC.2.1 hC.2.2.2.2.2.2.2.2.1 hP j 0 he rfl h1 hd (kk p l e s m args below meth c D ad c3 H locs la hC hP hS hL)
theorem zs_lald {o n : Nat} {i : Int32} {v : Int64} (hd : decode cc pc = .ok (.laload, 1)) (ha : zAt o (2, n, [])) (h : zrl w o n i = some v) (kk : zWP own cc B (pc + 1) ls (.long v :: st) w) : zWP own cc B pc ls (.int i :: .ref o :: st) w := by
  intro p l e s m args below meth c D ad c3 H locs la hC hP hS hL
  obtain ⟨j, hj⟩ := ha.ix
  have he := zws_get (ad := ad) (c3 := c3) (w := w) hj
  rw [ha.cell] at he
  obtain ⟨h1, h2⟩ := zin h
  cases h2
  exact va_lald hC.1 hC.2.1 hC.2.2.2.2.2.2.2.2.1 hP j 1 he rfl h1 hd (kk p l e s m args below meth c D ad c3 H locs la hC hP hS hL)
theorem zs_iast {o n : Nat} {i v : Int32} {w' : zW} (hd : decode cc pc = .ok (.iastore, 1)) (ha : zAt o (1, n, [])) (h : zwr w o n i v = some w') (kk : zWP own cc B (pc + 1) ls st w') : zWP own cc B pc ls (.int v :: .int i :: .ref o :: st) w := by
  intro p l e s m args below meth c D ad c3 H locs la hC hP hS hL
  obtain ⟨j, hj⟩ := ha.ix
  have he := zws_get (ad := ad) (c3 := c3) (w := w) hj
  rw [ha.cell] at he
  obtain ⟨h1, h2⟩ := zin h
  cases h2
  refine va_iast hC.1 hC.2.1 hC.2.2.2.2.2.2.2.2.1 hP (zD hC.2.2.2.2.2.2.2.1 hC.2.2.2.2.2.2.2.2.2.2.1) hS j 0 he rfl h1 hd (fun H1 locs1 g1 _ g3 => kk p l e s m args below meth c D ad c3 H1 locs1 la hC ?_ g3 hL)
  have e : (zws ad c3 w).set j (ad o, Sum.inl (c3.1, n, .inl (upd (w.1 o) i.toNatClampNeg v))) = zws ad c3 (zsf w o i.toNatClampNeg v) := by
    have := zws_set (ad := ad) (c3 := c3) (w := w) (w' := zsf w o i.toNatClampNeg v) hj zcell_sf
    rw [ha.cell] at this
    rw [← this]
    have e2 : upd (w.1 o) i.toNatClampNeg v = (zsf w o i.toNatClampNeg v).1 o := by funext b; simp [upd, zsf]
    rw [e2]
    rfl
  exact e ▸ g1
theorem zs_last {o n : Nat} {i : Int32} {v : Int64} {w' : zW} (hd : decode cc pc = .ok (.lastore, 1)) (ha : zAt o (2, n, [])) (h : zwl w o n i v = some w') (kk : zWP own cc B (pc + 1) ls st w') : zWP own cc B pc ls (.long v :: .int i :: .ref o :: st) w := by
  intro p l e s m args below meth c D ad c3 H locs la hC hP hS hL
  obtain ⟨j, hj⟩ := ha.ix
  have he := zws_get (ad := ad) (c3 := c3) (w := w) hj
  rw [ha.cell] at he
  obtain ⟨h1, h2⟩ := zin h
  cases h2
  refine va_last hC.1 hC.2.1 hC.2.2.2.2.2.2.2.2.1 hP (zD hC.2.2.2.2.2.2.2.1 hC.2.2.2.2.2.2.2.2.2.2.1) hS j 1 he rfl h1 hd (fun H1 locs1 g1 _ g3 => kk p l e s m args below meth c D ad c3 H1 locs1 la hC ?_ g3 hL)
  have e : (zws ad c3 w).set j (ad o, Sum.inl (c3.2.1, n, .inr (.inl (vp_updL (w.2 o) i.toNatClampNeg v)))) = zws ad c3 (zsg w o i.toNatClampNeg v) := by
    have := zws_set (ad := ad) (c3 := c3) (w := w) (w' := zsg w o i.toNatClampNeg v) hj zcell_sg
    rw [ha.cell] at this
    rw [← this]
    have e2 : vp_updL (w.2 o) i.toNatClampNeg v = (zsg w o i.toNatClampNeg v).2 o := by funext b; simp [vp_updL, zsg]
    rw [e2]
    rfl
  exact e ▸ g1
theorem zs_aald {i : Int32} {n : Nat} (hd : decode cc pc = .ok (.aaload, 1)) (h : zix 4 i = some n) (kk : zWP own cc B (pc + 1) ls (.ref (50 + 2 * n) :: st) w) : zWP own cc B pc ls (.int i :: .ref 45 :: st) w := by
  intro p l e s m args below meth c D ad c3 H locs la hC hP hS hL
  have ha : zAt 45 (3, 4, [50, 52, 54, 56]) := ⟨by decide +kernel, by decide +kernel⟩
  obtain ⟨j, hj⟩ := ha.ix
  have he := zws_get (ad := ad) (c3 := c3) (w := w) hj
  rw [ha.cell] at he
  obtain ⟨h1, h2⟩ := zin h
  have h3 := kk p l e s m args below meth c D ad c3 H locs la hC hP hS hL
  refine va_aldq hC.1 hC.2.1 hC.2.2.2.2.2.2.2.2.1 hP j 2 he rfl h1 hd ?_
  have h4 : i.toNatClampNeg < 4 := Nat.lt_of_not_le (fun q => h1 (Or.inr q))
  cases h2
  have e : ∀ t : Nat, t < 4 → va_rf (([50, 52, 54, 56][t]?).map ad) = ztr ad (.ref (50 + 2 * t)) := by
    intro t ht
    match t, ht with
    | 0, _ => rfl
    | 1, _ => rfl
    | 2, _ => rfl
    | 3, _ => rfl
  rw [e _ h4]
  exact h3
end ZROWS2
