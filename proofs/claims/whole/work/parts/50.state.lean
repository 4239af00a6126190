/-! bits: pasted from kit/laws/BITS.to-paste -/
def bt (x : Int32) (i : Nat) : Bool := x.toBitVec.getLsbD i
theorem b_ext {x y : Int32} (h : ∀ i, i < 32 → bt x i = bt y i) : x = y := Int32.toBitVec_inj.mp (BitVec.eq_of_getLsbD_eq (fun i hi => h i hi))
theorem b_or (x y : Int32) (i : Nat) : bt (x ||| y) i = (bt x i || bt y i) := by unfold bt; rw [Int32.toBitVec_or, BitVec.getLsbD_or]
theorem b_and (x y : Int32) (i : Nat) : bt (x &&& y) i = (bt x i && bt y i) := by unfold bt; rw [Int32.toBitVec_and, BitVec.getLsbD_and]
theorem b_xor (x y : Int32) (i : Nat) : bt (x ^^^ y) i = (bt x i ^^ bt y i) := by unfold bt; rw [Int32.toBitVec_xor, BitVec.getLsbD_xor]
theorem b_big {x : Int32} {i : Nat} (h : 32 ≤ i) : bt x i = false := BitVec.getLsbD_of_ge _ _ h
theorem b_255 (i : Nat) : bt 255 i = decide (i < 8) := by
  rcases Nat.lt_or_ge i 32 with h | h
  · exact (by decide +kernel : ∀ i, i < 32 → bt 255 i = decide (i < 8)) i h
  · rw [b_big h, decide_eq_false (by omega)]
theorem b_65535 (i : Nat) : bt 65535 i = decide (i < 16) := by
  rcases Nat.lt_or_ge i 32 with h | h
  · exact (by decide +kernel : ∀ i, i < 32 → bt 65535 i = decide (i < 16)) i h
  · rw [b_big h, decide_eq_false (by omega)]
theorem b_m1 : ∀ i, i < 32 → bt (-1) i = true := by decide +kernel
theorem b_0 (i : Nat) : bt 0 i = false := BitVec.getLsbD_zero
theorem s_l : ∀ n, n < 32 → ((nI n &&& 31).toBitVec.smod 32).toNat = n := by decide +kernel
theorem s_u : ∀ n, n < 32 → (((nI n).toUInt32 &&& Int32.toUInt32 31).toBitVec % 32).toNat = n := by decide +kernel
theorem b_shl (n : Nat) (hn : n < 32) (x : Int32) {i : Nat} (hi : i < 32) : bt (x <<< (nI n &&& 31)) i = (decide (n ≤ i) && bt x (i - n)) := by
  unfold bt
  rw [Int32.toBitVec_shiftLeft]
  show (x.toBitVec <<< ((nI n &&& 31).toBitVec.smod 32).toNat).getLsbD i = _
  rw [s_l n hn, BitVec.getLsbD_shiftLeft]
  rcases Nat.lt_or_ge i n with h | h
  · simp [h, Nat.not_le.mpr h]
  · simp [hi, h, Nat.not_lt.mpr h]
theorem b_ushr (n : Nat) (hn : n < 32) (x : Int32) (i : Nat) : bt ((x.toUInt32 >>> ((nI n).toUInt32 &&& Int32.toUInt32 31)).toInt32) i = bt x (n + i) := by
  show (x.toUInt32 >>> ((nI n).toUInt32 &&& Int32.toUInt32 31)).toBitVec.getLsbD i = x.toUInt32.toBitVec.getLsbD (n + i)
  rw [UInt32.toBitVec_shiftRight]
  show (x.toUInt32.toBitVec >>> (((nI n).toUInt32 &&& Int32.toUInt32 31).toBitVec % 32).toNat).getLsbD i = _
  rw [s_u n hn, BitVec.getLsbD_ushiftRight]
theorem b_sshr (n : Nat) (hn : n < 32) (x : Int32) {i : Nat} (hi : i < 32) : bt (x >>> (nI n &&& 31)) i = if n + i < 32 then bt x (n + i) else bt x 31 := by
  unfold bt
  rw [Int32.toBitVec_shiftRight]
  show (x.toBitVec.sshiftRight ((nI n &&& 31).toBitVec.smod 32).toNat).getLsbD i = _
  rw [s_l n hn, BitVec.getLsbD_sshiftRight, BitVec.msb_eq_getLsbD_last]
  simp [hi]
/-! THE LAND, as numbers: ((villages, roads, letters, every, day), height, hermit's, road (one, other, days), letter (kind, at, to, sent, left)) -/
abbrev zLd : Type := (Nat × Nat × Nat × Nat × Nat) × (Nat → Nat) × (Nat → Bool) × (Nat → Nat × Nat × Nat) × (Nat → Nat × Nat × Nat × Nat × Nat)
abbrev zNv (S : zLd) : Nat := S.1.1
abbrev zNr (S : zLd) : Nat := S.1.2.1
abbrev zNl (S : zLd) : Nat := S.1.2.2.1
abbrev zEv (S : zLd) : Nat := S.1.2.2.2.1
abbrev zDy (S : zLd) : Nat := S.1.2.2.2.2
abbrev zHt (S : zLd) (v : Nat) : Nat := S.2.1 v
abbrev zHm (S : zLd) (v : Nat) : Bool := S.2.2.1 v
abbrev zOn (S : zLd) (r : Nat) : Nat := (S.2.2.2.1 r).1
abbrev zOt (S : zLd) (r : Nat) : Nat := (S.2.2.2.1 r).2.1
abbrev zLn (S : zLd) (r : Nat) : Nat := (S.2.2.2.1 r).2.2
abbrev zKd (S : zLd) (l : Nat) : Nat := (S.2.2.2.2 l).1
abbrev zPl (S : zLd) (l : Nat) : Nat := (S.2.2.2.2 l).2.1
abbrev zTo (S : zLd) (l : Nat) : Nat := (S.2.2.2.2 l).2.2.1
abbrev zSn (S : zLd) (l : Nat) : Nat := (S.2.2.2.2 l).2.2.2.1
abbrev zLf (S : zLd) (l : Nat) : Nat := (S.2.2.2.2 l).2.2.2.2
def zWf (S : zLd) : Prop := zNv S ≤ 12 ∧ zNr S ≤ 24 ∧ zNl S ≤ 10 ∧ (1 ≤ zEv S ∧ zEv S ≤ 99) ∧ zDy S ≤ 9999 ∧ (∀ v, v < zNv S → zHt S v ≤ 9999) ∧ (∀ r, r < zNr S → zOn S r < zNv S ∧ zOt S r < zNv S ∧ zOn S r ≠ zOt S r ∧ 1 ≤ zLn S r ∧ zLn S r ≤ 9) ∧ (∀ r q, r < zNr S → q < zNr S → (zOn S r = zOn S q ∧ zOt S r = zOt S q ∨ zOn S r = zOt S q ∧ zOt S r = zOn S q) → r = q) ∧ (∀ l, l < zNl S → zKd S l < 6 ∧ zPl S l < zNv S ∧ zTo S l < zNv S ∧ zSn S l ≤ 9999 ∧ zLf S l ≤ 18)
theorem zWf.nv {S : zLd} (h : zWf S) : zNv S ≤ 12 := h.1
theorem zWf.nr {S : zLd} (h : zWf S) : zNr S ≤ 24 := h.2.1
theorem zWf.nl {S : zLd} (h : zWf S) : zNl S ≤ 10 := h.2.2.1
theorem zWf.ev {S : zLd} (h : zWf S) : 1 ≤ zEv S ∧ zEv S ≤ 99 := h.2.2.2.1
theorem zWf.dy {S : zLd} (h : zWf S) : zDy S ≤ 9999 := h.2.2.2.2.1
theorem zWf.ht {S : zLd} (h : zWf S) : ∀ v, v < zNv S → zHt S v ≤ 9999 := h.2.2.2.2.2.1
theorem zWf.rd {S : zLd} (h : zWf S) : ∀ r, r < zNr S → zOn S r < zNv S ∧ zOt S r < zNv S ∧ zOn S r ≠ zOt S r ∧ 1 ≤ zLn S r ∧ zLn S r ≤ 9 := h.2.2.2.2.2.2.1
theorem zWf.un {S : zLd} (h : zWf S) : ∀ r q, r < zNr S → q < zNr S → (zOn S r = zOn S q ∧ zOt S r = zOt S q ∨ zOn S r = zOt S q ∧ zOt S r = zOn S q) → r = q := h.2.2.2.2.2.2.2.1
theorem zWf.lt {S : zLd} (h : zWf S) : ∀ l, l < zNl S → zKd S l < 6 ∧ zPl S l < zNv S ∧ zTo S l < zNv S ∧ zSn S l ≤ 9999 ∧ zLf S l ≤ 18 := h.2.2.2.2.2.2.2.2
/-- the class's land at place o is S -/
def zCX (w : zW) (o : Nat) (S : zLd) : Prop := (w.1 o 0 = nI (zNv S) ∧ w.1 o 3 = nI (zNr S) ∧ w.1 o 9 = nI (zNl S) ∧ w.1 o 7 = nI (zEv S) ∧ w.1 o 8 = nI (zDy S)) ∧ (∀ v, v < zNv S → w.1 (o + 1) v = nI (zHt S v) ∧ bt (w.1 o 2) v = zHm S v) ∧ (∀ r, r < zNr S → w.1 (o + 2) r = nI (zOn S r) ∧ w.1 (o + 3) r = nI (zOt S r) ∧ w.1 (o + 4) r = nI (zLn S r)) ∧ (∀ l, l < zNl S → w.1 (o + 5) l = nI (zKd S l) ∧ w.1 (o + 6) l = nI (zPl S l) ∧ w.1 (o + 7) l = nI (zTo S l) ∧ w.1 (o + 8) l = nI (zSn S l) ∧ w.1 (o + 9) l = nI (zLf S l))
/-- the reference's row at place p is S -/
def zMX (w : zW) (p : Nat) (S : zLd) : Prop := (w.1 p 0 = nI (zNv S) ∧ w.1 p 1 = nI (zNr S) ∧ w.1 p 2 = nI (zNl S) ∧ w.1 p 3 = nI (zEv S) ∧ w.1 p 4 = nI (zDy S)) ∧ (∀ v, v < zNv S → w.1 p (5 + 2 * v) = nI (zHt S v) ∧ w.1 p (5 + 2 * v + 1) = if zHm S v then 1 else 0) ∧ (∀ r, r < zNr S → w.1 p (29 + 3 * r) = nI (zOn S r) ∧ w.1 p (29 + 3 * r + 1) = nI (zOt S r) ∧ w.1 p (29 + 3 * r + 2) = nI (zLn S r)) ∧ (∀ l, l < zNl S → w.1 p (101 + 5 * l) = nI (zKd S l) ∧ w.1 p (101 + 5 * l + 1) = nI (zPl S l) ∧ w.1 p (101 + 5 * l + 2) = nI (zTo S l) ∧ w.1 p (101 + 5 * l + 3) = nI (zSn S l) ∧ w.1 p (101 + 5 * l + 4) = nI (zLf S l))
theorem zCX.keep {w u : zW} {o : Nat} {S : zLd} (h : zCX w o S) (e : ∀ j, j < 10 → u.1 (o + j) = w.1 (o + j)) : zCX u o S := by
  unfold zCX
  have e0 := e 0 (by omega)
  rw [Nat.add_zero] at e0
  rw [e0, e 1 (by omega), e 2 (by omega), e 3 (by omega), e 4 (by omega), e 5 (by omega), e 6 (by omega), e 7 (by omega), e 8 (by omega), e 9 (by omega)]
  exact h
theorem zMX.keep {w u : zW} {p : Nat} {S : zLd} (h : zMX w p S) (e : u.1 p = w.1 p) : zMX u p S := by
  unfold zMX
  rw [e]
  exact h
/-- counts of findings -/
def zTl (w : zW) : Prop := ∀ k, k < 7 → w.1 46 k = w.1 62 k
/-- the tape -/
def zTp (w : zW) : Prop := ∃ n : Nat, n ≤ 120 ∧ w.1 43 1 = nI n ∧ w.1 60 7 = nI n ∧ ∀ i, i < n → ∃ b : Nat, b < 256 ∧ w.1 44 i = nI b ∧ w.1 65 i = nI b
/-- the sheets -/
def zSh (w : zW) : Prop := ∀ s, s < 4 → ∃ b n : Nat, (b = 0 ∨ b = 8 ∨ b = 16 ∨ b = 64) ∧ n ≤ 40 ∧ (b = 0 → n = 0) ∧ w.1 (50 + 2 * s) 0 = nI b ∧ w.1 66 s = nI b ∧ w.1 (50 + 2 * s) 1 = nI n ∧ w.1 67 s = nI n ∧ ∀ i, i < 40 → w.2 (50 + 2 * s + 1) i = w.2 68 (40 * s + i)
/-- the image -/
def zIm (w : zW) : Prop := (w.1 0 7 = 0 ∧ w.1 60 20 = 0) ∨ (w.1 0 7 = 1 ∧ w.1 60 20 = 1 ∧ ∃ S, zWf S ∧ zCX w 20 S ∧ zMX w 70 S)
def zInv (w : zW) : Prop := (∃ S, zWf S ∧ zCX w 10 S ∧ zMX w 61 S) ∧ zTl w ∧ zTp w ∧ zSh w ∧ zIm w
theorem zTl.keep {w u : zW} (h : zTl w) (e1 : u.1 46 = w.1 46) (e2 : u.1 62 = w.1 62) : zTl u := by
  unfold zTl
  rw [e1, e2]
  exact h
theorem zTp.keep {w u : zW} (h : zTp w) (e1 : u.1 43 = w.1 43) (e2 : u.1 44 = w.1 44) (e3 : u.1 60 7 = w.1 60 7) (e4 : u.1 65 = w.1 65) : zTp u := by
  unfold zTp
  rw [e1, e2, e3, e4]
  exact h
theorem zSh.keep {w u : zW} (h : zSh w) (e1 : ∀ o, 50 ≤ o → o < 58 → u.1 o = w.1 o ∧ u.2 o = w.2 o) (e2 : u.1 66 = w.1 66) (e3 : u.1 67 = w.1 67) (e4 : u.2 68 = w.2 68) : zSh u := by
  intro s hs
  have a := e1 (50 + 2 * s) (by omega) (by omega)
  have b := e1 (50 + 2 * s + 1) (by omega) (by omega)
  rw [a.1, b.2, e2, e3, e4]
  exact h s hs
theorem zIm.keep {w u : zW} (h : zIm w) (e1 : u.1 0 7 = w.1 0 7) (e2 : u.1 60 20 = w.1 60 20) (e3 : ∀ j, j < 10 → u.1 (20 + j) = w.1 (20 + j)) (e4 : u.1 70 = w.1 70) : zIm u := by
  rcases h with ⟨a, b⟩ | ⟨a, b, S, hS, c, d⟩
  · exact Or.inl ⟨e1.trans a, e2.trans b⟩
  · exact Or.inr ⟨e1.trans a, e2.trans b, S, hS, c.keep e3, d.keep e4⟩
/-! numbers -/
theorem zL0 : (0 : Int32) = nI 0 := rfl
theorem zL1 : (1 : Int32) = nI 1 := rfl
theorem zL2 : (2 : Int32) = nI 2 := rfl
theorem zL3 : (3 : Int32) = nI 3 := rfl
theorem zL4 : (4 : Int32) = nI 4 := rfl
theorem zL5 : (5 : Int32) = nI 5 := rfl
theorem zL6 : (6 : Int32) = nI 6 := rfl
theorem zL7 : (7 : Int32) = nI 7 := rfl
theorem zL8 : (8 : Int32) = nI 8 := rfl
theorem zL9 : (9 : Int32) = nI 9 := rfl
theorem zL10 : (10 : Int32) = nI 10 := rfl
theorem zL12 : (12 : Int32) = nI 12 := rfl
theorem zL16 : (16 : Int32) = nI 16 := rfl
theorem zL20 : (20 : Int32) = nI 20 := rfl
theorem zL24 : (24 : Int32) = nI 24 := rfl
theorem zL29 : (29 : Int32) = nI 29 := rfl
theorem zL40 : (40 : Int32) = nI 40 := rfl
theorem zL41 : (41 : Int32) = nI 41 := rfl
theorem zL64 : (64 : Int32) = nI 64 := rfl
theorem zL99 : (99 : Int32) = nI 99 := rfl
theorem zL101 : (101 : Int32) = nI 101 := rfl
theorem zL120 : (120 : Int32) = nI 120 := rfl
theorem zL151 : (151 : Int32) = nI 151 := rfl
theorem zL200 : (200 : Int32) = nI 200 := rfl
theorem zL255 : (255 : Int32) = nI 255 := rfl
theorem zL9799 : (9799 : Int32) = nI 9799 := rfl
theorem zL9999 : (9999 : Int32) = nI 9999 := rfl
theorem zL10000 : (10000 : Int32) = nI 10000 := rfl
theorem zL1000000 : (1000000 : Int32) = nI 1000000 := rfl
theorem zL1000000000 : (1000000000 : Int32) = nI 1000000000 := rfl
theorem zrd_nI {w : zW} {o n k : Nat} (h : k < n) (hn : n < 2 ^ 31) : zrd w o n (nI k) = some (w.1 o k) := by
  unfold zrd
  rw [if_neg (nI_in h hn), nI_clamp (by omega)]
theorem zrl_nI {w : zW} {o n k : Nat} (h : k < n) (hn : n < 2 ^ 31) : zrl w o n (nI k) = some (w.2 o k) := by
  unfold zrl
  rw [if_neg (nI_in h hn), nI_clamp (by omega)]
theorem zwr_nI {w : zW} {o n k : Nat} {x : Int32} (h : k < n) (hn : n < 2 ^ 31) : zwr w o n (nI k) x = some (zsf w o k x) := by
  unfold zwr
  rw [if_neg (nI_in h hn), nI_clamp (by omega)]
theorem zwl_nI {w : zW} {o n k : Nat} {x : Int64} (h : k < n) (hn : n < 2 ^ 31) : zwl w o n (nI k) x = some (zsg w o k x) := by
  unfold zwl
  rw [if_neg (nI_in h hn), nI_clamp (by omega)]
theorem zsf_same {w : zW} {o k : Nat} {v : Int32} : (zsf w o k v).1 o k = v := by simp [zsf]
theorem zsf_o {w : zW} {o k a : Nat} {v : Int32} (h : a ≠ o) : (zsf w o k v).1 a = w.1 a := by funext b; simp [zsf, h]
theorem zsf_k {w : zW} {o k a b : Nat} {v : Int32} (h : b ≠ k) : (zsf w o k v).1 a b = w.1 a b := by simp [zsf, h]
theorem zsf_2 {w : zW} {o k : Nat} {v : Int32} : (zsf w o k v).2 = w.2 := rfl
theorem zsg_1 {w : zW} {o k : Nat} {v : Int64} : (zsg w o k v).1 = w.1 := rfl
theorem zsg_same {w : zW} {o k : Nat} {v : Int64} : (zsg w o k v).2 o k = v := by simp [zsg]
theorem zsg_o {w : zW} {o k a : Nat} {v : Int64} (h : a ≠ o) : (zsg w o k v).2 a = w.2 a := by funext b; simp [zsg, h]
theorem zsg_k {w : zW} {o k a b : Nat} {v : Int64} (h : b ≠ k) : (zsg w o k v).2 a b = w.2 a b := by simp [zsg, h]
/-- findings: the code of number k -/
def zfc (k : Nat) : Int32 := (-1000000001 : Int32) - nI k
theorem zfc_0 : zfc 0 = (-1000000001 : Int32) := by decide
theorem zfc_1 : zfc 1 = (-1000000002 : Int32) := by decide
theorem zfc_2 : zfc 2 = (-1000000003 : Int32) := by decide
theorem zfc_3 : zfc 3 = (-1000000004 : Int32) := by decide
theorem zfc_4 : zfc 4 = (-1000000005 : Int32) := by decide
theorem zfc_5 : zfc 5 = (-1000000006 : Int32) := by decide
theorem zfc_6 : zfc 6 = (-1000000007 : Int32) := by decide
theorem zfc_d : ∀ k, k < 7 → (-1000000001 : Int32) - zfc k = nI k := by decide +kernel
/-- a finding, in the class's counts and in the reference's -/
def zff (w : zW) (k : Nat) : zW := zsf w 46 k (w.1 46 k + 1)
def zfg (w : zW) (k : Nat) : zW := zsf w 62 k (w.1 62 k + 1)
theorem x6_finding {w : zW} {k : Nat} (hk : k < 7) : fX6_finding w (zfc k) = some (zfc k, zff w k) := by
  unfold fX6_finding
  rw [Option.bind_some, zfc_d k hk, if_neg (nI_pos (by omega)), if_neg (by rw [zL7, nI_leI (by omega) (by omega)]; omega), zrd_nI hk (by omega), Option.bind_some, zwr_nI hk (by omega)]
  rfl
theorem x7_finds {w : zW} {k : Nat} (hk : k < 7) : fX7_finds w (zfc k) = some (zfc k, zfg w k) := by
  unfold fX7_finds
  rw [zfc_d k hk, zrd_nI hk (by omega), Option.bind_some, zwr_nI hk (by omega)]
  rfl
theorem zInv.find {w : zW} {k : Nat} (h : zInv w) (hk : k < 7) : zInv (zfg (zff w k) k) := by
  obtain ⟨⟨S, a, b, c⟩, d, e, f, g⟩ := h
  have q : ∀ o, o ≠ 46 → o ≠ 62 → (zfg (zff w k) k).1 o = w.1 o := fun o h1 h2 => by unfold zfg zff; rw [zsf_o h2, zsf_o h1]
  refine ⟨⟨S, a, b.keep (fun j hj => q _ (by omega) (by omega)), c.keep (q _ (by omega) (by omega))⟩, ?_, e.keep (q _ (by omega) (by omega)) (q _ (by omega) (by omega)) (by rw [q _ (by omega) (by omega)]) (q _ (by omega) (by omega)), f.keep (fun o h1 h2 => ⟨q _ (by omega) (by omega), rfl⟩) (q _ (by omega) (by omega)) (q _ (by omega) (by omega)) rfl, g.keep (by rw [q _ (by omega) (by omega)]) (by rw [q _ (by omega) (by omega)]) (fun j hj => q _ (by omega) (by omega)) (q _ (by omega) (by omega))⟩
  intro j hj
  have e1 : (zfg (zff w k) k).1 46 = (zff w k).1 46 := by unfold zfg; rw [zsf_o (by omega)]
  have e2 : (zff w k).1 62 = w.1 62 := by unfold zff; rw [zsf_o (by omega)]
  rw [e1]
  by_cases q : j = k
  · subst q
    unfold zfg
    rw [zsf_same, e2]
    unfold zff
    rw [zsf_same, d j hj]
  · unfold zfg
    rw [zsf_k q, e2]
    unfold zff
    rw [zsf_k q, d j hj]
/-- an operation: class and reference, one behind the other -/
def zOp (F G : zW → Option (Int32 × zW)) : Prop := ∀ w, zInv w → ∃ r u v, F w = some (r, u) ∧ G u = some (r, v) ∧ zInv v
