/-! ===== what the class's objects stand for ===== -/
/-- addresses: types, members, things, handles, columns, queries -/
abbrev qA : Type := (Nat → Nat) × (Nat → Nat) × (Nat → Nat) × (Nat → Nat) × (Nat → Nat) × (Nat → Nat)
abbrev aT (A : qA) : Nat → Nat := A.1
abbrev aB (A : qA) : Nat → Nat := A.2.1
abbrev aX (A : qA) : Nat → Nat := A.2.2.1
abbrev aH (A : qA) : Nat → Nat := A.2.2.2.1
abbrev aK (A : qA) : Nat → Nat := A.2.2.2.2.1
abbrev aY (A : qA) : Nat → Nat := A.2.2.2.2.2
/-- the objects that are made once -/
def FixK (w : qSt) : Prop := gN w 0 2 = 10 ∧ gN w 0 3 = 9 ∧ (gN w 0 4 = 30 ∧ gN w 1 4 = 100) ∧ (gN w 0 59 = 31 ∧ gN w 1 59 = 10) ∧ (∀ n, n < 11 → gN w 0 (60 + n) = 8) ∧ gN w 0 71 = 6 ∧ (gN w 0 72 = 28 ∧ gN w 1 72 = 60) ∧ gN w 0 73 = 4 ∧ (gN w 0 74 = 24 ∧ gN w 1 74 = 40) ∧ (gN w 0 75 = 20 ∧ gN w 1 75 = 60) ∧ (gN w 0 76 = 23 ∧ gN w 1 76 = 6) ∧ (gN w 0 77 = 26 ∧ gN w 1 77 = 20) ∧ (gN w 0 78 = 20 ∧ gN w 1 78 = 60) ∧ (gN w 0 1 = 19 ∧ gN w 1 1 = 8) ∧ gN w 0 0 = 19
def FixR (w : qSt) : Prop := gR w 10 0 2 = some 3 ∧ gR w 10 1 2 = some 71 ∧ gR w 10 2 2 = some 73 ∧ gR w 10 3 2 = some 76 ∧ gR w 10 4 2 = some 77 ∧ gR w 10 5 2 = some 78 ∧ gR w 9 0 3 = some 4 ∧ gR w 9 1 3 = some 59 ∧ gR w 9 2 3 = some 70 ∧ (∀ n, n < 10 → gR w 23 59 n = some (60 + n)) ∧ gR w 6 0 71 = some 3 ∧ gR w 6 1 71 = some 72 ∧ gR w 4 0 73 = some 3 ∧ gR w 4 1 73 = some 71 ∧ gR w 4 2 73 = some 74 ∧ gR w 4 3 73 = some 75 ∧ gI w 20 1 = wider8
/-- the types' objects: kinds -/
def TyK (A : qA) (m w : qSt) : Prop := ∀ i, i < nT m → gR w 23 4 i = some (aT A i) ∧ gN w 0 (aT A i) = 7 ∧ gN w 0 (aT A i + 1) = 8 ∧ gN w 0 (aT A i + 2) = 8 ∧ gN w 0 (aT A i + 3) = 25 ∧ gN w 0 (aT A i + 4) = 25 ∧ gN w 0 (aT A i + 5) = 25
def hasMb (m : qSt) (i : Nat) : Prop := ma m 0 i = 2 ∨ (ma m 0 i = 1 ∧ i ≠ 8)
noncomputable def frA (A : qA) (m : qSt) (i : Nat) : Option Nat := cIf (ma m 0 i = 1) (cIf (i = 8) none (some (aT A (upN m i)))) (cIf (ma m 0 i = 3 ∨ ma m 0 i = 4) (some (aT A (ofN m i))) none)
noncomputable def owA (A : qA) (m : qSt) (i : Nat) : Option Nat := cIf (ma m 0 (sqN m i) = 3) (some (aT A (upN m (sqN m i)))) none
noncomputable def rwI (m : qSt) (i : Nat) : Int32 := match rfN m (nI i) with
  | some r => nI r
  | none => -1
noncomputable def mlN (m : qSt) (i : Nat) : Nat := cIf (hasMb m i) 10 0
/-- what of a type's object never changes -/
def TyS (A : qA) (m w : qSt) : Prop := ∀ i, i < nT m → gI w 7 0 (aT A i) = nI i ∧ gI w 7 1 (aT A i) = ma m 0 i ∧ gR w 7 2 (aT A i) = frA A m i ∧ gR w 7 3 (aT A i) = owA A m i ∧ gI w 7 4 (aT A i) = ma m 3 i ∧ gI w 7 5 (aT A i) = nI (baN m i) ∧ gI w 7 6 (aT A i) = nI (dpN m i) ∧
  gR w 7 7 (aT A i) = some (aT A i + 1) ∧ gR w 7 8 (aT A i) = some (aT A i + 2) ∧ gR w 7 9 (aT A i) = some (aT A i + 3) ∧ gR w 7 10 (aT A i) = some (aT A i + 4) ∧ gR w 7 11 (aT A i) = some (aT A i + 5) ∧ gN w 1 (aT A i + 3) = mlN m i ∧ gN w 1 (aT A i + 4) = mlN m i ∧ gN w 1 (aT A i + 5) = mlN m i
/-- .. and what may -/
def TyM (A : qA) (m w : qSt) : Prop := ∀ i, i < nT m → gI w 7 12 (aT A i) = ma m 7 i ∧ gI w 7 13 (aT A i) = nI (pcN m i) ∧ gI w 7 14 (aT A i) = ma m 4 i ∧ gI w 7 15 (aT A i) = rwI m i
def UpP (m : qSt) (i j : Nat) : Prop := (ma m 0 i = 1 ∧ j ∈ abvs m i) ∨ FOf m i j
def TyU (A : qA) (m w : qSt) : Prop := ∀ i, i < nT m → ∀ j, j < 128 → ((tS w (aT A i + 1) j = true ↔ UpP m i j) ∧ (tS w (aT A i + 2) j = true ↔ tld m i j))
/-- the members' objects -/
def MbK (A : qA) (m w : qSt) : Prop := ∀ i j, i < nT m → j < nM m i → gR w 23 (aT A i + 3) j = some (aB A (10 * i + j)) ∧ gN w 0 (aB A (10 * i + j)) = 2
def MbS (A : qA) (m w : qSt) : Prop := ∀ i j, i < nT m → j < nM m i → gR w 2 0 (aB A (10 * i + j)) = some (aT A i) ∧ gI w 2 1 (aB A (10 * i + j)) = nI j ∧ gI w 2 2 (aB A (10 * i + j)) = ma m 9 (10 * i + j) ∧ gR w 2 3 (aB A (10 * i + j)) = cIf (ma m 8 (10 * i + j) = 0) none (some (aT A (tyN m (10 * i + j)))) ∧ gI w 2 4 (aB A (10 * i + j)) = cIf (ma m 8 (10 * i + j) = 0) 0 (ma m 11 (10 * i + j)) ∧
  gI w 2 5 (aB A (10 * i + j)) = cIf (ma m 8 (10 * i + j) = 0) (-1) (nI (pcF m i j)) ∧ gI w 2 6 (aB A (10 * i + j)) = cIf (ma m 8 (10 * i + j) = 0) (ma m 12 (10 * i + j)) 0 ∧ gI w 2 7 (aB A (10 * i + j)) = cIf (ma m 8 (10 * i + j) = 0) (ma m 13 (10 * i + j)) 0
def MbJ (A : qA) (m w : qSt) : Prop := ∀ i j, i < nT m → j < nM m i → ¬ ma m 8 (10 * i + j) = 0 → gJ w 2 8 (aB A (10 * i + j)) = ml m 14 (10 * i + j)
noncomputable def nmR (A : qA) (m : qSt) (i n : Nat) (f : Int32) : Option Nat := cIf (mby m i (nI n) f = -1) none (some (aB A (10 * i + tn (mby m i (nI n) f))))
def MbN (A : qA) (m w : qSt) : Prop := ∀ i n, i < nT m → hasMb m i → n < 10 → gR w 23 (aT A i + 4) n = nmR A m i n 1 ∧ gR w 23 (aT A i + 5) n = nmR A m i n 0
def LnP (m : qSt) (f n : Nat) : Prop := f < nT m ∧ ma m 0 f = 2 ∧ ¬ mby m f (nI n) 0 = -1 ∧ ¬ ma m 12 (10 * f + tn (mby m f (nI n) 0)) = 0
def LeS (m w : qSt) : Prop := ∀ n, n < 10 → ∀ f, f < 128 → (tS w (60 + n) f = true ↔ LnP m f n)
/-- the things' objects -/
def XoK (A : qA) (m w : qSt) : Prop := (∀ x, x < nX m → gR w 23 72 x = some (aX A x) ∧ gN w 0 (aX A x) = 5 ∧ gN w 0 (aX A x + 1) = 21) ∧ ∀ x y, x < nX m → y < nX m → aX A x = aX A y → x = y
def XoS (A : qA) (m w : qSt) : Prop := ∀ x, x < nX m → gR w 5 0 (aX A x) = cIf (dX m x = 0) (some (aT A (bX m x))) none ∧ gI w 5 1 (aX A x) = ma m 19 x ∧ gI w 5 2 (aX A x) = ma m 20 x ∧ gR w 5 3 (aX A x) = some (aX A x + 1) ∧ gN w 1 (aX A x + 1) = sX m x
def XoJ (A : qA) (m w : qSt) : Prop := ∀ x i, x < nX m → i < sX m x → gJ w 21 (aX A x + 1) i = ml m 23 (pX m x + i)
/-- the handles' objects -/
def HdR (A : qA) (m w : qSt) : Prop := ∀ h, h < nH m → gR w 23 74 h = some (aH A h) ∧ gN w 0 (aH A h) = 1 ∧ gR w 1 0 (aH A h) = some (aT A (hC m h)) ∧ gR w 1 1 (aH A h) = cIf (ma m 25 h = 0) (some (aB A (hA m h))) none ∧ (¬ ma m 25 h = 0 → gI w 1 2 (aH A h) = ma m 26 h)
/-- the columns' objects -/
def CoK (A : qA) (m w : qSt) : Prop := (∀ k, k < 6 → (ma m 28 k = 0 → gR w 23 76 k = none) ∧ (¬ ma m 28 k = 0 → gR w 23 76 k = some (aK A k) ∧ gN w 0 (aK A k) = 0 ∧ gN w 0 (aK A k + 1) = 21 ∧ gI w 0 0 (aK A k) = ma m 29 k ∧ gR w 0 1 (aK A k) = some (aK A k + 1) ∧ gN w 1 (aK A k + 1) = cN m k)) ∧ ∀ k l, k < 6 → l < 6 → ¬ ma m 28 k = 0 → ¬ ma m 28 l = 0 → aK A k = aK A l → k = l
def CoJ (A : qA) (m w : qSt) : Prop := ∀ k i, k < 6 → ¬ ma m 28 k = 0 → i < cN m k → gJ w 21 (aK A k + 1) i = ml m 31 (60 * k + i)
/-- the queries' objects -/
def QuK (A : qA) (m w : qSt) : Prop := (∀ q, q < nQ m → gR w 23 77 q = some (aY A q) ∧ gN w 0 (aY A q) = 3 ∧ gN w 0 (aY A q + 1) = 24 ∧ gN w 0 (aY A q + 2) = 20 ∧ gN w 0 (aY A q + 3) = 21 ∧ gN w 0 (aY A q + 4) = 22 ∧ gN w 1 (aY A q + 1) = 8 ∧ gN w 1 (aY A q + 2) = 8 ∧ gN w 1 (aY A q + 3) = 8 ∧ gN w 1 (aY A q + 4) = 8 ∧ gR w 3 0 (aY A q) = some (aY A q + 1) ∧ gR w 3 1 (aY A q) = some (aY A q + 2) ∧ gR w 3 2 (aY A q) = some (aY A q + 3) ∧ gR w 3 3 (aY A q) = some (aY A q + 4)) ∧ ∀ p q, p < nQ m → q < nQ m → aY A p = aY A q → p = q
def QuM (A : qA) (m w : qSt) : Prop := ∀ q, q < nQ m → gI w 3 4 (aY A q) = ma m 32 q ∧ ∀ i, i < tQ m q → gR w 23 (aY A q + 1) i = some (aH A (tH m (8 * q + i))) ∧ gI w 20 (aY A q + 2) i = ma m 34 (8 * q + i) ∧ gJ w 21 (aY A q + 3) i = ml m 35 (8 * q + i) ∧ gI w 20 (aY A q + 4) i = ma m 36 (8 * q + i)
/-- the numbers -/
def MaT (m w : qSt) : Prop := gI w 9 3 3 = mi m 1 ∧ gI w 9 4 3 = nI (csF m (nT m)) ∧ gI w 9 5 3 = nI (clF m (nT m)) ∧ gI w 6 2 71 = mi m 22 ∧ gI w 4 4 73 = mi m 29
def MaR (m w : qSt) : Prop := gI w 4 5 73 = mi m 36 ∧ ∀ i, i < nTr m → gI w 20 75 i = ma m 27 i
def MaQ (m w : qSt) : Prop := gI w 10 6 2 = mi m 43 ∧ gI w 10 7 2 = mi m 49 ∧ gI w 10 8 2 = mi m 51 ∧ gI w 10 9 2 = mi m 42 ∧ gI w 10 10 2 = mi m 35 ∧ gI w 10 11 2 = mi m 0 ∧ ∀ i, i < nHt m → gI w 20 78 i = ma m 37 i
def Rep (A : qA) (m w : qSt) : Prop := FixK w ∧ FixR w ∧ TyK A m w ∧ TyS A m w ∧ TyM A m w ∧ TyU A m w ∧ MbK A m w ∧ MbS A m w ∧ MbJ A m w ∧ MbN A m w ∧ LeS m w ∧ XoK A m w ∧ XoS A m w ∧ XoJ A m w ∧ HdR A m w ∧ CoK A m w ∧ CoJ A m w ∧ QuK A m w ∧ QuM A m w ∧ MaT m w ∧ MaR m w ∧ MaQ m w
section
variable {A : qA} {m w : qSt}
theorem Rep.fk (h : Rep A m w) : FixK w := h.1
theorem Rep.fr (h : Rep A m w) : FixR w := h.2.1
theorem Rep.tk (h : Rep A m w) : TyK A m w := h.2.2.1
theorem Rep.ts (h : Rep A m w) : TyS A m w := h.2.2.2.1
theorem Rep.tm (h : Rep A m w) : TyM A m w := h.2.2.2.2.1
theorem Rep.tu (h : Rep A m w) : TyU A m w := h.2.2.2.2.2.1
theorem Rep.bk (h : Rep A m w) : MbK A m w := h.2.2.2.2.2.2.1
theorem Rep.bs (h : Rep A m w) : MbS A m w := h.2.2.2.2.2.2.2.1
theorem Rep.bj (h : Rep A m w) : MbJ A m w := h.2.2.2.2.2.2.2.2.1
theorem Rep.bn (h : Rep A m w) : MbN A m w := h.2.2.2.2.2.2.2.2.2.1
theorem Rep.le (h : Rep A m w) : LeS m w := h.2.2.2.2.2.2.2.2.2.2.1
theorem Rep.xk (h : Rep A m w) : XoK A m w := h.2.2.2.2.2.2.2.2.2.2.2.1
theorem Rep.xs (h : Rep A m w) : XoS A m w := h.2.2.2.2.2.2.2.2.2.2.2.2.1
theorem Rep.xj (h : Rep A m w) : XoJ A m w := h.2.2.2.2.2.2.2.2.2.2.2.2.2.1
theorem Rep.hd (h : Rep A m w) : HdR A m w := h.2.2.2.2.2.2.2.2.2.2.2.2.2.2.1
theorem Rep.ck (h : Rep A m w) : CoK A m w := h.2.2.2.2.2.2.2.2.2.2.2.2.2.2.2.1
theorem Rep.cj (h : Rep A m w) : CoJ A m w := h.2.2.2.2.2.2.2.2.2.2.2.2.2.2.2.2.1
theorem Rep.qk (h : Rep A m w) : QuK A m w := h.2.2.2.2.2.2.2.2.2.2.2.2.2.2.2.2.2.1
theorem Rep.qm (h : Rep A m w) : QuM A m w := h.2.2.2.2.2.2.2.2.2.2.2.2.2.2.2.2.2.2.1
theorem Rep.mt (h : Rep A m w) : MaT m w := h.2.2.2.2.2.2.2.2.2.2.2.2.2.2.2.2.2.2.2.1
theorem Rep.mr (h : Rep A m w) : MaR m w := h.2.2.2.2.2.2.2.2.2.2.2.2.2.2.2.2.2.2.2.2.1
theorem Rep.mq (h : Rep A m w) : MaQ m w := h.2.2.2.2.2.2.2.2.2.2.2.2.2.2.2.2.2.2.2.2.2
/-- the cells that stand in w are the same in w' -/
def SameC (w w' : qSt) (a : Nat) : Prop := gN w' 0 a = gN w 0 a ∧ gN w' 1 a = gN w 1 a ∧ (∀ r k, r < 12 → gI w' r k a = gI w r k a ∧ gJ w' r k a = gJ w r k a ∧ gR w' r k a = gR w r k a) ∧ ∀ j, gI w' 20 a j = gI w 20 a j ∧ gJ w' 21 a j = gJ w 21 a j ∧ gR w' 23 a j = gR w 23 a j
def Agree (w w' : qSt) : Prop := ∀ a, gN w 0 a ≠ 99 → SameC w w' a
theorem Agree.rf (w : qSt) : Agree w w := fun _ _ => ⟨rfl, rfl, fun _ _ _ => ⟨rfl, rfl, rfl⟩, fun _ => ⟨rfl, rfl, rfl⟩⟩
theorem Agree.tr {a b c : qSt} (h : Agree a b) (h' : Agree b c) : Agree a c := by
  intro x hx
  obtain ⟨p1, p2, p3, p4⟩ := h x hx
  obtain ⟨q1, q2, q3, q4⟩ := h' x (by rw [p1]; exact hx)
  exact ⟨q1.trans p1, q2.trans p2, fun r k hr => ⟨(q3 r k hr).1.trans (p3 r k hr).1, (q3 r k hr).2.1.trans (p3 r k hr).2.1, (q3 r k hr).2.2.trans (p3 r k hr).2.2⟩, fun j => ⟨(q4 j).1.trans (p4 j).1, (q4 j).2.1.trans (p4 j).2.1, (q4 j).2.2.trans (p4 j).2.2⟩⟩
theorem Agree.I {w w' : qSt} (h : Agree w w') {r k n : Nat} {v : Int32} (hn : gN w 0 n = 99) (hr : r < 12) : Agree w (sI w' r k n v) := by
  intro x hx
  obtain ⟨p1, p2, p3, p4⟩ := h x hx
  refine ⟨p1, p2, fun r' k' hr' => ⟨?_, (p3 r' k' hr').2⟩, fun j => ⟨?_, (p4 j).2⟩⟩
  · rw [gI_ne (fun z => hx (by rw [z.2.2]; exact hn))]; exact (p3 r' k' hr').1
  · rw [gI_ne (fun z => by omega)]; exact (p4 j).1
theorem Agree.J {w w' : qSt} (h : Agree w w') {r k n : Nat} {v : Int64} (hn : gN w 0 n = 99) (hr : r < 12) : Agree w (sJ w' r k n v) := by
  intro x hx
  obtain ⟨p1, p2, p3, p4⟩ := h x hx
  refine ⟨p1, p2, fun r' k' hr' => ⟨(p3 r' k' hr').1, ?_, (p3 r' k' hr').2.2⟩, fun j => ⟨(p4 j).1, ?_, (p4 j).2.2⟩⟩
  · rw [gJ_ne (fun z => hx (by rw [z.2.2]; exact hn))]; exact (p3 r' k' hr').2.1
  · rw [gJ_ne (fun z => by omega)]; exact (p4 j).2.1
theorem gR_at (w : qSt) (r k i : Nat) (v : Option Nat) : gR (sR w r k i v) r k i = v := u3_at _ _ _ _ _
theorem gR_ne {w : qSt} {r k i r' k' i' : Nat} {v : Option Nat} (h : ¬ (r' = r ∧ k' = k ∧ i' = i)) : gR (sR w r k i v) r' k' i' = gR w r' k' i' := u3_off _ _ h
theorem Agree.R {w w' : qSt} (h : Agree w w') {r k n : Nat} {v : Option Nat} (hn : gN w 0 n = 99) (hr : r < 12) : Agree w (sR w' r k n v) := by
  intro x hx
  obtain ⟨p1, p2, p3, p4⟩ := h x hx
  refine ⟨p1, p2, fun r' k' hr' => ⟨(p3 r' k' hr').1, (p3 r' k' hr').2.1, ?_⟩, fun j => ⟨(p4 j).1, (p4 j).2.1, ?_⟩⟩
  · rw [gR_ne (fun z => hx (by rw [z.2.2]; exact hn))]; exact (p3 r' k' hr').2.2
  · rw [gR_ne (fun z => by omega)]; exact (p4 j).2.2
theorem Agree.AJ {w w' : qSt} (h : Agree w w') {n j : Nat} {v : Int64} (hn : gN w 0 n = 99) : Agree w (sJ w' 21 n j v) := by
  intro x hx
  obtain ⟨p1, p2, p3, p4⟩ := h x hx
  refine ⟨p1, p2, fun r' k' hr' => ⟨(p3 r' k' hr').1, ?_, (p3 r' k' hr').2.2⟩, fun j => ⟨(p4 j).1, ?_, (p4 j).2.2⟩⟩
  · rw [gJ_ne (fun z => by omega)]; exact (p3 r' k' hr').2.1
  · rw [gJ_ne (fun z => hx (by rw [z.2.1]; exact hn))]; exact (p4 j).2.1
theorem Agree.O {w w' : qSt} (h : Agree w w') {x : Nat} (hn : gN w 0 (gN w' 2 0) = 99) : Agree w (nwO w' x) := by
  intro a ha
  obtain ⟨p1, p2, p3, p4⟩ := h a ha
  have hne : a ≠ gN w' 2 0 := fun z => ha (by rw [z]; exact hn)
  refine ⟨?_, ?_, p3, p4⟩
  · rw [← p1]; unfold nwO sN
    show u2 (u2 w'.2.2.2 0 (gN w' 2 0) x) 2 0 (gN w' 2 0 + 1) 0 a = _
    rw [u2_off _ _ (by omega), u2_off _ _ (by omega)]
  · rw [← p2]; unfold nwO sN
    show u2 (u2 w'.2.2.2 0 (gN w' 2 0) x) 2 0 (gN w' 2 0 + 1) 1 a = _
    rw [u2_off _ _ (by omega), u2_off _ _ (by omega)]
theorem Agree.Ar {w w' : qSt} (h : Agree w w') {x n : Nat} (hn : gN w 0 (gN w' 2 0) = 99) : Agree w (nwA w' x n) := by
  intro a ha
  obtain ⟨p1, p2, p3, p4⟩ := h a ha
  have hne : a ≠ gN w' 2 0 := fun z => ha (by rw [z]; exact hn)
  refine ⟨?_, ?_, p3, p4⟩
  · rw [← p1]; unfold nwA sN
    show u2 (u2 (u2 w'.2.2.2 1 (gN w' 2 0) n) 0 (gN w' 2 0) x) 2 0 (gN w' 2 0 + 1) 0 a = _
    rw [u2_off _ _ (by omega), u2_off _ _ (by omega), u2_off _ _ (by omega)]
  · rw [← p2]; unfold nwA sN
    show u2 (u2 (u2 w'.2.2.2 1 (gN w' 2 0) n) 0 (gN w' 2 0) x) 2 0 (gN w' 2 0 + 1) 1 a = _
    rw [u2_off _ _ (by omega), u2_off _ _ (by omega), u2_off _ _ (by omega)]
theorem SameC.tS {w w' : qSt} {u : Nat} (h : SameC w w' u) (j : Nat) : tS w' u j = tS w u j := by
  unfold CQueryHandlesLaw_law_r6115_62a76e.tS
  rw [(h.2.2.1 8 0 (by omega)).2.1, (h.2.2.1 8 1 (by omega)).2.1]
end
