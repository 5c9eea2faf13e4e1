/-! ===== the abstract state: four families of numbers by three indices; what heap it stands for ===== -/
/-- a method: its name, code, locals, answer; the room it takes; whether it is the model's; 0 called on an object, 1 static, 2 a constructor; how many arguments -/
abbrev qMH : Type := MethodName × ByteArray × Nat × Option FieldType × Jvm.Room × Bool × Nat × Nat
abbrev mY (M : qMH) : MethodName := M.1
abbrev mC (M : qMH) : ByteArray := M.2.1
abbrev mL (M : qMH) : Nat := M.2.2.1
abbrev mT (M : qMH) : Option FieldType := M.2.2.2.1
abbrev mR (M : qMH) : Jvm.Room := M.2.2.2.2.1
abbrev mM (M : qMH) : Bool := M.2.2.2.2.2.1
abbrev mK (M : qMH) : Nat := M.2.2.2.2.2.2.1
abbrev mA (M : qMH) : Nat := M.2.2.2.2.2.2.2
abbrev qSt : Type := (Nat → Nat → Nat → Int32) × (Nat → Nat → Nat → Int64) × (Nat → Nat → Nat → Option Nat) × (Nat → Nat → Nat)
abbrev gI (w : qSt) : Nat → Nat → Nat → Int32 := w.1
abbrev gJ (w : qSt) : Nat → Nat → Nat → Int64 := w.2.1
abbrev gR (w : qSt) : Nat → Nat → Nat → Option Nat := w.2.2.1
abbrev gN (w : qSt) : Nat → Nat → Nat := w.2.2.2
def u3 {α : Type} (f : Nat → Nat → Nat → α) (r k i : Nat) (v : α) : Nat → Nat → Nat → α := fun r' k' i' => if r' = r then (if k' = k then (if i' = i then v else f r' k' i') else f r' k' i') else f r' k' i'
def u2 {α : Type} (f : Nat → Nat → α) (r k : Nat) (v : α) : Nat → Nat → α := fun r' k' => if r' = r then (if k' = k then v else f r' k') else f r' k'
theorem u3_at {α : Type} (f : Nat → Nat → Nat → α) (r k i : Nat) (v : α) : u3 f r k i v r k i = v := by simp [u3]
theorem u3_off {α : Type} (f : Nat → Nat → Nat → α) {r k i r' k' i' : Nat} (v : α) (h : ¬ (r' = r ∧ k' = k ∧ i' = i)) : u3 f r k i v r' k' i' = f r' k' i' := by
  unfold u3
  by_cases h1 : r' = r
  · by_cases h2 : k' = k
    · by_cases h3 : i' = i
      · exact absurd ⟨h1, h2, h3⟩ h
      · simp [h1, h2, h3]
    · simp [h1, h2]
  · simp [h1]
theorem u2_at {α : Type} (f : Nat → Nat → α) (r k : Nat) (v : α) : u2 f r k v r k = v := by simp [u2]
theorem u2_off {α : Type} (f : Nat → Nat → α) {r k r' k' : Nat} (v : α) (h : ¬ (r' = r ∧ k' = k)) : u2 f r k v r' k' = f r' k' := by
  unfold u2
  by_cases h1 : r' = r
  · by_cases h2 : k' = k
    · exact absurd ⟨h1, h2⟩ h
    · simp [h1, h2]
  · simp [h1]
def sI (w : qSt) (r k i : Nat) (v : Int32) : qSt := (u3 w.1 r k i v, w.2.1, w.2.2.1, w.2.2.2)
def sJ (w : qSt) (r k i : Nat) (v : Int64) : qSt := (w.1, u3 w.2.1 r k i v, w.2.2.1, w.2.2.2)
def sR (w : qSt) (r k i : Nat) (v : Option Nat) : qSt := (w.1, w.2.1, u3 w.2.2.1 r k i v, w.2.2.2)
def sN (w : qSt) (r k : Nat) (v : Nat) : qSt := (w.1, w.2.1, w.2.2.1, u2 w.2.2.2 r k v)
/-- an object, an array more -/
def nwO (w : qSt) (x : Nat) : qSt := sN (sN w 0 (gN w 2 0) x) 2 0 (gN w 2 0 + 1)
def nwA (w : qSt) (x n : Nat) : qSt := sN (sN (sN w 1 (gN w 2 0) n) 0 (gN w 2 0) x) 2 0 (gN w 2 0 + 1)
/-- the fixed surroundings: launch; class and field numbers; array classes; the script's cell, length, ints; the cell of WIDER; the heap at the law's entry -/
abbrev qGX : Type := Launch × va_G × (Nat → ClassId) × (Nat × Nat × (Nat → Int32)) × Nat × Heap
abbrev xL (G : qGX) : Launch := G.1
abbrev xD (G : qGX) : va_G := G.2.1
abbrev xA (G : qGX) : Nat → ClassId := G.2.2.1
abbrev xS (G : qGX) : Nat × Nat × (Nat → Int32) := G.2.2.2.1
abbrev xW (G : qGX) : Nat := G.2.2.2.2.1
abbrev xH (G : qGX) : Heap := G.2.2.2.2.2
def loc (G : qGX) (a : Nat) : Nat := if a = 0 then (xS G).1 else if a = 1 then xW G else (xH G).size + (a - 2)
def rv (G : qGX) (v : Value) : Value := match v with
  | .ref a => .ref (loc G a)
  | v => v
def rr (G : qGX) (r : Option Nat) : Option Nat := r.map (loc G)
/-- fields of the classes, by their sorts: 0 int, 1 long, 2 a reference, 3 boolean -/
def tcL : List (List Nat) := [[0, 2], [2, 2, 0], [2, 0, 0, 2, 3, 0, 0, 0, 1], [2, 2, 2, 2, 0], [2, 2, 2, 2, 0, 0, 0, 1], [2, 0, 0, 2], [2, 2, 0], [0, 0, 2, 2, 3, 0, 0, 2, 2, 2, 2, 2, 0, 0, 3, 0], [1, 1], [2, 2, 2, 0, 0, 0], [2, 2, 2, 2, 2, 2, 0, 0, 0, 0, 0, 0],
  [0, 0, 2, 2, 2, 2, 2, 2, 2, 2, 2, 2, 2, 2, 2, 2, 2, 2, 0, 2, 2, 2, 0, 2, 2, 2, 2, 2, 1, 0, 2, 2, 2, 0, 1, 0, 0, 2, 2, 2, 2, 2, 0, 0, 2, 2, 2, 2, 2, 0, 2, 0, 1]]
def tc (c k : Nat) : Nat := (tcL.getD c []).getD k 0
def nf (c : Nat) : Nat := (tcL.getD c []).length
theorem nf_ok : ∀ (c : Nat) (q : vw_C), vwCl[c]? = some q → q.2.2 = nf c := by
  intro c q h
  have hc : c < 12 := (List.getElem?_eq_some_iff.mp h).1
  have key : ∀ c : Fin 12, (vwCl[c.val]?).map (fun q => q.2.2) = some (nf c.val) := by decide +kernel
  have := key ⟨c, hc⟩
  rw [h] at this
  exact Option.some.inj this
/-- the model's arrays by their ranks: sort (0 int, 1 long, 3 boolean), length -/
def maL : List (Nat × Nat) := [(0, 100), (0, 100), (0, 100), (3, 100), (3, 100), (0, 100), (0, 400), (0, 100), (3, 1000), (0, 1000), (0, 1000), (3, 1000), (0, 1000), (0, 1000), (1, 1000), (0, 100), (3, 100), (0, 500), (0, 100), (0, 60), (0, 60), (0, 60), (0, 61), (1, 60000), (0, 40), (3, 40), (0, 40), (0, 60), (3, 6), (0, 6), (0, 6), (1, 360), (0, 20), (0, 160), (0, 160), (1, 160), (3, 160), (0, 60)]
def mty (r : Nat) : Nat := (maL.getD r (0, 0)).1
def mln (r : Nat) : Nat := (maL.getD r (0, 0)).2
/-- the rank of the model's array in slot k -/
def mrkL : List Nat := [0, 0, 0, 1, 2, 3, 4, 5, 6, 7, 8, 9, 10, 11, 12, 13, 14, 15, 0, 16, 17, 18, 0, 19, 20, 21, 22, 23, 0, 0, 24, 25, 26, 0, 0, 0, 0, 27, 28, 29, 30, 31, 0, 0, 32, 33, 34, 35, 36, 0, 37, 0, 0]
def mrk (k : Nat) : Nat := mrkL.getD k 0
def fv (G : qGX) (w : qSt) (c a k : Nat) : Value := if tc c k = 1 then .long (gJ w c k a) else if tc c k = 2 then va_rf (rr G (gR w c k a)) else .int (gI w c k a)
def flds (G : qGX) (w : qSt) (c a : Nat) : List Value := (List.range (nf c)).map (fv G w c a)
def mfv (G : qGX) (w : qSt) (k : Nat) : Value := if tc 11 k = 1 then .long (gJ w 12 k 0) else if tc 11 k = 2 then .ref (loc G (80 + mrk k)) else .int (gI w 12 k 0)
def mfl (G : qGX) (w : qSt) : List Value := (List.range 53).map (mfv G w)
def cellOf (G : qGX) (w : qSt) (a : Nat) : va_E :=
  if gN w 0 a < 12 then .inr (gN w 0 a, flds G w (gN w 0 a) a)
  else if gN w 0 a = 12 then .inr (11, mfl G w)
  else if gN w 0 a < 21 then .inl (xA G 0, gN w 1 a, .inl (gI w 20 a))
  else if gN w 0 a = 21 then .inl (xA G 1, gN w 1 a, .inr (.inl (gJ w 21 a)))
  else if gN w 0 a = 22 then .inl (xA G 2, gN w 1 a, .inl (gI w 20 a))
  else if gN w 0 a < 40 then .inl (xA G (gN w 0 a - 20), gN w 1 a, .inr (.inr (.inr (.inr (fun j => rr G (gR w 23 a j))))))
  else if mty (gN w 0 a - 40) = 1 then .inl (xA G 1, mln (gN w 0 a - 40), .inr (.inl (gJ w 40 (gN w 0 a - 40))))
  else if mty (gN w 0 a - 40) = 3 then .inl (xA G 2, mln (gN w 0 a - 40), .inl (gI w 40 (gN w 0 a - 40)))
  else .inl (xA G 0, mln (gN w 0 a - 40), .inl (gI w 40 (gN w 0 a - 40)))
/-- what lies behind the last cell is untouched -/
def qZero (w : qSt) : Prop := ∀ a, gN w 2 0 ≤ a → gN w 0 a = 99 ∧ (∀ r k, r < 12 → gI w r k a = 0 ∧ gJ w r k a = 0 ∧ gR w r k a = none) ∧ ∀ j, gI w 20 a j = 0 ∧ gJ w 21 a j = 0 ∧ gR w 23 a j = none
def wider8 : Nat → Int32 := fun j => if j = 0 then 1 else if j = 1 then 246 else if j = 2 then 244 else if j = 3 then 248 else if j = 4 then 240 else if j = 5 then 224 else if j = 6 then 192 else if j = 7 then 128 else 0
/-- the two cells that were there before: the script, WIDER -/
def qLow (G : qGX) (w : qSt) : Prop := 2 ≤ gN w 2 0 ∧ gN w 0 0 = 19 ∧ gN w 0 1 = 19 ∧ gN w 1 0 = (xS G).2.1 ∧ gN w 1 1 = 8 ∧ gI w 20 0 = (xS G).2.2 ∧ gI w 20 1 = wider8
/-- fl = 1: the model stands, its object and arrays at their places -/
def qSim (G : qGX) (fl : Nat) (w : qSt) (H : Heap) : Prop :=
  H.size + 2 = (xH G).size + gN w 2 0 ∧ (∀ q : Nat, q < (xH G).size → H[q]? = (xH G)[q]?) ∧ (∀ a, 2 ≤ a → a < gN w 2 0 → va_at (xD G) vwCl (loc G a, cellOf G w a) H) ∧ qZero w ∧ qLow G w ∧
  ((∀ a, gN w 0 a = 12 → a = 79) ∧ ∀ a r, r < 38 → gN w 0 a = 40 + r → a = 80 + r) ∧ fl ≤ gN w 4 0 ∧ gN w 4 0 ≤ 1 ∧ (gN w 4 0 = 1 → gN w 0 79 = 12 ∧ ∀ r, r < 38 → gN w 0 (80 + r) = 40 + r)
theorem loc_ge {G : qGX} {a : Nat} (h : 2 ≤ a) : loc G a = (xH G).size + (a - 2) := by
  unfold loc
  rw [if_neg (by omega), if_neg (by omega)]
theorem loc_inj {G : qGX} {a b : Nat} (ha : 2 ≤ a) (hb : 2 ≤ b) (h : loc G a = loc G b) : a = b := by
  rw [loc_ge ha, loc_ge hb] at h
  omega
/-- an address whose kind is known stands in the heap -/
theorem sim_in {G : qGX} {fl : Nat} {w : qSt} {H : Heap} (h : qSim G fl w H) {a k : Nat} (hk : gN w 0 a = k) (h1 : k ≠ 99) (h2 : k ≠ 19) : 2 ≤ a ∧ a < gN w 2 0 := by
  obtain ⟨-, -, -, hZ, hL, -⟩ := h
  refine ⟨?_, ?_⟩
  · rcases Nat.lt_or_ge a 2 with q | q
    · rcases (show a = 0 ∨ a = 1 by omega) with e | e
      · rw [e, hL.2.1] at hk; omega
      · rw [e, hL.2.2.1] at hk; omega
    · exact q
  · rcases Nat.lt_or_ge a (gN w 2 0) with q | q
    · exact q
    · have := (hZ a q).1
      omega
theorem sim_cell {G : qGX} {fl : Nat} {w : qSt} {H : Heap} (h : qSim G fl w H) {a k : Nat} (hk : gN w 0 a = k) (h1 : k ≠ 99) (h2 : k ≠ 19) : va_at (xD G) vwCl (loc G a, cellOf G w a) H := by
  obtain ⟨g1, g2⟩ := sim_in h hk h1 h2
  exact h.2.2.1 a g1 g2
