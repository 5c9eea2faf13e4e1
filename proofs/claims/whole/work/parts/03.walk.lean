/-! ===== the walk over the abstract state ===== -/
def nth : List (Option Value) → Nat → Option Value
  | [], _ => none
  | a :: _, 0 => a
  | _ :: l, n + 1 => nth l n
def setN : List (Option Value) → Nat → Option Value → List (Option Value)
  | [], _, _ => []
  | _ :: l, 0, x => x :: l
  | a :: l, n + 1, x => a :: setN l n x
def wide (v : Value) : Bool := match v with
  | .long _ => true
  | .double _ => true
  | _ => false
def clrp (ls : List (Option Value)) (i : Nat) : List (Option Value) := match i with
  | 0 => ls
  | j + 1 => match nth ls j with
    | some v => bif wide v then setN ls j none else ls
    | none => ls
def stL (ls : List (Option Value)) (i : Nat) (x : Value) : List (Option Value) := bif wide x then setN (setN (clrp ls i) i (some x)) (i + 1) none else setN (clrp ls i) i (some x)
theorem nth_set {ls : List (Option Value)} {i : Nat} {x : Option Value} {j : Nat} {v : Value} (h : nth (setN ls i x) j = some v) : (j = i ∧ x = some v) ∨ (j ≠ i ∧ nth ls j = some v) := by
  induction ls generalizing i j with
  | nil => simp [setN, nth] at h
  | cons a l ih =>
    cases i with
    | zero =>
      cases j with
      | zero => exact Or.inl ⟨rfl, h⟩
      | succ j => exact Or.inr ⟨by omega, h⟩
    | succ i =>
      cases j with
      | zero => exact Or.inr ⟨by omega, h⟩
      | succ j =>
        rcases ih (i := i) (j := j) h with ⟨h1, h2⟩ | ⟨h1, h2⟩
        · exact Or.inl ⟨by omega, h2⟩
        · exact Or.inr ⟨by omega, h2⟩
theorem nth_clrp {ls : List (Option Value)} {i j : Nat} {v : Value} (h : nth (clrp ls i) j = some v) : nth ls j = some v ∧ ¬ (j + 1 = i ∧ wide v = true) := by
  cases i with
  | zero => exact ⟨h, fun q => by omega⟩
  | succ i =>
    unfold clrp at h
    cases hn : nth ls i with
    | none =>
      simp only [hn] at h
      refine ⟨h, fun q => ?_⟩
      have : j = i := by omega
      subst this
      rw [hn] at h
      cases h
    | some u =>
      simp only [hn] at h
      cases hw : wide u with
      | false =>
        simp only [hw, cond_false] at h
        refine ⟨h, fun q => ?_⟩
        have : j = i := by omega
        subst this
        rw [hn] at h
        cases h
        rw [hw] at q
        exact absurd q.2 (by decide)
      | true =>
        simp only [hw, cond_true] at h
        rcases nth_set h with ⟨h1, h2⟩ | ⟨h1, h2⟩
        · cases h2
        · exact ⟨h2, fun q => h1 (by omega)⟩
theorem nth_stL {ls : List (Option Value)} {i j : Nat} {x v : Value} (h : nth (stL ls i x) j = some v) : (j = i ∧ v = x) ∨ (j ≠ i ∧ nth ls j = some v ∧ ¬ (j + 1 = i ∧ wide v = true) ∧ (wide x = true → j ≠ i + 1)) := by
  unfold stL at h
  cases hw : wide x with
  | false =>
    simp only [hw, cond_false] at h
    rcases nth_set h with ⟨h1, h2⟩ | ⟨h1, h2⟩
    · exact Or.inl ⟨h1, (Option.some.inj h2).symm⟩
    · obtain ⟨h3, h4⟩ := nth_clrp h2
      exact Or.inr ⟨h1, h3, h4, fun q => by cases q⟩
  | true =>
    simp only [hw, cond_true] at h
    rcases nth_set h with ⟨h1, h2⟩ | ⟨h1, h2⟩
    · cases h2
    · rcases nth_set h2 with ⟨h3, h4⟩ | ⟨h3, h4⟩
      · exact Or.inl ⟨h3, (Option.some.inj h4).symm⟩
      · obtain ⟨h5, h6⟩ := nth_clrp h4
        exact Or.inr ⟨h3, h5, h6, fun _ => h1⟩
theorem rv_cat (G : qGX) (v : Value) : (rv G v).category = v.category := by cases v <;> rfl
theorem wide_cat (v : Value) : v.category = 2 ↔ wide v = true := by cases v <;> simp [Value.category, wide]
def lvR (G : qGX) (la : Array Slot) (n : Nat) (ls : List (Option Value)) : Prop := la.size = n ∧ lv_wf la ∧ ∀ (i : Nat) (v : Value), nth ls i = some v → la[i]? = some (.val (rv G v))
theorem nth_lt {ls : List (Option Value)} {i : Nat} {v : Value} (h : nth ls i = some v) : i < ls.length := by
  induction ls generalizing i with
  | nil => simp [nth] at h
  | cons a l ih =>
    cases i with
    | zero => simp
    | succ i => have := ih (i := i) h; simp; omega
def al (G : qGX) (ls : List (Option Value)) : List (Nat × Value) := (List.range ls.length).filterMap (fun i => (nth ls i).map (fun v => (i, rv G v)))
theorem al_mem {G : qGX} {ls : List (Option Value)} {i : Nat} {v : Value} (h : nth ls i = some v) : (i, rv G v) ∈ al G ls := by
  refine List.mem_filterMap.mpr ⟨i, List.mem_range.mpr (nth_lt h), ?_⟩
  rw [h]; rfl
theorem lvR_has {G : qGX} {la : Array Slot} {n : Nat} {ls : List (Option Value)} (h : lvR G la n ls) : lv_has la n (al G ls) := by
  refine ⟨h.1, h.2.1, fun q hq => ?_⟩
  obtain ⟨i, -, hi⟩ := List.mem_filterMap.mp hq
  cases hn : nth ls i with
  | none => rw [hn] at hi; cases hi
  | some v => rw [hn] at hi; cases hi; exact h.2.2 i v hn
theorem lvR_st1 {G : qGX} {la : Array Slot} {n i : Nat} {ls : List (Option Value)} {x : Value} (h : lv_has la n ((i, rv G x) :: (al G ls).filter (fun q => !(q.1 == i) && !(q.1 + 1 == i && q.2.category == 2)))) (hx : wide x = false) : lvR G la n (stL ls i x) := by
  refine ⟨h.1, h.2.1, fun j v hv => ?_⟩
  rcases nth_stL hv with ⟨h1, h2⟩ | ⟨h1, h2, h3, -⟩
  · subst h1; subst h2
    exact h.2.2 _ List.mem_cons_self
  · refine h.2.2 (j, rv G v) (List.mem_cons_of_mem _ (List.mem_filter.mpr ⟨al_mem h2, ?_⟩))
    have hc : (rv G v).category = 2 ↔ wide v = true := by rw [rv_cat]; exact wide_cat v
    by_cases e : j + 1 = i
    · have : ¬ wide v = true := fun q => h3 ⟨e, q⟩
      have h4 : ¬ (rv G v).category = 2 := fun q => this (hc.mp q)
      simp [h1, h4]
    · simp [h1, e]
theorem lvR_st2 {G : qGX} {la : Array Slot} {n i : Nat} {ls : List (Option Value)} {x : Value} (h : lv_has la n ((i, rv G x) :: (al G ls).filter (fun q => !(q.1 == i) && (!(q.1 == i + 1) && !(q.1 + 1 == i && q.2.category == 2))))) (hx : wide x = true) : lvR G la n (stL ls i x) := by
  refine ⟨h.1, h.2.1, fun j v hv => ?_⟩
  rcases nth_stL hv with ⟨h1, h2⟩ | ⟨h1, h2, h3, h3b⟩
  · subst h1; subst h2
    exact h.2.2 _ List.mem_cons_self
  · refine h.2.2 (j, rv G v) (List.mem_cons_of_mem _ (List.mem_filter.mpr ⟨al_mem h2, ?_⟩))
    have hc : (rv G v).category = 2 ↔ wide v = true := by rw [rv_cat]; exact wide_cat v
    have h5 := h3b hx
    by_cases e : j + 1 = i
    · have : ¬ wide v = true := fun q => h3 ⟨e, q⟩
      have h4 : ¬ (rv G v).category = 2 := fun q => this (hc.mp q)
      simp [h1, h4, h5]
    · simp [h1, e, h5]
/-! the tables' words, and what else is known of them -/
def wTG : List Cond := lw_tbl.filter goodWord
theorem tg_of {z : Nat} {w : Cond} (h : lw_tbl[z]? = some w) (hg : goodWord w = true) : w ∈ wTG := List.mem_filter.mpr ⟨List.mem_of_getElem? h, hg⟩
def qNest (w : Cond) : Bool := match w with
  | .methodLinkNest .. => true
  | _ => false
def wsM (M : qMH) : List Cond := Cond.code (mY M) (mC M) (mL M) (mT M) :: wTG
def tysL (G : qGX) : List (ClassId × FieldType) := [(xA G 0, .int), (xA G 1, .long), (xA G 2, .boolean), (xA G 3, .object RX0), (xA G 4, .object RX1), (xA G 5, .object RX3), (xA G 6, .object RX4), (xA G 0, .int), (xA G 8, .object RX6), (xA G 0, .int), (xA G 10, .object RX8), (xA G 11, .object RX9)]
def overL : List String := [RX0, RX1, RX3, RX4, RX6, RX8, RX9]
def qTF (G : qGX) (U : State) : Prop := va_K (xD G) vwCl (tysL G) U ∧ (∀ w ∈ lw_tbl, qNest w = true → va_Nw w U) ∧ (∀ C ∈ overL, va_AO C U) ∧ va_Z RX2 "WIDER" "[I" (.ref (xW G)) (fun q => (xH G).size ≤ q) U (xH G) ∧ va_X (xS G).1 (xS G).2.1 (xS G).2.2 U (xH G) ∧ va_X (xW G) 8 wider8 U (xH G)
theorem qNest_warm {w : Cond} (h : qNest w = true) {s U : State} (hW : s.WarmedH U.vm) (hZ : va_Nw w s) : va_Nw w U := by
  cases w <;> first | exact va_Nw.warmM hW hZ | (simp [qNest] at h)
theorem qTF.warm {G : qGX} {s U : State} (hW : s.WarmedH U.vm) (h : qTF G s) : qTF G U :=
  ⟨h.1.moved hW.alike, fun w hw hn => qNest_warm hn hW (h.2.1 w hw hn), fun C hC => (h.2.2.1 C hC).moved hW.alike, h.2.2.2.1.moved hW.alike, h.2.2.2.2.1.moved hW.alike, h.2.2.2.2.2.moved hW.alike⟩
/-- the surroundings of a method's walk -/
def qCx (G : qGX) (M : qMH) (p : Program) (s : State) (m : MethodId) (args : Array Value) (meth : Method) (c : Code) : Prop :=
  p.tables.exec = Jvm.exec ∧ c.code = mC M ∧ c.maxLocals = mL M ∧ s.vm.findClass (mY M).cls = some m.cls ∧ (∀ w ∈ wsM M, w.before args s = true) ∧ meth.sig.returnType = mT M ∧ meth.locks = false ∧ meth.name = (mY M).name ∧ qTF G s
def qRet (M : qMH) (pc : Nat) (r : Option Value) : Prop :=
  (r = none ∧ mT M = none ∧ decode (mC M) pc = .ok (.return_, 1)) ∨
  (∃ v : Int32, r = some (.int v) ∧ decode (mC M) pc = .ok (.ireturn, 1) ∧ (mT M = some .int ∨ (mT M = some .boolean ∧ v &&& 1 = v))) ∨
  (∃ v : Int64, r = some (.long v) ∧ decode (mC M) pc = .ok (.lreturn, 1) ∧ mT M = some .long) ∨
  (∃ v : UInt64, r = some (.double v) ∧ decode (mC M) pc = .ok (.dreturn, 1) ∧ mT M = some .double) ∨
  (∃ n : String, mT M = some (.object n) ∧ decode (mC M) pc = .ok (.areturn, 1) ∧ (r = some .null ∨ ∃ a, r = some (.ref a)))
abbrev qLk (G : qGX) (locs : List Loc) : Prop := ∀ x ∈ locs, (xH G).size ≤ x.base
def qFin (G : qGX) (M : qMH) (fl : Nat) (p : Program) (e : Env) (s : State) (m : MethodId) (args : Array Value) (below : List Frame) (meth : Method) (c : Code) (Z : State → Prop) (Q : Option Value → qSt → Prop) : Prop :=
  ∀ (d0 : Drawn) (H : Heap) (locs : List Loc) (q : Nat × Nat) (w : qSt) (r : Option Value) (pc : Nat) (la : Array Slot), s.drawn.sameBut d0 lw_cs → qSim G fl w H → qLk G locs → q.1 ≤ (mR M).cells → q.2 ≤ (mR M).slots → Q r w → qRet M pc r →
    W p (xL G) e (mR M) (s.setDrawn d0) m args below meth c H locs q.1 q.2 Z (F0 m pc la (r.toList.map (rv G)))
/-- from here the method comes to its end with Q -/
def Wq (G : qGX) (M : qMH) (pc : Nat) (ls : List (Option Value)) (st : List Value) (q : Nat × Nat) (w : qSt) (Q : Option Value → qSt → Prop) : Prop :=
  ∀ (fl : Nat) (p : Program) (e : Env) (s : State) (m : MethodId) (args : Array Value) (below : List Frame) (meth : Method) (c : Code) (Z : State → Prop), (mM M = true → fl = 1) → qCx G M p s m args meth c → qFin G M fl p e s m args below meth c Z Q →
    ∀ (d0 : Drawn) (la : Array Slot) (H : Heap) (locs : List Loc), s.drawn.sameBut d0 lw_cs → lvR G la (mL M) ls → qSim G fl w H → qLk G locs → q.1 ≤ (mR M).cells → q.2 ≤ (mR M).slots →
    W p (xL G) e (mR M) (s.setDrawn d0) m args below meth c H locs q.1 q.2 Z (F0 m pc la (st.map (rv G)))
def qPc (G : qGX) (fl : Nat) (vs : List Value) (w : qSt) : Array Value → State → Prop := fun a U => a = (vs.map (rv G)).toArray ∧ qTF G U ∧ qSim G fl w U.heap
def qQc (G : qGX) (fl : Nat) (Q : Option Value → qSt → Prop) : Array Value → State → Outcome → State → Prop := fun _ _ oc t => ∃ (r : Option Value) (w : qSt), oc = .returned (r.map (rv G)) ∧ Q r w ∧ qSim G fl w t.heap
/-- what the tables say of a method itself -/
def qHW (M : qMH) : Prop := Cond.code (mY M) (mC M) (mL M) (mT M) ∈ wTG ∧ Cond.initialized (mY M).cls ∈ wTG ∧ plainFor (mY M) = true ∧ ((mY M).cls ≠ "java/lang/invoke/MethodHandle" ∧ (mY M).cls ≠ "java/lang/invoke/VarHandle" ∧ (parseMethodDescriptor (mY M).desc).map (fun d => d.parameters.length) = some (mA M)) ∧
  (mK M = 0 → Cond.instanceMethod (mY M) ∈ wTG ∧ Cond.selects (mY M).cls (mY M) (mY M) ∈ wTG) ∧ (mK M = 1 → Cond.static (mY M) ∈ wTG) ∧ (mK M = 2 → Cond.instanceMethod (mY M) ∈ wTG ∧ (mY M).name = "<init>" ∧ mT M = none)
/-- the method's contract: from these arguments and this state it comes back with Q -/
def Con (G : qGX) (M : qMH) (vs : List Value) (w : qSt) (Q : Option Value → qSt → Prop) : Prop :=
  qHW M ∧ ∀ fl : Nat, (mM M = true → fl = 1) → MetD lw_cs (xL G) (mY M) (wsM M) (mR M) (qPc G fl vs w) (qQc G fl Q) (mR M).cells (mR M).slots (fun x => (xH G).size ≤ x)
theorem Con.mono {G : qGX} {M : qMH} {vs : List Value} {w : qSt} {Q Q' : Option Value → qSt → Prop} (h : Con G M vs w Q) (hq : ∀ r w', Q r w' → Q' r w') : Con G M vs w Q' := by
  refine ⟨h.1, ?_⟩
  intro fl hfl p e ha hc hk s m args below hf happ hP hK
  obtain ⟨n, o, h1, h2, h3, d, hd, ⟨r, w', g1, g2, g3⟩, h5⟩ := h.2 fl hfl p e ha hc hk s m args below hf happ hP hK
  exact ⟨n, o, h1, h2, h3, d, hd, ⟨r, w', g1, hq r w' g2, g3⟩, h5⟩
def ent (vs : List Value) : List (Option Value) := match vs with
  | [] => []
  | v :: l => bif wide v then some v :: none :: ent l else some v :: ent l
def entL (n : Nat) (vs : List Value) : List (Option Value) := ent vs ++ List.replicate (n - (ent vs).length) none
