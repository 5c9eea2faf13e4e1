/-! ===== queries ===== -/
def tQ (w : qSt) (q : Nat) : Nat := tn (ma w 32 q)
def tH (w : qSt) (a : Nat) : Nat := tn (ma w 33 a)
def tO (w : qSt) (a : Nat) : Nat := tn (ma w 34 a)
def TsOK (w : qSt) (a : Nat) : Prop := ma w 33 a = nI (tH w a) ∧ tH w a < nH w ∧ ma w 34 a = nI (tO w a) ∧ tO w a ≤ 5 ∧ (ma w 36 a = 0 ∨ ma w 36 a = 1)
def QInv (w : qSt) : Prop := mi w 43 = nI (nQ w) ∧ nQ w ≤ 20 ∧ ∀ q, q < 20 → ma w 32 q = nI (tQ w q) ∧ tQ w q ≤ 8 ∧ (nQ w ≤ q → tQ w q = 0) ∧ ∀ i, i < tQ w q → TsOK w (8 * q + i)
noncomputable def S_query (w : qSt) : Int32 × qSt := cIf (nQ w = 20) (-2, stt w (-2)) (nI (nQ w), stt (sI w 12 43 0 (nI (nQ w + 1))) 0)
def sTs (w : qSt) (q : Nat) (h op : Int32) (v : Int64) (or : Int32) : qSt := sI (sI (sJ (sI (sI w 40 33 (8 * q + tQ w q) h) 40 34 (8 * q + tQ w q) op) 40 35 (8 * q + tQ w q) v) 40 36 (8 * q + tQ w q) or) 40 32 q (nI (tQ w q + 1))
noncomputable def S_test (w : qSt) (q h op : Int32) (v : Int64) (or : Int32) : Int32 × qSt :=
  cIf (¬ isQ w q ∨ ¬ isH w h ∨ ¬ (∃ k, op = nI k ∧ k < 6)) (-1, stt w (-1)) (cIf (tQ w (tn q) = 8) (-2, stt w (-2)) (nI (tQ w (tn q) + 1), stt (sTs w (tn q) h op v or) 0))
def hlP (op : Nat) (b a o : Prop) : Prop := (op = 0 ∧ b) ∨ (op = 1 ∧ (b ∨ a)) ∨ (op = 2 ∧ a) ∨ (op = 3 ∧ ¬ a) ∨ (op = 4 ∧ (a ∨ o)) ∨ (5 ≤ op ∧ o)
noncomputable def cpP (L : Nat) (V : Int64) (op : Nat) (v : Int64) : Prop := cIf (L ≤ 5) (hlP op (V < v) (V = v) (v < V)) (hlP op (FP.dcmp (dbV L V) (FP.l2d v) = some .lt) (FP.dcmp (dbV L V) (FP.l2d v) = some .eq) (FP.dcmp (dbV L V) (FP.l2d v) = some .gt))
theorem dbR_cmp {L : Nat} {b : Int64} {u y : UInt64} (h : dbR L b u) : FP.dcmp u y = FP.dcmp (dbV L b) y := by
  unfold dbV
  by_cases e : L = 6
  · rw [if_pos e]
    rcases alk (h.1 e) with q | ⟨q1, q2⟩
    · rw [q]
    · rw [show FP.dcmp u y = none from (FP.Core.dcmp_none _ _).mpr (Or.inl ((FP.Core.dIsNaN_iff _).mp q1)), show FP.dcmp (FP.f2d b.toInt32.toUInt32) y = none from (FP.Core.dcmp_none _ _).mpr (Or.inl ((FP.Core.dIsNaN_iff _).mp q2))]
  · rw [if_neg e, h.2 e]
theorem cmpg0 (r : Option Ordering) : 0 ≤ Op.cmpValue r .g ↔ ¬ r = some .lt := by
  rcases r with _ | o
  · exact ⟨fun _ q => (by cases q), fun _ => (by decide)⟩
  · cases o <;> first | exact ⟨fun q => absurd q (by decide), fun q => absurd rfl q⟩ | exact ⟨fun _ q => (by cases q), fun _ => (by decide)⟩
theorem cmpl0 (r : Option Ordering) : Op.cmpValue r .l ≤ 0 ↔ ¬ r = some .gt := by
  rcases r with _ | o
  · exact ⟨fun _ q => (by cases q), fun _ => (by decide)⟩
  · cases o <;> first | exact ⟨fun q => absurd q (by decide), fun q => absurd rfl q⟩ | exact ⟨fun _ q => (by cases q), fun _ => (by decide)⟩
section
variable {G : qGX} {w : qSt} {Q : Option Value → qSt → Prop}
theorem c12_query (hQ : QInv w) (h : ∀ w', Sc (S_query w).2 w' → Q (some (.int (S_query w).1)) w') : Con G M12_query [.ref 79] w Q := by
  obtain ⟨q1, q2, q3⟩ := hQ
  unfold S_query at h
  refine Con.go hw12_query ok12_query 40 [] rfl ?_
  refine And.intro (fun (c : ¬ mi w 43 = 20) => c12_good ?_) (fun (c : mi w 43 = 20) => ?_) <;> rw [q1, c_20, nI_eqI (by omega) (by omega)] at c
  · rw [cIf_f c] at h
    show Q (some (.int (mi w 43 + 1 - 1))) (stt (sI w 12 43 0 (mi w 43 + 1)) 0)
    rw [q1, nI_1, nI_m1]
    exact h _ Sc.rf
  · rw [cIf_t c] at h
    exact c12_fail (h _ Sc.rf)
theorem c12_test {q h op or : Int32} {v : Int64} (hQ : QInv w) (hH : HInv w) (ho : or &&& 1 = or) (hq : ∀ w', Sc (S_test w q h op v or).2 w' → Q (some (.int (S_test w q h op v or).1)) w') : Con G M12_test [.ref 79, .int q, .int h, .int op, .long v, .int or] w Q := by
  obtain ⟨q1, q2, q3⟩ := hQ
  obtain ⟨k1, k2, k3⟩ := hH
  unfold S_test at hq
  have bad : (¬ isQ w q ∨ ¬ isH w h ∨ ¬ (∃ k, op = nI k ∧ k < 6)) → Wq G M12_test 28 [some (.ref 79), some (.int q), some (.int h), some (.int op), some (.long v), none, some (.int or), none] [] (0, 0) w Q := by
    intro hb
    rw [cIf_t hb] at hq
    exact Wq.go ok12_test 20 [] (c12_fail (hq _ Sc.rf))
  refine Con.go hw12_test ok12_test 40 [28, 34] rfl ?_
  refine c12_isQuery q1 q2 (And.intro (fun c1 => bad (Or.inl (bI_0.mp c1))) (fun c1 => c12_isHandle k1 k2 (And.intro (fun c2 => bad (Or.inr (Or.inl (bI_0.mp c2)))) (fun c2 => c12_inC (n := 6) rfl (by omega) (And.intro (fun c3 => ?_) (fun c3 => bad (Or.inr (Or.inr (bI_0.mp c3)))))))))
  rw [bI_n0] at c1 c2 c3
  rw [cIf_f (fun q => q.elim (fun q => q c1) (fun q => q.elim (fun q => q c2) (fun q => q c3)))] at hq
  obtain ⟨J, rfl, hJ⟩ := c1
  obtain ⟨t1, t2, t3, t4⟩ := q3 J (by omega)
  have hin : vp_in (nI J) 20 := in_nI (by omega) (by decide)
  have eJ : (nI J).toNatClampNeg = J := nI_clamp (by omega)
  have e32 : ma w 32 (nI J).toNatClampNeg = nI (tQ w J) := by rw [eJ, t1]
  rw [tn_nI (by omega)] at hq
  refine Wq.go ok12_test 40 [52] ?_
  refine And.intro hin (And.intro (fun (c : ¬ ma w 32 (nI J).toNatClampNeg = 8) => ?_) (fun (c : ma w 32 (nI J).toNatClampNeg = 8) => ?_)) <;> rw [e32, c_8, nI_eqI (by omega) (by omega)] at c
  · rw [cIf_f c] at hq
    have ea : (8 : Int32) * nI J + ma w 32 (nI J).toNatClampNeg = nI (8 * J + tQ w J) := by rw [e32]; exact ix8 J _
    have hia : vp_in (nI (8 * J + tQ w J)) 160 := in_nI (by omega) (by decide)
    have eA : (nI (8 * J + tQ w J)).toNatClampNeg = 8 * J + tQ w J := nI_clamp (by omega)
    have main : Wq G M12_test 65 [some (.ref 79), some (.int (nI J)), some (.int h), some (.int op), some (.long v), none, some (.int or), some (.int (nI (8 * J + tQ w J)))] [] (0, 0) w Q := by
      refine Wq.go ok12_test 60 [] ?_
      refine And.intro hia (And.intro hia (And.intro hia (And.intro ho (And.intro hia (And.intro hin (And.intro hin (And.intro hin (c12_good ?_))))))))
      show Q (some (.int (ma (sI (sI (sJ (sI (sI w 40 33 (nI (8 * J + tQ w J)).toNatClampNeg h) 40 34 (nI (8 * J + tQ w J)).toNatClampNeg op) 40 35 (nI (8 * J + tQ w J)).toNatClampNeg v) 40 36 (nI (8 * J + tQ w J)).toNatClampNeg or) 40 32 (nI J).toNatClampNeg (ma w 32 (nI J).toNatClampNeg + 1)) 32 (nI J).toNatClampNeg)))
        (stt (sI (sI (sJ (sI (sI w 40 33 (nI (8 * J + tQ w J)).toNatClampNeg h) 40 34 (nI (8 * J + tQ w J)).toNatClampNeg op) 40 35 (nI (8 * J + tQ w J)).toNatClampNeg v) 40 36 (nI (8 * J + tQ w J)).toNatClampNeg or) 40 32 (nI J).toNatClampNeg (ma w 32 (nI J).toNatClampNeg + 1)) 0)
      rw [show ma (sI (sI (sJ (sI (sI w 40 33 (nI (8 * J + tQ w J)).toNatClampNeg h) 40 34 (nI (8 * J + tQ w J)).toNatClampNeg op) 40 35 (nI (8 * J + tQ w J)).toNatClampNeg v) 40 36 (nI (8 * J + tQ w J)).toNatClampNeg or) 40 32 (nI J).toNatClampNeg (ma w 32 (nI J).toNatClampNeg + 1)) 32 (nI J).toNatClampNeg = ma w 32 (nI J).toNatClampNeg + 1 from gI_at _ _ _ _ _]
      rw [e32, eA, eJ, nI_1]
      exact hq _ Sc.rf
    refine Wq.go ok12_test 40 [65] ?_
    refine And.intro hin ?_
    show Wq G M12_test 65 [some (.ref 79), some (.int (nI J)), some (.int h), some (.int op), some (.long v), none, some (.int or), some (.int ((8 : Int32) * nI J + ma w 32 (nI J).toNatClampNeg))] [] (0, 0) w Q
    rw [ea]
    exact main
  · rw [cIf_t c] at hq
    exact c12_fail (hq _ Sc.rf)
theorem c12_holds {op : Nat} {b a o : Prop} (hop : op < 1000) (h : Q (some (.int (bI (hlP op b a o)))) w) : Con G M12_holds [.int (nI op), .int (bI b), .int (bI a), .int (bI o)] w Q := by
  have yes : hlP op b a o → ((1 : Int32) &&& 1 = 1 ∧ Q (some (.int 1)) w) := fun q => by rw [bI_t q] at h; exact ⟨rfl, h⟩
  have no : ¬ hlP op b a o → ((0 : Int32) &&& 1 = 0 ∧ Q (some (.int 0)) w) := fun q => by rw [bI_f q] at h; exact ⟨rfl, h⟩
  have as : ∀ p : Prop, (p ↔ hlP op b a o) → ((bI p) &&& 1 = bI p ∧ Q (some (.int (bI p))) w) := fun p hp => by rw [← bI_c hp] at h; exact ⟨bI_and _, h⟩
  refine Con.go hw12_holds ok12_holds 40 [] rfl ?_
  refine And.intro (fun (c0 : ¬ nI op = 0) => ?_) (fun (c0 : nI op = 0) => ?_) <;> rw [c_0', nI_eqI (by omega) (by omega)] at c0
  · refine And.intro (fun (c1 : ¬ nI op = 1) => ?_) (fun (c1 : nI op = 1) => ?_) <;> rw [c_1, nI_eqI (by omega) (by omega)] at c1
    · refine And.intro (fun (c2 : ¬ nI op = 2) => ?_) (fun (c2 : nI op = 2) => ?_) <;> rw [c_2, nI_eqI (by omega) (by omega)] at c2
      · refine And.intro (fun (c3 : ¬ nI op = 3) => ?_) (fun (c3 : nI op = 3) => ?_) <;> rw [c_3, nI_eqI (by omega) (by omega)] at c3
        · refine And.intro (fun (c4 : ¬ nI op = 4) => ?_) (fun (c4 : nI op = 4) => ?_) <;> rw [c_4, nI_eqI (by omega) (by omega)] at c4
          · exact as o ⟨fun q => Or.inr (Or.inr (Or.inr (Or.inr (Or.inr ⟨by omega, q⟩)))), fun q => by unfold hlP at q; simp only [c0, c1, c2, c3, c4, false_and, false_or] at q; exact q.2⟩
          · subst c4
            refine And.intro (fun q => yes ?_) (fun q => And.intro (fun q2 => no ?_) (fun q2 => yes ?_))
            · rw [bI_n0] at q; exact Or.inr (Or.inr (Or.inr (Or.inr (Or.inl ⟨rfl, Or.inl q⟩))))
            · rw [bI_0] at q q2; intro z; simp [hlP, q, q2] at z
            · rw [bI_n0] at q2; exact Or.inr (Or.inr (Or.inr (Or.inr (Or.inl ⟨rfl, Or.inr q2⟩))))
        · subst c3
          refine And.intro (fun q => no ?_) (fun q => yes ?_)
          · rw [bI_n0] at q; intro z; simp [hlP, q] at z
          · rw [bI_0] at q; exact Or.inr (Or.inr (Or.inr (Or.inl ⟨rfl, q⟩)))
      · subst c2
        exact as a ⟨fun q => Or.inr (Or.inr (Or.inl ⟨rfl, q⟩)), fun z => by simpa [hlP] using z⟩
    · subst c1
      refine And.intro (fun q => yes ?_) (fun q => And.intro (fun q2 => no ?_) (fun q2 => yes ?_))
      · rw [bI_n0] at q; exact Or.inr (Or.inl ⟨rfl, Or.inl q⟩)
      · rw [bI_0] at q q2; intro z; simp [hlP, q, q2] at z
      · rw [bI_n0] at q2; exact Or.inr (Or.inl ⟨rfl, Or.inr q2⟩)
  · subst c0
    exact as b ⟨fun q => Or.inl ⟨rfl, q⟩, fun z => by simpa [hlP] using z⟩
theorem c12_compares {a l op : Nat} {V v : Int64} (ha : a < 160) (h33 : mi w 33 = nI l) (hl : l ≤ 7) (h34 : mj w 34 = V) (hO : ma w 34 a = nI op) (hop : op ≤ 5) (hv : ml w 35 a = v) (hb : okB l V) (h : Q (some (.int (bI (cpP l V op v)))) w) : Con G M12_compares [.ref 79, .int (nI a)] w Q := by
  have hin : vp_in (nI a) 160 := in_nI (by omega) (by decide)
  have eA : (nI a).toNatClampNeg = a := nI_clamp (by omega)
  have e34 : ma w 34 (nI a).toNatClampNeg = nI op := by rw [eA, hO]
  unfold cpP at h
  have main : Wq G M12_compares 7 [some (.ref 79), some (.int (nI a)), some (.long v), none, none, none, none, none] [] (0, 0) w Q := by
    refine Wq.go ok12_compares 20 [15, 67] ?_
    refine And.intro (fun (c : 5 < mi w 33) => ?_) (fun (c : ¬ 5 < mi w 33) => ?_) <;> rw [h33, c_5, nI_ltI (by omega) (by omega)] at c
    · rw [cIf_f (by omega)] at h
      have hL : l = 6 ∨ l = 7 := by omega
      refine Wq.go ok12_compares 60 [84] ?_
      show Con G M12_asDouble [.int (mi w 33), .long (mj w 34)] w _
      rw [h33, h34]
      refine c12_asDouble (by omega) hb hL (fun u hu => ?_)
      rw [← dbR_cmp (y := FP.l2d v) hu] at h
      have e3 : ∀ (p2 p3 x3 : Prop), (p2 ↔ FP.dcmp u (FP.l2d v) = some .lt) → (p3 ↔ FP.dcmp u (FP.l2d v) = some .eq) → (x3 ↔ FP.dcmp u (FP.l2d v) = some .gt) → Wq G M12_compares 129 [some (.ref 79), some (.int (nI a)), some (.long v), none, some (.double u), none, some (.double (FP.l2d v)), none] [.int (bI x3), .int (bI p3), .int (bI p2), .int (nI op)] (0, 0) w Q := by
        intro p2 p3 x3 g1 g2 g3
        refine Wq.go ok12_compares 20 [] ?_
        refine c12_holds (by omega) (And.intro (bI_and _) ?_)
        rw [propext g1, propext g2, propext g3]
        exact h
      have e2 : ∀ (p2 p3 : Prop), (p2 ↔ FP.dcmp u (FP.l2d v) = some .lt) → (p3 ↔ FP.dcmp u (FP.l2d v) = some .eq) → Wq G M12_compares 116 [some (.ref 79), some (.int (nI a)), some (.long v), none, some (.double u), none, some (.double (FP.l2d v)), none] [.int (bI p3), .int (bI p2), .int (nI op)] (0, 0) w Q := by
        intro p2 p3 g1 g2
        refine Wq.go ok12_compares 20 [129] ?_
        refine And.intro (fun c => ?_) (fun c => ?_) <;> rw [cmpl0] at c
        · have := e3 p2 p3 False g1 g2 ⟨False.elim, c⟩
          rw [bI_f id] at this; exact this
        · have := e3 p2 p3 True g1 g2 ⟨fun _ => Classical.not_not.mp c, fun _ => trivial⟩
          rw [bI_t trivial] at this; exact this
      have e1 : ∀ (p2 : Prop), (p2 ↔ FP.dcmp u (FP.l2d v) = some .lt) → Wq G M12_compares 103 [some (.ref 79), some (.int (nI a)), some (.long v), none, some (.double u), none, some (.double (FP.l2d v)), none] [.int (bI p2), .int (nI op)] (0, 0) w Q := by
        intro p2 g1
        refine Wq.go ok12_compares 20 [116] ?_
        refine And.intro (fun c => ?_) (fun c => ?_) <;> rw [cmpv0] at c
        · have := e2 p2 False g1 ⟨False.elim, c⟩
          rw [bI_f id] at this; exact this
        · have := e2 p2 True g1 ⟨fun _ => c, fun _ => trivial⟩
          rw [bI_t trivial] at this; exact this
      refine Wq.go ok12_compares 40 [103] ?_
      refine And.intro hin ?_
      refine And.intro (fun c => ?_) (fun c => ?_) <;> rw [cmpg0] at c
      · have := e1 False ⟨False.elim, c⟩
        rw [bI_f id, ← e34] at this; exact this
      · have := e1 True ⟨fun _ => Classical.not_not.mp c, fun _ => trivial⟩
        rw [bI_t trivial, ← e34] at this; exact this
    · rw [cIf_t (by omega)] at h
      have e3 : ∀ (p2 p3 x3 : Prop), (p2 ↔ V < v) → (p3 ↔ V = v) → (x3 ↔ v < V) → Wq G M12_compares 63 [some (.ref 79), some (.int (nI a)), some (.long v), none, none, none, none, none] [.int (bI x3), .int (bI p3), .int (bI p2), .int (nI op)] (0, 0) w Q := by
        intro p2 p3 x3 g1 g2 g3
        refine Wq.go ok12_compares 20 [] ?_
        refine c12_holds (by omega) (And.intro (bI_and _) ?_)
        rw [propext g1, propext g2, propext g3]
        exact h
      have e2 : ∀ (p2 p3 : Prop), (p2 ↔ V < v) → (p3 ↔ V = v) → Wq G M12_compares 49 [some (.ref 79), some (.int (nI a)), some (.long v), none, none, none, none, none] [.int (bI p3), .int (bI p2), .int (nI op)] (0, 0) w Q := by
        intro p2 p3 g1 g2
        refine Wq.go ok12_compares 20 [63] ?_
        refine And.intro (fun (c : lg_cmp (mj w 34) v ≤ 0) => ?_) (fun (c : ¬ lg_cmp (mj w 34) v ≤ 0) => ?_) <;> rw [h34, lg_le0, i64_le] at c
        · have := e3 p2 p3 False g1 g2 ⟨False.elim, fun q => by rw [i64_lt] at q; omega⟩
          rw [bI_f id] at this; exact this
        · have := e3 p2 p3 True g1 g2 ⟨fun _ => by rw [i64_lt]; omega, fun _ => trivial⟩
          rw [bI_t trivial] at this; exact this
      have e1 : ∀ (p2 : Prop), (p2 ↔ V < v) → Wq G M12_compares 35 [some (.ref 79), some (.int (nI a)), some (.long v), none, none, none, none, none] [.int (bI p2), .int (nI op)] (0, 0) w Q := by
        intro p2 g1
        refine Wq.go ok12_compares 20 [49] ?_
        refine And.intro (fun (c : ¬ lg_cmp (mj w 34) v = 0) => ?_) (fun (c : lg_cmp (mj w 34) v = 0) => ?_) <;> rw [h34, lg_eq0] at c
        · have := e2 p2 False g1 ⟨False.elim, c⟩
          rw [bI_f id] at this; exact this
        · have := e2 p2 True g1 ⟨fun _ => c, fun _ => trivial⟩
          rw [bI_t trivial] at this; exact this
      refine Wq.go ok12_compares 40 [35] ?_
      refine And.intro hin ?_
      refine And.intro (fun (c : 0 ≤ lg_cmp (mj w 34) v) => ?_) (fun (c : ¬ 0 ≤ lg_cmp (mj w 34) v) => ?_) <;> rw [h34, lg_ge0, i64_le] at c
      · have := e1 False ⟨False.elim, fun q => by rw [i64_lt] at q; omega⟩
        rw [bI_f id, ← e34] at this; exact this
      · have := e1 True ⟨fun _ => by rw [i64_lt]; omega, fun _ => trivial⟩
        rw [bI_t trivial, ← e34] at this; exact this
  refine Con.go hw12_compares ok12_compares 20 [7] rfl ?_
  refine And.intro hin ?_
  show Wq G M12_compares 7 [some (.ref 79), some (.int (nI a)), some (.long (ml w 35 (nI a).toNatClampNeg)), none, none, none, none, none] [] (0, 0) w Q
  rw [eA, hv]
  exact main
end
