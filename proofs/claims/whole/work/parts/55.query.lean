/-! ===== queries and handles made by the class ===== -/
/-- u comes of w0 by making cells, the next is b -/
def Mkg (w0 u : qSt) (b : Nat) : Prop := Agree w0 u ∧ qZero u ∧ CW w0 u ∧ gN u 2 0 = b ∧ gN w0 2 0 ≤ b ∧ qZero w0
theorem Mkg.of {w0 : qSt} (hz : qZero w0) : Mkg w0 w0 (gN w0 2 0) := ⟨Agree.rf w0, hz, CW.rf w0, rfl, Nat.le_refl _, hz⟩
theorem Mkg.obj {w0 u : qSt} {b : Nat} (h : Mkg w0 u b) (x : Nat) : Mkg w0 (nwO u x) (b + 1) ∧ gN (nwO u x) 0 b = x ∧ (∀ c, c ≠ b → gN (nwO u x) 0 c = gN u 0 c) ∧ (∀ c, gN (nwO u x) 1 c = gN u 1 c) := by
  obtain ⟨h1, h2, h3, h4, h5, h6⟩ := h
  refine ⟨⟨h1.O (by rw [h4]; exact h6.k h5), h2.O x, h3.O, by rw [nwO_2, h4], by omega, h6⟩, by rw [← h4]; exact nwO_0 u x, fun c hc => nwO_ne u x (by rw [h4]; exact hc), fun c => nwO_1 u x c⟩
theorem Mkg.arr {w0 u : qSt} {b : Nat} (h : Mkg w0 u b) (x n : Nat) : Mkg w0 (nwA u x n) (b + 1) ∧ gN (nwA u x n) 0 b = x ∧ gN (nwA u x n) 1 b = n ∧ (∀ c, c ≠ b → gN (nwA u x n) 0 c = gN u 0 c) ∧ (∀ c, c ≠ b → gN (nwA u x n) 1 c = gN u 1 c) := by
  obtain ⟨h1, h2, h3, h4, h5, h6⟩ := h
  refine ⟨⟨h1.Ar (by rw [h4]; exact h6.k h5), h2.Ar x n, h3.Ar, by rw [nwA_2, h4], by omega, h6⟩, by rw [← h4]; exact nwA_0 u x n, by rw [← h4]; exact nwA_1 u x n, fun c hc => nwA_ne u x n (by rw [h4]; exact hc), fun c hc => nwA_1e u x n (by rw [h4]; exact hc)⟩
theorem Mkg.I {w0 u : qSt} {b : Nat} (h : Mkg w0 u b) {r k a : Nat} {v : Int32} (ha : gN w0 2 0 ≤ a) (hb : a < b) (hr : r < 12) : Mkg w0 (sI u r k a v) b := by
  obtain ⟨h1, h2, h3, h4, h5, h6⟩ := h
  exact ⟨h1.I (h6.k ha) hr, h2.I (by omega) hr, h3.I (by unfold isM; rw [show Nat.beq r 12 = false from by cases e : Nat.beq r 12; rfl; have := Nat.eq_of_beq_eq_true e; omega, show Nat.beq r 40 = false from by cases e : Nat.beq r 40; rfl; have := Nat.eq_of_beq_eq_true e; omega]; rfl), h4, h5, h6⟩
theorem Mkg.J {w0 u : qSt} {b : Nat} (h : Mkg w0 u b) {r k a : Nat} {v : Int64} (ha : gN w0 2 0 ≤ a) (hb : a < b) (hr : r < 12) : Mkg w0 (sJ u r k a v) b := by
  obtain ⟨h1, h2, h3, h4, h5, h6⟩ := h
  exact ⟨h1.J (h6.k ha) hr, h2.J (by omega) hr, h3.J (by unfold isM; rw [show Nat.beq r 12 = false from by cases e : Nat.beq r 12; rfl; have := Nat.eq_of_beq_eq_true e; omega, show Nat.beq r 40 = false from by cases e : Nat.beq r 40; rfl; have := Nat.eq_of_beq_eq_true e; omega]; rfl), h4, h5, h6⟩
theorem Mkg.R {w0 u : qSt} {b : Nat} (h : Mkg w0 u b) {r k a : Nat} {v : Option Nat} (ha : gN w0 2 0 ≤ a) (hb : a < b) (hr : r < 12) : Mkg w0 (sR u r k a v) b := by
  obtain ⟨h1, h2, h3, h4, h5, h6⟩ := h
  exact ⟨h1.R (h6.k ha) hr, h2.R (by omega) hr, h3.R, h4, h5, h6⟩
section
variable {G : qGX} {A : qA} {m w : qSt} {Q : Option Value → qSt → Prop}
theorem c4_init {a : Nat} (hz : qZero w) (ha : gN w 2 0 = a) (h : ∀ u, Mkg w u (a + 5) → gN u 0 a = 3 → gN u 0 (a + 1) = 24 → gN u 0 (a + 2) = 20 → gN u 0 (a + 3) = 21 → gN u 0 (a + 4) = 22 → gN u 1 (a + 1) = 8 → gN u 1 (a + 2) = 8 → gN u 1 (a + 3) = 8 → gN u 1 (a + 4) = 8 →
    gR u 3 0 a = some (a + 1) → gR u 3 1 a = some (a + 2) → gR u 3 2 a = some (a + 3) → gR u 3 3 a = some (a + 4) → gI u 3 4 a = 0 → Q none u) : Con G M4_init [.ref a] (nwO w 3) Q := by
  have g0 := (Mkg.of hz).obj 3
  rw [ha] at g0
  obtain ⟨m0, k0, n0, l0⟩ := g0
  have d4 : gI (nwO w 3) 3 4 a = 0 := ((hz a (by omega)).2.1 3 4 (by omega)).1
  generalize nwO w 3 = u0 at m0 k0 n0 l0 d4 ⊢
  refine Con.go hw4_init ok4_init 20 [13] rfl ?_
  refine And.intro ⟨by decide, by decide⟩ (And.intro ⟨by decide, by decide⟩ (fun b0 hb0 => ?_))
  have hb0 : gN u0 2 0 = b0 := hb0
  rw [m0.2.2.2.1] at hb0
  subst hb0
  obtain ⟨m1, k1, l1, n1, o1⟩ := m0.arr 24 8
  refine And.intro ((n1 a (by omega)).trans k0) ?_
  show Wq G M4_init 13 [some (.ref a)] [] (1, 8) (sR (nwA u0 24 8) 3 0 a (some (a + 1))) Q
  have m1r := m1.R (r := 3) (k := 0) (a := a) (v := some (a + 1)) (by omega) (by omega) (by omega)
  have f1 : gN (sR (nwA u0 24 8) 3 0 a (some (a + 1))) 0 a = 3 ∧ gN (sR (nwA u0 24 8) 3 0 a (some (a + 1))) 0 (a + 1) = 24 ∧ gN (sR (nwA u0 24 8) 3 0 a (some (a + 1))) 1 (a + 1) = 8 ∧ gR (sR (nwA u0 24 8) 3 0 a (some (a + 1))) 3 0 a = some (a + 1) ∧ gI (sR (nwA u0 24 8) 3 0 a (some (a + 1))) 3 4 a = 0 := ⟨(n1 a (by omega)).trans k0, k1, l1, gR_at _ _ _ _ _, d4⟩
  generalize sR (nwA u0 24 8) 3 0 a (some (a + 1)) = u1 at m1r f1 ⊢
  obtain ⟨f1a, f1b, f1c, f1d, f1e⟩ := f1
  refine Wq.go ok4_init 20 [21] ?_
  refine And.intro ⟨by decide, by decide⟩ (And.intro ⟨by decide, by decide⟩ (fun b1 hb1 => ?_))
  have hb1 : gN u1 2 0 = b1 := hb1
  rw [m1r.2.2.2.1] at hb1
  subst hb1
  obtain ⟨m2, k2, l2, n2, o2⟩ := m1r.arr 20 8
  refine And.intro ((n2 a (by omega)).trans f1a) ?_
  show Wq G M4_init 21 [some (.ref a)] [] (2, 16) (sR (nwA u1 20 8) 3 1 a (some (a + 1 + 1))) Q
  have m2r := m2.R (r := 3) (k := 1) (a := a) (v := some (a + 1 + 1)) (by omega) (by omega) (by omega)
  have f2 : gN (sR (nwA u1 20 8) 3 1 a (some (a + 1 + 1))) 0 a = 3 ∧ gN (sR (nwA u1 20 8) 3 1 a (some (a + 1 + 1))) 0 (a + 1) = 24 ∧ gN (sR (nwA u1 20 8) 3 1 a (some (a + 1 + 1))) 1 (a + 1) = 8 ∧ gR (sR (nwA u1 20 8) 3 1 a (some (a + 1 + 1))) 3 0 a = some (a + 1) ∧ gI (sR (nwA u1 20 8) 3 1 a (some (a + 1 + 1))) 3 4 a = 0 ∧ gN (sR (nwA u1 20 8) 3 1 a (some (a + 1 + 1))) 0 (a + 2) = 20 ∧ gN (sR (nwA u1 20 8) 3 1 a (some (a + 1 + 1))) 1 (a + 2) = 8 ∧ gR (sR (nwA u1 20 8) 3 1 a (some (a + 1 + 1))) 3 1 a = some (a + 2) :=
    ⟨(n2 a (by omega)).trans f1a, (n2 (a + 1) (by omega)).trans f1b, (o2 (a + 1) (by omega)).trans f1c, (gR_ne (by omega)).trans f1d, f1e, k2, l2, gR_at _ _ _ _ _⟩
  generalize sR (nwA u1 20 8) 3 1 a (some (a + 1 + 1)) = u2 at m2r f2 ⊢
  obtain ⟨f2a, f2b, f2c, f2d, f2e, f2f, f2g, f2h⟩ := f2
  refine Wq.go ok4_init 20 [29] ?_
  refine And.intro ⟨by decide, by decide⟩ (And.intro ⟨by decide, by decide⟩ (fun b2 hb2 => ?_))
  have hb2 : gN u2 2 0 = b2 := hb2
  rw [m2r.2.2.2.1] at hb2
  subst hb2
  obtain ⟨m3, k3, l3, n3, o3⟩ := m2r.arr 21 8
  refine And.intro ((n3 a (by omega)).trans f2a) ?_
  show Wq G M4_init 29 [some (.ref a)] [] (3, 24) (sR (nwA u2 21 8) 3 2 a (some (a + 1 + 1 + 1))) Q
  have m3r := m3.R (r := 3) (k := 2) (a := a) (v := some (a + 1 + 1 + 1)) (by omega) (by omega) (by omega)
  have f3 : gN (sR (nwA u2 21 8) 3 2 a (some (a + 1 + 1 + 1))) 0 a = 3 ∧ gN (sR (nwA u2 21 8) 3 2 a (some (a + 1 + 1 + 1))) 0 (a + 1) = 24 ∧ gN (sR (nwA u2 21 8) 3 2 a (some (a + 1 + 1 + 1))) 1 (a + 1) = 8 ∧ gR (sR (nwA u2 21 8) 3 2 a (some (a + 1 + 1 + 1))) 3 0 a = some (a + 1) ∧ gI (sR (nwA u2 21 8) 3 2 a (some (a + 1 + 1 + 1))) 3 4 a = 0 ∧ gN (sR (nwA u2 21 8) 3 2 a (some (a + 1 + 1 + 1))) 0 (a + 2) = 20 ∧ gN (sR (nwA u2 21 8) 3 2 a (some (a + 1 + 1 + 1))) 1 (a + 2) = 8 ∧ gR (sR (nwA u2 21 8) 3 2 a (some (a + 1 + 1 + 1))) 3 1 a = some (a + 2) ∧ gN (sR (nwA u2 21 8) 3 2 a (some (a + 1 + 1 + 1))) 0 (a + 3) = 21 ∧ gN (sR (nwA u2 21 8) 3 2 a (some (a + 1 + 1 + 1))) 1 (a + 3) = 8 ∧ gR (sR (nwA u2 21 8) 3 2 a (some (a + 1 + 1 + 1))) 3 2 a = some (a + 3) :=
    ⟨(n3 a (by omega)).trans f2a, (n3 (a + 1) (by omega)).trans f2b, (o3 (a + 1) (by omega)).trans f2c, (gR_ne (by omega)).trans f2d, f2e, (n3 (a + 2) (by omega)).trans f2f, (o3 (a + 2) (by omega)).trans f2g, (gR_ne (by omega)).trans f2h, k3, l3, gR_at _ _ _ _ _⟩
  generalize sR (nwA u2 21 8) 3 2 a (some (a + 1 + 1 + 1)) = u3 at m3r f3 ⊢
  obtain ⟨f3a, f3b, f3c, f3d, f3e, f3f, f3g, f3h, f3i, f3j, f3k⟩ := f3
  refine Wq.go ok4_init 20 [] ?_
  refine And.intro ⟨by decide, by decide⟩ (And.intro ⟨by decide, by decide⟩ (fun b3 hb3 => ?_))
  have hb3 : gN u3 2 0 = b3 := hb3
  rw [m3r.2.2.2.1] at hb3
  subst hb3
  obtain ⟨m4, k4, l4, n4, o4⟩ := m3r.arr 22 8
  refine And.intro ((n4 a (by omega)).trans f3a) ?_
  exact h _ (m4.R (r := 3) (k := 3) (a := a) (by omega) (by omega) (by omega)) ((n4 a (by omega)).trans f3a) ((n4 (a + 1) (by omega)).trans f3b) ((n4 (a + 2) (by omega)).trans f3f) ((n4 (a + 3) (by omega)).trans f3i) k4 ((o4 (a + 1) (by omega)).trans f3c) ((o4 (a + 2) (by omega)).trans f3g) ((o4 (a + 3) (by omega)).trans f3j) l4 ((gR_ne (by omega)).trans f3d) ((gR_ne (by omega)).trans f3h) ((gR_ne (by omega)).trans f3k) (gR_at _ _ _ _ _) f3e
theorem Rep.k77 (hR : Rep A m w) : gN w 0 77 = 26 ∧ gN w 1 77 = 20 := hR.fk.2.2.2.2.2.2.2.2.2.2.2.1
theorem c11_query (hR : Rep A m w) (hQ : QInv m) (hz : qZero w) (h : ∀ A' w', Fin A' (S_query m).2 w w' → Q (some (.int (S_query m).1)) w') : Con G M11_query [.ref 2] w Q := by
  obtain ⟨q1, q2, q3⟩ := hQ
  have hc : gI w 10 6 2 = nI (nQ m) := hR.mq.1.trans q1
  unfold S_query at h
  refine Con.go hw11_query ok11_query 60 [] rfl ?_
  refine And.intro hR.k2 (And.intro (fun (c : gI w 10 6 2 < 20) => ?_) (fun (c : ¬ gI w 10 6 2 < 20) => ?_)) <;> rw [hc, c_20, nI_ltI (by omega) (by omega)] at c
  · rw [cIf_f (by omega)] at h
    refine And.intro hR.k2 (refS hR.r5 (And.intro hR.k2 (And.intro ⟨by decide, by decide⟩ (fun a ha => And.intro ⟨by decide, by decide⟩ ?_))))
    refine c4_init hz ha (fun u mk k0 k1 k2 k3 k4 l1 l2 l3 l4 r0 r1 r2 r3 d4 => ?_)
    have hR1 := hR.agree mk.1
    have h77 := hR1.k77
    rw [hc]
    refine And.intro (And.intro (by rw [h77.1]; rfl) (And.intro (by rw [k0, h77.1]) (by rw [h77.2]; exact in_nI (by omega) (by decide)))) ?_
    rw [nI_clamp (by omega)]
    refine And.intro hR1.k2 (And.intro hR1.k2 (And.intro hR1.k2 (And.intro hR1.k2 ?_)))
    have hz2 : qZero (sR u 23 77 (nQ m) (some a)) := mk.2.1.AR (mk.2.1.lt h77.1 (by omega))
    have hlt2 : 2 < gN u 2 0 := mk.2.1.lt hR1.k2 (by omega)
    show Con G M11_answered [.ref 2, .int (gI (sI (sR u 23 77 (nQ m) (some a)) 10 6 2 (gI u 10 6 2 + 1)) 10 6 2 - 1)] (sI (sR u 23 77 (nQ m) (some a)) 10 6 2 (gI u 10 6 2 + 1)) _
    have hcu : gI u 10 6 2 = nI (nQ m) := hR1.mq.1.trans q1
    rw [hcu, gI_at, nI_1, nI_m1]
    have h99 : gN w 0 a = 99 := hz.k (by omega)
    have eq1 : nQ (sI m 12 43 0 (nI (nQ m + 1))) = nQ m + 1 := (congrArg tn (gI_at m 12 43 0 _)).trans (tn_nI (by omega))
    have hRn : Rep (A.1, A.2.1, A.2.2.1, A.2.2.2.1, A.2.2.2.2.1, fun q => if q = nQ m then a else aY A q) (sI m 12 43 0 (nI (nQ m + 1))) (sI (sR u 23 77 (nQ m) (some a)) 10 6 2 (nI (nQ m + 1))) := by
      refine Rep.mk hR1.fk (FixR.set hR1.fr (by omega)) ((GTy.set hR1.gty (by omega) (by rw [h77.1]; omega)).cg ⟨rfl, fun _ _ _ => rfl⟩ rfl rfl) ((GXo.set hR1.gxo (by omega)).cg rfl rfl rfl rfl rfl rfl) ((HdR.set hR1.hd (by omega)).cg rfl rfl rfl rfl) ((GCo.set hR1.gco (by omega)).cg rfl rfl rfl rfl) ⟨⟨fun q hq => ?_, fun p q hp hq e => ?_⟩, fun q hq => ?_⟩ (hR1.mt.cg rfl rfl rfl rfl rfl) hR1.mr ?_
      · rw [eq1] at hq
        show gR (sR u 23 77 (nQ m) (some a)) 23 77 q = some (if q = nQ m then a else aY A q) ∧ gN u 0 (if q = nQ m then a else aY A q) = 3 ∧ gN u 0 ((if q = nQ m then a else aY A q) + 1) = 24 ∧ gN u 0 ((if q = nQ m then a else aY A q) + 2) = 20 ∧ gN u 0 ((if q = nQ m then a else aY A q) + 3) = 21 ∧ gN u 0 ((if q = nQ m then a else aY A q) + 4) = 22 ∧ gN u 1 ((if q = nQ m then a else aY A q) + 1) = 8 ∧ gN u 1 ((if q = nQ m then a else aY A q) + 2) = 8 ∧ gN u 1 ((if q = nQ m then a else aY A q) + 3) = 8 ∧ gN u 1 ((if q = nQ m then a else aY A q) + 4) = 8 ∧ gR u 3 0 (if q = nQ m then a else aY A q) = some ((if q = nQ m then a else aY A q) + 1) ∧ gR u 3 1 (if q = nQ m then a else aY A q) = some ((if q = nQ m then a else aY A q) + 2) ∧ gR u 3 2 (if q = nQ m then a else aY A q) = some ((if q = nQ m then a else aY A q) + 3) ∧ gR u 3 3 (if q = nQ m then a else aY A q) = some ((if q = nQ m then a else aY A q) + 4)
        by_cases z : q = nQ m
        · rw [if_pos z, z, gR_at]
          exact ⟨rfl, k0, k1, k2, k3, k4, l1, l2, l3, l4, r0, r1, r2, r3⟩
        · rw [if_neg z, gR_ne (by omega)]
          exact hR1.qk.1 q (by omega)
      · rw [eq1] at hp hq
        have e : (if p = nQ m then a else aY A p) = (if q = nQ m then a else aY A q) := e
        have fresh : ∀ q, q < nQ m → aY A q ≠ a := by
          intro q hq z
          have := (hR.qk.1 q hq).2.1
          rw [z] at this; omega
        by_cases z1 : p = nQ m
        · by_cases z2 : q = nQ m
          · omega
          · rw [if_pos z1, if_neg z2] at e
            exact absurd e.symm (fresh q (by omega))
        · by_cases z2 : q = nQ m
          · rw [if_neg z1, if_pos z2] at e
            exact absurd e (fresh p (by omega))
          · rw [if_neg z1, if_neg z2] at e
            exact hR.qk.2 p q (by omega) (by omega) e
      · rw [eq1] at hq
        show gI u 3 4 (if q = nQ m then a else aY A q) = ma m 32 q ∧ ∀ i, i < tQ m q → gR (sR u 23 77 (nQ m) (some a)) 23 ((if q = nQ m then a else aY A q) + 1) i = some (aH A (tH m (8 * q + i))) ∧ gI u 20 ((if q = nQ m then a else aY A q) + 2) i = ma m 34 (8 * q + i) ∧ gJ u 21 ((if q = nQ m then a else aY A q) + 3) i = ml m 35 (8 * q + i) ∧ gI u 20 ((if q = nQ m then a else aY A q) + 4) i = ma m 36 (8 * q + i)
        by_cases z : q = nQ m
        · rw [if_pos z]
          obtain ⟨t1, t2, t3, t4⟩ := q3 q (by omega)
          have t0 := t3 (by omega)
          refine ⟨?_, fun i hi => by omega⟩
          rw [d4, t1, t0]; rfl
        · rw [if_neg z]
          obtain ⟨v1, v2⟩ := hR1.qm q (by omega)
          refine ⟨v1, fun i hi => ?_⟩
          rw [gR_ne (fun y => by
            have y := y.2.1
            have := (hR1.qk.1 q (by omega)).2.2.1
            rw [y, h77.1] at this; omega)]
          exact v2 i hi
      · obtain ⟨u1, u2, u3, u4, u5, u6, u7⟩ := hR1.mq
        exact ⟨(gI_at _ _ _ _ _).trans (gI_at m 12 43 0 _).symm, u2, u3, u4, u5, u6, u7⟩
    exact ans_p hRn (hz2.I hlt2 (by omega)) (nI_pos (by omega)) (fun A' w' hF => h A' w' (hF.cw ((mk.2.2.1.R).I rfl)))
  · rw [cIf_t (by omega)] at h
    exact And.intro hR.k2 (ans_n hR hz (by decide) h)
end
