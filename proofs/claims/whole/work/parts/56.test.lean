/-! ===== tests and handles told to the class ===== -/
section
variable {G : qGX} {A : qA} {m w : qSt} {Q : Option Value → qSt → Prop}
/-- the state behind a test that was told -/
def wTs (w : qSt) (y t : Nat) (hb : Nat) (op : Int32) (v : Int64) (or : Int32) : qSt := sI (sI (sJ (sI (sR w 23 (y + 1) t (some hb)) 20 (y + 2) t op) 21 (y + 3) t v) 20 (y + 4) t or) 3 4 y (nI (t + 1))
theorem wTs_R (w : qSt) (y t hb : Nat) (op : Int32) (v : Int64) (or : Int32) : gR (wTs w y t hb op v or) = gR (sR w 23 (y + 1) t (some hb)) := rfl
theorem wTs_J (w : qSt) (y t hb : Nat) (op : Int32) (v : Int64) (or : Int32) : gJ (wTs w y t hb op v or) = gJ (sJ w 21 (y + 3) t v) := rfl
theorem wTs_N (w : qSt) (y t hb : Nat) (op : Int32) (v : Int64) (or : Int32) : gN (wTs w y t hb op v or) = gN w := rfl
theorem wTs_f (w : qSt) (y t hb : Nat) (op : Int32) (v : Int64) (or : Int32) {r k a : Nat} (hr : r < 12) (h : ¬ (r = 3 ∧ k = 4 ∧ a = y)) : gI (wTs w y t hb op v or) r k a = gI w r k a := by
  unfold wTs
  rw [gI_ne h, gI_ne (by omega)]
  show gI (sI (sR w 23 (y + 1) t (some hb)) 20 (y + 2) t op) r k a = _
  rw [gI_ne (by omega)]; rfl
theorem wTs_a (w : qSt) (y t hb : Nat) (op : Int32) (v : Int64) (or : Int32) {a j : Nat} (h : ¬ (a = y + 2 ∧ j = t)) (h2 : ¬ (a = y + 4 ∧ j = t)) : gI (wTs w y t hb op v or) 20 a j = gI w 20 a j := by
  unfold wTs
  rw [gI_ne (by omega), gI_ne (by omega)]
  show gI (sI (sR w 23 (y + 1) t (some hb)) 20 (y + 2) t op) 20 a j = _
  rw [gI_ne (by omega)]; rfl
theorem rep_test {q H : Nat} {op or : Int32} {v : Int64} (hR : Rep A m w) (hQ : QInv m) (hq : q < nQ m) (ht : tQ m q < 8) (hH : H < 40) : Rep A (sTs m q (nI H) op v or) (wTs w (aY A q) (tQ m q) (aH A H) op v or) := by
  obtain ⟨q1, q2, q3⟩ := hQ
  obtain ⟨k2, k3, k4, k59, k60, k71, k72, k73, k74, k75, k76, k77, k78, k1⟩ := id hR.fk
  obtain ⟨u1, u2, u3, u4, u5, u6, u7, u8, u9, u10, u11, u12, u13, u14⟩ := hR.qk.1 q hq
  have nI20 : ∀ a, (gN w 0 a = 20 → a ≠ aY A q + 2 → True) := fun _ _ _ => trivial
  have y1 : aY A q + 2 ≠ 75 := fun z => by rw [show aY A q = 73 by omega, k73] at u2; omega
  have y2 : aY A q + 2 ≠ 78 := fun z => by rw [show aY A q = 76 by omega, k76.1] at u2; omega
  have y3 : aY A q + 4 ≠ 75 := fun z => by rw [show aY A q = 71 by omega, k71] at u2; omega
  have y4 : aY A q + 4 ≠ 78 := fun z => by rw [show aY A q = 74 by omega, k74.1] at u2; omega
  have y5 : aY A q + 2 ≠ 1 := by omega
  have rows : ∀ r, r ≠ 32 → r ≠ 33 → r ≠ 34 → r ≠ 36 → ma (sTs m q (nI H) op v or) r = ma m r := by
    intro r r1 r2 r3 r4
    funext i
    unfold sTs
    show gI (sI (sI (sJ (sI (sI m 40 33 (8 * q + tQ m q) (nI H)) 40 34 (8 * q + tQ m q) op) 40 35 (8 * q + tQ m q) v) 40 36 (8 * q + tQ m q) or) 40 32 q (nI (tQ m q + 1))) 40 r i = _
    rw [gI_ne (by omega), gI_ne (by omega)]
    show gI (sI (sI m 40 33 (8 * q + tQ m q) (nI H)) 40 34 (8 * q + tQ m q) op) 40 r i = _
    rw [gI_ne (by omega), gI_ne (by omega)]
  have rowsJ : ∀ r, r ≠ 35 → ml (sTs m q (nI H) op v or) r = ml m r := by
    intro r r1
    funext i
    show gJ (sJ m 40 35 (8 * q + tQ m q) v) 40 r i = _
    exact gJ_ne (by omega)
  have hfr : FixR (wTs w (aY A q) (tQ m q) (aH A H) op v or) := by
    obtain ⟨r1, r2, r3, r4, r5, r6, r7, r8, r9, r10, r11, r12, r13, r14, r15, r16, r17⟩ := FixR.set (a := aY A q + 1) (j := tQ m q) (v := some (aH A H)) hR.fr (fun z => by rw [show aY A q = 58 by omega] at u3; have : gN w 0 59 = 24 := u3; omega)
    refine ⟨r1, r2, r3, r4, r5, r6, r7, r8, r9, r10, r11, r12, r13, r14, r15, r16, ?_⟩
    funext j
    rw [← r17]
    exact wTs_a w _ _ _ _ _ _ (by omega) (by omega)
  have ne25 : gN w 0 (aY A q + 1) ≠ 25 := by rw [u3]; omega
  have ne4 : aY A q + 1 ≠ 4 := fun z => by rw [z] at u3; omega
  have ne72 : aY A q + 1 ≠ 72 := fun z => by rw [z] at u3; omega
  have ne74 : aY A q + 1 ≠ 74 := fun z => by rw [show aY A q = 73 by omega, k73] at u2; omega
  have ne76 : aY A q + 1 ≠ 76 := fun z => by rw [z] at u3; omega
  have ne77 : aY A q + 1 ≠ 77 := fun z => by rw [z] at u3; omega
  obtain ⟨t1, t2, t3, t4, t5, t6, t7, t8, t9⟩ := GTy.set (a := aY A q + 1) (j := tQ m q) (v := some (aH A H)) hR.gty ne4 ne25
  have gt : GTy A m (wTs w (aY A q) (tQ m q) (aH A H) op v or) := by
    refine ⟨t1, fun i hi => ?_, fun i hi => ?_, t4, t5, fun i j hi hj => ?_, fun i j hi hj hf => ?_, t8, t9⟩
    · have := t2 i hi
      rw [wTs_f w _ _ _ _ _ _ (by omega) (by omega), wTs_f w _ _ _ _ _ _ (by omega) (by omega), wTs_f w _ _ _ _ _ _ (by omega) (by omega), wTs_f w _ _ _ _ _ _ (by omega) (by omega), wTs_f w _ _ _ _ _ _ (by omega) (by omega)]
      exact this
    · have := t3 i hi
      rw [wTs_f w _ _ _ _ _ _ (by omega) (by omega), wTs_f w _ _ _ _ _ _ (by omega) (by omega), wTs_f w _ _ _ _ _ _ (by omega) (by omega), wTs_f w _ _ _ _ _ _ (by omega) (by omega)]
      exact this
    · have := t6 i j hi hj
      rw [wTs_f w _ _ _ _ _ _ (by omega) (by omega), wTs_f w _ _ _ _ _ _ (by omega) (by omega), wTs_f w _ _ _ _ _ _ (by omega) (by omega), wTs_f w _ _ _ _ _ _ (by omega) (by omega), wTs_f w _ _ _ _ _ _ (by omega) (by omega), wTs_f w _ _ _ _ _ _ (by omega) (by omega)]
      exact this
    · rw [wTs_J, gJ_ne (by omega)]; exact t7 i j hi hj hf
  have gx : GXo A m (wTs w (aY A q) (tQ m q) (aH A H) op v or) := by
    obtain ⟨x1, x2, x3⟩ := GXo.set (a := aY A q + 1) (j := tQ m q) (v := some (aH A H)) hR.gxo ne72
    refine ⟨x1, fun x hx => ?_, fun x i hx hi => ?_⟩
    · have := x2 x hx
      rw [wTs_f w _ _ _ _ _ _ (by omega) (by omega), wTs_f w _ _ _ _ _ _ (by omega) (by omega)]
      exact this
    · rw [wTs_J, gJ_ne (fun z => by
        have := (hR.xk.1 x hx).2.1
        rw [show aX A x = aY A q + 2 by omega, u4] at this; omega)]
      exact hR.xj x i hx hi
  have gh : HdR A m (wTs w (aY A q) (tQ m q) (aH A H) op v or) := by
    intro x hx
    obtain ⟨a1, a2, a3, a4, a5⟩ := HdR.set (a := aY A q + 1) (j := tQ m q) (v := some (aH A H)) hR.hd ne74 x hx
    exact ⟨a1, a2, a3, a4, fun z => (wTs_f w _ _ _ _ _ _ (by omega) (by omega)).trans (a5 z)⟩
  have gc : GCo A m (wTs w (aY A q) (tQ m q) (aH A H) op v or) := by
    obtain ⟨c1, c2⟩ := GCo.set (a := aY A q + 1) (j := tQ m q) (v := some (aH A H)) hR.gco ne76
    refine ⟨⟨fun k hk => ⟨(c1.1 k hk).1, fun z => ?_⟩, c1.2⟩, fun k i hk z hi => ?_⟩
    · obtain ⟨a1, a2, a3, a4, a5, a6⟩ := (c1.1 k hk).2 z
      exact ⟨a1, a2, a3, (wTs_f w _ _ _ _ _ _ (by omega) (by omega)).trans a4, a5, a6⟩
    · rw [wTs_J, gJ_ne (fun y => by
        have := ((hR.ck.1 k hk).2 z).2.1
        rw [show aK A k = aY A q + 2 by omega, u4] at this; omega)]
      exact hR.cj k i hk z hi
  have emQ : nQ (sTs m q (nI H) op v or) = nQ m := rfl
  have e32 : ma (sTs m q (nI H) op v or) 32 q = nI (tQ m q + 1) := gI_at _ _ _ _ _
  have e32n : ∀ p, p ≠ q → ma (sTs m q (nI H) op v or) 32 p = ma m 32 p := by
    intro p hp
    unfold sTs
    show gI (sI (sI (sJ (sI (sI m 40 33 (8 * q + tQ m q) (nI H)) 40 34 (8 * q + tQ m q) op) 40 35 (8 * q + tQ m q) v) 40 36 (8 * q + tQ m q) or) 40 32 q (nI (tQ m q + 1))) 40 32 p = _
    rw [gI_ne (by omega), gI_ne (by omega)]
    show gI (sI (sI m 40 33 (8 * q + tQ m q) (nI H)) 40 34 (8 * q + tQ m q) op) 40 32 p = _
    rw [gI_ne (by omega), gI_ne (by omega)]
  have e33 : ∀ x, ma (sTs m q (nI H) op v or) 33 x = if x = 8 * q + tQ m q then nI H else ma m 33 x := by
    intro x
    unfold sTs
    show gI (sI (sI (sJ (sI (sI m 40 33 (8 * q + tQ m q) (nI H)) 40 34 (8 * q + tQ m q) op) 40 35 (8 * q + tQ m q) v) 40 36 (8 * q + tQ m q) or) 40 32 q (nI (tQ m q + 1))) 40 33 x = _
    rw [gI_ne (by omega), gI_ne (by omega)]
    show gI (sI (sI m 40 33 (8 * q + tQ m q) (nI H)) 40 34 (8 * q + tQ m q) op) 40 33 x = _
    rw [gI_ne (by omega)]
    by_cases z : x = 8 * q + tQ m q
    · rw [if_pos z, z]; exact gI_at _ _ _ _ _
    · rw [if_neg z]; exact gI_ne (by omega)
  have e34 : ∀ x, ma (sTs m q (nI H) op v or) 34 x = if x = 8 * q + tQ m q then op else ma m 34 x := by
    intro x
    unfold sTs
    show gI (sI (sI (sJ (sI (sI m 40 33 (8 * q + tQ m q) (nI H)) 40 34 (8 * q + tQ m q) op) 40 35 (8 * q + tQ m q) v) 40 36 (8 * q + tQ m q) or) 40 32 q (nI (tQ m q + 1))) 40 34 x = _
    rw [gI_ne (by omega), gI_ne (by omega)]
    show gI (sI (sI m 40 33 (8 * q + tQ m q) (nI H)) 40 34 (8 * q + tQ m q) op) 40 34 x = _
    by_cases z : x = 8 * q + tQ m q
    · rw [if_pos z, z]; exact gI_at _ _ _ _ _
    · rw [if_neg z, gI_ne (by omega), gI_ne (by omega)]
  have e36 : ∀ x, ma (sTs m q (nI H) op v or) 36 x = if x = 8 * q + tQ m q then or else ma m 36 x := by
    intro x
    unfold sTs
    show gI (sI (sI (sJ (sI (sI m 40 33 (8 * q + tQ m q) (nI H)) 40 34 (8 * q + tQ m q) op) 40 35 (8 * q + tQ m q) v) 40 36 (8 * q + tQ m q) or) 40 32 q (nI (tQ m q + 1))) 40 36 x = _
    rw [gI_ne (by omega)]
    by_cases z : x = 8 * q + tQ m q
    · rw [if_pos z, z]; exact gI_at _ _ _ _ _
    · rw [if_neg z, gI_ne (by omega)]
      show gI (sI (sI m 40 33 (8 * q + tQ m q) (nI H)) 40 34 (8 * q + tQ m q) op) 40 36 x = _
      rw [gI_ne (by omega), gI_ne (by omega)]
  have e35 : ∀ x, ml (sTs m q (nI H) op v or) 35 x = if x = 8 * q + tQ m q then v else ml m 35 x := by
    intro x
    show gJ (sJ m 40 35 (8 * q + tQ m q) v) 40 35 x = _
    by_cases z : x = 8 * q + tQ m q
    · rw [if_pos z, z]; exact gJ_at _ _ _ _ _
    · rw [if_neg z]; exact gJ_ne (by omega)
  have etQ : ∀ p, tQ (sTs m q (nI H) op v or) p = if p = q then tQ m q + 1 else tQ m p := by
    intro p
    by_cases z : p = q
    · rw [if_pos z, z]; show tn (ma (sTs m q (nI H) op v or) 32 q) = _; rw [e32]; exact tn_nI (by omega)
    · rw [if_neg z]; show tn (ma (sTs m q (nI H) op v or) 32 p) = _; rw [e32n p z]; rfl
  have etH : ∀ x, tH (sTs m q (nI H) op v or) x = if x = 8 * q + tQ m q then H else tH m x := by
    intro x
    show tn (ma (sTs m q (nI H) op v or) 33 x) = _
    rw [e33]
    by_cases z : x = 8 * q + tQ m q
    · rw [if_pos z, if_pos z]; exact tn_nI (by omega)
    · rw [if_neg z, if_neg z]; rfl
  have gq : GQu A (sTs m q (nI H) op v or) (wTs w (aY A q) (tQ m q) (aH A H) op v or) := by
    refine ⟨⟨fun p hp => ?_, hR.qk.2⟩, fun p hp => ?_⟩
    · have hp : p < nQ m := hp
      obtain ⟨a1, a2⟩ := hR.qk.1 p hp
      exact ⟨(gR_ne (by omega)).trans a1, a2⟩
    · have hp : p < nQ m := hp
      obtain ⟨b1, b2⟩ := hR.qm p hp
      obtain ⟨p1, p2, p3, p4, p5, p6, -⟩ := hR.qk.1 p hp
      by_cases z : p = q
      · subst z
        refine ⟨?_, fun i hi => ?_⟩
        · rw [e32]; exact gI_at _ _ _ _ _
        · rw [etQ, if_pos rfl] at hi
          rw [etH, e34, e35, e36]
          by_cases y : i = tQ m p
          · subst y
            rw [if_pos rfl, if_pos rfl, if_pos rfl, if_pos rfl]
            refine ⟨gR_at _ _ _ _ _, ?_, gJ_at w 21 (aY A p + 3) (tQ m p) v, ?_⟩
            · unfold wTs
              rw [gI_ne (by omega), gI_ne (by omega)]
              exact gI_at (sR w 23 (aY A p + 1) (tQ m p) (some (aH A H))) 20 (aY A p + 2) (tQ m p) op
            · unfold wTs
              rw [gI_ne (by omega)]
              exact gI_at _ _ _ _ _
          · obtain ⟨c1, c2, c3, c4⟩ := b2 i (by omega)
            rw [if_neg (by omega), if_neg (by omega), if_neg (by omega), if_neg (by omega)]
            exact ⟨(gR_ne (by omega)).trans c1, (wTs_a w _ _ _ _ _ _ (by omega) (by omega)).trans c2, (gJ_ne (by omega)).trans c3, (wTs_a w _ _ _ _ _ _ (by omega) (by omega)).trans c4⟩
      · have hne : aY A p ≠ aY A q := fun y => z (hR.qk.2 p q hp hq y)
        have hn2 : aY A p ≠ aY A q + 2 := fun y => by rw [y, u4] at p2; omega
        have hn3 : aY A q ≠ aY A p + 2 := fun y => by rw [y, p4] at u2; omega
        rw [e32n p z, wTs_f w _ _ _ _ _ _ (by omega) (by omega)]
        refine ⟨b1, fun i hi => ?_⟩
        rw [etQ, if_neg z] at hi
        have h8 := (q3 p (by omega)).2.1
        rw [etH, e34, e35, e36, if_neg (by omega), if_neg (by omega), if_neg (by omega), if_neg (by omega)]
        obtain ⟨c1, c2, c3, c4⟩ := b2 i hi
        exact ⟨(gR_ne (by omega)).trans c1, (wTs_a w _ _ _ _ _ _ (by omega) (by omega)).trans c2, (gJ_ne (by omega)).trans c3, (wTs_a w _ _ _ _ _ _ (by omega) (by omega)).trans c4⟩
  refine Rep.mk hR.fk hfr (gt.cg ⟨rfl, fun r hr h4 => rows r (by omega) (by omega) (by omega) (by omega)⟩ (rows 4 (by omega) (by omega) (by omega) (by omega)) (rowsJ 14 (by omega))) (gx.cg rfl (rows 19 (by omega) (by omega) (by omega) (by omega)) (rows 20 (by omega) (by omega) (by omega) (by omega)) (rows 21 (by omega) (by omega) (by omega) (by omega)) (rows 22 (by omega) (by omega) (by omega) (by omega)) (rowsJ 23 (by omega))) (gh.cg rfl (rows 24 (by omega) (by omega) (by omega) (by omega)) (rows 25 (by omega) (by omega) (by omega) (by omega)) (rows 26 (by omega) (by omega) (by omega) (by omega))) (gc.cg (rows 28 (by omega) (by omega) (by omega) (by omega)) (rows 29 (by omega) (by omega) (by omega) (by omega)) (rows 30 (by omega) (by omega) (by omega) (by omega)) (rowsJ 31 (by omega))) gq ?_ ?_ ?_
  · refine MaT.cg (m := m) ?_ rfl rfl rfl (rows 0 (by omega) (by omega) (by omega) (by omega)) (rows 4 (by omega) (by omega) (by omega) (by omega))
    obtain ⟨a1, a2, a3, a4, a5⟩ := hR.mt
    exact ⟨(wTs_f w _ _ _ _ _ _ (by omega) (by omega)).trans a1, (wTs_f w _ _ _ _ _ _ (by omega) (by omega)).trans a2, (wTs_f w _ _ _ _ _ _ (by omega) (by omega)).trans a3, (wTs_f w _ _ _ _ _ _ (by omega) (by omega)).trans a4, (wTs_f w _ _ _ _ _ _ (by omega) (by omega)).trans a5⟩
  · obtain ⟨a1, a2⟩ := hR.mr
    refine ⟨(wTs_f w _ _ _ _ _ _ (by omega) (by omega)).trans a1, fun i hi => ?_⟩
    rw [rows 27 (by omega) (by omega) (by omega) (by omega)]
    exact (wTs_a w _ _ _ _ _ _ (by omega) (by omega)).trans (a2 i hi)
  · obtain ⟨a1, a2, a3, a4, a5, a6, a7⟩ := hR.mq
    refine ⟨(wTs_f w _ _ _ _ _ _ (by omega) (by omega)).trans a1, (wTs_f w _ _ _ _ _ _ (by omega) (by omega)).trans a2, (wTs_f w _ _ _ _ _ _ (by omega) (by omega)).trans a3, (wTs_f w _ _ _ _ _ _ (by omega) (by omega)).trans a4, (wTs_f w _ _ _ _ _ _ (by omega) (by omega)).trans a5, (wTs_f w _ _ _ _ _ _ (by omega) (by omega)).trans a6, fun i hi => ?_⟩
    rw [rows 37 (by omega) (by omega) (by omega) (by omega)]
    exact (wTs_a w _ _ _ _ _ _ (by omega) (by omega)).trans (a7 i hi)
theorem c11_test {q h op or : Int32} {v : Int64} (hR : Rep A m w) (hQ : QInv m) (hH : HInv m) (hz : qZero w) (ho : or &&& 1 = or) (hq : ∀ A' w', Fin A' (S_test m q h op v or).2 w w' → Q (some (.int (S_test m q h op v or).1)) w') : Con G M11_test [.ref 2, .int q, .int h, .int op, .long v, .int or] w Q := by
  obtain ⟨q1, q2, q3⟩ := id hQ
  have h40 := hH.2.1
  unfold S_test at hq
  have bad : (¬ isQ m q ∨ ¬ isH m h ∨ ¬ (∃ k, op = nI k ∧ k < 6)) → ∀ l7 l8, Wq G M11_test 36 [some (.ref 2), some (.int q), some (.int h), some (.int op), some (.long v), none, some (.int or), l7, l8] [] (0, 0) w Q := by
    intro hb l7 l8
    rw [cIf_t hb] at hq
    refine Wq.ls (ls' := [some (.ref 2), some (.int q), some (.int h), some (.int op), some (.long v), none, some (.int or), none, none]) ⟨rfl, rfl, rfl, rfl, rfl, rfl, by cases l7 <;> cases l8 <;> trivial⟩ ?_
    exact Wq.go ok11_test 20 [] (And.intro hR.k2 (ans_n hR hz neg1 hq))
  refine Con.go hw11_test ok11_test 40 [36, 42] rfl ?_
  refine And.intro hR.k2 (c11_queryAt hR hQ (fun z => ?_) (fun J eJ hJ => ?_))
  · exact And.intro hR.k2 (refS hR.r3 (And.intro hR.k73 (c5_handleAt hR hH (fun _ => bad (Or.inl z) _ _) (fun _ _ _ => bad (Or.inl z) _ _))))
  · refine And.intro hR.k2 (refS hR.r3 (And.intro hR.k73 (c5_handleAt hR hH (fun z => bad (Or.inr (Or.inl z)) _ _) (fun H eH hHH => ?_))))
    refine And.intro (fun c => bad (Or.inr (Or.inr (nNot (by omega) (Or.inl c)))) _ _) (fun c => And.intro (fun (c2 : op ≤ 5) => ?_) (fun (c2 : ¬ op ≤ 5) => bad (Or.inr (Or.inr (nNot (by omega) (Or.inr ?_)))) _ _))
    · have hop : ∃ k, op = nI k ∧ k < 6 := nIn (by omega) c (by rw [i32_lt]; rw [i32_le] at c2; have c2 : op.toInt ≤ 5 := c2; show op.toInt < 6; omega)
      rw [cIf_f (fun z => z.elim (fun z => z ⟨J, eJ, hJ⟩) (fun z => z.elim (fun z => z ⟨H, eH, hHH⟩) (fun z => z hop)))] at hq
      subst eJ eH
      rw [tn_nI (by omega)] at hq
      obtain ⟨u1, u2, u3, u4, u5, u6, u7, u8, u9, u10, u11, u12, u13, u14⟩ := hR.qk.1 J hJ
      obtain ⟨t1, t2, t3, t4⟩ := q3 J (by omega)
      have hcnt : gI w 3 4 (aY A J) = nI (tQ m J) := (hR.qm J hJ).1.trans t1
      have hk := (hR.hd H hHH).2.1
      refine Wq.go ok11_test 40 [] ?_
      refine And.intro u2 (Con.go hw4_addTest ok4_addTest 60 [12] rfl ?_)
      refine And.intro u2 (And.intro (fun (c3 : gI w 3 4 (aY A J) < 8) => ?_) (fun (c3 : ¬ gI w 3 4 (aY A J) < 8) => ?_)) <;> rw [hcnt, c_8, nI_ltI (by omega) (by omega)] at c3
      · rw [cIf_f (by omega)] at hq
        have hin : vp_in (nI (tQ m J)) 8 := in_nI (by omega) (by decide)
        have ek : (nI (tQ m J)).toNatClampNeg = tQ m J := nI_clamp (by omega)
        refine Wq.go ok4_addTest 60 [53] ?_
        refine And.intro u2 (refS u11 (And.intro u2 (And.intro (And.intro (by rw [u3]; rfl) (And.intro (by rw [hk, u3]) (by rw [u7, hcnt]; exact hin))) ?_)))
        refine And.intro u2 (refS (show gR (sR w 23 (aY A J + 1) (gI w 3 4 (aY A J)).toNatClampNeg (some (aH A H))) 3 1 (aY A J) = some (aY A J + 2) from u12) (And.intro u2 (And.intro u4 (And.intro (show vp_in (gI w 3 4 (aY A J)) (gN w 1 (aY A J + 2)) by rw [u8, hcnt]; exact hin) ?_))))
        refine And.intro u2 (refS (show gR (sR w 23 (aY A J + 1) (gI w 3 4 (aY A J)).toNatClampNeg (some (aH A H))) 3 2 (aY A J) = some (aY A J + 3) from u13) (And.intro u2 (And.intro u5 (And.intro (show vp_in (gI w 3 4 (aY A J)) (gN w 1 (aY A J + 3)) by rw [u9, hcnt]; exact hin) ?_))))
        refine And.intro u2 (refS (show gR (sR w 23 (aY A J + 1) (gI w 3 4 (aY A J)).toNatClampNeg (some (aH A H))) 3 3 (aY A J) = some (aY A J + 4) from u14) (And.intro u2 (And.intro ho (And.intro u6 (And.intro (show vp_in (gI w 3 4 (aY A J)) (gN w 1 (aY A J + 4)) by rw [u10, hcnt]; exact hin) ?_)))))
        show Wq G M4_addTest 53 [some (.ref (aY A J)), some (.ref (aH A H)), some (.int op), some (.long v), none, some (.int or)] [] (0, 0) (sI (sJ (sI (sR w 23 (aY A J + 1) (gI w 3 4 (aY A J)).toNatClampNeg (some (aH A H))) 20 (aY A J + 2) (gI w 3 4 (aY A J)).toNatClampNeg op) 21 (aY A J + 3) (gI w 3 4 (aY A J)).toNatClampNeg v) 20 (aY A J + 4) (gI w 3 4 (aY A J)).toNatClampNeg or) _
        rw [hcnt, ek]
        refine Wq.go ok4_addTest 20 [] ?_
        refine And.intro u2 (And.intro u2 (And.intro u2 ?_))
        have hR' := rep_test (op := op) (or := or) (v := v) hR hQ hJ (by omega) (show H < 40 by omega)
        have hz' : qZero (wTs w (aY A J) (tQ m J) (aH A H) op v or) := by
          have l1 := hz.lt u2 (by omega)
          have l2 := hz.lt u3 (by omega)
          have l3 := hz.lt u4 (by omega)
          have l4 := hz.lt u5 (by omega)
          have l5 := hz.lt u6 (by omega)
          exact ((((hz.AR l2).AI l3).AJ l4).AI l5).I l1 (by omega)
        have hcw : CW w (wTs w (aY A J) (tQ m J) (aH A H) op v or) := (((((CW.rf w).R).I rfl).J rfl).I rfl).I rfl
        show gN w 0 2 = 10 ∧ Con G M11_answered [.ref 2, .int (gI (sI (sI (sJ (sI (sR w 23 (aY A J + 1) (tQ m J) (some (aH A H))) 20 (aY A J + 2) (tQ m J) op) 21 (aY A J + 3) (tQ m J) v) 20 (aY A J + 4) (tQ m J) or) 3 4 (aY A J) (gI w 3 4 (aY A J) + 1)) 3 4 (aY A J))] (sI (sI (sJ (sI (sR w 23 (aY A J + 1) (tQ m J) (some (aH A H))) 20 (aY A J + 2) (tQ m J) op) 21 (aY A J + 3) (tQ m J) v) 20 (aY A J + 4) (tQ m J) or) 3 4 (aY A J) (gI w 3 4 (aY A J) + 1)) _
        rw [hcnt, nI_1, gI_at]
        exact And.intro hR.k2 (ans_p hR' hz' (nI_pos (by omega)) (fun A' w' hF => hq A' w' (hF.cw hcw)))
      · rw [cIf_t (by omega)] at hq
        exact And.intro hR.k2 (ans_n hR hz (by decide) hq)
    · rw [i32_lt]
      rw [i32_le] at c2
      have c2 : ¬ op.toInt ≤ 5 := c2
      show ¬ op.toInt < 6
      omega
end
