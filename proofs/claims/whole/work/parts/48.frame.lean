/-! ===== the frame of what is new ===== -/
section
variable {A : qA} {m w w' : qSt}
theorem Agree.s (h : Agree w w') {a c : Nat} (hk : gN w 0 a = c) (hc : c ≠ 99) : SameC w w' a := h a (by rw [hk]; exact hc)
theorem Agree.k (h : Agree w w') {a c : Nat} (hk : gN w 0 a = c) (hc : c ≠ 99) : gN w' 0 a = c := (h.s hk hc).1.trans hk
theorem SameC.n1 {a : Nat} (h : SameC w w' a) {c : Nat} (hk : gN w 1 a = c) : gN w' 1 a = c := h.2.1.trans hk
theorem SameC.fI {a : Nat} (h : SameC w w' a) (r k : Nat) (hr : r < 12) {v : Int32} (e : gI w r k a = v) : gI w' r k a = v := (h.2.2.1 r k hr).1.trans e
theorem SameC.fJ {a : Nat} (h : SameC w w' a) (r k : Nat) (hr : r < 12) {v : Int64} (e : gJ w r k a = v) : gJ w' r k a = v := (h.2.2.1 r k hr).2.1.trans e
theorem SameC.fR {a : Nat} (h : SameC w w' a) (r k : Nat) (hr : r < 12) {v : Option Nat} (e : gR w r k a = v) : gR w' r k a = v := (h.2.2.1 r k hr).2.2.trans e
theorem SameC.eI {a : Nat} (h : SameC w w' a) (j : Nat) {v : Int32} (e : gI w 20 a j = v) : gI w' 20 a j = v := (h.2.2.2 j).1.trans e
theorem SameC.eJ {a : Nat} (h : SameC w w' a) (j : Nat) {v : Int64} (e : gJ w 21 a j = v) : gJ w' 21 a j = v := (h.2.2.2 j).2.1.trans e
theorem SameC.eR {a : Nat} (h : SameC w w' a) (j : Nat) {v : Option Nat} (e : gR w 23 a j = v) : gR w' 23 a j = v := (h.2.2.2 j).2.2.trans e
theorem Rep.agree (hR : Rep A m w) (h : Agree w w') : Rep A m w' := by
  obtain ⟨k2, k3, k4, k59, k60, k71, k72, k73, k74, k75, k76, k77, k78, k1, k0⟩ := id hR.fk
  have s2 := h.s k2 (by omega)
  have s3 := h.s k3 (by omega)
  have s4 := h.s k4.1 (by omega)
  have s59 := h.s k59.1 (by omega)
  have s71 := h.s k71 (by omega)
  have s72 := h.s k72.1 (by omega)
  have s73 := h.s k73 (by omega)
  have s74 := h.s k74.1 (by omega)
  have s75 := h.s k75.1 (by omega)
  have s76 := h.s k76.1 (by omega)
  have s77 := h.s k77.1 (by omega)
  have s78 := h.s k78.1 (by omega)
  have s1 := h.s k1.1 (by omega)
  refine ⟨?_, ?_, ?_, ?_, ?_, ?_, ?_, ?_, ?_, ?_, ?_, ?_, ?_, ?_, ?_, ?_, ?_, ?_, ?_, ?_, ?_, ?_⟩
  · exact ⟨h.k k2 (by omega), h.k k3 (by omega), ⟨h.k k4.1 (by omega), s4.n1 k4.2⟩, ⟨h.k k59.1 (by omega), s59.n1 k59.2⟩, fun n hn => h.k (k60 n hn) (by omega), h.k k71 (by omega), ⟨h.k k72.1 (by omega), s72.n1 k72.2⟩, h.k k73 (by omega), ⟨h.k k74.1 (by omega), s74.n1 k74.2⟩, ⟨h.k k75.1 (by omega), s75.n1 k75.2⟩, ⟨h.k k76.1 (by omega), s76.n1 k76.2⟩, ⟨h.k k77.1 (by omega), s77.n1 k77.2⟩, ⟨h.k k78.1 (by omega), s78.n1 k78.2⟩, ⟨h.k k1.1 (by omega), s1.n1 k1.2⟩, h.k k0 (by omega)⟩
  · obtain ⟨r1, r2, r3, r4, r5, r6, r7, r8, r9, r10, r11, r12, r13, r14, r15, r16, r17⟩ := hR.fr
    exact ⟨s2.fR 10 0 (by omega) r1, s2.fR 10 1 (by omega) r2, s2.fR 10 2 (by omega) r3, s2.fR 10 3 (by omega) r4, s2.fR 10 4 (by omega) r5, s2.fR 10 5 (by omega) r6, s3.fR 9 0 (by omega) r7, s3.fR 9 1 (by omega) r8, s3.fR 9 2 (by omega) r9, fun n hn => s59.eR n (r10 n hn), s71.fR 6 0 (by omega) r11, s71.fR 6 1 (by omega) r12, s73.fR 4 0 (by omega) r13, s73.fR 4 1 (by omega) r14, s73.fR 4 2 (by omega) r15, s73.fR 4 3 (by omega) r16, by funext j; rw [← r17]; exact s1.eI j rfl⟩
  · intro i hi
    obtain ⟨t1, t2, t3, t4, t5, t6, t7⟩ := hR.tk i hi
    exact ⟨s4.eR i t1, h.k t2 (by omega), h.k t3 (by omega), h.k t4 (by omega), h.k t5 (by omega), h.k t6 (by omega), h.k t7 (by omega)⟩
  · intro i hi
    obtain ⟨t1, t2, t3, t4, t5, t6, t7⟩ := hR.tk i hi
    have s := h.s t2 (by omega)
    obtain ⟨u1, u2, u3, u4, u5, u6, u7, u8, u9, u10, u11, u12, u13, u14, u15⟩ := hR.ts i hi
    exact ⟨s.fI 7 0 (by omega) u1, s.fI 7 1 (by omega) u2, s.fR 7 2 (by omega) u3, s.fR 7 3 (by omega) u4, s.fI 7 4 (by omega) u5, s.fI 7 5 (by omega) u6, s.fI 7 6 (by omega) u7, s.fR 7 7 (by omega) u8, s.fR 7 8 (by omega) u9, s.fR 7 9 (by omega) u10, s.fR 7 10 (by omega) u11, s.fR 7 11 (by omega) u12, (h.s t5 (by omega)).n1 u13, (h.s t6 (by omega)).n1 u14, (h.s t7 (by omega)).n1 u15⟩
  · intro i hi
    have s := h.s (hR.tk i hi).2.1 (by omega)
    obtain ⟨u1, u2, u3, u4⟩ := hR.tm i hi
    exact ⟨s.fI 7 12 (by omega) u1, s.fI 7 13 (by omega) u2, s.fI 7 14 (by omega) u3, s.fI 7 15 (by omega) u4⟩
  · intro i hi j hj
    obtain ⟨t1, t2, t3, t4, t5, t6, t7⟩ := hR.tk i hi
    obtain ⟨u1, u2⟩ := hR.tu i hi j hj
    rw [(h.s t3 (by omega)).tS, (h.s t4 (by omega)).tS]
    exact ⟨u1, u2⟩
  · intro i j hi hj
    obtain ⟨t1, t2, t3, t4, t5, t6, t7⟩ := hR.tk i hi
    obtain ⟨u1, u2⟩ := hR.bk i j hi hj
    exact ⟨(h.s t5 (by omega)).eR j u1, h.k u2 (by omega)⟩
  · intro i j hi hj
    have s := h.s (hR.bk i j hi hj).2 (by omega)
    obtain ⟨u1, u2, u3, u4, u5, u6, u7, u8⟩ := hR.bs i j hi hj
    exact ⟨s.fR 2 0 (by omega) u1, s.fI 2 1 (by omega) u2, s.fI 2 2 (by omega) u3, s.fR 2 3 (by omega) u4, s.fI 2 4 (by omega) u5, s.fI 2 5 (by omega) u6, s.fI 2 6 (by omega) u7, s.fI 2 7 (by omega) u8⟩
  · intro i j hi hj hf
    exact (h.s (hR.bk i j hi hj).2 (by omega)).fJ 2 8 (by omega) (hR.bj i j hi hj hf)
  · intro i n hi hm hn
    obtain ⟨t1, t2, t3, t4, t5, t6, t7⟩ := hR.tk i hi
    obtain ⟨u1, u2⟩ := hR.bn i n hi hm hn
    exact ⟨(h.s t6 (by omega)).eR n u1, (h.s t7 (by omega)).eR n u2⟩
  · intro n hn f hf
    rw [(h.s (k60 n (by omega)) (by omega)).tS]
    exact hR.le n hn f hf
  · refine ⟨fun x hx => ?_, hR.xk.2⟩
    obtain ⟨u1, u2, u3⟩ := hR.xk.1 x hx
    exact ⟨s72.eR x u1, h.k u2 (by omega), h.k u3 (by omega)⟩
  · intro x hx
    obtain ⟨v1, v2, v3⟩ := hR.xk.1 x hx
    have s := h.s v2 (by omega)
    obtain ⟨u1, u2, u3, u4, u5⟩ := hR.xs x hx
    exact ⟨s.fR 5 0 (by omega) u1, s.fI 5 1 (by omega) u2, s.fI 5 2 (by omega) u3, s.fR 5 3 (by omega) u4, (h.s v3 (by omega)).n1 u5⟩
  · intro x i hx hi
    exact (h.s (hR.xk.1 x hx).2.2 (by omega)).eJ i (hR.xj x i hx hi)
  · intro a ha
    obtain ⟨u1, u2, u3, u4, u5⟩ := hR.hd a ha
    have s := h.s u2 (by omega)
    exact ⟨s74.eR a u1, h.k u2 (by omega), s.fR 1 0 (by omega) u3, s.fR 1 1 (by omega) u4, fun z => s.fI 1 2 (by omega) (u5 z)⟩
  · refine ⟨fun k hk => ⟨fun z => s76.eR k ((hR.ck.1 k hk).1 z), fun z => ?_⟩, hR.ck.2⟩
    obtain ⟨u1, u2, u3, u4, u5, u6⟩ := (hR.ck.1 k hk).2 z
    have s := h.s u2 (by omega)
    exact ⟨s76.eR k u1, h.k u2 (by omega), h.k u3 (by omega), s.fI 0 0 (by omega) u4, s.fR 0 1 (by omega) u5, (h.s u3 (by omega)).n1 u6⟩
  · intro k i hk z hi
    exact (h.s ((hR.ck.1 k hk).2 z).2.2.1 (by omega)).eJ i (hR.cj k i hk z hi)
  · refine ⟨fun q hq => ?_, hR.qk.2⟩
    obtain ⟨u1, u2, u3, u4, u5, u6, u7, u8, u9, u10, u11, u12, u13, u14⟩ := hR.qk.1 q hq
    have s := h.s u2 (by omega)
    exact ⟨s77.eR q u1, h.k u2 (by omega), h.k u3 (by omega), h.k u4 (by omega), h.k u5 (by omega), h.k u6 (by omega), (h.s u3 (by omega)).n1 u7, (h.s u4 (by omega)).n1 u8, (h.s u5 (by omega)).n1 u9, (h.s u6 (by omega)).n1 u10, s.fR 3 0 (by omega) u11, s.fR 3 1 (by omega) u12, s.fR 3 2 (by omega) u13, s.fR 3 3 (by omega) u14⟩
  · intro q hq
    obtain ⟨u1, u2, u3, u4, u5, u6, u7⟩ := hR.qk.1 q hq
    obtain ⟨v1, v2⟩ := hR.qm q hq
    refine ⟨(h.s u2 (by omega)).fI 3 4 (by omega) v1, fun i hi => ?_⟩
    obtain ⟨x1, x2, x3, x4⟩ := v2 i hi
    exact ⟨(h.s u3 (by omega)).eR i x1, (h.s u4 (by omega)).eI i x2, (h.s u5 (by omega)).eJ i x3, (h.s u6 (by omega)).eI i x4⟩
  · obtain ⟨u1, u2, u3, u4, u5⟩ := hR.mt
    exact ⟨s3.fI 9 3 (by omega) u1, s3.fI 9 4 (by omega) u2, s3.fI 9 5 (by omega) u3, s71.fI 6 2 (by omega) u4, s73.fI 4 4 (by omega) u5⟩
  · obtain ⟨u1, u2⟩ := hR.mr
    exact ⟨s73.fI 4 5 (by omega) u1, fun i hi => s75.eI i (u2 i hi)⟩
  · obtain ⟨u1, u2, u3, u4, u5, u6, u7⟩ := hR.mq
    exact ⟨s2.fI 10 6 (by omega) u1, s2.fI 10 7 (by omega) u2, s2.fI 10 8 (by omega) u3, s2.fI 10 9 (by omega) u4, s2.fI 10 10 (by omega) u5, s2.fI 10 11 (by omega) u6, fun i hi => s78.eI i (u7 i hi)⟩
end
/-! the rows of new cells -/
theorem nwO_0 (w : qSt) (x : Nat) : gN (nwO w x) 0 (gN w 2 0) = x := by
  show u2 (u2 w.2.2.2 0 (gN w 2 0) x) 2 0 (gN w 2 0 + 1) 0 (gN w 2 0) = x
  rw [u2_off _ _ (by omega), u2_at]
theorem nwO_2 (w : qSt) (x : Nat) : gN (nwO w x) 2 0 = gN w 2 0 + 1 := rfl
theorem nwO_ne (w : qSt) (x : Nat) {a : Nat} (h : a ≠ gN w 2 0) : gN (nwO w x) 0 a = gN w 0 a := by
  show u2 (u2 w.2.2.2 0 (gN w 2 0) x) 2 0 (gN w 2 0 + 1) 0 a = _
  rw [u2_off _ _ (by omega), u2_off _ _ (by omega)]
theorem nwO_1 (w : qSt) (x a : Nat) : gN (nwO w x) 1 a = gN w 1 a := by
  show u2 (u2 w.2.2.2 0 (gN w 2 0) x) 2 0 (gN w 2 0 + 1) 1 a = _
  rw [u2_off _ _ (by omega), u2_off _ _ (by omega)]
theorem nwA_0 (w : qSt) (x n : Nat) : gN (nwA w x n) 0 (gN w 2 0) = x := by
  show u2 (u2 (u2 w.2.2.2 1 (gN w 2 0) n) 0 (gN w 2 0) x) 2 0 (gN w 2 0 + 1) 0 (gN w 2 0) = x
  rw [u2_off _ _ (by omega), u2_at]
theorem nwA_1 (w : qSt) (x n : Nat) : gN (nwA w x n) 1 (gN w 2 0) = n := by
  show u2 (u2 (u2 w.2.2.2 1 (gN w 2 0) n) 0 (gN w 2 0) x) 2 0 (gN w 2 0 + 1) 1 (gN w 2 0) = n
  rw [u2_off _ _ (by omega), u2_off _ _ (by omega), u2_at]
theorem nwA_2 (w : qSt) (x n : Nat) : gN (nwA w x n) 2 0 = gN w 2 0 + 1 := rfl
theorem nwA_ne (w : qSt) (x n : Nat) {a : Nat} (h : a ≠ gN w 2 0) : gN (nwA w x n) 0 a = gN w 0 a := by
  show u2 (u2 (u2 w.2.2.2 1 (gN w 2 0) n) 0 (gN w 2 0) x) 2 0 (gN w 2 0 + 1) 0 a = _
  rw [u2_off _ _ (by omega), u2_off _ _ (by omega), u2_off _ _ (by omega)]
theorem nwA_1e (w : qSt) (x n : Nat) {a : Nat} (h : a ≠ gN w 2 0) : gN (nwA w x n) 1 a = gN w 1 a := by
  show u2 (u2 (u2 w.2.2.2 1 (gN w 2 0) n) 0 (gN w 2 0) x) 2 0 (gN w 2 0 + 1) 1 a = _
  rw [u2_off _ _ (by omega), u2_off _ _ (by omega), u2_off _ _ (by omega)]
/-! what lies behind the last cell stays untouched -/
theorem qZero.k {w : qSt} (h : qZero w) {a : Nat} (ha : gN w 2 0 ≤ a) : gN w 0 a = 99 := (h a ha).1
theorem qZero.lt {w : qSt} (h : qZero w) {a c : Nat} (hk : gN w 0 a = c) (hc : c ≠ 99) : a < gN w 2 0 := by
  rcases Nat.lt_or_ge a (gN w 2 0) with q | q
  · exact q
  · have := h.k q; omega
theorem qZero.O {w : qSt} (h : qZero w) (x : Nat) : qZero (nwO w x) := by
  intro a ha
  rw [nwO_2] at ha
  rw [nwO_ne w x (by omega)]
  exact h a (by omega)
theorem qZero.Ar {w : qSt} (h : qZero w) (x n : Nat) : qZero (nwA w x n) := by
  intro a ha
  rw [nwA_2] at ha
  rw [nwA_ne w x n (by omega)]
  exact h a (by omega)
theorem qZero.I {w : qSt} (h : qZero w) {r k i : Nat} {v : Int32} (hi : i < gN w 2 0) (hr : r < 12) : qZero (sI w r k i v) := by
  intro a ha
  have ha : gN w 2 0 ≤ a := ha
  obtain ⟨h1, h2, h3⟩ := h a ha
  refine ⟨h1, fun r' k' hr' => ⟨?_, (h2 r' k' hr').2⟩, fun j => ⟨?_, (h3 j).2⟩⟩
  · rw [gI_ne (by omega)]; exact (h2 r' k' hr').1
  · rw [gI_ne (by omega)]; exact (h3 j).1
theorem qZero.J {w : qSt} (h : qZero w) {r k i : Nat} {v : Int64} (hi : i < gN w 2 0) (hr : r < 12) : qZero (sJ w r k i v) := by
  intro a ha
  have ha : gN w 2 0 ≤ a := ha
  obtain ⟨h1, h2, h3⟩ := h a ha
  refine ⟨h1, fun r' k' hr' => ⟨(h2 r' k' hr').1, ?_, (h2 r' k' hr').2.2⟩, fun j => ⟨(h3 j).1, ?_, (h3 j).2.2⟩⟩
  · rw [gJ_ne (by omega)]; exact (h2 r' k' hr').2.1
  · rw [gJ_ne (by omega)]; exact (h3 j).2.1
theorem qZero.R {w : qSt} (h : qZero w) {r k i : Nat} {v : Option Nat} (hi : i < gN w 2 0) (hr : r < 12) : qZero (sR w r k i v) := by
  intro a ha
  have ha : gN w 2 0 ≤ a := ha
  obtain ⟨h1, h2, h3⟩ := h a ha
  refine ⟨h1, fun r' k' hr' => ⟨(h2 r' k' hr').1, (h2 r' k' hr').2.1, ?_⟩, fun j => ⟨(h3 j).1, (h3 j).2.1, ?_⟩⟩
  · rw [gR_ne (by omega)]; exact (h2 r' k' hr').2.2
  · rw [gR_ne (by omega)]; exact (h3 j).2.2
theorem qZero.AI {w : qSt} (h : qZero w) {i j : Nat} {v : Int32} (hi : i < gN w 2 0) : qZero (sI w 20 i j v) := by
  intro a ha
  have ha : gN w 2 0 ≤ a := ha
  obtain ⟨h1, h2, h3⟩ := h a ha
  refine ⟨h1, fun r' k' hr' => ⟨?_, (h2 r' k' hr').2⟩, fun j => ⟨?_, (h3 j).2⟩⟩
  · rw [gI_ne (by omega)]; exact (h2 r' k' hr').1
  · rw [gI_ne (by omega)]; exact (h3 j).1
theorem qZero.AJ {w : qSt} (h : qZero w) {i j : Nat} {v : Int64} (hi : i < gN w 2 0) : qZero (sJ w 21 i j v) := by
  intro a ha
  have ha : gN w 2 0 ≤ a := ha
  obtain ⟨h1, h2, h3⟩ := h a ha
  refine ⟨h1, fun r' k' hr' => ⟨(h2 r' k' hr').1, ?_, (h2 r' k' hr').2.2⟩, fun j => ⟨(h3 j).1, ?_, (h3 j).2.2⟩⟩
  · rw [gJ_ne (by omega)]; exact (h2 r' k' hr').2.1
  · rw [gJ_ne (by omega)]; exact (h3 j).2.1
theorem qZero.AR {w : qSt} (h : qZero w) {i j : Nat} {v : Option Nat} (hi : i < gN w 2 0) : qZero (sR w 23 i j v) := by
  intro a ha
  have ha : gN w 2 0 ≤ a := ha
  obtain ⟨h1, h2, h3⟩ := h a ha
  refine ⟨h1, fun r' k' hr' => ⟨(h2 r' k' hr').1, (h2 r' k' hr').2.1, ?_⟩, fun j => ⟨(h3 j).1, (h3 j).2.1, ?_⟩⟩
  · rw [gR_ne (by omega)]; exact (h2 r' k' hr').2.2
  · rw [gR_ne (by omega)]; exact (h3 j).2.2
