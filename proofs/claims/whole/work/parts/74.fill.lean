/-! ===== fill of the class ===== -/
section
variable {G : qGX} {A : qA} {m w : qSt} {Q : Option Value → qSt → Prop}
/-- a cell of a column changed -/
theorem rep_cell {K i : Nat} {v : Int64} (hR : Rep A m w) (hK : K < 6) (c0 : ¬ ma m 28 K = 0) (hN : ∀ k, k < 6 → ¬ ma m 28 k = 0 → cN m k ≤ 60) (hi : i < cN m K) : Rep A (sJ m 40 31 (60 * K + i) v) (sJ w 21 (aK A K + 1) i v) := by
  have ej : ∀ r, r ≠ 31 → ml (sJ m 40 31 (60 * K + i) v) r = ml m r := by
    intro r hr; funext z; exact gJ_ne (by omega)
  have k1 := ((hR.ck.1 K hK).2 c0).2.1
  have hN1 := hN K hK c0
  refine Rep.mk hR.fk hR.fr ((show GTy A m (sJ w 21 (aK A K + 1) i v) from ?_).cg ⟨rfl, fun _ _ _ => rfl⟩ rfl (ej 14 (by omega))) ⟨hR.xk, hR.xs, fun y k hy hk => ?_⟩ hR.hd ⟨hR.ck, fun k j hk z hj => ?_⟩ ⟨hR.qk, fun q hq => ?_⟩ (hR.mt.cg rfl rfl rfl rfl rfl) hR.mr hR.mq
  · exact ⟨hR.tk, hR.ts, hR.tm, hR.tu, hR.bk, hR.bs, fun a b ha hb hf => (gJ_ne (by omega)).trans (hR.bj a b ha hb hf), hR.bn, hR.le⟩
  · have hy : y < nX m := hy
    have hk : k < sX m y := hk
    rw [ej 23 (by omega), gJ_ne (fun z => by
      have h2 := (hR.xk.1 y hy).2.1
      rw [show aX A y = aK A K by omega, k1] at h2; omega)]
    exact hR.xj y k hy hk
  · have z : ¬ ma m 28 k = 0 := z
    have hj : j < cN m k := hj
    have hN2 := hN k hk z
    show gJ (sJ w 21 (aK A K + 1) i v) 21 (aK A k + 1) j = gJ (sJ m 40 31 (60 * K + i) v) 40 31 (60 * k + j)
    by_cases e : k = K
    · subst e
      by_cases e2 : j = i
      · subst e2; rw [gJ_at, gJ_at]
      · rw [gJ_ne (by omega), gJ_ne (by omega)]; exact hR.cj k j hk z hj
    · have hne : aK A k ≠ aK A K := fun y => e (hR.ck.2 k K hk hK z c0 y)
      rw [gJ_ne (by omega), gJ_ne (by omega)]; exact hR.cj k j hk z hj
  · obtain ⟨v1, v2⟩ := hR.qm q hq
    refine ⟨v1, fun k hk => ?_⟩
    obtain ⟨w1, w2, w3, w4⟩ := v2 k hk
    refine ⟨w1, w2, ?_, w4⟩
    rw [ej 35 (by omega), gJ_ne (fun y => by
      have h1 := (hR.qk.1 q hq).2.2.2.1
      rw [show aY A q + 2 = aK A K by omega, k1] at h1; omega)]
    exact w3
theorem rep_filled (hR : Rep A m w) (n : Int32) : Rep A (sI m 12 42 0 n) (sI w 10 9 2 n) := by
  refine ((hR.r0.sw ((SW.rf w).I (k := 9) (a := 2) (Or.inl ⟨rfl, by omega⟩))).sr (SR.rf.I (r := 12) (k := 42) rfl)).rep hR.mr ?_
  obtain ⟨u1, u2, u3, u4, u5, u6, u7⟩ := hR.mq
  exact ⟨u1, u2, u3, (gI_at _ _ _ _ _).trans (gI_at _ 12 42 0 _).symm, u5, u6, u7⟩
theorem c11_fillNext {K H X f : Nat} {r : rdT} (hR : Rep A m w) (hI : TInv m) (hAc : AInv m) (hX : XInv m) (hH : HInv m) (hT : TrOK m) (hK : K < 6) (c0 : ¬ ma m 28 K = 0) (o1 : ma m 29 K = nI (cL m K)) (o2 : cL m K < 8) (hN : ∀ k, k < 6 → ¬ ma m 28 k = 0 → cN m k ≤ 60) (hHH : H < nH m) (hXX : X < nX m) (er : rdR m H (nI X) = r) (hkp : r.1 = 0 → r.2.1 = 6 → kp 6 r.2.2.1 = r.2.2.1) (h42 : mi m 42 = nI f) (hf : f ≤ cN m K) (hz : qZero w)
    (hneg : fno m K f r < 0 → ∀ w', Rep A (sTr m r.2.2.2) w' → qZero w' → CW w w' → Q (some (.int (fno m K f r))) w')
    (hpos : ¬ fno m K f r < 0 → ∀ w', Rep A (sI (sJ (sTr m r.2.2.2) 40 31 (60 * K + f) (wd (tn r.2.1) (cL m K) r.2.2.1)) 12 42 0 (nI (f + 1))) w' → qZero w' → CW w w' → Q (some (.int 0)) w') :
    Con G M11_fillNext [.ref 2, .ref (aK A K), .ref (aH A H), .ref (aX A X)] w Q := by
  have o4 := hN K hK c0
  refine Con.go hw11_fillNext ok11_fillNext 40 [19] rfl ?_
  refine And.intro hR.k2 (refS hR.r3 (And.intro hR.k73 (c5_readBy (x := nI X) hR hI hAc hX hH hT hHH (Or.inr ⟨X, rfl, hXX, rfl⟩) (fun w2 hRd2 hM2 hv => ?_))))
  obtain ⟨kk, ek, hk⟩ := rd_lane m H (nI X)
  have hrle := rd_le m H (nI X)
  rw [er] at hM2 hv ek hrle ⊢
  have hR2 := hR.rd hRd2 _ hM2
  have hz2 := hRd2.2.2.2.2 hz
  have hcw := hRd2.2.2.2.1
  obtain ⟨a1, a2, a3⟩ := sTr_28 r.2.2.2 m
  have ecN : ∀ k, cN (sTr m r.2.2.2) k = cN m k := fun k => by unfold cN; rw [a1 30 (by omega)]
  have e28 : ma (sTr m r.2.2.2) 28 = ma m 28 := a1 28 (by omega)
  have c02 : ¬ ma (sTr m r.2.2.2) 28 K = 0 := by rw [e28]; exact c0
  obtain ⟨-, e1, e2, e3, e4, e5⟩ := (hR2.ck.1 K hK).2 c02
  rw [a1 29 (by omega), o1] at e3
  rw [ecN] at e5
  have e42 : gI w2 10 9 2 = nI f := hR2.mq.2.2.2.1.trans ((a2 42 (by omega)).trans h42)
  have hN2 : ∀ k, k < 6 → ¬ ma (sTr m r.2.2.2) 28 k = 0 → cN (sTr m r.2.2.2) k ≤ 60 := fun k hk z => by rw [ecN]; rw [e28] at z; exact hN k hk z
  refine And.intro (fun (c : r.1 = 0) => ?_) (fun (c : ¬ r.1 = 0) => ?_)
  · obtain ⟨v1, v2⟩ := hv c
    have hfn : fno m K f r = cIf (kk = 8) (-16) (cIf (f = cN m K) (-12) (cIf (wdP kk (cL m K)) 0 (-16))) := by
      unfold fno cmN
      rw [cIf_f (by rw [c]; decide), ek, tn_nI (by omega)]
      by_cases q : kk = 8
      · rw [cIf_t (by rw [q]; rfl), cIf_t q]
      · rw [cIf_f (by rw [c_8, nI_eqI (by omega) (by omega)]; exact q), cIf_f q]
    rw [ek] at v1
    rw [ek, tn_nI (by omega)] at hpos
    rw [hfn] at hneg hpos
    refine Wq.go ok11_fillNext 60 [69] ?_
    refine And.intro hR2.k2 (refS hR2.r3 (And.intro hR2.k73 (And.intro (fun (c2 : ¬ gI w2 4 6 73 = nI 8) => ?_) (fun (c2 : gI w2 4 6 73 = nI 8) => ?_)))) <;> rw [v1, nI_eqI (by omega) (by omega)] at c2
    · rw [cIf_f c2] at hneg hpos
      refine And.intro hR2.k2 (And.intro e1 (refS e4 (And.intro (Or.inr (Or.inl e2)) (And.intro (fun (c3 : gI w2 10 9 2 < nI (gN w2 1 (aK A K + 1))) => ?_) (fun (c3 : ¬ gI w2 10 9 2 < nI (gN w2 1 (aK A K + 1))) => ?_))))) <;> rw [e42, e5, nI_ltI (by omega) (by omega)] at c3
      · rw [cIf_f (a := (-12 : Int32)) (by omega)] at hneg hpos
        refine And.intro hR2.k2 (refS hR2.r3 (And.intro hR2.k73 (And.intro e1 ?_)))
        rw [v1, e3]
        refine c2_widens hR2 (by omega) (by omega) ?_
        refine And.intro (fun c4 => ?_) (fun c4 => ?_)
        · rw [bI_n0] at c4
          rw [cIf_t (b := (-16 : Int32)) c4.2.2] at hpos
          refine Wq.go ok11_fillNext 60 [] ?_
          refine And.intro e1 (refS e4 (And.intro hR2.k2 (And.intro hR2.k2 (refS hR2.r3 (And.intro hR2.k73 (And.intro hR2.k2 (refS hR2.r3 (And.intro hR2.k73 (And.intro e1 ?_)))))))))
          rw [v1, v2, e3]
          refine c2_widened c4.1 o2 (fun q => by subst q; exact hkp c ek) c4.2.2 ?_
          have hR3 := rep_filled (rep_cell (v := wd kk (cL m K) r.2.2.1) hR2 hK c02 hN2 (show f < _ by rw [ecN]; exact c3)) (nI (f + 1))
          refine And.intro e2 (And.intro (by rw [e42, e5]; exact in_nI c3 (by omega)) (And.intro hR2.k2 (And.intro hR2.k2 ?_)))
          show Q (some (.int 0)) (sI (sJ w2 21 (aK A K + 1) (gI w2 10 9 2).toNatClampNeg (wd kk (cL m K) r.2.2.1)) 10 9 2 (gI w2 10 9 2 + 1))
          rw [e42, nI_clamp (by omega), nI_1]
          have hzz := hz2.AJ (j := f) (v := wd kk (cL m K) r.2.2.1) (hz2.lt e2 (by omega))
          exact hpos (by decide) _ hR3 (hzz.I (hzz.lt hR2.k2 (by omega)) (by omega)) ((hcw.J rfl).I rfl)
        · rw [bI_0] at c4
          rw [cIf_f (a := (0 : Int32)) (fun q => c4 ⟨by omega, o2, q⟩)] at hneg
          exact hneg (by decide) w2 hR2 hz2 hcw
      · rw [cIf_t (a := (-12 : Int32)) (by omega)] at hneg
        exact hneg (by decide) w2 hR2 hz2 hcw
    · rw [cIf_t c2] at hneg
      exact hneg (by decide) w2 hR2 hz2 hcw
  · have hlt := hrle.resolve_right c
    have hfn : fno m K f r = r.1 := by unfold fno; rw [cIf_t hlt]
    rw [hfn] at hneg
    exact hneg hlt w2 hR2 hz2 hcw
theorem stF_nil (m : qSt) (K : Nat) : stF m K [] [] = sI m 12 42 0 0 := by
  unfold stF
  rw [putL_nil]
  refine st_ext rfl ?_ rfl rfl
  funext a k i
  show (bif Nat.beq a 40 && Nat.beq k 31 then ml m 31 i else gJ m a k i) = gJ m a k i
  cases e : (Nat.beq a 40 && Nat.beq k 31) with
  | false => rfl
  | true =>
    rw [Bool.and_eq_true] at e
    rw [Nat.eq_of_beq_eq_true e.1, Nat.eq_of_beq_eq_true e.2]; rfl
theorem c11_fill {k h : Int32} (hR : Rep A m w) (hI : TInv m) (hAc : AInv m) (hX : XInv m) (hH : HInv m) (hCi : CInv m) (hV : VRd m) (hz : qZero w) (hq : ∀ A' w', Fin A' (S_fill m k h).2 w w' → Q (some (.int (S_fill m k h).1)) w') : Con G M11_fill [.ref 2, .int k, .int h] w Q := by
  have h40 := hH.2.1
  have h60 := hX.2.1
  have h100 := hI.le
  have k76 := hR.k76
  unfold S_fill at hq
  have bad : (¬ isK k ∨ ¬ isH m h) → ∀ l3, Wq G M11_fill 20 [some (.ref 2), some (.int k), some (.int h), l3, none, none, none, none] [] (0, 0) w Q := by
    intro hb l3
    rw [cIf_t hb] at hq
    refine Wq.ls (ls' := [some (.ref 2), some (.int k), some (.int h), none, none, none, none, none]) ⟨rfl, rfl, rfl, by cases l3 <;> trivial⟩ ?_
    exact Wq.go ok11_fill 20 [] (And.intro hR.k2 (ans_n hR hz (by decide) hq))
  refine Con.go hw11_fill ok11_fill 40 [20, 26] rfl ?_
  refine And.intro hR.k2 (refS hR.r3 (And.intro hR.k73 (c5_handleAt hR hH (fun z => c11_isColumn ?_) (fun H eH hHH => c11_isColumn ?_))))
  · exact And.intro (fun c => bad (Or.inl (bI_0.mp c)) _) (fun _ => bad (Or.inr z) _)
  refine And.intro (fun c => bad (Or.inl (bI_0.mp c)) _) (fun c => ?_)
  rw [bI_n0] at c
  rw [cIf_f (fun y => y.elim (fun y => y c) (fun y => y ⟨H, eH, hHH⟩))] at hq
  obtain ⟨K, rfl, hK⟩ := c
  subst eH
  rw [tn_nI (by omega), tn_nI (by omega)] at hq
  refine Wq.go ok11_fill 40 [46] ?_
  refine And.intro hR.k2 (refS hR.r4 (And.intro (And.intro (by rw [k76.1]; rfl) (by rw [k76.2]; exact in_nI hK (by decide))) ?_))
  rw [nI_clamp (by omega)]
  rcases hR.col hK with ⟨c0, e⟩ | ⟨c0, e, -⟩
  · rw [cIf_t c0] at hq
    exact refN e (And.intro hR.k2 (ans_n hR hz (by decide) hq))
  rw [cIf_f c0] at hq
  refine refS e ?_
  obtain ⟨o1, o2, o3, o4, o5⟩ := (hCi K hK).2 c0
  have hNN : ∀ k, k < 6 → ¬ ma m 28 k = 0 → cN m k ≤ 60 := fun k hk z => ((hCi k hk).2 z).2.2.2.1
  have loop : ∀ (n x : Nat) (tr : List Int32) (vs : List Int64) (l6 l7 : Option Value) (w1 : qSt), x + n = nX m → vs.length ≤ cN m K → Rep A (stF (sI m 12 36 0 0) K tr vs) w1 → qZero w1 → CW w w1 →
      ((flR m K H n x vs.length).1 < 0 → ∀ A' w', Fin A' (stt (stF (sI m 12 36 0 0) K (tr ++ (flR m K H n x vs.length).2.2) (vs ++ (flR m K H n x vs.length).2.1)) (flR m K H n x vs.length).1) w w' → Q (some (.int (flR m K H n x vs.length).1)) w') →
      (¬ (flR m K H n x vs.length).1 < 0 → ∀ A' w', Fin A' (stt (stF (sI m 12 36 0 0) K (tr ++ (flR m K H n x vs.length).2.2) (vs ++ (flR m K H n x vs.length).2.1)) 0) w w' → Q (some (.int (nI (vs ++ (flR m K H n x vs.length).2.1).length))) w') →
      Wq G M11_fill 62 [some (.ref 2), some (.int (nI K)), some (.int (nI H)), some (.ref (aH A H)), some (.ref (aK A K)), some (.int (nI x)), l6, l7] [] (0, 0) w1 Q := by
    intro n
    induction n with
    | zero =>
      intro x tr vs l6 l7 w1 hx hl hR1 hz1 hcw hf hg
      have hRE : RE m (stF (sI m 12 36 0 0) K tr vs) := (RE.rf.I (r := 12) (k := 36) rfl).tr (RE.stF _ K tr vs)
      have e42 : gI w1 10 9 2 = nI vs.length := hR1.mq.2.2.2.1.trans (gI_at _ _ _ _ _)
      have e22 : gI w1 6 2 71 = nI (nX m) := hR1.mt.2.2.2.1.trans ((hRE.c (fun w => mi w 22) (fun _ => rfl)).trans hX.1)
      have : x = nX m := by omega
      subst this
      unfold flR at hg
      rw [List.append_nil, List.append_nil] at hg
      refine Wq.ls (ls' := [some (.ref 2), some (.int (nI K)), some (.int (nI H)), some (.ref (aH A H)), some (.ref (aK A K)), some (.int (nI (nX m))), none, none]) ⟨rfl, rfl, rfl, rfl, rfl, rfl, by cases l6 <;> cases l7 <;> trivial⟩ ?_
      refine Wq.go ok11_fill 40 [] ?_
      refine And.intro hR1.k2 (refS hR1.r2 (And.intro hR1.k71 (And.intro (fun _ => And.intro hR1.k2 (And.intro hR1.k2 ?_)) (fun (q : ¬ gI w1 6 2 71 ≤ nI (nX m)) => absurd (by rw [e22, i32_le]; omega) q))))
      rw [e42]
      exact ans_p hR1 hz1 (nI_pos (by omega)) (fun A' w' hF => hg (show ¬ (0 : Int32) < 0 by decide) A' w' (hF.cw hcw))
    | succ n ih =>
      intro x tr vs l6 l7 w1 hx hl hR1 hz1 hcw hf hg
      have hRE : RE m (stF (sI m 12 36 0 0) K tr vs) := (RE.rf.I (r := 12) (k := 36) rfl).tr (RE.stF _ K tr vs)
      have e22 : gI w1 6 2 71 = nI (nX m) := hR1.mt.2.2.2.1.trans ((hRE.c (fun w => mi w 22) (fun _ => rfl)).trans hX.1)
      have e42 : mi (stF (sI m 12 36 0 0) K tr vs) 42 = nI vs.length := gI_at _ _ _ _ _
      have e28 : ma (stF (sI m 12 36 0 0) K tr vs) 28 = ma m 28 := (sTr_28 tr (sI m 12 36 0 0)).1 28 (by omega)
      have e29 : ma (stF (sI m 12 36 0 0) K tr vs) 29 = ma m 29 := (sTr_28 tr (sI m 12 36 0 0)).1 29 (by omega)
      have e30 : ma (stF (sI m 12 36 0 0) K tr vs) 30 = ma m 30 := (sTr_28 tr (sI m 12 36 0 0)).1 30 (by omega)
      have hT1 : TrOK (stF (sI m 12 36 0 0) K tr vs) := trok_st (TrOK.str tr (tr0 (w := m)))
      generalize hm1 : stF (sI m 12 36 0 0) K tr vs = m1 at *
      have ecN : cN m1 = cN m := by funext k; unfold cN; rw [e30]
      have ecL : cL m1 = cL m := by funext k; unfold cL; rw [e29]
      have efn : fno m1 K = fno m K := by funext f r; unfold fno cmN; rw [ecN, ecL]
      have hI1 := hRE.tinv hI
      have hX1 := hRE.xinv hX
      have hH1 := hRE.hinv hH
      have hAc1 : AInv m1 := by unfold AInv; rw [hRE.te.eF1]; exact hAc
      have hh1 : H < nH m1 := by rw [hRE.enH]; exact hHH
      obtain ⟨a1, a2, a3, a4, a5⟩ := hR1.hd H hh1
      obtain ⟨z1, z2, z3, z4, z5, z6⟩ := hH1.2.2 H hh1
      have hcls : ¬ (ma m1 0 (hC m1 H) = 3 ∨ ma m1 0 (hC m1 H) = 4) := by rw [z4]; decide
      have hxX : ¬ noX m (nI x) := fun q => q.2 ⟨x, rfl, by omega⟩
      unfold flR at hf hg
      have next : ∀ (l6 l7 : Option Value) (tr' : List Int32) (vs' : List Int64) (w2 : qSt), vs'.length ≤ cN m K → Rep A (stF (sI m 12 36 0 0) K tr' vs') w2 → qZero w2 → CW w w2 →
          ((flR m K H n (x + 1) vs'.length).1 < 0 → ∀ A' w', Fin A' (stt (stF (sI m 12 36 0 0) K (tr' ++ (flR m K H n (x + 1) vs'.length).2.2) (vs' ++ (flR m K H n (x + 1) vs'.length).2.1)) (flR m K H n (x + 1) vs'.length).1) w w' → Q (some (.int (flR m K H n (x + 1) vs'.length).1)) w') →
          (¬ (flR m K H n (x + 1) vs'.length).1 < 0 → ∀ A' w', Fin A' (stt (stF (sI m 12 36 0 0) K (tr' ++ (flR m K H n (x + 1) vs'.length).2.2) (vs' ++ (flR m K H n (x + 1) vs'.length).2.1)) 0) w w' → Q (some (.int (nI (vs' ++ (flR m K H n (x + 1) vs'.length).2.1).length))) w') →
          Wq G M11_fill 132 [some (.ref 2), some (.int (nI K)), some (.int (nI H)), some (.ref (aH A H)), some (.ref (aK A K)), some (.int (nI x)), l6, l7] [] (0, 0) w2 Q := by
        intro l6 l7 tr' vs' w2 hl2 hR2 hz2 hcw2 hf2 hg2
        refine Wq.ls (ls' := [some (.ref 2), some (.int (nI K)), some (.int (nI H)), some (.ref (aH A H)), some (.ref (aK A K)), some (.int (nI x)), none, none]) ⟨rfl, rfl, rfl, rfl, rfl, rfl, by cases l6 <;> cases l7 <;> trivial⟩ ?_
        refine Wq.go ok11_fill 40 [62] ?_
        show Wq G M11_fill 62 [some (.ref 2), some (.int (nI K)), some (.int (nI H)), some (.ref (aH A H)), some (.ref (aK A K)), some (.int (nI x + 1)), none, none] [] (0, 0) w2 Q
        rw [nI_1]
        exact ih (x + 1) tr' vs' none none w2 (by omega) hl2 hR2 hz2 hcw2 hf2 hg2
      refine Wq.ls (ls' := [some (.ref 2), some (.int (nI K)), some (.int (nI H)), some (.ref (aH A H)), some (.ref (aK A K)), some (.int (nI x)), none, none]) ⟨rfl, rfl, rfl, rfl, rfl, rfl, by cases l6 <;> cases l7 <;> trivial⟩ ?_
      refine Wq.go ok11_fill 60 [109, 132] ?_
      refine And.intro hR1.k2 (refS hR1.r2 (And.intro hR1.k71 (And.intro (fun (q : gI w1 6 2 71 ≤ nI x) => ?_) (fun _ => And.intro hR1.k2 (refS hR1.r2 (And.intro hR1.k71 (c7_at hR1 hX1 (fun z => absurd ⟨x, rfl, by rw [hRE.enX]; omega⟩ z) (fun x' ex' hxx' => ?_))))))))
      · rw [e22, nI_leI (by omega) (by omega)] at q; omega
      have hx1 : x' < nX m := by rw [← hRE.enX]; exact hxx'
      have : x' = x := by rw [nI_eqI (by omega) (by omega)] at ex'; exact ex'.symm
      subst this
      refine And.intro hR1.k2 (refS hR1.r1 (And.intro a2 (refS a3 (And.intro hR1.k3 (c10_isThingUnder hR1 hI1 hX1 hxx' z2 ?_)))))
      rw [baN_self hcls, dpN_0 hcls, hRE.te.eSo, hRE.ebX, hRE.edX, hRE.ehC]
      refine And.intro (fun c4 => ?_) (fun c4 => ?_)
      · rw [bI_n0] at c4
        rw [cIf_t c4] at hf hg
        refine Wq.go ok11_fill 60 [132] ?_
        refine And.intro hR1.k2 (c11_fillNext (f := vs.length) (r := rdR m H (nI x')) hR1 hI1 hAc1 hX1 hH1 hT1 hK (by rw [e28]; exact c0) (by rw [e29, ecL]; exact o1) (by rw [ecL]; exact o2) (fun k hk z => by rw [ecN]; rw [e28] at z; exact hNN k hk z) hh1 hxx' (by rw [hRE.erd]) (fun z1 z2 => hV H (nI x') hHH hxX z1 6 (by omega) z2) e42 (by rw [ecN]; exact hl) hz1 ?_ ?_)
        · rw [efn]
          intro c5 w2 hR2 hz2 hcw2
          rw [← hm1, stF_tr] at hR2
          rw [cIf_t c5, List.append_nil] at hf
          refine And.intro (fun (c6 : fno m K vs.length (rdR m H (nI x')) = 0) => ?_) (fun _ => And.intro hR2.k2 ?_)
          · rw [c6] at c5; exact absurd c5 (by decide)
          · exact ans_n hR2 hz2 c5 (fun A' w' hF => hf c5 A' w' (hF.cw (hcw.tr hcw2)))
        · rw [efn, ecL]
          intro c5 w2 hR2 hz2 hcw2
          rw [← hm1, stF_tr, stF_snoc] at hR2
          rw [cIf_f c5] at hf hg
          have hf2 : vs.length < cN m K := by
            refine Nat.lt_of_le_of_ne hl (fun e => c5 ?_)
            unfold fno
            by_cases c3 : (rdR m H (nI x')).1 < 0
            · rw [cIf_t c3]; exact c3
            · rw [cIf_f c3]
              unfold cmN
              by_cases c4 : (rdR m H (nI x')).2.1 = 8
              · rw [cIf_t c4]; decide
              · rw [cIf_f c4, cIf_t e]; decide
          refine And.intro (fun _ => next _ _ _ (vs ++ [wd (tn (rdR m H (nI x')).2.1) (cL m K) (rdR m H (nI x')).2.2.1]) w2 ?_ hR2 hz2 (hcw.tr hcw2) ?_ ?_) (fun c6 => absurd rfl c6)
          · rw [List.length_append, List.length_singleton]; omega
          · rw [List.length_append, List.length_singleton, List.append_assoc, List.append_assoc]
            exact hf
          · rw [List.length_append (as := vs) (bs := [_]), List.length_singleton, List.append_assoc, List.append_assoc]
            exact hg
      · rw [bI_0] at c4
        rw [cIf_f c4] at hf hg
        rw [← hm1] at hR1
        exact next _ _ tr vs w1 hl hR1 hz1 hcw hf hg
  obtain ⟨hR1, hRd1⟩ := hR.tr0
  have hR2 := rep_filled hR1 0
  rw [← stF_nil _ K] at hR2
  have hz1 := hRd1.2.2.2.2 hz
  refine Wq.go ok11_fill 40 [62] ?_
  refine And.intro hR.k2 (refS hR.r3 (And.intro hR.k73 (And.intro hR1.k2 ?_)))
  refine loop (nX m) 0 [] [] none none _ (Nat.zero_add _) (Nat.zero_le _) hR2 (hz1.I (hz1.lt hR1.k2 (by omega)) (by omega)) (hRd1.2.2.2.1.I rfl) ?_ ?_
  · intro z A' w' hF
    have z : (flR m K H (nX m) 0 0).1 < 0 := z
    rw [cIf_t z] at hq
    exact hq A' w' hF
  · intro z A' w' hF
    have z : ¬ (flR m K H (nX m) 0 0).1 < 0 := z
    rw [cIf_f z] at hq
    exact hq A' w' hF
end
