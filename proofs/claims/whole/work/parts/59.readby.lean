/-! ===== the class reads by bodies ===== -/
section
variable {G : qGX} {A : qA} {m w : qSt} {Q : Option Value → qSt → Prop}
theorem c5_keepTrace {v : Int32} (hR : Rep A m w) (hT : TrOK m) (h : ∀ w', Rd w w' → MaR (sT1 m v) w' → Q none w') : Con G M5_keepTrace [.ref 73, .int v] w Q := by
  obtain ⟨h1, h2⟩ := hT
  have k73 := hR.k73
  have k75 := hR.fk.2.2.2.2.2.2.2.2.2.1
  have hr3 : gR w 4 3 73 = some 75 := hR.fr.2.2.2.2.2.2.2.2.2.2.2.2.2.2.2.1
  have hc : gI w 4 5 73 = nI (nTr m) := hR.mr.1.trans h1
  refine Con.go hw5_keepTrace ok5_keepTrace 30 [] rfl ?_
  refine And.intro k73 (And.intro (fun (c : (60 : Int32) ≤ gI w 4 5 73) => ?_) (fun (c : ¬ (60 : Int32) ≤ gI w 4 5 73) => ?_)) <;> rw [hc, c_60, nI_leI (by omega) (by omega)] at c
  · refine h w (Rd.rf w) ?_
    rw [show sT1 m v = m from if_neg (by omega)]
    exact hR.mr
  · refine And.intro k73 (refS hr3 (And.intro k73 (And.intro k75.1 (And.intro (by rw [hc, k75.2]; exact in_nI (by omega) (by decide)) (And.intro k73 (And.intro k73 ?_))))))
    show Q none (sI (sI w 20 75 (gI w 4 5 73).toNatClampNeg v) 4 5 73 (gI w 4 5 73 + 1))
    rw [hc, nI_clamp (by omega), nI_1]
    refine h _ ((Rd.A75 k75.1).tr (Rd.I4 (by omega) k73)) ?_
    rw [show sT1 m v = sI (sI m 40 27 (nTr m) v) 12 36 0 (nI (nTr m + 1)) from if_pos (by omega)]
    have e36 : mi (sI (sI m 40 27 (nTr m) v) 12 36 0 (nI (nTr m + 1))) 36 = nI (nTr m + 1) := gI_at _ _ _ _ _
    refine ⟨(gI_at _ _ _ _ _).trans e36.symm, fun i hi => ?_⟩
    have en : nTr (sI (sI m 40 27 (nTr m) v) 12 36 0 (nI (nTr m + 1))) = nTr m + 1 := (congrArg tn e36).trans (tn_nI (by omega))
    rw [en] at hi
    have e1 : gI (sI (sI w 20 75 (nTr m) v) 4 5 73 (nI (nTr m + 1))) 20 75 i = gI (sI w 20 75 (nTr m) v) 20 75 i := gI_ne (by omega)
    have e2 : gI (sI (sI m 40 27 (nTr m) v) 12 36 0 (nI (nTr m + 1))) 40 27 i = gI (sI m 40 27 (nTr m) v) 40 27 i := gI_ne (by omega)
    show gI (sI (sI w 20 75 (nTr m) v) 4 5 73 (nI (nTr m + 1))) 20 75 i = gI (sI (sI m 40 27 (nTr m) v) 12 36 0 (nI (nTr m + 1))) 40 27 i
    rw [e1, e2]
    by_cases z : i = nTr m
    · rw [z, gI_at, gI_at]
    · rw [gI_ne (by omega), gI_ne (by omega)]
      exact hR.mr.2 i (by omega)
theorem c5_whyNotOf {h X : Nat} (hR : Rep A m w) (hI : TInv m) (hX : XInv m) (hH : HInv m) (hh : h < nH m) (hx : X < nX m) (hq : Q (some (.int (cIf (soP m (bX m X) (dX m X) (hC m h) 0) 0 (-13)))) w) : Con G M5_whyNotOf [.ref 73, .ref (aH A h), .ref (aX A X)] w Q := by
  have hr0 : gR w 4 0 73 = some 3 := hR.fr.2.2.2.2.2.2.2.2.2.2.2.2.1
  obtain ⟨a1, a2, a3, a4, a5⟩ := hR.hd h hh
  obtain ⟨z1, z2, z3, z4, z5, z6⟩ := hH.2.2 h hh
  have hcls : ¬ (ma m 0 (hC m h) = 3 ∨ ma m 0 (hC m h) = 4) := by rw [z4]; decide
  refine Con.go hw5_whyNotOf ok5_whyNotOf 30 [] rfl ?_
  refine And.intro hR.k73 (refS hr0 (And.intro a2 (refS a3 (And.intro hR.k3 (c10_isThingUnder hR hI hX hx z2 ?_)))))
  rw [baN_self hcls, dpN_0 hcls]
  refine And.intro (fun c => ?_) (fun c => ?_)
  · rw [bI_0] at c
    rw [cIf_f c] at hq; exact hq
  · rw [bI_n0] at c
    rw [cIf_t c] at hq; exact hq
noncomputable def lsL (m : qSt) (a : Nat) : Int32 := cIf (ma m 12 a = 1) (tfL m (10 * (a / 10) + nuN m a)) 4
noncomputable def lsV (m : qSt) (X a : Nat) : Int64 := cIf (ma m 12 a = 1) (tfV m X (10 * (a / 10) + nuN m a)) (ma m 13 a).toInt64
theorem c5_readLast {X d j : Nat} (hR : Rep A m w) (hI : TInv m) (hX : XInv m) (hx : X < nX m) (hd0 : dX m X = 0) (hd : d < nT m) (hj : j < nM m d) (h8 : ma m 8 (10 * d + j) = 0) (hin : d ∈ abvs m (bX m X) ∨ FOf m (bX m X) d) (hb : ma m 12 (10 * d + j) = 1 ∨ ma m 12 (10 * d + j) = 4)
    (h : Q (some (.int 0)) (sJ (sI w 4 6 73 (lsL m (10 * d + j))) 4 7 73 (lsV m X (10 * d + j)))) : Con G M5_readLast [.ref 73, .ref (aB A (10 * d + j)), .ref (aX A X)] w Q := by
  have h100 := hI.le
  have h60 := hX.2.1
  have h10 := (hI.mbs (i := d) (by omega)).2.1
  have hcl := hX.cls hx hd0
  have e10 : (10 * d + j) / 10 = d := by omega
  obtain ⟨b1, b2⟩ := hR.bk d j hd hj
  obtain ⟨s1, s2, s3, s4, s5, s6, s7, s8⟩ := hR.bs d j hd hj
  rw [cIf_t h8] at s7 s8
  unfold lsL lsV at h
  rw [e10] at h
  refine Con.go hw5_readLast ok5_readLast 30 [] rfl ?_
  refine And.intro b2 (And.intro (fun (c : ¬ gI w 2 6 (aB A (10 * d + j)) = 4) => ?_) (fun (c : gI w 2 6 (aB A (10 * d + j)) = 4) => ?_)) <;> rw [s7] at c
  · have c1 := hb.resolve_right c
    obtain ⟨g1, g2, g3, g4⟩ := at_1 hI hcl.1 hd hj h8 hin c1
    rw [cIf_t c1, cIf_t c1] at h
    refine And.intro b2 (refS s1 (And.intro b2 (And.intro (hR.tk d hd).2.1 ?_)))
    show Con G M8_memberAt [.ref (aT A d), .int (gI w 2 7 (aB A (10 * d + j)))] w _
    rw [s8, g1]
    refine c8_memberAt hR hI hd (fun z => absurd ⟨_, rfl, by omega⟩ z) (fun k ek hk => ?_)
    have hkk : k = nuN m (10 * d + j) := by rw [nI_eqI (by omega) (by omega)] at ek; exact ek.symm
    subst hkk
    refine And.intro hR.k73 ?_
    refine c5_readField (x := nI X) hR hI hX (Or.inr ⟨X, rfl, hx, rfl⟩) g3 (by omega) (fun _ => ⟨X, rfl, hx, hd0, ?_⟩) ?_
    · rw [show (10 * d + nuN m (10 * d + j)) / 10 = d by omega]; exact g4
    · rw [tn_nI (by omega)]
      exact h
  · have c1 : ¬ ma m 12 (10 * d + j) = 1 := by rw [c]; decide
    rw [cIf_f c1, cIf_f c1] at h
    refine And.intro hR.k73 (And.intro b2 (And.intro hR.k73 ?_))
    show Q _ (sJ (sI w 4 6 73 4) 4 7 73 (gI (sI w 4 6 73 4) 2 7 (aB A (10 * d + j))).toInt64)
    rw [gI_ne (by omega), s8]
    exact h
theorem c5_addOnes {ones : Nat} {L : Int32} {V : Int64} (k73 : gN w 0 73 = 4) (ho : ones < 1000) (h0 : ones = 0 → Q (some (.int 0)) w) (h6 : gI w 4 6 73 = L) (h7 : gJ w 4 7 73 = V) (h1 : 0 < ones → ¬ (1 ≤ L.toInt ∧ L.toInt ≤ 5) → Q (some (.int (-16))) w) (h2 : 0 < ones → (1 ≤ L.toInt ∧ L.toInt ≤ 5) → Q (some (.int 0)) (sJ (sI w 4 6 73 5) 4 7 73 (V + (nI ones).toInt64))) : Con G M5_addOnes [.ref 73, .int (nI ones)] w Q := by
  refine Con.go hw5_addOnes ok5_addOnes 30 [] rfl ?_
  refine And.intro (fun (c : ¬ nI ones = 0) => ?_) (fun (c : nI ones = 0) => ?_) <;> rw [c_0', nI_eqI (by omega) (by omega)] at c
  · refine And.intro k73 (And.intro (fun (z : gI w 4 6 73 < 1) => ?_) (fun (z : ¬ gI w 4 6 73 < 1) => And.intro k73 (And.intro (fun (y : gI w 4 6 73 ≤ 5) => ?_) (fun (y : ¬ gI w 4 6 73 ≤ 5) => ?_)))) <;> rw [h6, i32_lt] at z
    · have z : L.toInt < 1 := z
      exact h1 (by omega) (by omega)
    · rw [h6, i32_le] at y
      have z : ¬ L.toInt < 1 := z
      have y : L.toInt ≤ 5 := y
      refine And.intro k73 (And.intro k73 (And.intro k73 ?_))
      show Q _ (sJ (sI w 4 6 73 5) 4 7 73 (gJ w 4 7 73 + (nI ones).toInt64))
      rw [h7]
      exact h2 (by omega) ⟨by omega, y⟩
    · rw [h6, i32_le] at y
      have y : ¬ L.toInt ≤ 5 := y
      exact h1 (by omega) (by omega)
  · exact h0 c
/-- what a reading leaves -/
def RdQ (m w : qSt) (r : rdT) (Q : Option Value → qSt → Prop) : Prop := ∀ w', Rd w w' → MaR (sTr m r.2.2.2) w' → (r.1 = 0 → gI w' 4 6 73 = r.2.1 ∧ gJ w' 4 7 73 = r.2.2.1) → Q (some (.int r.1)) w'
theorem MaR.jj {w' : qSt} (h : MaR m w) (L : Int32) (V : Int64) (e : w' = sJ (sI w 4 6 73 L) 4 7 73 V) : MaR m w' := by
  subst e
  refine ⟨?_, fun i hi => ?_⟩
  · show gI (sI w 4 6 73 L) 4 5 73 = _
    rw [gI_ne (by omega)]; exact h.1
  · show gI (sI w 4 6 73 L) 20 75 i = _
    rw [gI_ne (by omega)]; exact h.2 i hi
theorem c5_readBody {X n : Nat} (hR : Rep A m w) (hI : TInv m) (hA : AInv m) (hX : XInv m) (hT : TrOK m) (hx : X < nX m) (hd0 : dX m X = 0) (hn : n < 10) (h : RdQ m w (wkF m X 12 (fdN m (bX m X) (nI n)) 0) Q) : Con G M5_readBody [.ref 73, .int (nI n), .ref (aX A X)] w Q := by
  have h100 := hI.le
  have h60 := hX.2.1
  have hcl := hX.cls hx hd0
  obtain ⟨x1, x2, x3⟩ := hR.xk.1 X hx
  have y1 := (hR.xs X hx).1
  rw [cIf_t hd0] at y1
  have hr0 : gR w 4 0 73 = some 3 := hR.fr.2.2.2.2.2.2.2.2.2.2.2.2.1
  have loop : ∀ (k : Nat) (m0 w1 : qSt) (c nm ones opn : Nat) (l7 l8 : Option Value), opn + k = 12 → ones ≤ opn → c ∈ abvs m (bX m X) → nm < 10 → SR m m0 → RE m m0 → TrOK m0 → Rep A m0 w1 → Rd w w1 →
      (∀ w', Rd w1 w' → MaR (sTr m0 (wkF m X k (fdN m c (nI nm)) ones).2.2.2) w' → ((wkF m X k (fdN m c (nI nm)) ones).1 = 0 → gI w' 4 6 73 = (wkF m X k (fdN m c (nI nm)) ones).2.1 ∧ gJ w' 4 7 73 = (wkF m X k (fdN m c (nI nm)) ones).2.2.1) → Q (some (.int (wkF m X k (fdN m c (nI nm)) ones).1)) w') →
      Wq G M5_readBody 14 [some (.ref 73), some (.int (nI n)), some (.ref (aX A X)), some (.ref (aT A c)), some (.int (nI nm)), some (.int (nI ones)), some (.int (nI opn)), l7, l8, none] [] (0, 0) w1 Q := by
    intro k
    induction k with
    | zero =>
      intro m0 w1 c nm ones opn l7 l8 hk hon hc hnm hSR hRE hT0 hR1 hRd hq
      obtain ⟨c1, c2, c3⟩ := abvs_in hI _ hcl.1 hcl.2.1 c hc
      have hI0 := hRE.tinv hI
      have hA0 : AInv m0 := by unfold AInv; rw [hRE.te.eF1]; exact hA
      have eT := hRE.te.eT
      unfold wkF at hq
      refine Wq.ls (ls' := [some (.ref 73), some (.int (nI n)), some (.ref (aX A X)), some (.ref (aT A c)), some (.int (nI nm)), some (.int (nI ones)), some (.int (nI opn)), none, none, none]) ⟨rfl, rfl, rfl, rfl, rfl, rfl, rfl, by cases l7 <;> cases l8 <;> trivial⟩ ?_
      refine Wq.go ok5_readBody 40 [] ?_
      refine And.intro (fun (z : (12 : Int32) < nI opn) => ?_) (fun _ => And.intro hR1.k73 (refS hR1.fr.2.2.2.2.2.2.2.2.2.2.2.2.1 (And.intro hR1.k3 (c10_bodyFor hR1 hI0 hA0 (by omega) (by rw [hRE.row (r := 0) rfl]; exact c3) hnm (fun w2 hc2 => ?_)))))
      · rw [c_12, nI_ltI (by omega) (by omega)] at z; omega
      rw [hRE.te.efd]
      have hRd2 : Rd w1 w2 := Rd.cd hc2 (hR1.fk.2.2.2.2.1 10 (by omega))
      have hMR : MaR m0 w2 := (hR1.cd hc2).mr
      refine And.intro (fun z => And.intro (fun (y : ¬ nI opn = 12) => ?_) (fun _ => ?_)) (fun z => ?_)
      · rw [c_12, nI_eqI (by omega) (by omega)] at y; omega
      · have hlt : ¬ fdN m c (nI nm) < 0 := fun y => by
          have : cdI (fdN m c (nI nm)) = fdN m c (nI nm) := cIf_t y
          rw [this] at z
          exact nlt0 z y
        rw [cIf_f hlt] at hq
        exact hq w2 hRd2 hMR (fun y => absurd (show (-18 : Int32) = 0 from y) (by decide))
      · have hlt : fdN m c (nI nm) < 0 := Classical.byContradiction (fun y => by
          have e : cdI (fdN m c (nI nm)) = nI (tld2 (tn (fdN m c (nI nm)))) := cIf_f y
          rw [e] at z
          rcases fd_cases hI (by omega) c3 (nI nm) with q | q | ⟨d, j, q, g1, g2, -⟩
          · rw [q] at y; exact y (by decide)
          · rw [q] at y; exact y (by decide)
          · have := (hI.mbs (i := d) (by omega)).2.1
            rw [q, tn_nI (by omega)] at z
            exact z (by unfold tld2; rw [i32_le, c0i, nI_t (by omega)]; omega))
        rw [show cdI (fdN m c (nI nm)) = fdN m c (nI nm) from cIf_t hlt]
        rw [cIf_t hlt] at hq
        exact hq w2 hRd2 hMR (fun y => by rw [show fdN m c (nI nm) = 0 from y] at hlt; exact absurd hlt (by decide))
    | succ k ih =>
      intro m0 w1 c nm ones opn l7 l8 hk hon hc hnm hSR hRE hT0 hR1 hRd hq
      obtain ⟨c1, c2, c3⟩ := abvs_in hI _ hcl.1 hcl.2.1 c hc
      have hI0 := hRE.tinv hI
      have hX0 := hRE.xinv hX
      have hA0 : AInv m0 := by unfold AInv; rw [hRE.te.eF1]; exact hA
      have eT := hRE.te.eT
      unfold wkF at hq
      refine Wq.ls (ls' := [some (.ref 73), some (.int (nI n)), some (.ref (aX A X)), some (.ref (aT A c)), some (.int (nI nm)), some (.int (nI ones)), some (.int (nI opn)), none, none, none]) ⟨rfl, rfl, rfl, rfl, rfl, rfl, rfl, by cases l7 <;> cases l8 <;> trivial⟩ ?_
      refine Wq.go ok5_readBody 40 [55] ?_
      refine And.intro (fun (z : (12 : Int32) < nI opn) => ?_) (fun _ => And.intro hR1.k73 (refS hR1.fr.2.2.2.2.2.2.2.2.2.2.2.2.1 (And.intro hR1.k3 (c10_bodyFor hR1 hI0 hA0 (by omega) (by rw [hRE.row (r := 0) rfl]; exact c3) hnm (fun w2 hc2 => ?_)))))
      · rw [c_12, nI_ltI (by omega) (by omega)] at z; omega
      rw [hRE.te.efd]
      have hRd2 : Rd w1 w2 := Rd.cd hc2 (hR1.fk.2.2.2.2.1 10 (by omega))
      have hR2 : Rep A m0 w2 := hR1.cd hc2
      rcases fd_cases hI (by omega) c3 (nI nm) with q | q | ⟨d, j, q, g1, g2, g3, g4, g5⟩
      · rw [q, cIf_t (by decide)] at hq
        rw [q, show cdI (-17) = -17 from cIf_t (by decide)]
        exact And.intro (fun z => absurd z (by decide)) (fun _ => hq w2 hRd2 hR2.mr (fun y => absurd (show (-17 : Int32) = 0 from y) (by decide)))
      · rw [q, cIf_t (by decide)] at hq
        rw [q, show cdI (-19) = -19 from cIf_t (by decide)]
        exact And.intro (fun z => absurd z (by decide)) (fun _ => hq w2 hRd2 hR2.mr (fun y => absurd (show (-19 : Int32) = 0 from y) (by decide)))
      have h10 := (hI.mbs (i := d) (by omega)).2.1
      have hat : AtOK m X (fdN m c (nI nm)) := at_fd hI hcl.1 hcl.2.1 hc
      have g6 : d ∈ abvs m (bX m X) ∨ FOf m (bX m X) d := by
        rcases hat with y | ⟨d', j', y1, y2, y3, y4, y5, y6⟩
        · rw [q] at y; exact absurd y (nI_pos (by omega))
        · have h10' := (hI.mbs (i := d') (by omega)).2.1
          rw [q, nI_eqI (by omega) (by omega)] at y1
          have : d' = d := by omega
          subst this; exact y6
      have elt : ¬ nI (10 * d + j) < 0 := nI_pos (by omega)
      have ecd : cdI (nI (10 * d + j)) = nI (100 * d + j) := by
        unfold cdI
        rw [cIf_f elt, tn_nI (by omega)]
        unfold tld2; congr 1; omega
      have etl : tld2 (10 * d + j) = 100 * d + j := by unfold tld2; omega
      rw [q, cIf_f elt, tn_nI (by omega), etl] at hq
      rw [q, ecd]
      refine And.intro (fun _ => And.intro (fun _ => ?_) (fun (y : nI opn = 12) => ?_)) (fun z => absurd (by rw [i32_le, c0i, nI_t (by omega)]; omega) z)
      · -- the body begins
        refine Wq.go ok5_readBody 40 [80] ?_
        refine And.intro hR2.k73 (c5_keepTrace hR2 hT0 (fun w3 hRd3 hM3 => ?_))
        have hR3 : Rep A (sT1 m0 (nI (100 * d + j))) w3 := hR2.rd hRd3 [nI (100 * d + j)] hM3
        have hRE3 : RE m (sT1 m0 (nI (100 * d + j))) := hRE.tr (RE.sT1 _)
        have hSR3 : SR m (sT1 m0 (nI (100 * d + j))) := hSR.tr (SR.sT1 _ _)
        have hT3 := hT0.s1 (nI (100 * d + j))
        have hRd13 : Rd w1 w3 := hRd2.tr hRd3
        generalize em3 : sT1 m0 (nI (100 * d + j)) = m3 at hR3 hRE3 hSR3 hT3
        have hI3 := hRE3.tinv hI
        have hX3 := hRE3.xinv hX
        have g1' : d < nT m3 := by rw [hRE3.te.eT]; exact g1
        have g2' : j < nM m3 d := by rw [hRE3.te.eM]; exact g2
        refine And.intro hR3.k73 (refS hR3.fr.2.2.2.2.2.2.2.2.2.2.2.2.1 (And.intro hR3.k3 (c10_memberOf hR3 hI3 g1' g2' ?_)))
        obtain ⟨b1, b2⟩ := hR3.bk d j g1' g2'
        obtain ⟨s1, s2, s3, s4, s5, s6, s7, s8⟩ := hR3.bs d j g1' g2'
        have g3' : ma m3 8 (10 * d + j) = 0 := by rw [hRE3.row (r := 8) rfl]; exact g3
        rw [cIf_t g3', hRE3.row (r := 12) rfl] at s7
        rw [cIf_t g3', hRE3.row (r := 13) rfl] at s8
        rw [hRE3.row (r := 9) rfl] at s3
        have hx3 : X < nX m3 := by rw [hRE3.enX]; exact hx
        have hd3 : dX m3 X = 0 := by rw [hRE3.edX]; exact hd0
        have x23 := (hR3.xk.1 X hx3).2.1
        have fin : (ma m 12 (10 * d + j) = 1 ∨ ma m 12 (10 * d + j) = 4) → Wq G M5_readBody 98 [some (.ref 73), some (.int (nI n)), some (.ref (aX A X)), some (.ref (aT A c)), some (.int (nI nm)), some (.int (nI ones)), some (.int (nI opn)), some (.int (nI (100 * d + j))), some (.ref (aB A (10 * d + j))), none] [] (0, 0) w3 Q := by
          intro hb
          rw [cIf_t hb] at hq
          refine Wq.go ok5_readBody 40 [] ?_
          refine And.intro hR3.k73 (c5_readLast hR3 hI3 hX3 hx3 hd3 g1' g2' g3' (by rw [hRE3.te.eab, hRE3.te.eFO, hRE3.ebX]; exact g6) (by rw [hRE3.row (r := 12) rfl]; exact hb) ?_)
          have eL : lsL m3 (10 * d + j) = lsL m (10 * d + j) := by unfold lsL; rw [hRE3.row (r := 12) rfl, hRE3.etL, hRE3.c nuN (fun _ => rfl)]
          have eV : lsV m3 X (10 * d + j) = lsV m X (10 * d + j) := by unfold lsV; rw [hRE3.row (r := 12) rfl, hRE3.row (r := 13) rfl, hRE3.etV, hRE3.c nuN (fun _ => rfl)]
          rw [eL, eV]
          have hRd4 : Rd w3 (sJ (sI w3 4 6 73 (lsL m (10 * d + j))) 4 7 73 (lsV m X (10 * d + j))) := (Rd.I4 (by omega) hR3.k73).tr (Rd.J4 hR3.k73)
          have hM4 := MaR.jj hR3.mr (lsL m (10 * d + j)) (lsV m X (10 * d + j)) rfl
          have h46 : gI (sJ (sI w3 4 6 73 (lsL m (10 * d + j))) 4 7 73 (lsV m X (10 * d + j))) 4 6 73 = lsL m (10 * d + j) := gI_at w3 4 6 73 _
          have h47 : gJ (sJ (sI w3 4 6 73 (lsL m (10 * d + j))) 4 7 73 (lsV m X (10 * d + j))) 4 7 73 = lsV m X (10 * d + j) := gJ_at _ _ _ _ _
          generalize sJ (sI w3 4 6 73 (lsL m (10 * d + j))) 4 7 73 (lsV m X (10 * d + j)) = w4 at hRd4 hM4 h46 h47 ⊢
          have hMq : MaR (sTr m0 [nI (100 * d + j)]) w4 := by rw [show sTr m0 [nI (100 * d + j)] = m3 from em3]; exact hM4
          have k734 : gN w4 0 73 = 4 := by rw [hRd4.1.1]; exact hR3.k73
          refine And.intro (fun _ => And.intro k734 ?_) (fun y => absurd rfl y)
          have eE : enF m X (10 * d + j) ones = cIf (0 < ones ∧ ¬ (1 ≤ (lsL m (10 * d + j)).toInt ∧ (lsL m (10 * d + j)).toInt ≤ 5)) (-16, 0, 0) (0, cIf (0 < ones) 5 (lsL m (10 * d + j)), cIf (0 < ones) (lsV m X (10 * d + j) + (nI ones).toInt64) (lsV m X (10 * d + j))) := rfl
          rw [eE] at hq
          refine c5_addOnes k734 (by omega) (fun z => ?_) h46 h47 (fun z1 z2 => ?_) (fun z1 z2 => ?_)
          · rw [cIf_f (fun y => by omega), cIf_f (by omega), cIf_f (by omega)] at hq
            exact hq w4 (hRd13.tr hRd4) hMq (fun _ => ⟨h46, h47⟩)
          · rw [cIf_t ⟨z1, z2⟩] at hq
            exact hq w4 (hRd13.tr hRd4) hMq (fun y => absurd (show (-16 : Int32) = 0 from y) (by decide))
          · rw [cIf_f (fun y => y.2 z2), cIf_t z1, cIf_t z1] at hq
            refine hq _ ((hRd13.tr hRd4).tr ((Rd.I4 (by omega) k734).tr (Rd.J4 k734))) ?_ (fun _ => ⟨gI_at w4 4 6 73 5, gJ_at _ _ _ _ _⟩)
            exact MaR.jj hMq 5 _ rfl
        have go : ¬ (ma m 12 (10 * d + j) = 1 ∨ ma m 12 (10 * d + j) = 4) → Wq G M5_readBody 124 [some (.ref 73), some (.int (nI n)), some (.ref (aX A X)), some (.ref (aT A c)), some (.int (nI nm)), some (.int (nI ones)), some (.int (nI opn)), some (.int (nI (100 * d + j))), some (.ref (aB A (10 * d + j))), none] [] (0, 0) w3 Q := by
          intro hb
          rw [cIf_f hb] at hq
          have hmo := (hI.mbs (i := d) (by omega)).2.2.2 j g2
          obtain ⟨mo1, mo2, -, mo4⟩ := hmo
          have mo := mo4.resolve_left (fun y => by rw [g3] at y; exact absurd y.1 (by decide))
          -- on to the next
          have nx : ∀ (c' nm' ones' : Nat), c' ∈ abvs m (bX m X) → nm' < 10 → fdN m c' (nI nm') = nxA m X (10 * d + j) → ones' = ones + cIf (ma m 12 (10 * d + j) = 5) 1 0 → Wq G M5_readBody 183 [some (.ref 73), some (.int (nI n)), some (.ref (aX A X)), some (.ref (aT A c')), some (.int (nI nm')), some (.int (nI ones')), some (.int (nI opn)), some (.int (nI (100 * d + j))), some (.ref (aB A (10 * d + j))), none] [] (0, 0) w3 Q := by
            intro c' nm' ones' hc' hnm' ef eo
            refine Wq.go ok5_readBody 20 [14] ?_
            show Wq G M5_readBody 14 [some (.ref 73), some (.int (nI n)), some (.ref (aX A X)), some (.ref (aT A c')), some (.int (nI nm')), some (.int (nI ones')), some (.int (nI opn + 1)), some (.int (nI (100 * d + j))), some (.ref (aB A (10 * d + j))), none] [] (0, 0) w3 Q
            rw [nI_1]
            refine ih m3 w3 c' nm' ones' (opn + 1) _ _ (by omega) ?_ hc' hnm' hSR3 hRE3 hT3 hR3 (hRd.tr hRd13) (fun w' r1 r2 r3 => ?_)
            · rw [eo]
              by_cases y : ma m 12 (10 * d + j) = 5
              · rw [cIf_t y]; omega
              · rw [cIf_f y]; omega
            · rw [ef, eo] at r2 r3 ⊢
              refine hq w' (hRd13.tr r1) ?_ r3
              show MaR (sTr (sT1 m0 (nI (100 * d + j))) _) w'
              rw [em3]; exact r2
          refine Wq.go ok5_readBody 40 [183] ?_
          refine And.intro b2 (And.intro (fun (y : ¬ gI w3 2 6 (aB A (10 * d + j)) = 2) => ?_) (fun (y : gI w3 2 6 (aB A (10 * d + j)) = 2) => ?_)) <;> rw [s7] at y
          · have y1' := (hR3.xs X hx3).1
            rw [cIf_t hd3, hRE3.ebX] at y1'
            have b35 : bdN m (10 * d + j) = 3 ∨ bdN m (10 * d + j) = 5 := by
              have e12 := mo.2.1
              have le5 := mo.2.2.1
              have n0 : bdN m (10 * d + j) ≠ 0 := fun z => g4 (by rw [e12, z]; rfl)
              have n1 : bdN m (10 * d + j) ≠ 1 := fun z => hb (Or.inl (by rw [e12, z]; rfl))
              have n2 : bdN m (10 * d + j) ≠ 2 := fun z => y (by rw [e12, z]; rfl)
              have n4 : bdN m (10 * d + j) ≠ 4 := fun z => hb (Or.inr (by rw [e12, z]; rfl))
              omega
            obtain ⟨e13, l13⟩ := mo.2.2.2.1 b35
            refine And.intro x23 (refS y1' (And.intro b2 (And.intro b2 (And.intro (fun (z : ¬ gI w3 2 6 (aB A (10 * d + j)) = 5) => ?_) (fun (z : gI w3 2 6 (aB A (10 * d + j)) = 5) => ?_))))) <;> rw [s7] at z
            · show Wq G M5_readBody 183 [some (.ref 73), some (.int (nI n)), some (.ref (aX A X)), some (.ref (aT A (bX m X))), some (.int (gI w3 2 7 (aB A (10 * d + j)))), some (.int (nI ones + nI 0)), some (.int (nI opn)), some (.int (nI (100 * d + j))), some (.ref (aB A (10 * d + j))), none] [] (0, 0) w3 Q
              rw [s8, e13, nI_add]
              refine nx (bX m X) _ _ (abvs_self m _) l13 ?_ (by rw [cIf_f z])
              unfold nxA; rw [cIf_f y, e13]
            · show Wq G M5_readBody 183 [some (.ref 73), some (.int (nI n)), some (.ref (aX A X)), some (.ref (aT A (bX m X))), some (.int (gI w3 2 7 (aB A (10 * d + j)))), some (.int (nI ones + 1)), some (.int (nI opn)), some (.int (nI (100 * d + j))), some (.ref (aB A (10 * d + j))), none] [] (0, 0) w3 Q
              rw [s8, e13, nI_1]
              refine nx (bX m X) _ _ (abvs_self m _) l13 ?_ (by rw [cIf_t z])
              unfold nxA; rw [cIf_f y, e13]
          · obtain ⟨p1, p2, p3⟩ := at_2 hI hcl.1 g1 g2 g3 g6 y
            obtain ⟨u1, u2, u3, u4⟩ := hI.up g1 p2 (by omega)
            have hf : gR w3 7 2 (aT A d) = some (aT A (upN m d)) := by
              rw [(hR3.ts d g1').2.2.1]; unfold frA
              rw [cIf_t (by rw [hRE3.row (r := 0) rfl]; exact p2), cIf_f (by omega), hRE3.te.eup]
            refine And.intro b2 (refS s1 (And.intro (hR3.tk d g1').2.1 (refS hf (And.intro b2 ?_))))
            show Wq G M5_readBody 183 [some (.ref 73), some (.int (nI n)), some (.ref (aX A X)), some (.ref (aT A (upN m d))), some (.int (gI w3 2 2 (aB A (10 * d + j)))), some (.int (nI ones)), some (.int (nI opn)), some (.int (nI (100 * d + j))), some (.ref (aB A (10 * d + j))), none] [] (0, 0) w3 Q
            rw [s3, mo1]
            refine nx (upN m d) _ ones ?_ mo2 ?_ ?_
            · refine abvs_tr hI _ hcl.1 hcl.2.1 d p3 _ ?_
              rw [abvs_c hI g1 p2 (by omega)]
              exact List.mem_cons_of_mem _ (abvs_self m _)
            · unfold nxA; rw [cIf_t y, show (10 * d + j) / 10 = d by omega, ← mo1]
            · rw [cIf_f (by rw [y]; decide)]; rfl
        refine Wq.go ok5_readBody 20 [98, 124] ?_
        refine And.intro b2 (And.intro (fun (z : gI w3 2 6 (aB A (10 * d + j)) = 1) => ?_) (fun (z : ¬ gI w3 2 6 (aB A (10 * d + j)) = 1) => And.intro b2 (And.intro (fun (y : ¬ gI w3 2 6 (aB A (10 * d + j)) = 4) => ?_) (fun (y : gI w3 2 6 (aB A (10 * d + j)) = 4) => ?_)))) <;> rw [s7] at z
        · exact fin (Or.inl z)
        · rw [s7] at y
          exact go (fun q => q.elim z y)
        · rw [s7] at y
          exact fin (Or.inr y)
      · rw [c_12, nI_eqI (by omega) (by omega)] at y; omega
  refine Con.go hw5_readBody ok5_readBody 20 [14] rfl ?_
  refine And.intro x2 (refS y1 ?_)
  exact loop 12 m w (bX m X) n 0 0 none none rfl (Nat.le_refl _) (abvs_self m _) hn SR.rf RE.rf hT hR (Rd.rf w) h
theorem c5_readBy {h : Nat} {x : Int32} {t : Value} (hR : Rep A m w) (hI : TInv m) (hAc : AInv m) (hX : XInv m) (hH : HInv m) (hT : TrOK m) (hh : h < nH m) (ht : tV A m x t) (hq : RdQ m w (rdR m h x) Q) : Con G M5_readBy [.ref 73, .ref (aH A h), t] w Q := by
  have h100 := hI.le
  have h60 := hX.2.1
  obtain ⟨a1, a2, a3, a4, a5⟩ := hR.hd h hh
  obtain ⟨z1, z2, z3, z4, z5, z6⟩ := hH.2.2 h hh
  have hx : ¬ noX m x := by
    rcases ht with ⟨e, -⟩ | ⟨X, e, hX1, -⟩
    · exact fun y => y.1 e
    · exact fun y => y.2 ⟨X, e, hX1⟩
  unfold rdR at hq
  by_cases hm : ma m 25 h = 0
  · rw [cIf_t hm] at a4
    obtain ⟨-, hF, hin⟩ := z6.resolve_right (fun y => by rw [hm] at y; exact absurd y.1 (by decide))
    obtain ⟨d, j, e, f1, f2, f3, f4, f5, f6⟩ := id hF
    have h8 : ¬ ma m 8 (hA m h) = 0 := by rw [f5]; decide
    obtain ⟨b1, b2⟩ := hR.bk d j f1 f3
    have s5 := (hR.bs d j f1 f3).2.2.2.2.1
    rw [← e] at b2 s5
    rw [cIf_f h8] at s5
    have rf : ∀ (hr : ¬ rcN m h x < 0), Con G M5_readField [.ref 73, .ref (aB A (hA m h)), t] w (fun o w' => o = some (.int 0) ∧ w' = sJ (sI w 4 6 73 (tfL m (hA m h))) 4 7 73 (tfV m (tn x) (hA m h))) := by
      intro hr
      obtain ⟨r1, r2⟩ := rc_fld hI hX hH hh hx hr hm
      rw [e] at r1 r2 ⊢
      exact c5_readField hR hI hX ht r1 f4 r2 ⟨rfl, rfl⟩
    have done : ∀ (hr : ¬ rcN m h x < 0), Q (some (.int 0)) (sJ (sI w 4 6 73 (tfL m (hA m h))) 4 7 73 (tfV m (tn x) (hA m h))) := by
      intro hr
      rw [cIf_f hr, cIf_t hm] at hq
      exact hq _ ((Rd.I4 (by omega) hR.k73).tr (Rd.J4 hR.k73)) (MaR.jj hR.mr _ _ rfl) (fun _ => ⟨gI_at w 4 6 73 _, gJ_at _ _ _ _ _⟩)
    by_cases hs : ma m 11 (hA m h) = 0
    · rcases ht with ⟨ex, et⟩ | ⟨X, ex, hX1, et⟩
      · subst et
        have hrc : rcN m h x = -11 := by unfold rcN; rw [cIf_f (fun y => y.2 hs), cIf_t ex]
        rw [hrc, cIf_t (by decide)] at hq
        refine Con.go hw5_readBy ok5_readBy 40 [] rfl ?_
        refine And.intro a2 (refS a4 (And.intro a2 (refS a4 (And.intro b2 (And.intro (fun _ => ?_) (fun y => absurd (by rw [s5]; exact hs) y))))))
        refine And.intro hR.k73 (Con.go hw5_whyNotOf ok5_whyNotOf 20 [] rfl ?_)
        exact And.intro (fun y => absurd y (by decide)) (fun _ => hq w (Rd.rf w) hR.mr (fun y => absurd (show (-11 : Int32) = 0 from y) (by decide)))
      · subst et
        have hrc : rcN m h x = cIf (soP m (bX m X) (dX m X) (hC m h) 0) 0 (-13) := by
          unfold rcN; rw [cIf_f (fun y => y.2 hs), cIf_f (by rw [ex, i32_eq, nI_t (by omega)]; intro y; have : ((-1 : Int32)).toInt = -1 := rfl; omega), ex, tn_nI (by omega)]
        refine Con.go hw5_readBy ok5_readBy 40 [] rfl ?_
        refine And.intro a2 (refS a4 (And.intro a2 (refS a4 (And.intro b2 (And.intro (fun _ => ?_) (fun y => absurd (by rw [s5]; exact hs) y))))))
        refine And.intro hR.k73 (c5_whyNotOf hR hI hX hH hh hX1 ?_)
        rw [← hrc]
        refine And.intro (fun y => And.intro a2 (refS a4 (And.intro a2 (refS a4 (And.intro hR.k73 ?_))))) (fun y => ?_)
        · refine (rf (by rw [y]; decide)).mono (fun o w' hw' => ?_)
          obtain ⟨rfl, rfl⟩ := hw'
          exact done (by rw [y]; decide)
        · have hlt := (rc_cases (w := m) (h := h) (x := x)).resolve_right y
          rw [cIf_t hlt] at hq
          exact hq w (Rd.rf w) hR.mr (fun z => absurd z y)
    · have hrc : rcN m h x = 0 := cIf_t ⟨hm, hs⟩
      have hsn : t = .null ∨ ∃ b, t = .ref b := by
        rcases ht with ⟨-, et⟩ | ⟨X, -, -, et⟩
        · exact Or.inl et
        · exact Or.inr ⟨_, et⟩
      have rf0 := rf (by rw [hrc]; decide)
      rcases hsn with et | ⟨b, et⟩ <;> subst et
      all_goals
        refine Con.go hw5_readBy ok5_readBy 40 [] rfl ?_
        refine And.intro a2 (refS a4 (And.intro a2 (refS a4 (And.intro b2 (And.intro (fun y => absurd (by rw [s5] at y; exact y) hs) (fun _ => And.intro a2 (refS a4 (And.intro hR.k73 ?_))))))))
        refine rf0.mono (fun o w' hw' => ?_)
        obtain ⟨rfl, rfl⟩ := hw'
        exact done (by rw [hrc]; decide)
  · rw [cIf_f hm] at a4
    have hme := z6.resolve_left (fun y => hm y.1)
    have i2 := a5 hm
    rcases ht with ⟨ex, et⟩ | ⟨X, ex, hX1, et⟩
    · subst et
      have hrc : rcN m h x = -11 := by unfold rcN; rw [cIf_f (fun y => hm y.1), cIf_t ex]
      rw [hrc, cIf_t (by decide)] at hq
      refine Con.go hw5_readBy ok5_readBy 40 [] rfl ?_
      refine And.intro a2 (refN a4 (And.intro hR.k73 (Con.go hw5_whyNotOf ok5_whyNotOf 20 [] rfl ?_)))
      exact And.intro (fun y => absurd y (by decide)) (fun _ => hq w (Rd.rf w) hR.mr (fun y => absurd (show (-11 : Int32) = 0 from y) (by decide)))
    · subst et
      have hrc : rcN m h x = cIf (soP m (bX m X) (dX m X) (hC m h) 0) 0 (-13) := by
        unfold rcN; rw [cIf_f (fun y => hm y.1), cIf_f (by rw [ex, i32_eq, nI_t (by omega)]; intro y; have : ((-1 : Int32)).toInt = -1 := rfl; omega), ex, tn_nI (by omega)]
      refine Con.go hw5_readBy ok5_readBy 40 [] rfl ?_
      refine And.intro a2 (refN a4 (And.intro hR.k73 (c5_whyNotOf hR hI hX hH hh hX1 ?_)))
      rw [← hrc]
      refine And.intro (fun y => And.intro a2 (refN a4 (And.intro a2 (And.intro hR.k73 ?_)))) (fun y => ?_)
      · have hr0 : ¬ rcN m h x < 0 := by rw [y]; decide
        rw [cIf_f hr0, cIf_f hm] at hq
        rcases rc_ok hI hX hH hh hx hr0 with q | ⟨X', ex', q1, q2, q3, q4⟩
        · exact absurd q.1 hm
        · have : X' = X := by rw [ex, nI_eqI (by omega) (by omega)] at ex'; exact ex'.symm
          subst this
          rw [ex, tn_nI (by omega), z5] at hq
          show Con G M5_readBody [.ref 73, .int (gI w 1 2 (aH A h)), .ref (aX A X')] w _
          rw [i2, z5]
          exact c5_readBody hR hI hAc hX hT hX1 q2 hme.2 hq
      · have hlt := (rc_cases (w := m) (h := h) (x := x)).resolve_right y
        rw [cIf_t hlt] at hq
        exact hq w (Rd.rf w) hR.mr (fun z => absurd z y)
end
