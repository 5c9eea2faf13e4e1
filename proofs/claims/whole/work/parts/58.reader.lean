/-! ===== the class reads ===== -/
section
variable {G : qGX} {A : qA} {m w : qSt} {Q : Option Value → qSt → Prop}
theorem Rep.tinj (hR : Rep A m w) (hI : TInv m) {i j : Nat} (hi : i < nT m) (hj : j < nT m) (e : aT A i = aT A j) : i = j := by
  have h100 := hI.le
  have h1 := (hR.ts i hi).1
  have h2 := (hR.ts j hj).1
  rw [e, h2, nI_eqI (by omega) (by omega)] at h1
  exact h1.symm
theorem Rep.t2 (hR : Rep A m w) {i : Nat} (hi : i < nT m) : 2 ≤ aT A i := by
  have h := (hR.tk i hi).2.1
  have k1 := hR.fk.2.2.2.2.2.2.2.2.2.2.2.2.2.1.1
  have k0 := hR.fk.2.2.2.2.2.2.2.2.2.2.2.2.2.2
  rcases Nat.lt_or_ge (aT A i) 2 with q | q
  · rcases (show aT A i = 0 ∨ aT A i = 1 by omega) with z | z
    · rw [z, k0] at h; omega
    · rw [z, k1] at h; omega
  · exact q
theorem c6_placeOf {X d j : Nat} (hR : Rep A m w) (hI : TInv m) (hX : XInv m) (hF : FdOK m (10 * d + j)) (hj10 : j < 10) (hH : HasF m X (10 * d + j)) (hs : ma m 11 (10 * d + j) = 0) (h : Q (some (.int (nI (offN m (bX m X) (10 * d + j))))) w) : Con G M6_placeOf [.ref (aX A X), .ref (aB A (10 * d + j))] w Q := by
  have h100 := hI.le
  have ho := off_in hX hF hH hs
  obtain ⟨d', j', e, f1, f2, f3, f4, f5, f6⟩ := hF
  obtain ⟨g1, g2, g3⟩ := hH
  have e1 : d' = d := by omega
  have e2 : j' = j := by omega
  subst e1 e2
  rw [show (10 * d' + j') / 10 = d' by omega] at g3
  have ed : (10 * d' + j') / 10 = d' := by omega
  have ej : (10 * d' + j') % 10 = j' := by omega
  have eo : offN m (bX m X) (10 * d' + j') = offA m d' (abvs m (bX m X)) + pcF m d' j' := by unfold offN; rw [ed, ej]
  obtain ⟨x1, x2, x3⟩ := hR.xk.1 X g1
  obtain ⟨y1, y2, y3, y4, y5⟩ := hR.xs X g1
  rw [cIf_t g2] at y1
  have hcl := hX.cls g1 g2
  have hsz := hX.sz g1
  obtain ⟨b1, b2⟩ := hR.bk d' j' f1 f3
  obtain ⟨s1, s2, s3, s4, s5, s6, -⟩ := hR.bs d' j' f1 f3
  have h8 : ¬ ma m 8 (10 * d' + j') = 0 := by rw [f5]; decide
  rw [cIf_f h8] at s6
  have loop : ∀ (n c P : Nat), c < n → c < nT m → ma m 0 c = 1 → d' ∈ abvs m c → P + offA m d' (abvs m c) = offA m d' (abvs m (bX m X)) → Wq G M6_placeOf 7 [some (.ref (aX A X)), some (.ref (aB A (10 * d' + j'))), some (.int (nI P)), some (.ref (aT A c)), none] [] (0, 0) w Q := by
    intro n
    induction n with
    | zero => intro c P h0; omega
    | succ n ih =>
      intro c P hn hc hsc hdc hP
      have tk := (hR.tk c hc).2.1
      refine Wq.go ok6_placeOf 30 [7, 27] ?_
      refine And.intro b2 (refS s1 (And.intro ⟨hR.t2 hc, hR.t2 f1⟩ (And.intro (fun z => ?_) (fun z => ?_))))
      · have hne : c ≠ d' := fun y => z (by rw [y])
        have h8c : c ≠ 8 := by
          intro y
          subst y
          rw [abvs_8, List.mem_singleton] at hdc
          omega
        obtain ⟨u1, u2, u3, u4⟩ := hI.up hc hsc h8c
        have hf : gR w 7 2 (aT A c) = some (aT A (upN m c)) := by
          rw [(hR.ts c hc).2.2.1]; unfold frA; rw [cIf_t hsc, cIf_f h8c]
        rw [abvs_c hI hc hsc h8c] at hdc hP
        have hd2 := (List.mem_cons.mp hdc).resolve_left (fun y => hne y.symm)
        have eA : offA m d' (c :: abvs m (upN m c)) = pcN m c + offA m d' (abvs m (upN m c)) := if_neg hne
        rw [eA] at hP
        refine And.intro tk (And.intro tk (refS hf ?_))
        show Wq G M6_placeOf 7 [some (.ref (aX A X)), some (.ref (aB A (10 * d' + j'))), some (.int (nI P + gI w 7 13 (aT A c))), some (.ref (aT A (upN m c))), none] [] (0, 0) w Q
        rw [(hR.tm c hc).2.1, nI_add]
        exact ih (upN m c) (P + pcN m c) (by omega) (by omega) u4 hd2 (by omega)
      · have hcd : c = d' := hR.tinj hI hc f1 z
        subst hcd
        have e0 : offA m c (abvs m c) = 0 := if_pos rfl
        rw [e0, Nat.add_zero] at hP
        refine And.intro b2 ?_
        show Wq G M6_placeOf 27 [some (.ref (aX A X)), some (.ref (aB A (10 * c + j'))), some (.int (nI P)), some (.ref (aT A c)), some (.int (nI P + gI w 2 5 (aB A (10 * c + j'))))] [] (0, 0) w Q
        rw [s6, nI_add, hP, ← eo]
        refine Wq.go ok6_placeOf 30 [] ?_
        refine And.intro x2 (refS y4 (And.intro (Or.inr (Or.inl x3)) (And.intro (fun y => ?_) (fun y => h))))
        have y : nI (gN w 1 (aX A X + 1)) ≤ nI (offN m (bX m X) (10 * c + j')) := y
        rw [y5, nI_leI (by omega) (by omega)] at y
        omega
  refine Con.go hw6_placeOf ok6_placeOf 20 [7] rfl ?_
  refine And.intro x2 (refS y1 ?_)
  exact loop (bX m X + 1) (bX m X) 0 (by omega) hcl.1 hcl.2.1 g3 (by omega)
/-- t is the object of thing x, or null -/
def tV (A : qA) (m : qSt) (x : Int32) (t : Value) : Prop := (x = -1 ∧ t = .null) ∨ ∃ X, x = nI X ∧ X < nX m ∧ t = .ref (aX A X)
/-- what reading changes -/
def Rd (w w' : qSt) : Prop := SW w w' ∧ (∀ k, gI w' 10 k = gI w 10 k) ∧ gI w' 20 78 = gI w 20 78 ∧ CW w w' ∧ (qZero w → qZero w')
theorem Rd.rf (w : qSt) : Rd w w := ⟨SW.rf w, fun _ => rfl, rfl, CW.rf w, id⟩
theorem Rd.tr {a b c : qSt} (h : Rd a b) (h' : Rd b c) : Rd a c := ⟨h.1.tr h'.1, fun k => (h'.2.1 k).trans (h.2.1 k), h'.2.2.1.trans h.2.2.1, h.2.2.2.1.tr h'.2.2.2.1, fun z => h'.2.2.2.2 (h.2.2.2.2 z)⟩
theorem Rd.cd {w w' : qSt} (hc : Cd w w') (h70 : gN w 0 70 = 8) : Rd w w' := by
  refine ⟨(SW.rf w).cd hc, fun k => ?_, ?_, (CW.rf w).cd hc, fun z => z.cd hc h70⟩
  · obtain ⟨lo, hi, rfl⟩ := hc; rfl
  · obtain ⟨lo, hi, rfl⟩ := hc; rfl
theorem Rd.I4 {w : qSt} {k : Nat} {v : Int32} (hk : 5 ≤ k) (h73 : gN w 0 73 = 4) : Rd w (sI w 4 k 73 v) :=
  ⟨(SW.rf w).I (Or.inr ⟨rfl, hk⟩), fun _ => by funext i; exact gI_ne (by omega), by funext i; exact gI_ne (by omega), (CW.rf w).I rfl, fun z => z.I (z.lt h73 (by omega)) (by omega)⟩
theorem Rd.J4 {w : qSt} {k : Nat} {v : Int64} (h73 : gN w 0 73 = 4) : Rd w (sJ w 4 k 73 v) :=
  ⟨(SW.rf w).J, fun _ => rfl, rfl, (CW.rf w).J rfl, fun z => z.J (z.lt h73 (by omega)) (by omega)⟩
theorem Rd.A75 {w : qSt} {j : Nat} {v : Int32} (h75 : gN w 0 75 = 20) : Rd w (sI w 20 75 j v) :=
  ⟨(SW.rf w).A (Or.inl rfl), fun _ => by funext i; exact gI_ne (by omega), by funext i; exact gI_ne (by omega), (CW.rf w).I rfl, fun z => z.AI (z.lt h75 (by omega))⟩
theorem SR.sT1 (m : qSt) (t : Int32) : SR m (sT1 m t) := by
  unfold CQueryHandlesLaw_law_r6115_62a76e.sT1
  by_cases h : nTr m < 60
  · rw [if_pos h]; exact (SR.rf.I rfl).I rfl
  · rw [if_neg h]; exact SR.rf
theorem SR.sTr (l : List Int32) : ∀ (m : qSt), SR m (sTr m l) := by
  induction l with
  | nil => exact fun m => SR.rf
  | cons t l ih => exact fun m => (SR.sT1 m t).tr (ih _)
/-- behind a reading Rep stands, with the trace told -/
theorem Rep.rd {w' : qSt} (hR : Rep A m w) (h : Rd w w') (l : List Int32) (hr : MaR (sTr m l) w') : Rep A (sTr m l) w' := by
  obtain ⟨a1, a2, a3⟩ := sTr_28 l m
  refine ((hR.r0.sw h.1).sr (SR.sTr l m)).rep hr ?_
  obtain ⟨u1, u2, u3, u4, u5, u6, u7⟩ := hR.mq
  have eN : nHt (sTr m l) = nHt m := by unfold nHt; rw [a2 49 (by omega)]
  unfold MaQ
  rw [h.2.1, h.2.1, h.2.1, h.2.1, h.2.1, h.2.1, h.2.2.1, a2 43 (by omega), a2 49 (by omega), a2 51 (by omega), a2 42 (by omega), a2 35 (by omega), a2 0 (by omega), eN, a1 37 (by omega)]
  exact ⟨u1, u2, u3, u4, u5, u6, u7⟩
theorem Rep.rd0 {w' : qSt} (hR : Rep A m w) (h : Rd w w') (hr : MaR m w') : Rep A m w' := hR.rd h [] hr
theorem c5_readField {x : Int32} {t : Value} {d j : Nat} (hR : Rep A m w) (hI : TInv m) (hX : XInv m) (ht : tV A m x t) (hF : FdOK m (10 * d + j)) (hj10 : j < 10) (hH : ma m 11 (10 * d + j) = 0 → ∃ X, x = nI X ∧ HasF m X (10 * d + j)) (h : Q (some (.int 0)) (sJ (sI w 4 6 73 (tfL m (10 * d + j))) 4 7 73 (tfV m (tn x) (10 * d + j)))) : Con G M5_readField [.ref 73, .ref (aB A (10 * d + j)), t] w Q := by
  have h100 := hI.le
  obtain ⟨t1, t2⟩ := ty_OK hI hF
  obtain ⟨d', j', e, f1, f2, f3, f4, f5, f6⟩ := id hF
  have e1 : d' = d := by omega
  have e2 : j' = j := by omega
  subst e1 e2
  obtain ⟨b1, b2⟩ := hR.bk d' j' f1 f3
  obtain ⟨s1, s2, s3, s4, s5, s6, -⟩ := hR.bs d' j' f1 f3
  have h8 : ¬ ma m 8 (10 * d' + j') = 0 := by rw [f5]; decide
  rw [cIf_f h8] at s4 s5
  have tk := (hR.tk _ t2).2.1
  obtain ⟨u1, u2, u3, u4, u5, u6, u7, -⟩ := hR.ts _ t2
  have k73 := hR.k73
  -- behind the lane
  have nx : ∀ w1, w1 = sI w 4 6 73 (tfL m (10 * d' + j')) → Wq G M5_readField 39 [some (.ref 73), some (.ref (aB A (10 * d' + j'))), some t, some (.ref (aT A (tyN m (10 * d' + j')))), none] [] (0, 0) w1 Q := by
    intro w1 ew
    have hR1 : Rep A m w1 := by
      rw [ew]
      refine hR.rd0 (Rd.I4 (by omega) k73) ?_
      exact ⟨(gI_ne (by omega)).trans hR.mr.1, fun i hi => (gI_ne (by omega)).trans (hR.mr.2 i hi)⟩
    obtain ⟨b1', b2'⟩ := hR1.bk d' j' f1 f3
    have s5' := (hR1.bs d' j' f1 f3).2.2.2.2.1
    rw [cIf_f h8] at s5'
    have k73' := hR1.k73
    have hbj := hR1.bj d' j' f1 f3 h8
    rcases ht with ⟨ex, et⟩ | ⟨X, ex, hXX, et⟩
    · subst et
      refine Wq.go ok5_readField 40 [] ?_
      refine And.intro b2' (And.intro (fun (z : gI w1 2 4 (aB A (10 * d' + j')) = 0) => ?_) (fun (z : ¬ gI w1 2 4 (aB A (10 * d' + j')) = 0) => And.intro b2' (And.intro k73' ?_))) <;> rw [s5'] at z
      · obtain ⟨X, eX, -⟩ := hH z
        rw [ex, i32_eq] at eX
        exfalso
        have := (hH z)
        obtain ⟨Y, eY, hY⟩ := this
        have hY1 := hY.1
        have h60 := hX.2.1
        rw [ex, i32_eq, nI_t (by omega)] at eY
        have : ((-1 : Int32)).toInt = -1 := rfl
        omega
      · have ev : tfV m (tn x) (10 * d' + j') = ml m 14 (10 * d' + j') := cIf_f z
        rw [ev, ← ew] at h
        show Q _ (sJ w1 4 7 73 (gJ w1 2 8 (aB A (10 * d' + j'))))
        rw [hbj]; exact h
    · subst et
      obtain ⟨x1, x2, x3⟩ := hR1.xk.1 X hXX
      obtain ⟨y1, y2, y3, y4, y5⟩ := hR1.xs X hXX
      have h60 := hX.2.1
      refine Wq.go ok5_readField 40 [] ?_
      refine And.intro b2' (And.intro (fun (z : gI w1 2 4 (aB A (10 * d' + j')) = 0) => ?_) (fun (z : ¬ gI w1 2 4 (aB A (10 * d' + j')) = 0) => And.intro b2' (And.intro k73' ?_))) <;> rw [s5'] at z
      · obtain ⟨Y, eY, hY⟩ := hH z
        have : Y = X := by
          have hY1 := hY.1
          rw [ex, nI_eqI (by omega) (by omega)] at eY; exact eY.symm
        subst this
        have ho := off_in hX hF hY z
        have hsz := hX.sz hXX
        refine And.intro x2 (c6_placeOf hR1 hI hX hF hj10 hY z ?_)
        refine And.intro (fun _ => And.intro x2 (refS y4 (And.intro x3 (And.intro (by rw [y5]; exact in_nI ho (by omega)) (And.intro k73' ?_))))) (fun y => ?_)
        · show Q _ (sJ w1 4 7 73 (gJ w1 21 (aX A Y + 1) (nI (offN m (bX m Y) (10 * d' + j'))).toNatClampNeg))
          rw [nI_clamp (by omega), hR1.xj Y _ hXX ho]
          have ev : tfV m (tn x) (10 * d' + j') = ml m 23 (pX m Y + offN m (bX m Y) (10 * d' + j')) := by
            unfold tfV; rw [cIf_t z, ex, tn_nI (by omega)]
          rw [ev, ← ew] at h
          exact h
        · have y : nI (offN m (bX m Y) (10 * d' + j')) = -1 := y
          rw [i32_eq, nI_t (by omega)] at y
          have : ((-1 : Int32)).toInt = -1 := rfl
          omega
      · have ev : tfV m (tn x) (10 * d' + j') = ml m 14 (10 * d' + j') := cIf_f z
        rw [ev, ← ew] at h
        show Q _ (sJ w1 4 7 73 (gJ w1 2 8 (aB A (10 * d' + j'))))
        rw [hbj]; exact h
  have eL : tfL m (10 * d' + j') = cIf (tyN m (10 * d' + j') < 8) (nI (baN m (tyN m (10 * d' + j')))) 8 := by
    unfold tfL
    rw [t1]
    by_cases q : tyN m (10 * d' + j') < 8
    · rw [cIf_t ((isL_nI (by omega)).mpr q), cIf_t q, baN_self (by rw [hI.lane q]; decide)]
    · rw [cIf_f (fun y => q ((isL_nI (by omega)).mp y)), cIf_f q]
  have hs : t = .null ∨ ∃ b, t = .ref b := by
    rcases ht with ⟨-, et⟩ | ⟨X, -, -, et⟩
    · exact Or.inl et
    · exact Or.inr ⟨_, et⟩
  rcases hs with et | ⟨b, et⟩ <;> subst et
  all_goals
    refine Con.go hw5_readField ok5_readField 30 [39] rfl ?_
    refine And.intro b2 (refS s4 (And.intro tk (And.intro tk (c11_holdsValue ?_))))
    rw [u6, u7, ty_hv hI t2]
    refine And.intro (fun z => And.intro k73 (nx _ ?_)) (fun z => And.intro tk (And.intro k73 (nx _ ?_)))
    · rw [bI_0] at z
      rw [eL, cIf_f z]
    · rw [bI_n0] at z
      rw [eL, cIf_t z]
      show sI w 4 6 73 (gI w 7 5 (aT A (tyN m (10 * d' + j')))) = _
      rw [u6]
end
