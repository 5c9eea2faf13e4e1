/-! ===== variable, row of the class ===== -/
section
variable {G : qGX} {A : qA} {m w : qSt} {Q : Option Value → qSt → Prop}
theorem isL_sort (hI : TInv m) {j : Nat} (hj : j < nT m) : isL (nI j) ↔ ma m 0 j = 0 := by
  have h100 := hI.le
  constructor
  · rintro ⟨k, e, hk⟩
    rw [nI_eqI (by omega) (by omega)] at e
    subst e; exact hI.lane hk
  · intro e
    refine ⟨j, rfl, Classical.byContradiction fun z => ?_⟩
    by_cases h8 : j = 8
    · rw [h8, hI.any] at e; exact absurd e (by decide)
    · rcases hI.kind (i := j) (by omega) hj with q | q | q | q
      · rw [q.1] at e; exact absurd e (by decide)
      · rw [q] at e; exact absurd e (by decide)
      · rw [q.1] at e; exact absurd e (by decide)
      · rw [q.1] at e; exact absurd e (by decide)
theorem c10_addVariable {c b : Int32} (hR : Rep A m w) (hI : TInv m) (hX : XInv m) (hH : HInv m) (hQ : QInv m) (hz : qZero w) (h : OpQ (S_var m c b) m w Q) : Con G M10_addVariable [.ref 3, .int c, .int b] w Q := by
  have h100 := hI.le
  obtain ⟨hneg, hpos⟩ := h
  unfold S_var at hneg hpos
  have bad : (c = 8 ∨ ¬ isC m c ∨ ¬ isT m b ∨ isL b) → ∀ l3 l4 : Value, wide l3 = false → Wq G M10_addVariable 30 [some (.ref 3), some (.int c), some (.int b), some l3, some l4] [] (0, 0) w Q := by
    intro hb l3 l4 _
    refine Wq.ls (ls' := [some (.ref 3), some (.int c), some (.int b), none, none]) ⟨rfl, rfl, rfl, trivial⟩ ?_
    exact Wq.go ok10_addVariable 20 [] (hneg _ (by decide) (cIf_t hb))
  refine Con.go hw10_addVariable ok10_addVariable 40 [30, 32] rfl ?_
  refine And.intro hR.k3 (c10_ownClassAt hR hI (fun z => And.intro hR.k3 (c10_at hR hI (fun z2 => bad (z.elim Or.inl (fun z => Or.inr (Or.inl z))) .null .null rfl) (fun j e hj => bad (z.elim Or.inl (fun z => Or.inr (Or.inl z))) .null (.ref (aT A j)) rfl))) (fun i ei hi hs h8 => And.intro hR.k3 (c10_at hR hI (fun z2 => bad (Or.inr (Or.inr (Or.inl z2))) (.ref (aT A i)) .null rfl) (fun j ej hj => ?_))))
  obtain ⟨t1, t2, t3, -⟩ := hR.tk j hj
  obtain ⟨u1, u2, u3, u4, u5, u6, u7, u8, -⟩ := hR.ts j hj
  refine And.intro t2 (And.intro (fun (z : ¬ gI w 7 1 (aT A j) = 0) => ?_) (fun (z : gI w 7 1 (aT A j) = 0) => bad (Or.inr (Or.inr (Or.inr ?_))) (.ref (aT A i)) (.ref (aT A j)) rfl)) <;> rw [u2] at z
  rotate_left
  · rw [ej]; exact (isL_sort hI hj).mpr z
  have n8 : ¬ c = 8 := fun q => h8 (by rw [ei] at q; exact (nI_eqI (b := 8) (by omega) (by omega)).mp q)
  rw [cIf_f (fun y => y.elim n8 (fun y => y.elim (fun y => y ⟨i, ei, hi, hs⟩) (fun y => y.elim (fun y => y ⟨j, ej, hj⟩) (fun y => z ((isL_sort hI hj).mp (by rw [← ej]; exact y))))))] at hneg hpos
  subst ei ej
  have c8 := hI.c8 hi hs
  have j8 : 8 ≤ j := Classical.byContradiction fun q => z (hI.lane (by omega))
  have hNw := fun h : nT m < 100 => ((nw_mk h 3).set (r := 1) (by omega) (nI i)).set (r := 2) (by omega) (nI j)
  generalize em' : sI (sI (sMk m 3) 40 1 (nT m) (nI i)) 40 2 (nT m) (nI j) = m' at hpos hNw
  have q0 : ma m' 0 (nT m) = 3 := by
    rw [← em']
    show gI (sI (sI (sMk m 3) 40 1 (nT m) (nI i)) 40 2 (nT m) (nI j)) 40 0 (nT m) = 3
    rw [gI_ne (by omega), gI_ne (by omega)]; exact mk_0 m 3
  have q1 : ma m' 1 (nT m) = nI i := by
    rw [← em']
    show gI (sI (sI (sMk m 3) 40 1 (nT m) (nI i)) 40 2 (nT m) (nI j)) 40 1 (nT m) = _
    rw [gI_ne (by omega)]; exact gI_at _ _ _ _ _
  have q2 : ma m' 2 (nT m) = nI j := by rw [← em']; exact gI_at _ _ _ _ _
  have q3 : nT m < 100 → ma m' 3 (nT m) = 0 := fun hlt => by
    rw [← em']
    show gI (sI (sI (sI (sI m 40 0 (nT m) 3) 12 1 0 (nI (nT m + 1))) 40 1 (nT m) (nI i)) 40 2 (nT m) (nI j)) 40 3 (nT m) = 0
    rw [gI_ne (by omega), gI_ne (by omega), gI_ne (by omega), gI_ne (by omega)]
    exact (hI.flg hlt).2.2.1 (Or.inl (Nat.le_refl _))
  have eu : upN m' (nT m) = i := by show tn (ma m' 1 (nT m)) = i; rw [q1]; exact tn_nI (by omega)
  have eo : ofN m' (nT m) = j := by show tn (ma m' 2 (nT m)) = j; rw [q2]; exact tn_nI (by omega)
  have hkd : nT m < 100 → TyKind m' (nT m) := fun hlt => Or.inr (Or.inr (Or.inl ⟨q0, by rw [eu]; exact q1, by omega, by omega, by rw [eu, (hNw hlt).at (by omega)]; exact hs, by rw [eo]; exact q2, by omega, by omega⟩))
  have h1 : ¬ ma m' 0 (nT m) = 1 := by rw [q0]; decide
  refine Wq.go ok10_addVariable 40 [] ?_
  refine And.intro hR.k3 (And.intro ⟨by decide, by decide⟩ ?_)
  refine c10_add (S := 3) (fr := some (aT A j)) (ow := some (aT A i)) (op := 0) (up := UpP m' (nT m)) (b := nI (baN m j)) (d := nI (dpN m j)) hR hI hz (by omega) rfl (fun f e => ?_) (fun y => ?_) (fun f e _ => ?_) rfl (fun hlt k hk => ⟨fun y => absurd y (up_no (hNw hlt) hI h1 k), fun y => by omega⟩) (fun hf => hneg _ (by decide) (cIf_t hf)) (fun hlt a u ha nw hz1 hcw => ?_)
  · cases e; exact ⟨t2, _, u8, t3⟩
  · rcases y with y | y
    · cases y
    · omega
  · cases e
    refine ⟨u6.symm, ?_⟩
    rw [u7, if_neg (by omega)]
    rw [i32_eq, i32_add (by rw [c0i]; have := i32_b (nI (dpN m j)); omega) (by rw [c0i]; have := i32_b (nI (dpN m j)); omega), c0i]; omega
  rw [cIf_f (by omega)] at hpos
  have hN := hNw hlt
  have hI' := hN.tinv hI (hkd hlt) (Or.inl (q3 hlt))
  have hlt' : nT m < nT m' := by rw [hN.eT]; omega
  have hrep := rep_type (o := nT m) (rv := -1) hR hI hX hH hQ hz hN ha nw q0 (by
      unfold frA
      rw [cIf_f h1, cIf_t (Or.inl q0), eo]
      show _ = some (if j = nT m then a else aT A j)
      rw [if_neg (by omega)]) (by
      unfold owA
      rw [sqN_0 (by rw [q0]; decide), cIf_t q0, eu]
      show _ = some (if i = nT m then a else aT A i)
      rw [if_neg (by omega)]) (q3 hlt).symm (by rw [baN_of hI' hlt' (Or.inl q0), eo, hN.ba hI hj]) (by rw [dpN_3 hI' hlt' q0, eo, hN.dp hI hj]) (by
      unfold mlN hasMb
      rw [if_neg (by omega), cIf_f (by rw [q0]; rintro (y | y); exact absurd y (by decide); exact absurd y.1 (by decide))]) (fun _ => Iff.rfl) (Nat.le_refl _) (fun k _ _ => rw_no hN hI (by rw [q0]; decide) k) ((rw_no hN hI (by rw [q0]; decide) _).trans (rw_out hI (Nat.le_refl _) (by omega))) ((rw_no hN hI (by rw [q0]; decide) _).trans (rw_out hI (Nat.le_refl _) (by omega)))
  obtain ⟨mk, hA, hB, i15, -⟩ := nw
  have hR1 := hR.agree mk.1
  have e4 : gI (sI (sR u 23 4 (nT m) (some a)) 9 3 3 (nI (nT m + 1))) 9 4 3 = nI (csF m' (nT m')) := by
    rw [hN.ecs hI, cIf_f h1]
    exact (gI_ne (w := sR u 23 4 (nT m) (some a)) (by omega)).trans hR1.mt.2.1
  have e6 : wTy u (nT m) a (nI (csF m' (nT m'))) (if nT m = nT m then a else aT A (nT m)) (-1) = sI (sR u 23 4 (nT m) (some a)) 9 3 3 (nI (nT m + 1)) := by
    unfold wTy
    rw [if_pos rfl, sI_same e4]
    exact sI_same ((gI_ne (w := sR u 23 4 (nT m) (some a)) (by omega)).trans i15)
  rw [e6] at hrep
  exact hpos _ _ _ _ (nI_pos (by omega)) rfl ⟨hrep, hz1, hcw⟩
theorem c11_variable {c b : Int32} (hR : Rep A m w) (hI : TInv m) (hX : XInv m) (hH : HInv m) (hQ : QInv m) (hz : qZero w) (h : ∀ A' w', Fin A' (S_var m c b).2 w w' → Q (some (.int (S_var m c b).1)) w') : Con G M11_variable [.ref 2, .int c, .int b] w Q := by
  refine Con.go hw11_variable ok11_variable 40 [] rfl ?_
  refine And.intro hR.k2 (refS hR.r1 (And.intro hR.k3 (And.intro ⟨by decide, by decide⟩ ?_)))
  exact c10_addVariable hR hI hX hH hQ hz (OpQ.ans hR hz h (fun v w' q => q _ (fun _ z => z)))
theorem c10_rowOf {t : Int32} (hR : Rep A m w) (hI : TInv m) (hX : XInv m) (hH : HInv m) (hQ : QInv m) (hz : qZero w) (h : OpQ (S_row m t) m w Q) : Con G M10_rowOf [.ref 3, .int t] w Q := by
  have h100 := hI.le
  obtain ⟨hneg, hpos⟩ := h
  unfold S_row at hneg hpos
  refine Con.go hw10_rowOf ok10_rowOf 40 [25] rfl ?_
  refine And.intro hR.k3 (c10_at hR hI (fun z => hneg _ (by decide) (cIf_t z)) (fun j ej hj => ?_))
  rw [cIf_f (fun y => y ⟨j, ej, hj⟩)] at hneg hpos
  subst ej
  obtain ⟨t1, t2, t3, -⟩ := hR.tk j hj
  obtain ⟨u1, u2, u3, u4, u5, u6, u7, u8, -⟩ := hR.ts j hj
  have u15 := (hR.tm j hj).2.2.2
  unfold rwI at u15
  refine And.intro t2 ?_
  cases erf : rfN m (nI j) with
  | some r =>
    rw [erf] at u15 hpos
    obtain ⟨p1, p2, p3, p4⟩ := rf_some erf
    refine And.intro (fun (z : gI w 7 15 (aT A j) = -1) => ?_) (fun _ => And.intro t2 ?_)
    · rw [u15] at z
      exact absurd z (neX rfl (by omega))
    · rw [u15]
      exact hpos _ A m w (nI_pos (by omega)) rfl ⟨hR, hz, CW.rf w⟩
  | none =>
    rw [erf] at u15 hneg hpos
    refine And.intro (fun _ => ?_) (fun z => absurd u15 z)
    have hNw := fun h : nT m < 100 => (nw_mk h 4).set (r := 2) (by omega) (nI j)
    generalize em' : sI (sMk m 4) 40 2 (nT m) (nI j) = m' at hpos hNw
    have q0 : ma m' 0 (nT m) = 4 := by
      rw [← em']
      show gI (sI (sMk m 4) 40 2 (nT m) (nI j)) 40 0 (nT m) = 4
      rw [gI_ne (by omega)]; exact mk_0 m 4
    have q2 : ma m' 2 (nT m) = nI j := by rw [← em']; exact gI_at _ _ _ _ _
    have q3 : nT m < 100 → ma m' 3 (nT m) = 0 := fun hlt => by
      rw [← em']
      show gI (sI (sI (sI m 40 0 (nT m) 4) 12 1 0 (nI (nT m + 1))) 40 2 (nT m) (nI j)) 40 3 (nT m) = 0
      rw [gI_ne (by omega), gI_ne (by omega), gI_ne (by omega)]
      exact (hI.flg hlt).2.2.1 (Or.inl (Nat.le_refl _))
    have eo : ofN m' (nT m) = j := by show tn (ma m' 2 (nT m)) = j; rw [q2]; exact tn_nI (by omega)
    have hkd : nT m < 100 → TyKind m' (nT m) := fun hlt => Or.inr (Or.inr (Or.inr ⟨q0, by rw [eo]; exact q2, by omega⟩))
    have h1 : ¬ ma m' 0 (nT m) = 1 := by rw [q0]; decide
    have main : ∀ ow, owA A m j = ow → Con G M10_add [.ref 3, .int (nI 4), .ref (aT A j), fV ow, .int 0] w (fun o w' => Wq G M10_rowOf 36 [some (.ref 3), some (.int (nI j)), some (.ref (aT A j)), none] (psh o []) (6, 50) w' Q) := by
      intro ow eow
      refine c10_add (S := 4) (fr := some (aT A j)) (ow := ow) (op := 0) (up := UpP m' (nT m)) (b := nI (baN m j)) (d := nI (dpN m j) + 1) hR hI hz (by omega) rfl (fun f e => ?_) (fun y => ?_) (fun f e _ => ?_) rfl (fun hlt k hk => ⟨fun y => absurd y (up_no (hNw hlt) hI h1 k), fun y => by omega⟩) (fun hf => ?_) (fun hlt a u ha nw hz1 hcw => ?_)
      · cases e; exact ⟨t2, _, u8, t3⟩
      · rcases y with y | y
        · cases y
        · omega
      · cases e
        exact ⟨u6.symm, by rw [u7, if_pos rfl]⟩
      · refine Wq.go ok10_rowOf 20 [] ?_
        exact And.intro (fun _ => hneg _ (by decide) (cIf_t hf)) (fun z => absurd (by decide) z)
      rw [cIf_f (by omega)] at hpos
      have hN := hNw hlt
      have hI' := hN.tinv hI (hkd hlt) (Or.inl (q3 hlt))
      have hlt' : nT m < nT m' := by rw [hN.eT]; omega
      have hsq := sqN_le hI j hj
      have hrep := rep_type (o := j) (rv := nI (nT m)) hR hI hX hH hQ hz hN ha nw q0 (by
          unfold frA
          rw [cIf_f h1, cIf_t (Or.inr q0), eo]
          show _ = some (if j = nT m then a else aT A j)
          rw [if_neg (by omega)]) (by
          rw [← eow]
          unfold owA
          rw [sqN_4 hI' hlt' q0, eo, hN.sq hI hj, hN.at (by omega), hN.up (by omega)]
          by_cases c3 : ma m 0 (sqN m j) = 3
          · have h9 : 9 ≤ sqN m j := by
              refine Classical.byContradiction fun z => ?_
              rcases Nat.lt_or_ge (sqN m j) 8 with q | q
              · rw [hI.lane q] at c3; exact absurd c3 (by decide)
              · rw [show sqN m j = 8 by omega, hI.any] at c3; exact absurd c3 (by decide)
            have hup : upN m (sqN m j) < nT m := by
              rcases hI.kind h9 (by omega) with q | q | q | q
              · rw [q.1] at c3; exact absurd c3 (by decide)
              · rw [q] at c3; exact absurd c3 (by decide)
              · omega
              · rw [q.1] at c3; exact absurd c3 (by decide)
            rw [cIf_t c3, cIf_t c3]
            show _ = some (if upN m (sqN m j) = nT m then a else aT A (upN m (sqN m j)))
            rw [if_neg (by omega)]
          · rw [cIf_f c3, cIf_f c3]) (q3 hlt).symm (by rw [baN_of hI' hlt' (Or.inr q0), eo, hN.ba hI hj]) (by rw [dpN_4 hI' hlt' q0, eo, hN.dp hI hj, nI_1]) (by
          unfold mlN hasMb
          rw [if_neg (by omega), cIf_f (by rw [q0]; rintro (y | y); exact absurd y (by decide); exact absurd y.1 (by decide))]) (fun _ => Iff.rfl) (by omega) (fun k hk hne => by
          unfold rwI
          rw [hN.rf hI, cIf_f (fun y => hne (by rw [q2, nI_eqI (by omega) (by omega)] at y; exact y.2.symm))]
          cases rfN m (nI k) <;> rfl) (by
          unfold rwI
          rw [hN.rf hI, erf, cIf_t ⟨q0, q2⟩]) (by
          unfold rwI
          rw [hN.rf hI, rf_out hI (Nat.le_refl _) (by omega), cIf_f (fun y => by
            have := y.2
            rw [q2, nI_eqI (by omega) (by omega)] at this
            omega)])
      obtain ⟨mk, hA, hB, i15, -⟩ := nw
      have hR1 := hR.agree mk.1
      have e4 : gI (sI (sR u 23 4 (nT m) (some a)) 9 3 3 (nI (nT m + 1))) 9 4 3 = nI (csF m' (nT m')) := by
        rw [hN.ecs hI, cIf_f h1]
        exact (gI_ne (w := sR u 23 4 (nT m) (some a)) (by omega)).trans hR1.mt.2.1
      have e6 : wTy u (nT m) a (nI (csF m' (nT m'))) (if j = nT m then a else aT A j) (nI (nT m)) = sI (sI (sR u 23 4 (nT m) (some a)) 9 3 3 (nI (nT m + 1))) 7 15 (aT A j) (nI (nT m)) := by
        unfold wTy
        rw [if_neg (by omega), sI_same e4]
      rw [e6] at hrep
      have tk : gN (sI (sR u 23 4 (nT m) (some a)) 9 3 3 (nI (nT m + 1))) 0 (aT A j) = 7 := (hR1.tk j hj).2.1
      refine Wq.go ok10_rowOf 20 [] ?_
      refine And.intro (fun z => absurd z (nI_pos (by omega))) (fun _ => And.intro tk ?_)
      exact hpos _ _ _ _ (nI_pos (by omega)) rfl ⟨hrep, hz1.I (hz1.lt tk (by omega)) (by omega), hcw.I rfl⟩
    refine Wq.go ok10_rowOf 30 [36] ?_
    cases eow : owA A m j with
    | none =>
      rw [eow] at u4
      refine And.intro t2 (refN u4 (And.intro hR.k3 (And.intro ⟨by decide, by decide⟩ ?_)))
      exact (main none eow).mono (fun o w' z => z)
    | some x =>
      rw [eow] at u4
      refine And.intro t2 (refS u4 (And.intro hR.k3 (And.intro ⟨by decide, by decide⟩ ?_)))
      exact (main (some x) eow).mono (fun o w' z => z)
theorem c11_row {t : Int32} (hR : Rep A m w) (hI : TInv m) (hX : XInv m) (hH : HInv m) (hQ : QInv m) (hz : qZero w) (h : ∀ A' w', Fin A' (S_row m t).2 w w' → Q (some (.int (S_row m t).1)) w') : Con G M11_row [.ref 2, .int t] w Q := by
  refine Con.go hw11_row ok11_row 40 [] rfl ?_
  refine And.intro hR.k2 (refS hR.r1 (And.intro hR.k3 (And.intro ⟨by decide, by decide⟩ ?_)))
  exact c10_rowOf hR hI hX hH hQ hz (OpQ.ans hR hz h (fun v w' q => q _ (fun _ z => z)))
end
