/-! ===== what stays true: types, members, faces ===== -/
section
variable {m m' : qSt}
theorem CInv.cg (h : CInv m) (r28 : ma m' 28 = ma m 28) (r29 : ma m' 29 = ma m 29) (r30 : ma m' 30 = ma m 30) (j31 : ml m' 31 = ml m 31) : CInv m' := by
  have eL : cL m' = cL m := by funext k; show tn (ma m' 29 k) = tn (ma m 29 k); rw [r29]
  have eN : cN m' = cN m := by funext k; show tn (ma m' 30 k) = tn (ma m 30 k); rw [r30]
  unfold CInv ColOK
  rw [r28, r29, r30, j31, eL, eN]; exact h
theorem QInv.cg (h : QInv m) (k43 : mi m' 43 = mi m 43) (hH : nH m ≤ nH m') (r32 : ma m' 32 = ma m 32) (r33 : ma m' 33 = ma m 33) (r34 : ma m' 34 = ma m 34) (r36 : ma m' 36 = ma m 36) : QInv m' := by
  have eQ : nQ m' = nQ m := by unfold nQ; rw [k43]
  have etQ : tQ m' = tQ m := by funext a; show tn (ma m' 32 a) = tn (ma m 32 a); rw [r32]
  have etH : tH m' = tH m := by funext a; show tn (ma m' 33 a) = tn (ma m 33 a); rw [r33]
  have etO : tO m' = tO m := by funext a; show tn (ma m' 34 a) = tn (ma m 34 a); rw [r34]
  unfold QInv TsOK
  rw [eQ, etQ, etH, etO, k43, r32, r33, r34, r36]
  refine ⟨h.1, h.2.1, fun q hq => ⟨(h.2.2 q hq).1, (h.2.2 q hq).2.1, (h.2.2 q hq).2.2.1, fun i hi => ?_⟩⟩
  obtain ⟨a1, a2, a3⟩ := (h.2.2 q hq).2.2.2 i hi
  exact ⟨a1, by omega, a3⟩
theorem HtInv.cg (h : HtInv m) (k49 : mi m' 49 = mi m 49) (r37 : ma m' 37 = ma m 37) (hX : nX m ≤ nX m') : HtInv m' := by
  have eH : nHt m' = nHt m := by unfold nHt; rw [k49]
  unfold HtInv
  rw [eH, k49, r37]
  refine ⟨h.1, h.2.1, fun k hk => ?_⟩
  obtain ⟨X, e, hx⟩ := h.2.2 k hk
  exact ⟨X, e, by omega⟩
theorem TrOK.cg (h : TrOK m) (k36 : mi m' 36 = mi m 36) : TrOK m' := by
  have e : nTr m' = nTr m := by unfold nTr; rw [k36]
  unfold TrOK
  rw [e, k36]; exact h
theorem offA_cg {d : Nat} : ∀ {l : List Nat}, (∀ c ∈ l, pcN m' c = pcN m c) → offA m' d l = offA m d l
  | [], _ => rfl
  | c :: l, h => by
    show (if c = d then 0 else pcN m' c + offA m' d l) = (if c = d then 0 else pcN m c + offA m d l)
    rw [h c List.mem_cons_self, offA_cg (fun e he => h e (List.mem_cons_of_mem _ he))]
theorem NwT.inv (h : NwT m m') (hi : Inv m) (hk : TyKind m' (nT m)) (ho : ma m' 3 (nT m) = 0 ∨ ma m' 3 (nT m) = 1) : Inv m' := by
  obtain ⟨⟨hI, hX, hH, hA, hD, vs, vr, vf, b11⟩, hC, hQ, hT, hHt⟩ := hi
  have h100 := hI.le
  have eb : bX m' = bX m := by funext a; show tn (ma m' 19 a) = tn (ma m 19 a); rw [h.rw (by omega)]
  have ed : dX m' = dX m := by funext a; show tn (ma m' 20 a) = tn (ma m 20 a); rw [h.rw (by omega)]
  have es : sX m' = sX m := by funext a; show tn (ma m' 21 a) = tn (ma m 21 a); rw [h.rw (by omega)]
  have ep : pX m' = pX m := by funext a; show tn (ma m' 22 a) = tn (ma m 22 a); rw [h.rw (by omega)]
  have ety : tyN m' = tyN m := by funext a; show tn (ma m' 10 a) = tn (ma m 10 a); rw [h.rw (by omega)]
  have en : nX m' = nX m := by unfold nX; rw [h.2.2.2.2 22 (by omega)]
  have eh : nH m' = nH m := by unfold nH; rw [h.2.2.2.2 29 (by omega)]
  have eP : isP m' = isP m := by funext a; unfold isP; rw [h.rw (r := 8) (by omega), h.rw (r := 11) (by omega)]
  have eF : nF m' = nF m := by funext a; show tn (ma m' 5 a) = tn (ma m 5 a); rw [h.rw (by omega)]
  have efc : fcN m' = fcN m := by funext a b; show tn (ma m' 6 _) = tn (ma m 6 _); rw [h.rw (by omega)]
  refine ⟨⟨h.tinv hI hk ho, h.xinv hI hX, h.hinv hI hH, h.ainv hA, ?_, fun i j hi hj h8 ht => ?_, ?_, fun x d j hx h0 hd hj hp ht => ?_, ?_⟩, hC.cg (h.rw (by omega)) (h.rw (by omega)) (h.rw (by omega)) (h.2.2.2.1 31), hQ.cg (h.2.2.2.2 43 (by omega)) (by omega) (h.rw (by omega)) (h.rw (by omega)) (h.rw (by omega)) (h.rw (by omega)), hT.cg (h.2.2.2.2 36 (by omega)), hHt.cg (h.2.2.2.2 49 (by omega)) (h.rw (by omega)) (by omega)⟩
  · unfold DInv; rw [eF, efc]; exact hD
  · rw [h.eM] at hj
    have e : i ≠ nT m := fun z => by rw [z, (nF_0 hI (Nat.le_refl _) h.2.1).2.1] at hj; omega
    rw [h.eT] at hi
    rw [h.rw (r := 8) (by omega)] at h8
    rw [ety] at ht ⊢
    rw [h.2.2.2.1 14]
    exact vs i j (by omega) hj h8 ht
  · unfold VR; rw [en, es, ed, eb, ep, h.2.2.2.1 23]; exact vr
  · rw [en] at hx
    rw [ed] at h0
    have hcl := hX.cls hx h0
    rw [eb, h.ab hI hcl.1 hcl.2.1] at hd
    rw [h.eM] at hj
    rw [eP] at hp
    rw [ety] at ht ⊢
    have eo : offN m' (bX m x) (10 * d + j) = offN m (bX m x) (10 * d + j) := by
      unfold offN
      rw [h.ab hI hcl.1 hcl.2.1, h.epf, offA_cg (m := m) (m' := m') (fun c _ => by rw [h.epc])]
    rw [eb, ep, eo, h.2.2.2.1 23]
    exact vf x d j hx h0 hd hj hp ht
  · unfold B11; rw [h.rw (r := 11) (by omega)]; exact b11
theorem NwM.inv {t : Nat} (h : NwM m m' t) (hi : Inv m) (ht : t < nT m) (ht9 : 9 ≤ t) (hk : ma m 0 t = 1 ∨ ma m 0 t = 2) (hc : ma m 4 t = 0) (hm : MemOK m' t (nM m t) (10 * t + nM m t)) (hv : ¬ ma m' 8 (10 * t + nM m t) = 0 → tyN m' (10 * t + nM m t) < 8 → ml m' 14 (10 * t + nM m t) = 0) : Inv m' := by
  obtain ⟨⟨hI, hX, hH, hA, hD, vs, vr, vf, b11⟩, hC, hQ, hT, hHt⟩ := hi
  have h100 := hI.le
  have r : ∀ r, 13 < r → ma m' r = ma m r := fun r hr => h.2.2.2.1 r (Or.inr hr)
  have eb : bX m' = bX m := by funext a; show tn (ma m' 19 a) = tn (ma m 19 a); rw [r 19 (by omega)]
  have ed : dX m' = dX m := by funext a; show tn (ma m' 20 a) = tn (ma m 20 a); rw [r 20 (by omega)]
  have es : sX m' = sX m := by funext a; show tn (ma m' 21 a) = tn (ma m 21 a); rw [r 21 (by omega)]
  have ep : pX m' = pX m := by funext a; show tn (ma m' 22 a) = tn (ma m 22 a); rw [r 22 (by omega)]
  have k : ∀ k, mi m' k = mi m k := h.2.2.2.2.2.2.1
  have en : nX m' = nX m := by unfold nX; rw [k 22]
  have eh : nH m' = nH m := by unfold nH; rw [k 29]
  have j2 : ∀ r, r ≠ 14 → ml m' r = ml m r := h.2.2.2.2.2.1
  refine ⟨⟨h.tinv hI ht ht9 hk hm, h.xinv hI hX ht hc, h.hinv hI hH, h.ainv hA, ?_, fun i j hi hj h8 hty => ?_, ?_, fun x d j hx h0 hd hj hp hty => ?_, fun a => ?_⟩, hC.cg (r 28 (by omega)) (r 29 (by omega)) (r 30 (by omega)) (j2 31 (by omega)), hQ.cg (k 43) (by omega) (r 32 (by omega)) (r 33 (by omega)) (r 34 (by omega)) (r 36 (by omega)), hT.cg (k 36), hHt.cg (k 49) (r 37 (by omega)) (by omega)⟩
  · unfold DInv; rw [h.fe.eF, h.fe.efc]; exact hD
  · rw [h.te.eT] at hi
    by_cases e : i = t ∧ j = nM m t
    · obtain ⟨rfl, rfl⟩ := e
      rw [hv h8 hty]; exact kp_0 _
    · rw [h.eM] at hj
      have hj2 : j < nM m i := by
        by_cases e2 : i = t
        · rw [if_pos e2] at hj; rw [e2]; omega
        · rw [if_neg e2] at hj; exact hj
      have hj10 : j < 10 := by have := (hI.mbs (i := i) (by omega)).2.1; omega
      have hne : i ≠ t ∨ j < nM m t := by
        by_cases e2 : i = t
        · rw [e2] at hj2; exact Or.inr hj2
        · exact Or.inl e2
      have e8 := h.at (r := 8) (by omega) (by omega) hj10 hne
      have e10 : tyN m' (10 * i + j) = tyN m (10 * i + j) := by show tn (ma m' 10 _) = tn (ma m 10 _); rw [h.at (by omega) (by omega) hj10 hne]
      have hmt := h.2.2.2.2.2.2.2
      rw [e8] at h8
      rw [e10] at hty ⊢
      rw [h.2.2.2.2.1 (10 * i + j) (by omega)]
      exact vs i j hi hj2 h8 hty
  · unfold VR; rw [en, es, ed, eb, ep, j2 23 (by omega)]; exact vr
  · rw [en] at hx
    rw [ed] at h0
    have hcl := hX.cls hx h0
    rw [eb, h.te.eab] at hd
    have hnt : ∀ c ∈ abvs m (bX m x), c ≠ t := fun c hcc z => by
      have := hcl.2.2.2 c hcc
      rw [z, hc] at this; exact absurd this (by decide)
    have hdt := hnt d hd
    have hlt : ∀ c ∈ abvs m (bX m x), c < 100 := fun c hcc => by have := (abvs_in hI _ hcl.1 hcl.2.1 c hcc).2.1; omega
    have h10 : ∀ c ∈ abvs m (bX m x), nM m c ≤ 10 := fun c hcc => (hI.mbs (i := c) (hlt c hcc)).2.1
    rw [h.eM, if_neg hdt] at hj
    have hj10 : j < 10 := by have := h10 d hd; omega
    have e8 := h.at (r := 8) (by omega) (by omega) hj10 (Or.inl hdt)
    have e11 := h.at (r := 11) (by omega) (by omega) hj10 (Or.inl hdt)
    have e10 : tyN m' (10 * d + j) = tyN m (10 * d + j) := by show tn (ma m' 10 _) = tn (ma m 10 _); rw [h.at (by omega) (by omega) hj10 (Or.inl hdt)]
    unfold isP at hp
    rw [e8, e11] at hp
    rw [e10] at hty ⊢
    have eo : offN m' (bX m x) (10 * d + j) = offN m (bX m x) (10 * d + j) := by
      unfold offN
      rw [h.te.eab, show (10 * d + j) / 10 = d by omega, show (10 * d + j) % 10 = j by omega, h.epf (by omega) (Or.inl hdt), offA_cg (m := m) (m' := m') (fun c hcc => h.epc (hnt c hcc) (h10 c hcc))]
    rw [eb, ep, eo, j2 23 (by omega)]
    exact vf x d j hx h0 hd hj hp hty
  · by_cases e : a = 10 * t + nM m t
    · rw [e]; exact hm.2.2.1
    · rw [h.2.2.1 11 a (by omega) (by omega) e]; exact b11 a
theorem un_inv {T F : Nat} (hi : Inv m) (hT : T < nT m) (hT9 : 9 ≤ T) (hTk : ma m 0 T = 1 ∨ ma m 0 T = 2) (hF : F < nT m) (hFs : ma m 0 F = 2) (h4 : nF m T < 4) (hnt : ¬ tld m T F) (hno : ¬ (ma m 0 T = 2 ∧ (T = F ∨ FOf m F T))) : Inv (sUn m T F) := by
  obtain ⟨⟨hI, hX, hH, hA, hD, vs, vr, vf, b11⟩, hC, hQ, hTr, hHt⟩ := hi
  have h100 := hI.le
  obtain ⟨te, me, rows, rj, rk⟩ := un_rows (m := m) T F
  have hF9 : 9 ≤ F := by
    refine Classical.byContradiction fun z => ?_
    rcases Nat.lt_or_ge F 8 with y | y
    · rw [hI.lane y] at hFs; exact absurd hFs (by decide)
    · rw [show F = 8 by omega, hI.any] at hFs; exact absurd hFs (by decide)
  have hnF : ¬ FO1 m F T := fun z => hno ⟨(z.in_ hI (by omega)).2.2, Or.inr (Or.inl ⟨hFs, z⟩)⟩
  have hne : T ≠ F := fun z => hno ⟨by rw [z]; exact hFs, Or.inl z⟩
  have e5 := un_nF (m := m) (T := T) (F := F) h4
  have e6 := un_fc (m := m) (T := T) (F := F) (by omega)
  refine ⟨⟨⟨hI.1, hI.2.1, hI.2.2.1, hI.2.2.2.1, hI.2.2.2.2.1, fun i hi => ⟨?_, hI.mbs hi, hI.flg hi⟩⟩, ?_, ?_, ?_, ?_, vs, vr, ?_, b11⟩, hC, hQ, hTr, hHt⟩
  · obtain ⟨f1, f2, f3, f4⟩ := hI.fac hi
    by_cases e : i = T
    · subst e
      have en : nF (sUn m i F) i = nF m i + 1 := by rw [e5, if_pos rfl]
      have r5 : ma (sUn m i F) 5 i = nI (nF m i + 1) := gI_at _ _ _ _ _
      refine ⟨by rw [en, r5], by rw [en]; omega, fun _ => ⟨hT9, hT, hTk⟩, fun j hj => ?_⟩
      rw [en] at hj
      by_cases ej : j = nF m i
      · have r6 : ma (sUn m i F) 6 (4 * i + j) = nI F := by
          rw [ej]
          show gI (sI (sI m 40 6 (4 * i + nF m i) (nI F)) 40 5 i (nI (nF m i + 1))) 40 6 (4 * i + nF m i) = _
          rw [gI_ne (by omega)]; exact gI_at _ _ _ _ _
        have e6j : fcN (sUn m i F) i j = F := by rw [e6, if_pos (by omega)]
        rw [e6j, r6]
        exact ⟨rfl, hF9, hF, hFs⟩
      · have r6 : ma (sUn m i F) 6 (4 * i + j) = ma m 6 (4 * i + j) := by
          show gI (sI (sI m 40 6 (4 * i + nF m i) (nI F)) 40 5 i (nI (nF m i + 1))) 40 6 (4 * i + j) = _
          rw [gI_ne (by omega)]; exact gI_ne (by omega)
        have e6j : fcN (sUn m i F) i j = fcN m i j := by rw [e6, if_neg (by omega)]
        rw [e6j, r6]
        exact f4 j (by omega)
    · have en : nF (sUn m T F) i = nF m i := by rw [e5, if_neg e]
      have r5 : ma (sUn m T F) 5 i = ma m 5 i := by
        show gI (sI (sI m 40 6 (4 * T + nF m T) (nI F)) 40 5 T (nI (nF m T + 1))) 40 5 i = _
        rw [gI_ne (by omega)]; exact gI_ne (by omega)
      refine ⟨by rw [en, r5]; exact f1, by rw [en]; exact f2, fun z => f3 (by rw [en] at z; exact z), fun j hj => ?_⟩
      rw [en] at hj
      have r6 : ma (sUn m T F) 6 (4 * i + j) = ma m 6 (4 * i + j) := by
        show gI (sI (sI m 40 6 (4 * T + nF m T) (nI F)) 40 5 T (nI (nF m T + 1))) 40 6 (4 * i + j) = _
        rw [gI_ne (by omega)]; exact gI_ne (by omega)
      have e6j : fcN (sUn m T F) i j = fcN m i j := by rw [e6, if_neg (by omega)]
      rw [e6j, r6]
      exact f4 j hj
  · obtain ⟨x1, x2, x3, x4⟩ := hX
    refine ⟨x1, x2, x3, fun x hx => ?_⟩
    obtain ⟨y1, y2, y3, y4, y5, y6, y7, y8⟩ := x4 x hx
    refine ⟨y1, y2, y3, y4, y5, y6, y7, y8.imp (fun z => ⟨z.1, z.2.1, ?_, ?_⟩) id⟩
    · show sX m x = (ivL (sUn m T F) (abvs (sUn m T F) (bX m x))).length
      rw [me.eiL, te.eab]; exact z.2.2.1
    · show ∀ d ∈ abvs (sUn m T F) (bX m x), ma m 4 d = 1
      rw [te.eab]; exact z.2.2.2
  · obtain ⟨x1, x2, x3⟩ := hH
    refine ⟨x1, x2, fun a ha => ?_⟩
    obtain ⟨z1, z2, z3, z4, z5, z6⟩ := x3 a ha
    refine ⟨z1, z2, z3, z4, z5, z6.imp (fun z => ⟨z.1, z.2.1, ?_⟩) id⟩
    show CQueryHandlesLaw_law_r6115_62a76e.hA m a / 10 ∈ abvs (sUn m T F) (CQueryHandlesLaw_law_r6115_62a76e.hC m a)
    rw [te.eab]; exact z.2.2
  · intro f z
    rw [un_F1 hI (by omega) (by omega) h4] at z
    rcases z with z | ⟨z1, z2⟩
    · exact hA f z
    · rcases z1 with rfl | z1
      · rcases z2 with z2 | z2
        · exact hne z2
        · exact hnF z2
      · rcases z2 with rfl | z2
        · exact hnF z1
        · exact hnF (z2.tr z1)
  · intro t j k ht hjk hk
    rw [e5] at hk
    rw [e6, e6]
    by_cases e : t = T
    · subst e
      rw [if_pos rfl] at hk
      rw [if_neg (by omega)]
      by_cases ek : k = nF m t
      · rw [if_pos (by omega)]
        exact fun z => hnt ⟨j, by omega, z⟩
      · rw [if_neg (by omega)]
        exact hD t j k ht hjk (by omega)
    · rw [if_neg e] at hk
      have := (hI.fac ht).2.1
      rw [if_neg (by omega), if_neg (by omega)]
      exact hD t j k ht hjk hk
  · intro x d j hx h0 hd hj hp hty
    have hd : d ∈ abvs (sUn m T F) (bX m x) := hd
    rw [te.eab] at hd
    have eo : offN (sUn m T F) (bX (sUn m T F) x) (10 * d + j) = offN m (bX m x) (10 * d + j) := by
      show offA (sUn m T F) ((10 * d + j) / 10) (abvs (sUn m T F) (bX m x)) + pcF (sUn m T F) ((10 * d + j) / 10) ((10 * d + j) % 10) = _
      rw [te.eab, me.epf, offA_cg (m := m) (m' := sUn m T F) (fun c _ => by rw [me.epc])]; rfl
    rw [eo]
    exact vf x d j hx h0 hd hj hp hty
/-! ===== the calls ===== -/
variable {w : qSt}
theorem i_cls (hi : Inv w) (u : Int32) {op : Int32} (hop : op = 0 ∨ op = 1) : Inv (S_cls w u op).2 := by
  have hI := hi.1.1
  have h100 := hI.le
  unfold S_cls
  by_cases c1 : ¬ isC w u
  · rw [cIf_t c1]; exact hi.st _
  · rw [cIf_f c1]
    by_cases c2 : nT w = 100
    · rw [cIf_t c2]; exact hi.st _
    · rw [cIf_f c2]
      obtain ⟨i, rfl, hi2, hs⟩ := Classical.not_not.mp c1
      have hlt : nT w < 100 := by omega
      have hN := ((nw_mk hlt 1).set (r := 1) (by omega) (nI i)).set (r := 3) (by omega) op
      refine Inv.st (hN.inv hi ?_ ?_) _
      · have q0 : ma (sI (sI (sMk w 1) 40 1 (nT w) (nI i)) 40 3 (nT w) op) 0 (nT w) = 1 := mk_0 w 1
        have q1 : ma (sI (sI (sMk w 1) 40 1 (nT w) (nI i)) 40 3 (nT w) op) 1 (nT w) = nI i := (gI_ne (by omega)).trans (gI_at _ _ _ _ _)
        have eu : upN (sI (sI (sMk w 1) 40 1 (nT w) (nI i)) 40 3 (nT w) op) (nT w) = i := by show tn (ma _ 1 (nT w)) = i; rw [q1]; exact tn_nI (by omega)
        have c8 := hI.c8 hi2 hs
        exact Or.inl ⟨q0, by rw [eu]; exact q1, by omega, by omega, by rw [eu, hN.at (by omega)]; exact hs⟩
      · rw [show ma (sI (sI (sMk w 1) 40 1 (nT w) (nI i)) 40 3 (nT w) op) 3 (nT w) = op from gI_at _ _ _ _ _]; exact hop
theorem i_face (hi : Inv w) : Inv (S_face w).2 := by
  have hI := hi.1.1
  have h100 := hI.le
  unfold S_face
  by_cases c2 : nT w = 100
  · rw [cIf_t c2]; exact hi.st _
  · rw [cIf_f c2]
    have hlt : nT w < 100 := by omega
    have hN := nw_mk hlt 2
    refine Inv.st (hN.inv hi (Or.inr (Or.inl (mk_0 w 2))) ?_) _
    exact Or.inl ((hI.flg (i := nT w) (by omega)).2.2.1 (Or.inl (Nat.le_refl _)))
theorem i_var (hi : Inv w) (c b : Int32) : Inv (S_var w c b).2 := by
  have hI := hi.1.1
  have h100 := hI.le
  unfold S_var
  by_cases c1 : c = 8 ∨ ¬ isC w c ∨ ¬ isT w b ∨ isL b
  · rw [cIf_t c1]; exact hi.st _
  · rw [cIf_f c1]
    by_cases c2 : nT w = 100
    · rw [cIf_t c2]; exact hi.st _
    · rw [cIf_f c2]
      have n1 : ¬ c = 8 := fun z => c1 (Or.inl z)
      obtain ⟨i, rfl, hi2, hs⟩ := Classical.not_not.mp (fun z => c1 (Or.inr (Or.inl z)))
      obtain ⟨j, rfl, hj⟩ := Classical.not_not.mp (fun z => c1 (Or.inr (Or.inr (Or.inl z))))
      have nL : ¬ isL (nI j) := fun z => c1 (Or.inr (Or.inr (Or.inr z)))
      rw [isL_nI (by omega)] at nL
      have hlt : nT w < 100 := by omega
      have hN := ((nw_mk hlt 3).set (r := 1) (by omega) (nI i)).set (r := 2) (by omega) (nI j)
      refine Inv.st (hN.inv hi ?_ ?_) _
      · have q0 : ma (sI (sI (sMk w 3) 40 1 (nT w) (nI i)) 40 2 (nT w) (nI j)) 0 (nT w) = 3 := mk_0 w 3
        have q1 : ma (sI (sI (sMk w 3) 40 1 (nT w) (nI i)) 40 2 (nT w) (nI j)) 1 (nT w) = nI i := (gI_ne (by omega)).trans (gI_at _ _ _ _ _)
        have q2 : ma (sI (sI (sMk w 3) 40 1 (nT w) (nI i)) 40 2 (nT w) (nI j)) 2 (nT w) = nI j := gI_at _ _ _ _ _
        have eu : upN (sI (sI (sMk w 3) 40 1 (nT w) (nI i)) 40 2 (nT w) (nI j)) (nT w) = i := by show tn (ma _ 1 (nT w)) = i; rw [q1]; exact tn_nI (by omega)
        have eo : ofN (sI (sI (sMk w 3) 40 1 (nT w) (nI i)) 40 2 (nT w) (nI j)) (nT w) = j := by show tn (ma _ 2 (nT w)) = j; rw [q2]; exact tn_nI (by omega)
        have c8 := hI.c8 hi2 hs
        have n8 : i ≠ 8 := fun z => n1 (by rw [z]; rfl)
        exact Or.inr (Or.inr (Or.inl ⟨q0, by rw [eu]; exact q1, by omega, by omega, by rw [eu, hN.at (by omega)]; exact hs, by rw [eo]; exact q2, by omega, by omega⟩))
      · exact Or.inl ((hI.flg (i := nT w) (by omega)).2.2.1 (Or.inl (Nat.le_refl _)))
theorem i_row (hi : Inv w) (t : Int32) : Inv (S_row w t).2 := by
  have hI := hi.1.1
  have h100 := hI.le
  unfold S_row
  by_cases c1 : ¬ isT w t
  · rw [cIf_t c1]; exact hi.st _
  · rw [cIf_f c1]
    cases rfN w t with
    | some i => exact hi.st _
    | none =>
      show Inv (cIf (nT w = 100) (-2, stt w (-2)) (nI (nT w), stt (sI (sMk w 4) 40 2 (nT w) t) 0)).2
      by_cases c2 : nT w = 100
      · rw [cIf_t c2]; exact hi.st _
      · rw [cIf_f c2]
        obtain ⟨j, rfl, hj⟩ := Classical.not_not.mp c1
        have hlt : nT w < 100 := by omega
        have hN := (nw_mk hlt 4).set (r := 2) (by omega) (nI j)
        refine Inv.st (hN.inv hi ?_ ?_) _
        · have q0 : ma (sI (sMk w 4) 40 2 (nT w) (nI j)) 0 (nT w) = 4 := mk_0 w 4
          have q2 : ma (sI (sMk w 4) 40 2 (nT w) (nI j)) 2 (nT w) = nI j := gI_at _ _ _ _ _
          have eo : ofN (sI (sMk w 4) 40 2 (nT w) (nI j)) (nT w) = j := by show tn (ma _ 2 (nT w)) = j; rw [q2]; exact tn_nI (by omega)
          exact Or.inr (Or.inr (Or.inr ⟨q0, by rw [eo]; exact q2, by omega⟩))
        · exact Or.inl ((hI.flg (i := nT w) (by omega)).2.2.1 (Or.inl (Nat.le_refl _)))
theorem i_under (hi : Inv w) (t f : Int32) : Inv (S_under w t f).2 := by
  have hI := hi.1.1
  have h100 := hI.le
  unfold S_under
  by_cases c1 : t = 8 ∨ (¬ isC w t ∧ ¬ isF w t) ∨ ¬ isF w f
  · rw [cIf_t c1]; exact hi.st _
  · rw [cIf_f c1]
    by_cases c2 : nF w (tn t) = 4
    · rw [cIf_t c2]; exact hi.st _
    · rw [cIf_f c2]
      by_cases c3 : ma w 4 (tn t) ≠ 0 ∨ tld w (tn t) (tn f) ∨ (ma w 0 (tn t) = 2 ∧ (tn t = tn f ∨ FOf w (tn f) (tn t)))
      · rw [cIf_t c3]; exact hi.st _
      · rw [cIf_f c3]
        have n1 : ¬ t = 8 := fun z => c1 (Or.inl z)
        obtain ⟨F, rfl, hF, hFs⟩ := Classical.not_not.mp (fun z => c1 (Or.inr (Or.inr z)))
        have hT : ∃ T, t = nI T ∧ T < nT w ∧ 9 ≤ T ∧ (ma w 0 T = 1 ∨ ma w 0 T = 2) := by
          by_cases q : isC w t
          · obtain ⟨T, rfl, h1, h2⟩ := q
            have c8 := hI.c8 h1 h2
            have n8 : T ≠ 8 := fun z => n1 (by rw [z]; rfl)
            exact ⟨T, rfl, h1, by omega, Or.inl h2⟩
          · obtain ⟨T, rfl, h1, h2⟩ := Classical.not_not.mp (fun z => c1 (Or.inr (Or.inl ⟨q, z⟩)))
            refine ⟨T, rfl, h1, ?_, Or.inr h2⟩
            refine Classical.byContradiction fun z => ?_
            rcases Nat.lt_or_ge T 8 with y | y
            · rw [hI.lane y] at h2; exact absurd h2 (by decide)
            · rw [show T = 8 by omega, hI.any] at h2; exact absurd h2 (by decide)
        obtain ⟨T, rfl, hT1, hT9, hTk⟩ := hT
        rw [tn_nI (by omega), tn_nI (by omega)] at c3
        rw [tn_nI (by omega)] at c2
        have := (hI.fac (i := T) (by omega)).2.1
        refine Inv.st ?_ _
        rw [tn_nI (by omega), tn_nI (by omega)]
        exact un_inv hi hT1 hT9 hTk hF hFs (by omega) (fun z => c3 (Or.inr (Or.inl z))) (fun z => c3 (Or.inr (Or.inr z)))
theorem i_field (hi : Inv w) (c n t : Int32) {s : Int32} (hs : s = 0 ∨ s = 1) : Inv (S_field w c n t s).2 := by
  have hI := hi.1.1
  have h100 := hI.le
  unfold S_field
  by_cases c1 : c = 8 ∨ ¬ isC w c ∨ ¬ isN n ∨ ¬ isT w t
  · rw [cIf_t c1]; exact hi.st _
  · rw [cIf_f c1]
    by_cases c2 : nM w (tn c) = 10
    · rw [cIf_t c2]; exact hi.st _
    · rw [cIf_f c2]
      by_cases c3 : ma w 4 (tn c) ≠ 0 ∨ ¬ mby w (tn c) n 1 = -1 ∨ (ma w 0 (sqN w (tn t)) = 3 ∧ ¬ ma w 1 (sqN w (tn t)) = c)
      · rw [cIf_t c3]; exact hi.st _
      · rw [cIf_f c3]
        have n1 : ¬ c = 8 := fun z => c1 (Or.inl z)
        obtain ⟨C, rfl, hC, hCs⟩ := Classical.not_not.mp (fun z => c1 (Or.inr (Or.inl z)))
        obtain ⟨N, rfl, hN⟩ := Classical.not_not.mp (fun z => c1 (Or.inr (Or.inr (Or.inl z))))
        obtain ⟨T, rfl, hT⟩ := Classical.not_not.mp (fun z => c1 (Or.inr (Or.inr (Or.inr z))))
        rw [tn_nI (by omega)] at c2
        have c4 : ma w 4 C = 0 := Classical.not_not.mp (fun z => c3 (Or.inl (by rw [tn_nI (by omega)]; exact z)))
        have c8 := hI.c8 hC hCs
        have n8 : C ≠ 8 := fun z => n1 (by rw [z]; rfl)
        have h10 := (hI.mbs (i := C) (by omega)).2.1
        refine Inv.st ?_ _
        rw [tn_nI (by omega)]
        obtain ⟨hw, e8, e9, e10, e11, e14⟩ := fld_nw (m := w) (C := C) (n := nI N) (t := nI T) (s := s) (by omega)
        have ety : tyN (sFld w C (nI N) (nI T) s) (10 * C + nM w C) = T := by show tn (ma _ 10 _) = T; rw [e10]; exact tn_nI (by omega)
        have enm : nmN (sFld w C (nI N) (nI T) s) (10 * C + nM w C) = N := by show tn (ma _ 9 _) = N; rw [e9]; exact tn_nI (by omega)
        refine hw.inv hi hC (by omega) (Or.inl hCs) c4 ⟨by rw [enm]; exact e9, by omega, by rw [e11]; exact hs, Or.inl ⟨e8, by rw [hw.te.2.1]; exact hCs, by rw [ety]; exact e10, by rw [ety, hw.te.eT]; exact hT⟩⟩ (fun _ z => ?_)
        rw [e14]
        rw [ety] at z
        exact cIf_t ⟨T, rfl, z⟩
theorem i_method (hi : Inv w) (t n b a : Int32) : Inv (S_method w t n b a).2 := by
  have hI := hi.1.1
  have h100 := hI.le
  unfold S_method
  by_cases c1 : badM w t n b a
  · rw [cIf_t c1]; exact hi.st _
  · rw [cIf_f c1]
    by_cases c2 : nM w (tn t) = 10
    · rw [cIf_t c2]; exact hi.st _
    · rw [cIf_f c2]
      by_cases c3 : noM w (tn t) n b a
      · rw [cIf_t c3]; exact hi.st _
      · rw [cIf_f c3]
        have n1 : ¬ t = 8 := fun z => c1 (Or.inl z)
        obtain ⟨N, rfl, hN⟩ := Classical.not_not.mp (fun z => c1 (Or.inr (Or.inr (Or.inl z))))
        have hb : 0 ≤ b.toInt ∧ b.toInt ≤ 5 := Classical.not_not.mp (fun z => c1 (Or.inr (Or.inr (Or.inr (Or.inl z)))))
        obtain ⟨B, rfl, hB⟩ : ∃ B, b = nI B ∧ B ≤ 5 := ⟨b.toInt.toNat, by rw [i32_eq, nI_t (by omega)]; omega, by omega⟩
        have hT : ∃ T, t = nI T ∧ T < nT w ∧ 9 ≤ T ∧ (ma w 0 T = 1 ∨ ma w 0 T = 2) := by
          by_cases q : isC w t
          · obtain ⟨T, rfl, h1, h2⟩ := q
            have c8 := hI.c8 h1 h2
            have n8 : T ≠ 8 := fun z => n1 (by rw [z]; rfl)
            exact ⟨T, rfl, h1, by omega, Or.inl h2⟩
          · obtain ⟨T, rfl, h1, h2⟩ := Classical.not_not.mp (fun z => c1 (Or.inr (Or.inl ⟨q, z⟩)))
            refine ⟨T, rfl, h1, ?_, Or.inr h2⟩
            refine Classical.byContradiction fun z => ?_
            rcases Nat.lt_or_ge T 8 with y | y
            · rw [hI.lane y] at h2; exact absurd h2 (by decide)
            · rw [show T = 8 by omega, hI.any] at h2; exact absurd h2 (by decide)
        obtain ⟨T, rfl, hT1, hT9, hTk⟩ := hT
        rw [tn_nI (by omega)] at c2 c3
        unfold noM at c3
        have c4 : ma w 4 T = 0 := Classical.not_not.mp (fun z => c3 (Or.inl (Or.inl z)))
        have h10 := (hI.mbs (i := T) (by omega)).2.1
        refine Inv.st ?_ _
        rw [tn_nI (by omega)]
        obtain ⟨hw, e8, e9, e12, e13⟩ := met_nw (m := w) (T := T) (n := nI N) (b := nI B) (a := a) (by omega)
        have enm : nmN (sMet w T (nI N) (nI B) a) (10 * T + nM w T) = N := by show tn (ma _ 9 _) = N; rw [e9]; exact tn_nI (by omega)
        have ebd : bdN (sMet w T (nI N) (nI B) a) (10 * T + nM w T) = B := by show tn (ma _ 12 _) = B; rw [e12]; exact tn_nI (by omega)
        have enu : nuN (sMet w T (nI N) (nI B) a) (10 * T + nM w T) = tn a := by show tn (ma _ 13 _) = tn a; rw [e13]
        have e11 : ma (sMet w T (nI N) (nI B) a) 11 (10 * T + nM w T) = ma w 11 (10 * T + nM w T) := by
          show gI (sI (sI (sAdd w T (nI N) 0) 40 12 (10 * T + nM w T) (nI B)) 40 13 (10 * T + nM w T) a) 40 11 (10 * T + nM w T) = _
          rw [gI_ne (by omega), gI_ne (by omega)]
          exact congrFun ((add_rows (m := w) (C := T) (n := nI N) (fl := 0)).1 11 (by omega) (by omega) (by omega)) _
        have hcls : B = 1 ∨ B = 2 → ma w 0 T = 1 := fun z => by
          rcases hTk with q | q
          · exact q
          · exact absurd (Or.inl (Or.inr (Or.inr ⟨q, z.imp (fun z => by rw [z]; rfl) (fun z => by rw [z]; rfl)⟩))) c3
        refine hw.inv hi hT1 hT9 hTk c4 ⟨by rw [enm]; exact e9, by omega, ?_, Or.inr ⟨e8, by rw [ebd]; exact e12, by omega, fun z => ?_, fun z => ?_, fun z => ?_⟩⟩ (fun z => absurd e8 z)
        · rw [e11]; exact hi.1.2.2.2.2.2.2.2.2 _
        · rw [ebd] at z
          have ha : isN a := Classical.not_not.mp (fun y => c1 (Or.inr (Or.inr (Or.inr (Or.inr ⟨z.imp (fun z => by rw [z]; rfl) (fun z => by rw [z]; rfl), y⟩)))))
          obtain ⟨k, rfl, hk⟩ := ha
          rw [enu, tn_nI (by omega), e13]
          exact ⟨rfl, hk⟩
        · rw [ebd] at z
          have hk := Classical.not_not.mp (fun y => c3 (Or.inr (Or.inr ⟨by rw [z]; rfl, y⟩)))
          obtain ⟨k, rfl, hk1, hk2⟩ := hk
          have hcl := hcls (Or.inl z)
          rw [enu, tn_nI (by omega), e13, hw.te.2.1, hw.at (by omega) (by omega) (by omega) (Or.inr hk1)]
          refine ⟨hcl, rfl, hk1, ?_⟩
          rcases ((hI.mbs (i := T) (by omega)).2.2.2 k hk1).2.2.2 with q | q
          · exact q.1
          · exact absurd q.1 hk2
        · rw [ebd] at z
          rw [hw.te.2.1]; exact hcls (Or.inr z)
end
