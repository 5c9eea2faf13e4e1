/-! ===== what stays true: handles, readings, columns, queries ===== -/
section
variable {w : qSt}
theorem i_handle (hi : Inv w) (c n : Int32) {me : Int32} (hme : me = 0 ∨ me = 1) : Inv (S_handle w c n me).2 := by
  obtain ⟨⟨hI, hX, hH, hAc, hD, vs, vr, vf, b11⟩, hCo, hQ, hT, hHt⟩ := id hi
  have h100 := hI.le
  have h40 := hH.2.1
  unfold S_handle
  by_cases c1 : ¬ isC w c ∨ ¬ isN n
  · rw [cIf_t c1]; exact hi.st _
  · rw [cIf_f c1]
    by_cases c2 : nH w = 40
    · rw [cIf_t c2]; exact hi.st _
    · rw [cIf_f c2]
      obtain ⟨C, rfl, hCl, hs⟩ := Classical.not_not.mp (fun z => c1 (Or.inl z))
      obtain ⟨N, rfl, hN⟩ := Classical.not_not.mp (fun z => c1 (Or.inr z))
      rw [tn_nI (by omega)]
      have hlt : nH w < 40 := by omega
      have hd : ∀ a : Nat, a < 1000 → 9 ≤ C → ((me = 0 ∧ FdOK w a ∧ a / 10 ∈ abvs w C) ∨ (me = 1 ∧ a < 10)) → Inv (stt (sHdl w (nI C) me (nI a)) 0) := by
        intro a ha h9 hcase
        refine Inv.st ?_ _
        have te : TE w (sHdl w (nI C) me (nI a)) := by
          refine ⟨gI_ne (by omega), fun r hr _ => ?_⟩
          funext i
          show gI (sI (sI (sI w 40 24 (nH w) (nI C)) 40 25 (nH w) me) 40 26 (nH w) (nI a)) 40 r i = _
          rw [gI_ne (by omega), gI_ne (by omega), gI_ne (by omega)]
        have rows : ∀ r, r < 24 ∨ 26 < r → ma (sHdl w (nI C) me (nI a)) r = ma w r := by
          intro r hr
          funext i
          show gI (sI (sI (sI w 40 24 (nH w) (nI C)) 40 25 (nH w) me) 40 26 (nH w) (nI a)) 40 r i = _
          rw [gI_ne (by omega), gI_ne (by omega), gI_ne (by omega)]
        have k29 : mi (sHdl w (nI C) me (nI a)) 29 = nI (nH w + 1) := gI_at _ _ _ _ _
        have rk : ∀ k, k ≠ 29 → mi (sHdl w (nI C) me (nI a)) k = mi w k := fun k hk => gI_ne (by omega)
        have r24 : ∀ x, ma (sHdl w (nI C) me (nI a)) 24 x = if x = nH w then nI C else ma w 24 x := by
          intro x
          show gI (sI (sI (sI w 40 24 (nH w) (nI C)) 40 25 (nH w) me) 40 26 (nH w) (nI a)) 40 24 x = _
          rw [gI_ne (by omega), gI_ne (by omega)]
          by_cases e : x = nH w
          · rw [if_pos e, e]; exact gI_at _ _ _ _ _
          · rw [if_neg e]; exact gI_ne (by omega)
        have r25 : ∀ x, ma (sHdl w (nI C) me (nI a)) 25 x = if x = nH w then me else ma w 25 x := by
          intro x
          show gI (sI (sI (sI w 40 24 (nH w) (nI C)) 40 25 (nH w) me) 40 26 (nH w) (nI a)) 40 25 x = _
          rw [gI_ne (by omega)]
          by_cases e : x = nH w
          · rw [if_pos e, e]; exact gI_at _ _ _ _ _
          · rw [if_neg e, gI_ne (by omega)]; exact gI_ne (by omega)
        have r26 : ∀ x, ma (sHdl w (nI C) me (nI a)) 26 x = if x = nH w then nI a else ma w 26 x := by
          intro x
          show gI (sI (sI (sI w 40 24 (nH w) (nI C)) 40 25 (nH w) me) 40 26 (nH w) (nI a)) 40 26 x = _
          by_cases e : x = nH w
          · rw [if_pos e, e]; exact gI_at _ _ _ _ _
          · rw [if_neg e, gI_ne (by omega), gI_ne (by omega)]; exact gI_ne (by omega)
        have rj : ∀ r, ml (sHdl w (nI C) me (nI a)) r = ml w r := fun _ => rfl
        generalize sHdl w (nI C) me (nI a) = m' at te rows k29 rk r24 r25 r26 rj ⊢
        have en : nH m' = nH w + 1 := by unfold nH; rw [k29]; exact tn_nI (by omega)
        have enX : nX m' = nX w := by unfold nX; rw [rk 22 (by omega)]
        refine ⟨⟨hI.cg te (rows 4 (by omega)), hX.cg te (rows 4 (by omega)) (rk 22 (by omega)) (rows 19 (by omega)) (rows 20 (by omega)) (rows 21 (by omega)) (rows 22 (by omega)), ⟨by rw [en]; exact k29, by omega, fun x hx => ?_⟩, hAc.cg te, hD.cg te, vs.cg te (rj 14), ?_, vf.cg te (rk 22 (by omega)) (rows 19 (by omega)) (rows 20 (by omega)) (rows 22 (by omega)) (rj 23), b11.cg te⟩, hCo.cg (rows 28 (by omega)) (rows 29 (by omega)) (rows 30 (by omega)) (rj 31), hQ.cg (rk 43 (by omega)) (by omega) (rows 32 (by omega)) (rows 33 (by omega)) (rows 34 (by omega)) (rows 36 (by omega)), hT.cg (rk 36 (by omega)), hHt.cg (rk 49 (by omega)) (rows 37 (by omega)) (by omega)⟩
        · by_cases e : x = nH w
          · subst e
            have eC : hC m' (nH w) = C := by show tn (ma m' 24 _) = C; rw [r24, if_pos rfl]; exact tn_nI (by omega)
            have eA : hA m' (nH w) = a := by show tn (ma m' 26 _) = a; rw [r26, if_pos rfl]; exact tn_nI (by omega)
            unfold HdOK
            rw [eC, eA, r24, if_pos rfl, r25, if_pos rfl, r26, if_pos rfl, te.eT, te.2 0 (by omega) (by omega), te.eFd, te.eab]
            exact ⟨rfl, hCl, h9, hs, rfl, hcase⟩
          · have hx2 : x < nH w := by omega
            have eC : hC m' x = hC w x := by show tn (ma m' 24 _) = tn (ma w 24 _); rw [r24, if_neg e]
            have eA : hA m' x = hA w x := by show tn (ma m' 26 _) = tn (ma w 26 _); rw [r26, if_neg e]
            have := hH.2.2 x hx2
            unfold HdOK at this ⊢
            rw [eC, eA, r24, if_neg e, r25, if_neg e, r26, if_neg e, te.eT, te.2 0 (by omega) (by omega), te.eFd, te.eab]
            exact this
        · have eb : bX m' = bX w := by funext a; show tn (ma m' 19 a) = tn (ma w 19 a); rw [rows 19 (by omega)]
          have ed : dX m' = dX w := by funext a; show tn (ma m' 20 a) = tn (ma w 20 a); rw [rows 20 (by omega)]
          have es : sX m' = sX w := by funext a; show tn (ma m' 21 a) = tn (ma w 21 a); rw [rows 21 (by omega)]
          have ep : pX m' = pX w := by funext a; show tn (ma m' 22 a) = tn (ma w 22 a); rw [rows 22 (by omega)]
          unfold VR
          rw [enX, es, ed, eb, ep, rj 23]; exact vr
      have c8 := hI.c8 hCl hs
      by_cases c3 : me = 0
      · rw [cIf_t c3]
        cases es : seeN w C (nI N) with
        | none => exact hi.st _
        | some a =>
          obtain ⟨d, j, rfl, g1, g2, g3, g4, g5, g6, g7⟩ := see_lt hI hCl hs es
          have hdC := (abvs_in hI _ hCl hs d g1).2.1
          exact hd (10 * d + j) (by omega) (by omega) (Or.inl ⟨c3, ⟨d, j, rfl, g2, g3, g4, g5, g6, g7⟩, by rw [show (10 * d + j) / 10 = d by omega]; exact g1⟩)
      · rw [cIf_f c3]
        by_cases c4 : hasM w C (nI N)
        · rw [cIf_t c4]
          have h9 : 9 ≤ C := by
            refine Classical.byContradiction fun z => ?_
            have e8 : C = 8 := by omega
            subst e8
            have m8 : nM w 8 = 0 := by
              have := (hI.mbs (i := 8) (by omega)).2.2.1; omega
            have f8 : nF w 8 = 0 := by
              have := (hI.fac (i := 8) (by omega)).2.2.1; omega
            rcases c4 with ⟨d, hd1, hd2⟩ | ⟨f, hf, -⟩
            · rw [abvs_8, List.mem_singleton] at hd1
              rw [hd1] at hd2
              exact hd2 (mby_0 m8)
            · rcases hf with ⟨z1, -⟩ | ⟨-, c, hc1, hc2⟩
              · rw [hs] at z1; exact absurd z1 (by decide)
              · rw [abvs_8, List.mem_singleton] at hc1
                rw [hc1] at hc2
                exact FO1_0 f8 hc2
          exact hd N (by omega) h9 (Or.inr ⟨hme.resolve_left c3, hN⟩)
        · rw [cIf_f c4]; exact hi.st _
theorem tr_inv (hi : Inv w) (l : List Int32) : Inv (sTr (sI w 12 36 0 0) l) := by
  obtain ⟨hr, hCo, hQ, hT, hHt⟩ := hi
  obtain ⟨s1, s2, s3⟩ := sTr_28 l (sI w 12 36 0 0)
  have e2 : ∀ k, k ≠ 36 → mi (sTr (sI w 12 36 0 0) l) k = mi w k := fun k hk => (s2 k hk).trans (gI_ne (by omega))
  have e1 : ∀ r, r ≠ 27 → ma (sTr (sI w 12 36 0 0) l) r = ma w r := fun r hr => s1 r hr
  have e3 : ∀ r, ml (sTr (sI w 12 36 0 0) l) r = ml w r := fun r => by
    have : (sTr (sI w 12 36 0 0) l).2.1 = w.2.1 := by rw [s3]; rfl
    exact congrFun (congrFun this 40) r
  refine ⟨((RE.rf.I (r := 12) (k := 36) rfl).tr (RE.sTr l _)).rinv hr, hCo.cg (e1 28 (by omega)) (e1 29 (by omega)) (e1 30 (by omega)) (e3 31), hQ.cg (e2 43 (by omega)) (by unfold nH; rw [e2 29 (by omega)]; exact Nat.le_refl _) (e1 32 (by omega)) (e1 33 (by omega)) (e1 34 (by omega)) (e1 36 (by omega)), TrOK.str l tr0, hHt.cg (e2 49 (by omega)) (e1 37 (by omega)) (by unfold nX; rw [e2 22 (by omega)]; exact Nat.le_refl _)⟩
theorem i_get (hi : Inv w) (h x : Int32) : Inv (S_get w h x).2 := by
  unfold S_get
  by_cases c1 : ¬ isH w h ∨ noX w x
  · rw [cIf_t c1]; exact hi.st _
  · rw [cIf_f c1]
    by_cases c2 : (rdR w (tn h) x).1 < 0
    · rw [cIf_t c2]; exact (tr_inv hi _).st _
    · rw [cIf_f c2]
      refine Inv.st ?_ _
      obtain ⟨hr, hCo, hQ, hT, hHt⟩ := tr_inv hi (rdR w (tn h) x).2.2.2
      exact ⟨(RE.rf.I (r := 12) (k := 35) rfl).rinv hr, hCo, hQ, hT, hHt⟩
theorem i_getAs (hi : Inv w) (h x l : Int32) : Inv (S_getAs w h x l).2 := by
  unfold S_getAs
  by_cases c1 : ¬ isH w h ∨ noX w x ∨ ¬ isL l
  · rw [cIf_t c1]; exact hi.st _
  · rw [cIf_f c1]
    by_cases c2 : asN (rdR w (tn h) x) l < 0
    · rw [cIf_t c2]; exact (tr_inv hi _).st _
    · rw [cIf_f c2]; exact (tr_inv hi _).st _
theorem i_total (hi : Inv w) (h : Int32) : Inv (S_total w h).2 := by
  unfold S_total
  by_cases c1 : ¬ isH w h
  · rw [cIf_t c1]; exact hi.st _
  · rw [cIf_f c1]
    by_cases c2 : (ttF w (tn h) (nHt w) 0 0).1 < 0
    · rw [cIf_t c2]; exact (tr_inv hi _).st _
    · rw [cIf_f c2]; exact (tr_inv hi _).st _
theorem i_column (hi : Inv w) (k l n : Int32) : Inv (S_column w k l n).2 := by
  unfold S_column
  by_cases c1 : ¬ isK k ∨ ¬ isL l ∨ 60 < n
  · rw [cIf_t c1]; exact hi.st _
  · rw [cIf_f c1]
    by_cases c2 : n < 0
    · rw [cIf_t c2]; exact hi.st _
    · rw [cIf_f c2]
      obtain ⟨K, rfl, hK⟩ := Classical.not_not.mp (fun z => c1 (Or.inl z))
      obtain ⟨L, rfl, hL⟩ := Classical.not_not.mp (fun z => c1 (Or.inr (Or.inl z)))
      have c4 : ¬ 60 < n := fun z => c1 (Or.inr (Or.inr z))
      obtain ⟨N, rfl, hN⟩ : ∃ N, n = nI N ∧ N ≤ 60 := by
        rw [i32_lt, c60i] at c4
        rw [i32_lt, c0i] at c2
        refine ⟨n.toInt.toNat, ?_, by omega⟩
        rw [i32_eq, nI_t (by omega)]; omega
      refine Inv.st ?_ _
      obtain ⟨hr, hCo, hQ, hT, hHt⟩ := hi
      rw [tn_nI (by omega)]
      have hre : RE w (sCol w K (nI L) (nI N)) := (((RE.rf.I (r := 40) (k := 28) rfl).I (r := 40) (k := 29) rfl).I (r := 40) (k := 30) rfl).rJ (r := 31) rfl
      refine ⟨hre.rinv hr, fun x hx => ?_, hQ, hT, hHt⟩
      have r28 : ma (sCol w K (nI L) (nI N)) 28 x = if x = K then 1 else ma w 28 x := by
        show gI (sI (sI (sI w 40 28 K 1) 40 29 K (nI L)) 40 30 K (nI N)) 40 28 x = _
        rw [gI_ne (by omega), gI_ne (by omega)]
        by_cases e : x = K
        · rw [if_pos e, e]; exact gI_at _ _ _ _ _
        · rw [if_neg e]; exact gI_ne (by omega)
      have r29 : ma (sCol w K (nI L) (nI N)) 29 x = if x = K then nI L else ma w 29 x := by
        show gI (sI (sI (sI w 40 28 K 1) 40 29 K (nI L)) 40 30 K (nI N)) 40 29 x = _
        rw [gI_ne (by omega)]
        by_cases e : x = K
        · rw [if_pos e, e]; exact gI_at _ _ _ _ _
        · rw [if_neg e, gI_ne (by omega)]; exact gI_ne (by omega)
      have r30 : ma (sCol w K (nI L) (nI N)) 30 x = if x = K then nI N else ma w 30 x := by
        show gI (sI (sI (sI w 40 28 K 1) 40 29 K (nI L)) 40 30 K (nI N)) 40 30 x = _
        by_cases e : x = K
        · rw [if_pos e, e]; exact gI_at _ _ _ _ _
        · rw [if_neg e, gI_ne (by omega), gI_ne (by omega)]; exact gI_ne (by omega)
      have j31 : ∀ p, ml (sCol w K (nI L) (nI N)) 31 p = if 60 * K ≤ p ∧ p < 60 * K + N then 0 else ml w 31 p := by
        intro p
        show putL (ml w 31) (60 * K) (List.replicate (tn (nI N)) 0) p = _
        unfold putL
        rw [List.length_replicate, tn_nI (by omega)]
        by_cases e : 60 * K ≤ p ∧ p < 60 * K + N
        · rw [if_pos e, if_pos e]; exact getD_rep (by omega)
        · rw [if_neg e, if_neg e]
      by_cases e : x = K
      · subst e
        have eL : cL (sCol w x (nI L) (nI N)) x = L := by show tn (ma _ 29 x) = L; rw [r29, if_pos rfl]; exact tn_nI (by omega)
        have eN : cN (sCol w x (nI L) (nI N)) x = N := by show tn (ma _ 30 x) = N; rw [r30, if_pos rfl]; exact tn_nI (by omega)
        refine ⟨by rw [r28, if_pos rfl]; exact Or.inr rfl, fun _ => ?_⟩
        unfold ColOK
        rw [eL, eN, r29, if_pos rfl, r30, if_pos rfl]
        refine ⟨rfl, hL, rfl, hN, fun i hi => ?_⟩
        rw [j31, if_pos (by omega)]; exact kp_0 _
      · have eL : cL (sCol w K (nI L) (nI N)) x = cL w x := by show tn (ma _ 29 x) = tn (ma w 29 x); rw [r29, if_neg e]
        have eN : cN (sCol w K (nI L) (nI N)) x = cN w x := by show tn (ma _ 30 x) = tn (ma w 30 x); rw [r30, if_neg e]
        obtain ⟨a1, a2⟩ := hCo x hx
        rw [r28, if_neg e]
        refine ⟨a1, fun z => ?_⟩
        obtain ⟨b1, b2, b3, b4, b5⟩ := a2 z
        unfold ColOK
        rw [eL, eN, r29, if_neg e, r30, if_neg e]
        refine ⟨b1, b2, b3, b4, fun i hi => ?_⟩
        rw [j31, if_neg (by omega)]; exact b5 i hi
theorem fl_kp (hi : Inv w) {K h : Nat} (hh : h < nH w) (hL : cL w K < 8) : ∀ (n x f : Nat), x + n = nX w → ∀ v ∈ (flR w K h n x f).2.1, kp (cL w K) v = v := by
  have hX := hi.1.2.1
  have h60 := hX.2.1
  have hV := hi.1.vrd
  intro n
  induction n with
  | zero => intro x f _ v hv; exact absurd hv List.not_mem_nil
  | succ n ih =>
    intro x f hn v hv
    unfold flR at hv
    by_cases c1 : soP w (bX w x) (dX w x) (hC w h) 0
    · rw [cIf_t c1] at hv
      by_cases c2 : fno w K f (rdR w h (nI x)) < 0
      · rw [cIf_t c2] at hv; exact absurd hv List.not_mem_nil
      · rw [cIf_f c2] at hv
        rcases List.mem_cons.mp hv with e | hv
        · rw [e]
          have hnx : ¬ noX w (nI x) := fun z => z.2 ⟨x, rfl, by omega⟩
          unfold fno at c2
          rcases rd_le w h (nI x) with q | q
          · rw [cIf_t q] at c2; exact absurd q c2
          · rw [cIf_f (by rw [q]; decide)] at c2
            unfold cmN at c2
            by_cases c3 : (rdR w h (nI x)).2.1 = 8
            · rw [cIf_t c3] at c2; exact absurd (by decide) c2
            · rw [cIf_f c3] at c2
              by_cases c4 : f = cN w K
              · rw [cIf_t c4] at c2; exact absurd (by decide) c2
              · rw [cIf_f c4] at c2
                by_cases c5 : wdP (tn (rdR w h (nI x)).2.1) (cL w K)
                · obtain ⟨l, el, hl⟩ := rd_lane w h (nI x)
                  have hl8 : l < 8 := by
                    refine Classical.byContradiction fun z => c3 ?_
                    rw [el, show l = 8 by omega]; rfl
                  have := hV h (nI x) hh hnx q l hl8 el
                  rw [el, tn_nI (by omega)] at c5 ⊢
                  exact kp_wd hL c5 this
                · rw [cIf_f c5] at c2; exact absurd (by decide) c2
        · exact ih (x + 1) (f + 1) (by omega) v hv
    · rw [cIf_f c1] at hv
      exact ih (x + 1) f (by omega) v hv
theorem st_inv (hi : Inv w) {K : Nat} (hK : K < 6) (h0 : ¬ ma w 28 K = 0) (tr : List Int32) {vs : List Int64} (hl : vs.length ≤ cN w K) (hv : ∀ v ∈ vs, kp (cL w K) v = v) : Inv (stF (sI w 12 36 0 0) K tr vs) := by
  obtain ⟨hr, hCo, hQ, hT, hHt⟩ := tr_inv hi tr
  have hC0 := hi.2.1
  unfold stF
  generalize hu : sTr (sI w 12 36 0 0) tr = u at hr hCo hQ hT hHt
  obtain ⟨s1, s2, s3⟩ := sTr_28 tr (sI w 12 36 0 0)
  rw [hu] at s1 s3
  have r28 : ma u 28 = ma w 28 := s1 28 (by omega)
  have eL : cL u = cL w := by funext k; show tn (ma u 29 k) = tn (ma w 29 k); rw [s1 29 (by omega)]; rfl
  have eN : cN u = cN w := by funext k; show tn (ma u 30 k) = tn (ma w 30 k); rw [s1 30 (by omega)]; rfl
  have e31 : ml u 31 = ml w 31 := by
    have : u.2.1 = w.2.1 := by rw [s3]; rfl
    exact congrFun (congrFun this 40) 31
  refine ⟨((RE.rf.rJ (r := 31) rfl).I (r := 12) (k := 42) rfl).rinv hr, fun x hx => ?_, hQ, hT, hHt⟩
  obtain ⟨a1, a2⟩ := hCo x hx
  refine ⟨a1, fun z => ?_⟩
  obtain ⟨b1, b2, b3, b4, b5⟩ := a2 z
  refine ⟨b1, b2, b3, b4, fun i hi2 => ?_⟩
  have hi2 : i < cN u x := hi2
  show kp (cL u x) (putL (ml w 31) (60 * K) vs (60 * x + i)) = putL (ml w 31) (60 * K) vs (60 * x + i)
  have hb60 : cN w K ≤ 60 := ((hC0 K hK).2 h0).2.2.2.1
  unfold putL
  by_cases e : 60 * K ≤ 60 * x + i ∧ 60 * x + i < 60 * K + vs.length
  · have ex : x = K := by omega
    subst ex
    rw [if_pos e, eL]
    refine hv _ ?_
    have hlt : 60 * x + i - 60 * x < vs.length := by omega
    simp only [List.getD]
    rw [List.getElem?_eq_getElem hlt]
    exact List.getElem_mem hlt
  · rw [if_neg e]
    have := b5 i hi2
    rw [e31] at this
    exact this
theorem i_fill (hi : Inv w) (k h : Int32) : Inv (S_fill w k h).2 := by
  have hH := hi.1.2.2.1
  have h40 := hH.2.1
  unfold S_fill
  by_cases c1 : ¬ isK k ∨ ¬ isH w h
  · rw [cIf_t c1]; exact hi.st _
  · rw [cIf_f c1]
    by_cases c2 : ma w 28 (tn k) = 0
    · rw [cIf_t c2]; exact hi.st _
    · rw [cIf_f c2]
      obtain ⟨K, rfl, hK⟩ := Classical.not_not.mp (fun z => c1 (Or.inl z))
      obtain ⟨a, rfl, ha⟩ := Classical.not_not.mp (fun z => c1 (Or.inr z))
      rw [tn_nI (by omega)] at c2
      rw [tn_nI (by omega), tn_nI (by omega)]
      have hco := (hi.2.1 K hK).2 c2
      have hst := st_inv hi hK c2 (flR w K a (nX w) 0 0).2.2 (vs := (flR w K a (nX w) 0 0).2.1) (by
        have := fl_vals (w := w) (K := K) (h := a) hco.2.2.2.1 (nX w) 0 0 (Nat.zero_le _); omega) (fl_kp hi ha hco.2.1 (nX w) 0 0 (Nat.zero_add _))
      by_cases c3 : (flR w K a (nX w) 0 0).1 < 0
      · rw [cIf_t c3]; exact hst.st _
      · rw [cIf_f c3]; exact hst.st _
theorem i_query (hi : Inv w) : Inv (S_query w).2 := by
  unfold S_query
  by_cases c1 : nQ w = 20
  · rw [cIf_t c1]; exact hi.st _
  · rw [cIf_f c1]
    refine Inv.st ?_ _
    obtain ⟨hr, hCo, hQ, hT, hHt⟩ := hi
    refine ⟨(RE.rf.I (r := 12) (k := 43) rfl).rinv hr, hCo, ?_, hT, hHt⟩
    have h20 := hQ.2.1
    have k43 : mi (sI w 12 43 0 (nI (nQ w + 1))) 43 = nI (nQ w + 1) := gI_at _ _ _ _ _
    have en : nQ (sI w 12 43 0 (nI (nQ w + 1))) = nQ w + 1 := by show tn (mi _ 43) = _; rw [k43]; exact tn_nI (by omega)
    refine ⟨by rw [en]; exact k43, by omega, fun q hq => ?_⟩
    obtain ⟨a1, a2, a3, a4⟩ := hQ.2.2 q hq
    exact ⟨a1, a2, fun z => a3 (by omega), a4⟩
theorem i_test (hi : Inv w) (q h op : Int32) (v : Int64) {or : Int32} (hor : or = 0 ∨ or = 1) : Inv (S_test w q h op v or).2 := by
  have hH := hi.1.2.2.1
  have h40 := hH.2.1
  have hQ0 := hi.2.2.1
  have h20 := hQ0.2.1
  unfold S_test
  by_cases c1 : ¬ isQ w q ∨ ¬ isH w h ∨ ¬ (∃ k, op = nI k ∧ k < 6)
  · rw [cIf_t c1]; exact hi.st _
  · rw [cIf_f c1]
    by_cases c2 : tQ w (tn q) = 8
    · rw [cIf_t c2]; exact hi.st _
    · rw [cIf_f c2]
      obtain ⟨p, rfl, hp⟩ := Classical.not_not.mp (fun z => c1 (Or.inl z))
      obtain ⟨a, rfl, ha⟩ := Classical.not_not.mp (fun z => c1 (Or.inr (Or.inl z)))
      obtain ⟨o, rfl, ho⟩ := Classical.not_not.mp (fun z => c1 (Or.inr (Or.inr z)))
      rw [tn_nI (by omega)] at c2
      refine Inv.st ?_ _
      rw [tn_nI (by omega)]
      obtain ⟨hr, hCo, hQ, hT, hHt⟩ := hi
      have ht8 := (hQ.2.2 p (by omega)).2.1
      have hre : RE w (sTs w p (nI a) (nI o) v or) := ((((RE.rf.I (r := 40) (k := 33) rfl).I (r := 40) (k := 34) rfl).J (r := 40) (k := 35) rfl).I (r := 40) (k := 36) rfl).I (r := 40) (k := 32) rfl
      have rg : ∀ r x, ma (sTs w p (nI a) (nI o) v or) r x = gI (sI (sI (sI (sI w 40 33 (8 * p + tQ w p) (nI a)) 40 34 (8 * p + tQ w p) (nI o)) 40 36 (8 * p + tQ w p) or) 40 32 p (nI (tQ w p + 1))) 40 r x := fun _ _ => rfl
      have r32 : ∀ x, ma (sTs w p (nI a) (nI o) v or) 32 x = if x = p then nI (tQ w p + 1) else ma w 32 x := by
        intro x
        rw [rg]
        by_cases e : x = p
        · rw [if_pos e, e]; exact gI_at _ _ _ _ _
        · rw [if_neg e, gI_ne (by omega), gI_ne (by omega), gI_ne (by omega)]; exact gI_ne (by omega)
      have r33 : ∀ x, ma (sTs w p (nI a) (nI o) v or) 33 x = if x = 8 * p + tQ w p then nI a else ma w 33 x := by
        intro x
        rw [rg, gI_ne (by omega), gI_ne (by omega), gI_ne (by omega)]
        by_cases e : x = 8 * p + tQ w p
        · rw [if_pos e, e]; exact gI_at _ _ _ _ _
        · rw [if_neg e]; exact gI_ne (by omega)
      have r34 : ∀ x, ma (sTs w p (nI a) (nI o) v or) 34 x = if x = 8 * p + tQ w p then nI o else ma w 34 x := by
        intro x
        rw [rg, gI_ne (by omega), gI_ne (by omega)]
        by_cases e : x = 8 * p + tQ w p
        · rw [if_pos e, e]; exact gI_at _ _ _ _ _
        · rw [if_neg e, gI_ne (by omega)]; exact gI_ne (by omega)
      have r36 : ∀ x, ma (sTs w p (nI a) (nI o) v or) 36 x = if x = 8 * p + tQ w p then or else ma w 36 x := by
        intro x
        rw [rg, gI_ne (by omega)]
        by_cases e : x = 8 * p + tQ w p
        · rw [if_pos e, e]; exact gI_at _ _ _ _ _
        · rw [if_neg e, gI_ne (by omega), gI_ne (by omega)]; exact gI_ne (by omega)
      refine ⟨hre.rinv hr, hCo, ⟨hQ.1, hQ.2.1, fun x hx => ?_⟩, hT, hHt⟩
      obtain ⟨a1, a2, a3, a4⟩ := hQ.2.2 x hx
      have old : ∀ i, i < tQ w x → ¬ (x = p ∧ i = tQ w p) → TsOK (sTs w p (nI a) (nI o) v or) (8 * x + i) := by
        intro i hi2 hne
        have hne2 : ¬ 8 * x + i = 8 * p + tQ w p := by omega
        obtain ⟨b1, b2, b3, b4, b5⟩ := a4 i hi2
        have eH : tH (sTs w p (nI a) (nI o) v or) (8 * x + i) = tH w (8 * x + i) := by show tn (ma _ 33 _) = tn (ma w 33 _); rw [r33, if_neg hne2]
        have eO : tO (sTs w p (nI a) (nI o) v or) (8 * x + i) = tO w (8 * x + i) := by show tn (ma _ 34 _) = tn (ma w 34 _); rw [r34, if_neg hne2]
        unfold TsOK
        rw [eH, eO, r33, if_neg hne2, r34, if_neg hne2, r36, if_neg hne2]
        exact ⟨b1, b2, b3, b4, b5⟩
      by_cases e : x = p
      · subst e
        have eQ : tQ (sTs w x (nI a) (nI o) v or) x = tQ w x + 1 := by show tn (ma _ 32 x) = _; rw [r32, if_pos rfl]; exact tn_nI (by omega)
        refine ⟨by rw [eQ, r32, if_pos rfl], by omega, fun z => absurd z (by show ¬ nQ w ≤ x; omega), fun i hi2 => ?_⟩
        rw [eQ] at hi2
        by_cases ei : i = tQ w x
        · subst ei
          have eH : tH (sTs w x (nI a) (nI o) v or) (8 * x + tQ w x) = a := by show tn (ma _ 33 _) = a; rw [r33, if_pos rfl]; exact tn_nI (by omega)
          have eO : tO (sTs w x (nI a) (nI o) v or) (8 * x + tQ w x) = o := by show tn (ma _ 34 _) = o; rw [r34, if_pos rfl]; exact tn_nI (by omega)
          unfold TsOK
          rw [eH, eO, r33, if_pos rfl, r34, if_pos rfl, r36, if_pos rfl]
          exact ⟨rfl, ha, rfl, by omega, hor⟩
        · exact old i (by omega) (fun z => ei z.2)
      · have eQ : tQ (sTs w p (nI a) (nI o) v or) x = tQ w x := by show tn (ma _ 32 x) = tn (ma w 32 x); rw [r32, if_neg e]
        rw [eQ, r32, if_neg e]
        exact ⟨a1, a2, a3, fun i hi2 => old i hi2 (fun z => e z.1)⟩
theorem rn_lt (w : qSt) (q : Nat) : ∀ (n x B : Nat), x + n ≤ B → ∀ y ∈ (rnF w q n x).2.2.1, y < B := by
  intro n
  induction n with
  | zero => intro x B _ y hy; exact absurd hy List.not_mem_nil
  | succ n ih =>
    intro x B hB y hy
    unfold rnF at hy
    by_cases c1 : (akX w q x).1 < 0
    · rw [cIf_t c1] at hy; exact absurd hy List.not_mem_nil
    · rw [cIf_f c1] at hy
      rcases List.mem_append.mp hy with hy | hy
      · by_cases c2 : (akX w q x).1 = 1
        · rw [cIf_t c2, List.mem_singleton] at hy; omega
        · rw [cIf_f c2] at hy; exact absurd hy List.not_mem_nil
      · exact ih (x + 1) B (by omega) y hy
theorem sr_inv (hi : Inv w) (tr : List Int32) {hs : List Nat} (fa : Int32) (hl : hs.length ≤ 60) (hv : ∀ y ∈ hs, y < nX w) : Inv (stR (sI w 12 36 0 0) tr hs fa) := by
  obtain ⟨hr, hCo, hQ, hT, hHt⟩ := tr_inv hi tr
  unfold stR
  have eX : nX (sTr (sI w 12 36 0 0) tr) = nX w := ((RE.rf.I (r := 12) (k := 36) rfl).tr (RE.sTr tr _)).enX
  generalize sTr (sI w 12 36 0 0) tr = u at hr hCo hQ hT hHt eX ⊢
  have hre : RE u (sI (sI (rI u 37 (putI (ma (sI w 12 36 0 0) 37) hs)) 12 49 0 (nI hs.length)) 12 51 0 fa) := ((RE.rf.rI (r := 37) rfl).I (r := 12) (k := 49) rfl).I (r := 12) (k := 51) rfl
  refine ⟨hre.rinv hr, hCo, hQ, hT, ?_⟩
  have k49 : mi (sI (sI (rI u 37 (putI (ma (sI w 12 36 0 0) 37) hs)) 12 49 0 (nI hs.length)) 12 51 0 fa) 49 = nI hs.length := (gI_ne (by omega)).trans (gI_at _ _ _ _ _)
  have en : nHt (sI (sI (rI u 37 (putI (ma (sI w 12 36 0 0) 37) hs)) 12 49 0 (nI hs.length)) 12 51 0 fa) = hs.length := by show tn (mi _ 49) = _; rw [k49]; exact tn_nI (by omega)
  refine ⟨by rw [en]; exact k49, by omega, fun k hk => ?_⟩
  rw [en] at hk
  refine ⟨hs.getD k 0, ?_, ?_⟩
  · show putI (ma (sI w 12 36 0 0) 37) hs k = _
    unfold putI
    rw [if_pos hk]
  · show hs.getD k 0 < nX u
    rw [eX]
    refine hv _ ?_
    simp only [List.getD]
    rw [List.getElem?_eq_getElem hk]
    exact List.getElem_mem hk
theorem i_run (hi : Inv w) (q f n : Int32) : Inv (S_run w q f n).2 := by
  have h60 := hi.1.2.1.2.1
  unfold S_run
  by_cases c1 : ¬ isQ w q ∨ ¬ (∃ k, f = nI k ∧ k < 60) ∨ ¬ (∃ k, n = nI k ∧ k < 61)
  · rw [cIf_t c1]; exact hi.st _
  · rw [cIf_f c1]
    by_cases c2 : tQ w (tn q) = 0
    · rw [cIf_t c2]; exact hi.st _
    · rw [cIf_f c2]
      have hl : (rnN w (tn q) (tn f) (tn n)).2.2.1.length ≤ 60 := by
        have := rn_len (w := w) (q := tn q) (min (tn f + tn n) (nX w) - tn f) (tn f)
        unfold rnN; omega
      have hv : ∀ y ∈ (rnN w (tn q) (tn f) (tn n)).2.2.1, y < nX w := by
        unfold rnN
        intro y hy
        rcases Nat.lt_or_ge (nX w) (tn f) with z | z
        · rw [show min (tn f + tn n) (nX w) - tn f = 0 by omega] at hy
          exact absurd hy List.not_mem_nil
        · exact rn_lt w (tn q) _ _ (nX w) (by omega) y hy
      have hst := sr_inv hi (rnN w (tn q) (tn f) (tn n)).2.2.2 (hs := (rnN w (tn q) (tn f) (tn n)).2.2.1) (rnN w (tn q) (tn f) (tn n)).2.1 hl hv
      by_cases c3 : (rnN w (tn q) (tn f) (tn n)).1 < 0
      · rw [cIf_t c3]; exact hst.st _
      · rw [cIf_f c3]; exact hst.st _
end
