/-! ===== what stays true: things and values ===== -/
section
variable {m m' : qSt}
theorem TInv.cg (hI : TInv m) (h : TE m m') (h4 : ma m' 4 = ma m 4) : TInv m' := by
  have r : ∀ k, k ≤ 13 → k ≠ 4 → ma m' k = ma m k := h.2
  have e9 : nmN m' = nmN m := by funext a; show tn (ma m' 9 a) = tn (ma m 9 a); rw [r 9 (by omega) (by omega)]
  have e10 : tyN m' = tyN m := by funext a; show tn (ma m' 10 a) = tn (ma m 10 a); rw [r 10 (by omega) (by omega)]
  have e12 : bdN m' = bdN m := by funext a; show tn (ma m' 12 a) = tn (ma m 12 a); rw [r 12 (by omega) (by omega)]
  have e13 : nuN m' = nuN m := by funext a; show tn (ma m' 13 a) = tn (ma m 13 a); rw [r 13 (by omega) (by omega)]
  unfold TInv TyOK TyKind FacOK MbsOK MemOK FlgOK
  rw [h.eT, h.1, h.eup, h.eof, h.eF, h.efc, h.eM, e9, e10, e12, e13, r 0 (by omega) (by omega), r 1 (by omega) (by omega), r 2 (by omega) (by omega), r 3 (by omega) (by omega), h4, r 5 (by omega) (by omega), r 6 (by omega) (by omega), r 7 (by omega) (by omega), r 8 (by omega) (by omega), r 9 (by omega) (by omega), r 10 (by omega) (by omega), r 11 (by omega) (by omega), r 12 (by omega) (by omega), r 13 (by omega) (by omega)]
  exact hI
theorem XInv.cg (hX : XInv m) (h : TE m m') (h4 : ma m' 4 = ma m 4) (k22 : mi m' 22 = mi m 22) (r19 : ma m' 19 = ma m 19) (r20 : ma m' 20 = ma m 20) (r21 : ma m' 21 = ma m 21) (r22 : ma m' 22 = ma m 22) : XInv m' := by
  have en : nX m' = nX m := by unfold nX; rw [k22]
  have eb : bX m' = bX m := by funext a; show tn (ma m' 19 a) = tn (ma m 19 a); rw [r19]
  have ed : dX m' = dX m := by funext a; show tn (ma m' 20 a) = tn (ma m 20 a); rw [r20]
  have es : sX m' = sX m := by funext a; show tn (ma m' 21 a) = tn (ma m 21 a); rw [r21]
  have ep : pX m' = pX m := by funext a; show tn (ma m' 22 a) = tn (ma m 22 a); rw [r22]
  unfold XInv XOK
  rw [k22, en, r22, ep, r19, eb, h.eT, h.2 0 (by omega) (by omega), r20, ed, r21, es, h.eiv, h.eab, h4]
  exact hX
theorem HInv.cg (hH : HInv m) (h : TE m m') (k29 : mi m' 29 = mi m 29) (r24 : ma m' 24 = ma m 24) (r25 : ma m' 25 = ma m 25) (r26 : ma m' 26 = ma m 26) : HInv m' := by
  have en : nH m' = nH m := by unfold nH; rw [k29]
  have eA : hA m' = CQueryHandlesLaw_law_r6115_62a76e.hA m := by funext a; show tn (ma m' 26 a) = tn (ma m 26 a); rw [r26]
  have eC : hC m' = hC m := by funext a; show tn (ma m' 24 a) = tn (ma m 24 a); rw [r24]
  unfold HInv HdOK
  rw [k29, en, r24, eC, h.eT, h.2 0 (by omega) (by omega), r26, eA, r25, h.eFd, h.eab]
  exact hH
theorem AInv.cg (hA : AInv m) (h : TE m m') : AInv m' := by unfold AInv; rw [h.eF1]; exact hA
theorem DInv.cg (hD : DInv m) (h : TE m m') : DInv m' := by unfold DInv; rw [h.eF, h.efc]; exact hD
theorem VS.cg (v : VS m) (h : TE m m') (e14 : ml m' 14 = ml m 14) : VS m' := by
  have ety : tyN m' = tyN m := by funext a; show tn (ma m' 10 a) = tn (ma m 10 a); rw [h.2 10 (by omega) (by omega)]
  unfold VS; rw [h.eT, h.eM, h.2 8 (by omega) (by omega), ety, e14]; exact v
theorem B11.cg (v : B11 m) (h : TE m m') : B11 m' := by unfold B11; rw [h.2 11 (by omega) (by omega)]; exact v
/-- closing types -/
theorem cl_inv (hi : Inv m) {C : Nat} (hC : C < nT m) (hs : ma m 0 C = 1) : Inv (rI m 4 (clsF m C)) := by
  obtain ⟨⟨hI, hX, hH, hA, hD, vs, vr, vf, b11⟩, hCo, hQ, hT, hHt⟩ := hi
  have te := te_r4 m (clsF m C)
  have ety : tyN (rI m 4 (clsF m C)) = tyN m := rfl
  refine ⟨⟨?_, ?_, hH.cg te rfl rfl rfl rfl, hA.cg te, hD.cg te, vs.cg te rfl, vr, ?_, b11.cg te⟩, hCo, hQ, hT, hHt⟩
  · have h := tinv_cl (f := clsF m C) (g := ml m 23) hI (fun i => ?_) (fun i q => ?_)
    · rw [show rJ (rI m 4 (clsF m C)) 23 (ml m 23) = rI m 4 (clsF m C) from rJ_self (rI m 4 (clsF m C)) 23] at h
      exact h
    · unfold clsF
      by_cases q : i ∈ abvs m C ∨ FOf m C i
      · exact Or.inl (cIf_t q)
      · exact Or.inr (cIf_f q)
    · refine cls_off (fun z => ?_)
      rcases z with z | z
      · have := (abvs_in hI C hC hs i z).2.1; omega
      · have := (z.in_ hI hC).2.1; omega
  · exact hX.r4 (fun i hi => by
      unfold clsF
      by_cases q : i ∈ abvs m C ∨ FOf m C i
      · exact cIf_t q
      · exact (cIf_f q).trans hi)
  · unfold VF
    rw [te.eab, te.eM, te.eP, ety, te.eof2]
    exact vf
theorem ad_rows {B D : Nat} {l : List Int64} (hm' : sAd (rJ m 23 (putL (ml m 23) (pX m (nX m)) l)) (nI B) (nI D) (pX m (nX m) + l.length) = m') :
    (∀ r, r < 19 ∨ 22 < r → ma m' r = ma m r) ∧ (∀ x, ma m' 19 x = if x = nX m then nI B else ma m 19 x) ∧ (∀ x, ma m' 20 x = if x = nX m then nI D else ma m 20 x) ∧ (∀ x, ma m' 21 x = if x = nX m then nI l.length else ma m 21 x) ∧ (∀ x, ma m' 22 x = if x = nX m + 1 then nI (pX m (nX m) + l.length) else ma m 22 x) ∧ mi m' 22 = nI (nX m + 1) ∧ (∀ k, k ≠ 22 → mi m' k = mi m k) ∧ (∀ r, r ≠ 23 → ml m' r = ml m r) ∧ ml m' 23 = putL (ml m 23) (pX m (nX m)) l := by
  have rg : ∀ r i, ma m' r i = gI (sI (sI (sI (sI (sI m 40 19 (nX m) (nI B)) 40 20 (nX m) (nI D)) 40 21 (nX m) (nI (pX m (nX m) + l.length - pX m (nX m)))) 12 22 0 (nI (nX m + 1))) 40 22 (nX m + 1) (nI (pX m (nX m) + l.length))) 40 r i := fun r i => by rw [← hm']; rfl
  refine ⟨fun r hr => ?_, fun x => ?_, fun x => ?_, fun x => ?_, fun x => ?_, ?_, fun k hk => ?_, fun r hr => ?_, by rw [← hm']; rfl⟩
  · funext i
    rw [rg, gI_ne (by omega), gI_ne (by omega), gI_ne (by omega), gI_ne (by omega), gI_ne (by omega)]
  · rw [rg, gI_ne (by omega), gI_ne (by omega), gI_ne (by omega), gI_ne (by omega)]
    by_cases e : x = nX m
    · rw [if_pos e, e]; exact gI_at _ _ _ _ _
    · rw [if_neg e]; exact gI_ne (by omega)
  · rw [rg, gI_ne (by omega), gI_ne (by omega), gI_ne (by omega)]
    by_cases e : x = nX m
    · rw [if_pos e, e]; exact gI_at _ _ _ _ _
    · rw [if_neg e, gI_ne (by omega)]; exact gI_ne (by omega)
  · rw [rg, gI_ne (by omega), gI_ne (by omega)]
    by_cases e : x = nX m
    · rw [if_pos e, e, gI_at]; congr 1; omega
    · rw [if_neg e, gI_ne (by omega), gI_ne (by omega)]; exact gI_ne (by omega)
  · rw [rg]
    by_cases e : x = nX m + 1
    · rw [if_pos e, e]; exact gI_at _ _ _ _ _
    · rw [if_neg e, gI_ne (by omega), gI_ne (by omega), gI_ne (by omega), gI_ne (by omega)]; exact gI_ne (by omega)
  · rw [← hm']
    exact gI_at (sI (sI (sI m 40 19 (nX m) (nI B)) 40 20 (nX m) (nI D)) 40 21 (nX m) (nI (pX m (nX m) + l.length - pX m (nX m)))) 12 22 0 _
  · rw [← hm']
    show gI (sI (sI (sI (sI (sI m 40 19 (nX m) (nI B)) 40 20 (nX m) (nI D)) 40 21 (nX m) (nI (pX m (nX m) + l.length - pX m (nX m)))) 12 22 0 (nI (nX m + 1))) 40 22 (nX m + 1) (nI (pX m (nX m) + l.length))) 12 k 0 = _
    rw [gI_ne (by omega), gI_ne (by omega), gI_ne (by omega), gI_ne (by omega), gI_ne (by omega)]
  · rw [← hm']
    funext i
    show (bif Nat.beq 40 40 && Nat.beq r 23 then putL (ml m 23) (pX m (nX m)) l i else ml m r i) = _
    have : Nat.beq r 23 = false := by
      cases e : Nat.beq r 23 with
      | false => rfl
      | true => have := Nat.eq_of_beq_eq_true e; omega
    rw [this]; rfl
theorem ad_inv {B D : Nat} {l : List Int64} (hi : Inv m) (hx : nX m < 60) (hB : B < nT m) (hBs : ¬ (ma m 0 B = 3 ∨ ma m 0 B = 4)) (hD : D ≤ 101) (hl : l.length ≤ 1000) (hcase : (D = 0 ∧ ma m 0 B = 1 ∧ l.length = (ivL m (abvs m B)).length ∧ ∀ d ∈ abvs m B, ma m 4 d = 1) ∨ (0 < D ∧ l.length ≤ 12))
    (hr : D = 1 → B < 8 → ∀ i, i < l.length → kp B (l.getD i 0) = l.getD i 0) (hf : D = 0 → ∀ d j, d ∈ abvs m B → j < nM m d → isP m (10 * d + j) → tyN m (10 * d + j) < 8 → kp (tyN m (10 * d + j)) (l.getD (offN m B (10 * d + j)) 0) = l.getD (offN m B (10 * d + j)) 0) :
    Inv (sAd (rJ m 23 (putL (ml m 23) (pX m (nX m)) l)) (nI B) (nI D) (pX m (nX m) + l.length)) := by
  obtain ⟨⟨hI, hX, hH, hA, hDi, vs, vr, vf, b11⟩, hCo, hQ, hT, hHt⟩ := hi
  have h100 := hI.le
  generalize hm' : sAd (rJ m 23 (putL (ml m 23) (pX m (nX m)) l)) (nI B) (nI D) (pX m (nX m) + l.length) = m'
  obtain ⟨rows, r19, r20, r21, r22, k22, rk, rj, j23⟩ := ad_rows hm'
  have te : TE m m' := ⟨rk 1 (by omega), fun r _ _ => rows r (by omega)⟩
  have r4 := rows 4 (by omega)
  have hpb := (hX.2.2.1 (nX m) (Nat.le_refl _))
  have en : nX m' = nX m + 1 := by unfold nX; rw [k22]; exact tn_nI (by omega)
  have eb : ∀ x, x < nX m → bX m' x = bX m x := fun x q => by show tn (ma m' 19 x) = tn (ma m 19 x); rw [r19, if_neg (by omega)]
  have ed : ∀ x, x < nX m → dX m' x = dX m x := fun x q => by show tn (ma m' 20 x) = tn (ma m 20 x); rw [r20, if_neg (by omega)]
  have es : ∀ x, x < nX m → sX m' x = sX m x := fun x q => by show tn (ma m' 21 x) = tn (ma m 21 x); rw [r21, if_neg (by omega)]
  have ep : ∀ x, x ≤ nX m → pX m' x = pX m x := fun x q => by show tn (ma m' 22 x) = tn (ma m 22 x); rw [r22, if_neg (by omega)]
  have eb' : bX m' (nX m) = B := by show tn (ma m' 19 _) = B; rw [r19, if_pos rfl]; exact tn_nI (by omega)
  have ed' : dX m' (nX m) = D := by show tn (ma m' 20 _) = D; rw [r20, if_pos rfl]; exact tn_nI (by omega)
  have es' : sX m' (nX m) = l.length := by show tn (ma m' 21 _) = _; rw [r21, if_pos rfl]; exact tn_nI (by omega)
  have ep' : pX m' (nX m + 1) = pX m (nX m) + l.length := by show tn (ma m' 22 _) = _; rw [r22, if_pos rfl]; exact tn_nI (by omega)
  have old : ∀ x i, x < nX m → i < sX m x → ml m' 23 (pX m x + i) = ml m 23 (pX m x + i) := fun x i q1 q2 => by
    have := pX_mono hX q1 (Nat.le_refl _)
    rw [j23]; unfold putL; rw [if_neg (by omega)]
  have new : ∀ i, i < l.length → ml m' 23 (pX m (nX m) + i) = l.getD i 0 := fun i q => by
    rw [j23]; unfold putL; rw [if_pos (by omega), Nat.add_sub_cancel_left]
  refine ⟨⟨hI.cg te r4, ⟨by rw [en]; exact k22, by omega, fun x q => ?_, fun x q => ?_⟩, hH.cg te (rk 29 (by omega)) (rows 24 (by omega)) (rows 25 (by omega)) (rows 26 (by omega)), hA.cg te, hDi.cg te, vs.cg te (rj 14 (by omega)), fun x i q1 q2 q3 q4 => ?_, fun x d j q1 q2 q3 q4 q5 q6 => ?_, b11.cg te⟩, hCo.cg (rows 28 (by omega)) (rows 29 (by omega)) (rows 30 (by omega)) (rj 31 (by omega)), hQ.cg (rk 43 (by omega)) (by unfold nH; rw [rk 29 (by omega)]; exact Nat.le_refl _) (rows 32 (by omega)) (rows 33 (by omega)) (rows 34 (by omega)) (rows 36 (by omega)), hT.cg (rk 36 (by omega)), hHt.cg (rk 49 (by omega)) (rows 37 (by omega)) (by omega)⟩
  · by_cases e : x = nX m + 1
    · subst e
      rw [ep', r22, if_pos rfl]
      exact ⟨rfl, by omega⟩
    · rw [ep x (by omega), r22, if_neg e]
      exact hX.2.2.1 x (by omega)
  · by_cases e : x = nX m
    · subst e
      unfold XOK
      rw [eb', ed', es', ep', ep _ (Nat.le_refl _), r19, if_pos rfl, r20, if_pos rfl, r21, if_pos rfl, te.eT, te.2 0 (by omega) (by omega), te.eiv, te.eab, r4]
      exact ⟨rfl, hB, hBs, rfl, hD, rfl, rfl, hcase⟩
    · have q : x < nX m := by omega
      obtain ⟨y1, y2, y3, y4, y5, y6, y7, y8⟩ := hX.2.2.2 x q
      unfold XOK
      rw [eb x q, ed x q, es x q, ep x (by omega), ep (x + 1) (by omega), r19, if_neg e, r20, if_neg e, r21, if_neg e, te.eT, te.2 0 (by omega) (by omega), te.eiv, te.eab, r4]
      exact ⟨y1, y2, y3, y4, y5, y6, y7, y8⟩
  · by_cases e : x = nX m
    · subst e
      rw [es'] at q2
      rw [ed'] at q3
      rw [eb'] at q4 ⊢
      rw [ep _ (Nat.le_refl _), new i q2]
      exact hr q3 q4 i q2
    · have q : x < nX m := by omega
      rw [es x q] at q2
      rw [ed x q] at q3
      rw [eb x q] at q4 ⊢
      rw [ep x (by omega), old x i q q2]
      exact vr x i q q2 q3 q4
  · have ety : tyN m' = tyN m := by funext a; show tn (ma m' 10 a) = tn (ma m 10 a); rw [te.2 10 (by omega) (by omega)]
    rw [te.eM] at q4
    rw [te.eP] at q5
    rw [ety] at q6 ⊢
    rw [te.eab] at q3
    rw [te.eof2]
    by_cases e : x = nX m
    · subst e
      rw [ed'] at q2
      rw [eb'] at q3 ⊢
      rw [ep _ (Nat.le_refl _)]
      have hcl : ma m 0 B = 1 ∧ l.length = (ivL m (abvs m B)).length := by
        rcases hcase with z | z
        · exact ⟨z.2.1, z.2.2.1⟩
        · omega
      have hj10 : j < 10 := by
        have h1 := (abvs_in hI _ hB hcl.1 d q3).2.1
        have := (hI.mbs (i := d) (by omega)).2.1; omega
      have := off_lt q3 q4 hj10 q5
      rw [new _ (by omega)]
      exact hf q2 d j q3 q4 q5 q6
    · have q : x < nX m := by omega
      rw [ed x q] at q2
      rw [eb x q] at q3 ⊢
      have hcl := hX.cls q q2
      have hj10 : j < 10 := by
        have h1 := (abvs_in hI _ hcl.1 hcl.2.1 d q3).2.1
        have := (hI.mbs (i := d) (by omega)).2.1; omega
      have := off_lt q3 q4 hj10 q5
      rw [ep x (by omega), old x _ q (by omega)]
      exact vf x d j q q2 q3 q4 q5 q6
theorem ivF_get {d j : Nat} (hp : isP m (10 * d + j)) : ∀ n, j < n → (ivF m d n).getD (pcF m d j) 0 = laneV (ma m 10 (10 * d + j))
  | 0, h => by omega
  | n + 1, h => by
    show (ivF m d n ++ cIf (isP m (10 * d + n)) [laneV (ma m 10 (10 * d + n))] []).getD (pcF m d j) 0 = _
    by_cases e : j = n
    · subst e
      rw [cIf_t hp]
      simp only [List.getD]
      rw [show pcF m d j = (ivF m d j).length from rfl, List.getElem?_append_right (Nat.le_refl _), Nat.sub_self]; rfl
    · have h1 := ivF_get hp n (by omega)
      have h2 : pcF m d (j + 1) ≤ pcF m d n := pcF_mono m d (by omega)
      rw [pcF_s, cIf_t hp] at h2
      have h3 : pcF m d j < (ivF m d n).length := by
        have : pcF m d n = (ivF m d n).length := rfl
        omega
      simp only [List.getD] at h1 ⊢
      rw [List.getElem?_append_left h3]
      exact h1
theorem ivL_get {d j : Nat} (hj : j < nM m d) (hp : isP m (10 * d + j)) : ∀ {l : List Nat}, d ∈ l → (ivL m l).getD (offA m d l + pcF m d j) 0 = laneV (ma m 10 (10 * d + j))
  | c :: l, h => by
    show (ivC m c ++ ivL m l).getD ((if c = d then 0 else pcN m c + offA m d l) + pcF m d j) 0 = _
    by_cases e : c = d
    · subst e
      rw [if_pos rfl, Nat.zero_add]
      have h1 := ivF_get hp (nM m c) hj
      have h3 : pcF m c j < (ivC m c).length := pcF_lt hj hp
      simp only [List.getD] at h1 ⊢
      rw [List.getElem?_append_left h3]
      exact h1
    · rw [if_neg e]
      have h1 := ivL_get hj hp (l := l) ((List.mem_cons.mp h).resolve_left (fun q => e q.symm))
      have h3 : (ivC m c).length = pcN m c := rfl
      simp only [List.getD] at h1 ⊢
      rw [List.getElem?_append_right (by omega), show pcN m c + offA m d l + pcF m d j - (ivC m c).length = offA m d l + pcF m d j by omega]
      exact h1
theorem offA_sep {d e : Nat} (hne : d ≠ e) : ∀ {l : List Nat}, d ∈ l → e ∈ l → offA m d l + pcN m d ≤ offA m e l ∨ offA m e l + pcN m e ≤ offA m d l
  | c :: l, h1, h2 => by
    show (if c = d then 0 else pcN m c + offA m d l) + pcN m d ≤ (if c = e then 0 else pcN m c + offA m e l) ∨ (if c = e then 0 else pcN m c + offA m e l) + pcN m e ≤ (if c = d then 0 else pcN m c + offA m d l)
    by_cases q : c = d
    · subst q
      rw [if_pos rfl, if_neg hne]; left; omega
    · by_cases q2 : c = e
      · subst q2
        rw [if_pos rfl, if_neg q]; right; omega
      · rw [if_neg q, if_neg q2]
        have := offA_sep hne (l := l) ((List.mem_cons.mp h1).resolve_left (fun z => q z.symm)) ((List.mem_cons.mp h2).resolve_left (fun z => q2 z.symm))
        omega
theorem off_inj {b d j e k : Nat} (hd : d ∈ abvs m b) (he : e ∈ abvs m b) (hj : j < nM m d) (hk : k < nM m e) (hj10 : j < 10) (hk10 : k < 10) (hp : isP m (10 * d + j)) (hq : isP m (10 * e + k)) (h : offN m b (10 * d + j) = offN m b (10 * e + k)) : d = e ∧ j = k := by
  unfold offN at h
  rw [show (10 * d + j) / 10 = d by omega, show (10 * d + j) % 10 = j by omega, show (10 * e + k) / 10 = e by omega, show (10 * e + k) % 10 = k by omega] at h
  have h1 := pcF_lt hj hp
  have h2 := pcF_lt hk hq
  by_cases c : d = e
  · subst c
    refine ⟨rfl, ?_⟩
    rcases Nat.lt_trichotomy j k with q | q | q
    · have h3 : pcF m d (j + 1) ≤ pcF m d k := pcF_mono m d (by omega)
      rw [pcF_s, cIf_t hp] at h3; omega
    · exact q
    · have h3 : pcF m d (k + 1) ≤ pcF m d j := pcF_mono m d (by omega)
      rw [pcF_s, cIf_t hq] at h3; omega
  · rcases offA_sep (m := m) c hd he with z | z <;> omega
variable {w : qSt}
theorem i_thing (hi : Inv w) (c : Int32) : Inv (S_thing w c).2 := by
  have hI := hi.1.1
  have hX := hi.1.2.1
  have h100 := hI.le
  have h60 := hX.2.1
  unfold S_thing
  by_cases c1 : ¬ isC w c
  · rw [cIf_t c1]; exact hi.st _
  · rw [cIf_f c1]
    by_cases c2 : nX w = 60
    · rw [cIf_t c2]; exact hi.st _
    · rw [cIf_f c2]
      by_cases c3 : ¬ ma w 3 (tn c) = 0
      · rw [cIf_t c3]; exact hi.st _
      · rw [cIf_f c3]
        obtain ⟨C, rfl, hC, hs⟩ := Classical.not_not.mp c1
        refine Inv.st ?_ _
        rw [tn_nI (by omega)]
        have hc := cl_inv hi hC hs
        have te := te_r4 w (clsF w C)
        have hlen := ivL_len hI C hC hs
        have h := ad_inv (m := rI w 4 (clsF w C)) (B := C) (D := 0) (l := ivL w (abvs w C)) hc (by show nX w < 60; omega) hC (by show ¬ (ma w 0 C = 3 ∨ ma w 0 C = 4); rw [hs]; decide) (by omega) (by omega) (Or.inl ⟨rfl, hs, ?_, ?_⟩) (fun z => by omega) (fun _ d j q1 q2 q3 q4 => ?_)
        · exact h
        · rw [te.eiv, te.eab]
        · rw [te.eab]
          exact fun d hd => cIf_t (Or.inl hd)
        · rw [te.eab] at q1
          rw [te.eM] at q2
          rw [te.eP] at q3
          have q4 : tyN w (10 * d + j) < 8 := q4
          show kp (tyN w (10 * d + j)) _ = _
          rw [te.eof2]
          have hd2 := (abvs_in hI _ hC hs d q1).2.1
          have hj10 : j < 10 := by have := (hI.mbs (i := d) (by omega)).2.1; omega
          have e0 : (ivL w (abvs w C)).getD (offN w C (10 * d + j)) 0 = 0 := by
            unfold offN
            rw [show (10 * d + j) / 10 = d by omega, show (10 * d + j) % 10 = j by omega, ivL_get q2 q3 q1]
            rcases ((hI.mbs (i := d) (by omega)).2.2.2 j q2).2.2.2 with z | z
            · rw [z.2.2.1]; exact cIf_t ⟨_, rfl, q4⟩
            · exact absurd z.1 q3.1
          rw [e0]; exact kp_0 _
theorem i_things (hi : Inv w) (t n : Int32) : Inv (S_things w t n).2 := by
  have hI := hi.1.1
  have hX := hi.1.2.1
  have h100 := hI.le
  have h60 := hX.2.1
  unfold S_things
  by_cases c1 : ¬ isT w t ∨ 12 < n
  · rw [cIf_t c1]; exact hi.st _
  · rw [cIf_f c1]
    by_cases c2 : nX w = 60
    · rw [cIf_t c2]; exact hi.st _
    · rw [cIf_f c2]
      by_cases c3 : n < 0
      · rw [cIf_t c3]; exact hi.st _
      · rw [cIf_f c3]
        obtain ⟨T, rfl, hT⟩ := Classical.not_not.mp (fun z => c1 (Or.inl z))
        have c4 : ¬ 12 < n := fun z => c1 (Or.inr z)
        obtain ⟨N, rfl, hN⟩ : ∃ N, n = nI N ∧ N ≤ 12 := by
          have i12 : ((12 : Int32)).toInt = 12 := rfl
          rw [i32_lt, i12] at c4
          rw [i32_lt, c0i] at c3
          refine ⟨n.toInt.toNat, ?_, by omega⟩
          rw [i32_eq, nI_t (by omega)]; omega
        refine Inv.st ?_ _
        rw [tn_nI (by omega), tn_nI (by omega)]
        have hb := baN_le hI T hT
        have hl : (List.replicate N (cIf (baN w T < 8 ∧ dpN w T = 0) (0 : Int64) (-1))).length = N := List.length_replicate
        have h := ad_inv (m := w) (B := baN w T) (D := dpN w T + 1) (l := List.replicate N (cIf (baN w T < 8 ∧ dpN w T = 0) (0 : Int64) (-1))) hi (by omega) (by omega) hb.2.1 (by omega) (by omega) (Or.inr ⟨by omega, by omega⟩) (fun z1 z2 i q => ?_) (fun z => by omega)
        · rw [hl] at h; exact h
        · rw [hl] at q
          rw [getD_rep q, cIf_t ⟨z2, by omega⟩]; exact kp_0 _
theorem put_inv {X k : Nat} {v : Int64} (hi : Inv w) (hx : X < nX w) (hk : k < sX w X) (hr : dX w X = 1 → bX w X < 8 → kp (bX w X) v = v) (hf : dX w X = 0 → ∀ d j, d ∈ abvs w (bX w X) → j < nM w d → isP w (10 * d + j) → tyN w (10 * d + j) < 8 → offN w (bX w X) (10 * d + j) = k → kp (tyN w (10 * d + j)) v = v) : Inv (sJ w 40 23 (pX w X + k) v) := by
  obtain ⟨⟨hI, hX, hH, hA, hD, vs, vr, vf, b11⟩, hCo, hQ, hT, hHt⟩ := hi
  have h100 := hI.le
  have te : TE w (sJ w 40 23 (pX w X + k) v) := ⟨rfl, fun _ _ _ => rfl⟩
  have j23 : ∀ p, ml (sJ w 40 23 (pX w X + k) v) 23 p = if p = pX w X + k then v else ml w 23 p := fun p => by
    by_cases e : p = pX w X + k
    · rw [if_pos e, e]; exact gJ_at _ _ _ _ _
    · rw [if_neg e]; exact gJ_ne (by omega)
  have sep : ∀ x i, x < nX w → i < sX w x → pX w x + i = pX w X + k → x = X ∧ i = k := fun x i q1 q2 q3 => by
    rcases Nat.lt_trichotomy x X with z | z | z
    · have := pX_mono hX z (by omega); omega
    · subst z; exact ⟨rfl, by omega⟩
    · have := pX_mono hX z (by omega); omega
  refine ⟨⟨hI.cg te rfl, hX.cg te rfl rfl rfl rfl rfl rfl, hH.cg te rfl rfl rfl rfl, hA.cg te, hD.cg te, vs.cg te rfl, fun x i q1 q2 q3 q4 => ?_, fun x d j q1 q2 q3 q4 q5 q6 => ?_, b11⟩, hCo, hQ, hT, hHt⟩
  · have q1 : x < nX w := q1
    have q2 : i < sX w x := q2
    have q3 : dX w x = 1 := q3
    have q4 : bX w x < 8 := q4
    show kp (bX w x) (ml (sJ w 40 23 (pX w X + k) v) 23 (pX w x + i)) = ml (sJ w 40 23 (pX w X + k) v) 23 (pX w x + i)
    rw [j23]
    by_cases e : pX w x + i = pX w X + k
    · rw [if_pos e]
      obtain ⟨rfl, rfl⟩ := sep x i q1 q2 e
      exact hr q3 q4
    · rw [if_neg e]; exact vr x i q1 q2 q3 q4
  · have q1 : x < nX w := q1
    have q2 : dX w x = 0 := q2
    rw [te.eab] at q3
    have q3 : d ∈ abvs w (bX w x) := q3
    have q4 : j < nM w d := q4
    have q5 : isP w (10 * d + j) := q5
    have q6 : tyN w (10 * d + j) < 8 := q6
    rw [te.eof2]
    show kp (tyN w (10 * d + j)) (ml (sJ w 40 23 (pX w X + k) v) 23 (pX w x + offN w (bX w x) (10 * d + j))) = ml (sJ w 40 23 (pX w X + k) v) 23 (pX w x + offN w (bX w x) (10 * d + j))
    have hcl := hX.cls q1 q2
    have hj10 : j < 10 := by
      have h1 := (abvs_in hI _ hcl.1 hcl.2.1 d q3).2.1
      have := (hI.mbs (i := d) (by omega)).2.1; omega
    have hoff := off_lt q3 q4 hj10 q5
    rw [j23]
    by_cases e : pX w x + offN w (bX w x) (10 * d + j) = pX w X + k
    · rw [if_pos e]
      obtain ⟨rfl, e2⟩ := sep x _ q1 (by omega) e
      exact hf q2 d j q3 q4 q5 q6 e2
    · rw [if_neg e]; exact vf x d j q1 q2 q3 q4 q5 q6
theorem i_write (hi : Inv w) (x i : Int32) (v : Int64) : Inv (S_write w x i v).2 := by
  have hX := hi.1.2.1
  have h60 := hX.2.1
  unfold S_write
  by_cases c1 : hdN w x i (-13) < 0
  · rw [cIf_t c1]; exact hi.st _
  · rw [cIf_f c1]
    by_cases c2 : mbP w (bX w (tn x)) (dX w (tn x) - 1) v
    · rw [cIf_t c2]
      obtain ⟨j, k, rfl, hj, rfl, hk, hd⟩ := hd_get hX (by decide) c1
      have := hX.sz hj
      refine Inv.st ?_ _
      rw [tn_nI (by omega), tn_nI (by omega)]
      refine put_inv hi hj hk (fun z1 z2 => ?_) (fun z => absurd z hd)
      unfold rdV
      rw [cIf_t ⟨z2, by omega⟩]; exact kp_kp _ _
    · rw [cIf_f c2]; exact hi.st _
theorem i_writeAs (hi : Inv w) (x i l : Int32) (v : Int64) : Inv (S_writeAs w x i l v).2 := by
  have hX := hi.1.2.1
  have h60 := hX.2.1
  unfold S_writeAs
  by_cases c1 : hlN w x i l < 0
  · rw [cIf_t c1]; exact hi.st _
  · rw [cIf_f c1]
    by_cases c2 : wdP (tn l) (bX w (tn x))
    · rw [cIf_t c2]
      obtain ⟨j, k, L, rfl, hj, rfl, hk, hd, hb, rfl, hL⟩ := hl_get hX c1
      have := hX.sz hj
      refine Inv.st ?_ _
      rw [tn_nI (by omega), tn_nI (by omega)] at c2
      rw [tn_nI (by omega), tn_nI (by omega), tn_nI (by omega)]
      exact put_inv hi hj hk (fun _ z2 => kp_wd z2 c2 (kp_kp _ _)) (fun z => by omega)
    · rw [cIf_f c2]; exact hi.st _
theorem VF.cg (v : VF m) (h : TE m m') (k22 : mi m' 22 = mi m 22) (r19 : ma m' 19 = ma m 19) (r20 : ma m' 20 = ma m 20) (r22 : ma m' 22 = ma m 22) (e23 : ml m' 23 = ml m 23) : VF m' := by
  have en : nX m' = nX m := by unfold nX; rw [k22]
  have eb : bX m' = bX m := by funext a; show tn (ma m' 19 a) = tn (ma m 19 a); rw [r19]
  have ed : dX m' = dX m := by funext a; show tn (ma m' 20 a) = tn (ma m 20 a); rw [r20]
  have ep : pX m' = pX m := by funext a; show tn (ma m' 22 a) = tn (ma m 22 a); rw [r22]
  have ety : tyN m' = tyN m := by funext a; show tn (ma m' 10 a) = tn (ma m 10 a); rw [h.2 10 (by omega) (by omega)]
  unfold VF
  rw [en, ed, eb, h.eab, h.eM, h.eP, ety, ep, h.eof2, e23]
  exact v
theorem i_set (hi : Inv w) (h x : Int32) (v : Int64) : Inv (S_set w h x v).2 := by
  obtain ⟨hI, hX, hH, hAc, hD, vs, vr, vf, b11⟩ := id hi.1
  have h100 := hI.le
  have h60 := hX.2.1
  have h40 := hH.2.1
  unfold S_set
  by_cases c1 : ¬ isH w h ∨ noX w x
  · rw [cIf_t c1]; exact hi.st _
  · rw [cIf_f c1]
    by_cases c2 : ¬ ma w 25 (tn h) = 0
    · rw [cIf_t c2]; exact hi.st _
    · rw [cIf_f c2]
      by_cases c3 : rcN w (tn h) x < 0
      · rw [cIf_t c3]; exact hi.st _
      · rw [cIf_f c3]
        by_cases c4 : ¬ mbP w (baN w (tyN w (hA w (tn h)))) (dpN w (tyN w (hA w (tn h)))) v
        · rw [cIf_t c4]; exact hi.st _
        · rw [cIf_f c4]
          obtain ⟨a, rfl, ha⟩ := Classical.not_not.mp (fun z => c1 (Or.inl z))
          have hx : ¬ noX w x := fun z => c1 (Or.inr z)
          refine Inv.st ?_ _
          rw [tn_nI (by omega)] at c2 c3 ⊢
          have c2 : ma w 25 a = 0 := Classical.not_not.mp c2
          obtain ⟨f1, f2⟩ := rc_fld hI hX hH ha hx c3 c2
          obtain ⟨t1, t2⟩ := ty_OK hI f1
          have hval : tyN w (hA w a) < 8 → kp (tyN w (hA w a)) (rdV (baN w (tyN w (hA w a))) (dpN w (tyN w (hA w a))) v) = rdV (baN w (tyN w (hA w a))) (dpN w (tyN w (hA w a))) v := by
            intro z
            have z2 := (lane_ty hI t2).mpr z
            have eb : baN w (tyN w (hA w a)) = tyN w (hA w a) := baN_self (by rw [hI.lane z]; decide)
            unfold rdV
            rw [cIf_t ⟨z2.2, z2.1⟩, eb]; exact kp_kp _ _
          generalize rdV (baN w (tyN w (hA w a))) (dpN w (tyN w (hA w a))) v = u at hval ⊢
          by_cases c5 : ma w 11 (hA w a) = 0
          · rw [cIf_t c5]
            obtain ⟨X, rfl, hh⟩ := f2 c5
            have hX1 := hh.1
            rw [tn_nI (by omega)]
            have hin := off_in hX f1 hh c5
            refine put_inv hi hh.1 hin (fun z => by have := hh.2.1; omega) (fun z d j q1 q2 q3 q4 q5 => ?_)
            obtain ⟨e, k, he, g1, g2, g3, g4, g5, g6⟩ := f1
            have hcl := hX.cls hh.1 hh.2.1
            have hj10 : j < 10 := by
              have h1 := (abvs_in hI _ hcl.1 hcl.2.1 d q1).2.1
              have := (hI.mbs (i := d) (by omega)).2.1; omega
            have h3 := hh.2.2
            rw [he, show (10 * e + k) / 10 = e by omega] at h3
            rw [he] at q5 g5 c5 hval
            obtain ⟨rfl, rfl⟩ := off_inj q1 h3 q2 g3 hj10 g4 q3 ⟨by rw [g5]; decide, c5⟩ q5
            exact hval q4
          · rw [cIf_f c5]
            obtain ⟨-, hCo, hQ, hT, hHt⟩ := hi
            have te : TE w (sJ w 40 14 (hA w a) u) := ⟨rfl, fun _ _ _ => rfl⟩
            refine ⟨⟨hI.cg te rfl, hX.cg te rfl rfl rfl rfl rfl rfl, hH.cg te rfl rfl rfl rfl, hAc.cg te, hD.cg te, fun i j q1 q2 q3 q4 => ?_, vr, vf.cg te rfl rfl rfl rfl rfl, b11⟩, hCo, hQ, hT, hHt⟩
            have q4 : tyN w (10 * i + j) < 8 := q4
            show kp (tyN w (10 * i + j)) (ml (sJ w 40 14 (hA w a) u) 14 (10 * i + j)) = ml (sJ w 40 14 (hA w a) u) 14 (10 * i + j)
            by_cases e : 10 * i + j = hA w a
            · rw [e] at q4 ⊢
              rw [show ml (sJ w 40 14 (hA w a) u) 14 (hA w a) = u from gJ_at _ _ _ _ _]
              exact hval q4
            · rw [show ml (sJ w 40 14 (hA w a) u) 14 (10 * i + j) = ml w 14 (10 * i + j) from gJ_ne (by omega)]
              exact vs i j q1 q2 q3 q4
end
