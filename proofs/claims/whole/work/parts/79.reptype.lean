/-! ===== a type more, on both sides ===== -/
theorem sI_self (w : qSt) (r k i : Nat) : sI w r k i (gI w r k i) = w := by
  refine st_ext ?_ rfl rfl rfl
  funext a b c
  show u3 w.1 r k i (w.1 r k i) a b c = w.1 a b c
  by_cases e : a = r ∧ b = k ∧ c = i
  · obtain ⟨rfl, rfl, rfl⟩ := e; rw [u3_at]
  · rw [u3_off _ _ e]
theorem sI_same {w : qSt} {r k i : Nat} {v : Int32} (h : gI w r k i = v) : sI w r k i v = w := by rw [← h]; exact sI_self w r k i
section
variable {G : qGX} {A : qA} {m w : qSt} {Q : Option Value → qSt → Prop}
def aTn (A : qA) (m : qSt) (a : Nat) : qA := ((fun i => if i = nT m then a else aT A i), A.2)
def wTy (u : qSt) (N a : Nat) (cc : Int32) (f : Nat) (rv : Int32) : qSt := sI (sI (sI (sR u 23 4 N (some a)) 9 3 3 (nI (N + 1))) 9 4 3 cc) 7 15 f rv
theorem rep_type {m' u : qSt} {a S L o : Nat} {fr ow : Option Nat} {op b d rv : Int32} {up : Nat → Prop} (hR : Rep A m w) (hI : TInv m) (hX : XInv m) (hH : HInv m) (hQ : QInv m) (hz : qZero w) (h : NwT m m') (ha : gN w 2 0 = a) (nw : TyNw w u a (nI (nT m)) (nI S) fr ow op b d L up)
    (e0 : ma m' 0 (nT m) = nI S) (e1 : fr = frA (aTn A m a) m' (nT m)) (e2 : ow = owA (aTn A m a) m' (nT m)) (e3 : op = ma m' 3 (nT m)) (e4 : b = nI (baN m' (nT m))) (e5 : d = nI (dpN m' (nT m))) (e6 : L = mlN m' (nT m)) (e7 : ∀ j, up j ↔ UpP m' (nT m) j)
    (ho : o ≤ nT m) (hrw : ∀ i, i < nT m → i ≠ o → rwI m' i = rwI m i) (hro : rwI m' o = rv) (hrn : rwI m' (nT m) = -1) :
    Rep (aTn A m a) m' (wTy u (nT m) a (nI (csF m' (nT m'))) (if o = nT m then a else aT A o) rv) := by
  have h100 := hI.le
  have hlt := h.2.1
  obtain ⟨mk, hA, hB, i15, ⟨k1, k2, k3, k4, k5⟩, ⟨r7, r8, r9, r10, r11⟩, ⟨l3, l4, l5⟩, hts, hnone⟩ := nw
  obtain ⟨y1, y2, y3, y4, y5, y6, y7, y8, y9⟩ := hA
  have hR1 := hR.agree mk.1
  have eT := h.eT
  obtain ⟨nf0, nm0, m70, m40⟩ := nF_0 hI (Nat.le_refl _) hlt
  have an : ∀ i, i < nT m → aT (aTn A m a) i = aT A i := fun i hi => if_neg (by omega)
  have aN : aT (aTn A m a) (nT m) = a := if_pos rfl
  have f99 : gN w 0 a = 99 := hz.k (by omega)
  have fresh : ∀ i, i < nT m → aT A i ≠ a := fun i hi z => by
    have := (hR.tk i hi).2.1
    rw [z, f99] at this; omega
  have k4a : gN u 0 4 = 30 := hR1.fk.2.2.1.1
  have eI : ∀ r k x, ¬ (r = 9 ∧ x = 3) → ¬ (r = 7 ∧ k = 15) → gI (wTy u (nT m) a (nI (csF m' (nT m'))) (if o = nT m then a else aT A o) rv) r k x = gI u r k x := by
    intro r k x q1 q2
    unfold wTy
    rw [gI_ne (by omega), gI_ne (by omega), gI_ne (by omega)]; rfl
  have eR : ∀ r k x, ¬ (r = 23 ∧ k = 4) → gR (wTy u (nT m) a (nI (csF m' (nT m'))) (if o = nT m then a else aT A o) rv) r k x = gR u r k x := fun r k x q => gR_ne (w := u) (by omega)
  have eR4 : ∀ x, gR (wTy u (nT m) a (nI (csF m' (nT m'))) (if o = nT m then a else aT A o) rv) 23 4 x = if x = nT m then some a else gR u 23 4 x := by
    intro x
    show gR (sR u 23 4 (nT m) (some a)) 23 4 x = _
    by_cases e : x = nT m
    · rw [if_pos e, e]; exact gR_at _ _ _ _ _
    · rw [if_neg e]; exact gR_ne (by omega)
  have e15 : ∀ i, i < nT m' → gI (wTy u (nT m) a (nI (csF m' (nT m'))) (if o = nT m then a else aT A o) rv) 7 15 (aT (aTn A m a) i) = rwI m' i := by
    intro i hi
    unfold wTy
    by_cases e : i = o
    · subst e
      rw [hro]
      exact gI_at _ _ _ _ _
    · rw [gI_ne (w := sI (sI (sR u 23 4 (nT m) (some a)) 9 3 3 (nI (nT m + 1))) 9 4 3 (nI (csF m' (nT m')))) (fun z => e ?_)]
      · show gI u 7 15 (aT (aTn A m a) i) = _
        by_cases e2 : i = nT m
        · rw [e2, aN, i15, hrn]
        · rw [an i (by omega), (hR1.tm i (by omega)).2.2.2, hrw i (by omega) e]
      · have z := z.2.2
        by_cases q : i = nT m
        · rw [q, aN] at z
          by_cases q2 : o = nT m
          · omega
          · rw [if_neg q2] at z
            exact absurd z.symm (fresh o (by omega))
        · rw [an i (by omega)] at z
          by_cases q2 : o = nT m
          · rw [if_pos q2] at z
            exact absurd z (fresh i (by omega))
          · rw [if_neg q2] at z
            exact hR.tinj hI (by omega) (by omega) z
  have eMb : ∀ i, i < nT m → (hasMb m' i ↔ hasMb m i) := fun i hi => by unfold hasMb; rw [h.at (by omega)]
  have eml : ∀ i, i < nT m → mlN m' i = mlN m i := fun i hi => by unfold mlN; rw [eq_iff_iff.mpr (eMb i hi)]
  have efr : ∀ i, i < nT m → frA (aTn A m a) m' i = frA A m i := by
    intro i hi
    unfold frA
    rw [h.at (by omega), h.up (by omega), h.of (by omega)]
    by_cases c1 : ma m 0 i = 1
    · rw [cIf_t c1, cIf_t c1]
      by_cases c8 : i = 8
      · rw [cIf_t c8, cIf_t c8]
      · have := hI.up hi c1 c8
        rw [cIf_f c8, cIf_f c8, an _ (by omega)]
    · rw [cIf_f c1, cIf_f c1]
      by_cases c3 : ma m 0 i = 3 ∨ ma m 0 i = 4
      · have := (hI.of hi c3).2
        rw [cIf_t c3, cIf_t c3, an _ (by omega)]
      · rw [cIf_f c3, cIf_f c3]
  have eow : ∀ i, i < nT m → owA (aTn A m a) m' i = owA A m i := by
    intro i hi
    unfold owA
    have hs := hI |> fun hI => sqN_le hI i hi
    rw [h.sq hI hi, h.at (by omega), h.up (by omega)]
    by_cases c3 : ma m 0 (sqN m i) = 3
    · have h9 : 9 ≤ sqN m i := by
        refine Classical.byContradiction fun z => ?_
        rcases Nat.lt_or_ge (sqN m i) 8 with q | q
        · rw [hI.lane q] at c3; exact absurd c3 (by decide)
        · rw [show sqN m i = 8 by omega, hI.any] at c3; exact absurd c3 (by decide)
      rcases hI.kind h9 (by omega) with q | q | q | q
      · rw [q.1] at c3; exact absurd c3 (by decide)
      · rw [q] at c3; exact absurd c3 (by decide)
      · rw [cIf_t c3, cIf_t c3, an _ (by omega)]
      · rw [q.1] at c3; exact absurd c3 (by decide)
    · rw [cIf_f c3, cIf_f c3]
  have ety : tyN m' = tyN m := by funext x; show tn (ma m' 10 x) = tn (ma m 10 x); rw [h.rw (by omega)]
  have nq : nQ m' = nQ m := by unfold nQ; rw [h.2.2.2.2 43 (by omega)]
  have nx : nX m' = nX m := by unfold nX; rw [h.2.2.2.2 22 (by omega)]
  have nh : nH m' = nH m := by unfold nH; rw [h.2.2.2.2 29 (by omega)]
  have ehA : hA m' = CQueryHandlesLaw_law_r6115_62a76e.hA m := by funext x; show tn (ma m' 26 x) = tn (ma m 26 x); rw [h.rw (by omega)]
  have ehC : hC m' = hC m := by funext x; show tn (ma m' 24 x) = tn (ma m 24 x); rw [h.rw (by omega)]
  have ebX : bX m' = bX m := by funext x; show tn (ma m' 19 x) = tn (ma m 19 x); rw [h.rw (by omega)]
  have edX : dX m' = dX m := by funext x; show tn (ma m' 20 x) = tn (ma m 20 x); rw [h.rw (by omega)]
  have esX : sX m' = sX m := by funext x; show tn (ma m' 21 x) = tn (ma m 21 x); rw [h.rw (by omega)]
  have epX : pX m' = pX m := by funext x; show tn (ma m' 22 x) = tn (ma m 22 x); rw [h.rw (by omega)]
  have k25 : ∀ {x}, gN u 0 x = 25 → ¬ ((23 : Nat) = 23 ∧ x = 4) := fun hk z => by rw [z.2, k4a] at hk; omega
  refine ⟨hR1.fk, FixR.set hR1.fr (by omega), ?_, ?_, ?_, ?_, ?_, ?_, ?_, ?_, ?_, ?_, ?_, ?_, ?_, ?_, ?_, ?_, ?_, ?_, ?_, ?_⟩
  · intro i hi
    rw [eR4]
    by_cases e : i = nT m
    · rw [if_pos e, e, aN]; exact ⟨rfl, y1, k1, k2, k3, k4, k5⟩
    · rw [if_neg e, an i (by omega)]; exact hR1.tk i (by omega)
  · intro i hi
    rw [eI 7 0 _ (by omega) (by omega), eI 7 1 _ (by omega) (by omega), eI 7 4 _ (by omega) (by omega), eI 7 5 _ (by omega) (by omega), eI 7 6 _ (by omega) (by omega), eR 7 2 _ (by omega), eR 7 3 _ (by omega), eR 7 7 _ (by omega), eR 7 8 _ (by omega), eR 7 9 _ (by omega), eR 7 10 _ (by omega), eR 7 11 _ (by omega)]
    by_cases e : i = nT m
    · rw [e, aN, ← e1, ← e2, ← e3, ← e4, ← e5, ← e6, e0]
      exact ⟨y2, y3, y4, y5, y6, hB.1, hB.2, r7, r8, r9, r10, r11, l3, l4, l5⟩
    · rw [an i (by omega), h.at e 0, h.at e 3, efr i (by omega), eow i (by omega), h.ba hI (by omega), h.dp hI (by omega), eml i (by omega)]
      exact hR1.ts i (by omega)
  · intro i hi
    refine ⟨?_, ?_, ?_, e15 i hi⟩
    all_goals
      rw [eI 7 _ _ (by omega) (by omega)]
      by_cases e : i = nT m
    · rw [e, aN, y7, h.rw (r := 7) (by omega), m70]
    · rw [an i (by omega), h.rw (r := 7) (by omega)]; exact (hR1.tm i (by omega)).1
    · have : pcN m' (nT m) = 0 := by rw [h.epc]; unfold pcN ivC; rw [nm0]; rfl
      rw [e, aN, y8, this]; rfl
    · rw [an i (by omega), h.epc]; exact (hR1.tm i (by omega)).2.1
    · rw [e, aN, y9, h.rw (r := 4) (by omega), m40]
    · rw [an i (by omega), h.rw (r := 4) (by omega)]; exact (hR1.tm i (by omega)).2.2.1
  · intro i hi j hj
    show (tS u (aT (aTn A m a) i + 1) j = true ↔ UpP m' i j) ∧ (tS u (aT (aTn A m a) i + 2) j = true ↔ tld m' i j)
    rw [h.etl]
    by_cases e : i = nT m
    · rw [e, aN, ← e7, (hts j hj).2]
      exact ⟨(hts j hj).1, ⟨fun z => absurd z (by decide), fun ⟨k, hk, _⟩ => by omega⟩⟩
    · have : UpP m' i j ↔ UpP m i j := by
        unfold UpP
        rw [h.eFO hI (by omega), h.at e 0]
        constructor
        · rintro (⟨z1, z2⟩ | z)
          · rw [h.ab hI (by omega) z1] at z2; exact Or.inl ⟨z1, z2⟩
          · exact Or.inr z
        · rintro (⟨z1, z2⟩ | z)
          · rw [← h.ab hI (by omega) z1] at z2; exact Or.inl ⟨z1, z2⟩
          · exact Or.inr z
      rw [an i (by omega), this]
      exact hR1.tu i (by omega) j hj
  · intro i j hi hj
    rw [h.eM] at hj
    have e : i ≠ nT m := fun z => by rw [z, nm0] at hj; omega
    have hi : i < nT m := by omega
    rw [an i hi, eR _ _ _ (k25 (hR1.tk i hi).2.2.2.2.1)]
    exact hR1.bk i j hi hj
  · intro i j hi hj
    rw [h.eM] at hj
    have e : i ≠ nT m := fun z => by rw [z, nm0] at hj; omega
    have hi : i < nT m := by omega
    have hty : cIf (ma m 8 (10 * i + j) = 0) none (some (aT (aTn A m a) (tyN m (10 * i + j)))) = cIf (ma m 8 (10 * i + j) = 0) none (some (aT A (tyN m (10 * i + j)))) := by
      by_cases c : ma m 8 (10 * i + j) = 0
      · rw [cIf_t c, cIf_t c]
      · rw [cIf_f c, cIf_f c]
        have := (hI.mbs (i := i) (by omega)).2.2.2 j hj
        rcases this.2.2.2 with q | q
        · rw [an _ (by omega)]
        · exact absurd q.1 c
    rw [an i hi, h.epf, ety, h.rw (r := 8) (by omega), h.rw (r := 9) (by omega), h.rw (r := 11) (by omega), h.rw (r := 12) (by omega), h.rw (r := 13) (by omega), hty]
    rw [eR 2 0 _ (by omega), eR 2 3 _ (by omega), eI 2 1 _ (by omega) (by omega), eI 2 2 _ (by omega) (by omega), eI 2 4 _ (by omega) (by omega), eI 2 5 _ (by omega) (by omega), eI 2 6 _ (by omega) (by omega), eI 2 7 _ (by omega) (by omega)]
    exact hR1.bs i j hi hj
  · intro i j hi hj hf
    rw [h.eM] at hj
    have e : i ≠ nT m := fun z => by rw [z, nm0] at hj; omega
    rw [h.rw (r := 8) (by omega)] at hf
    rw [h.2.2.2.1 14]
    exact hR1.bj i j (by omega) hj hf
  · intro i n hi hm hn
    by_cases e : i = nT m
    · unfold nmR
      rw [h.emb, e, mby_0 nm0, mby_0 nm0, cIf_t rfl, aN, eR _ _ _ (k25 k4), eR _ _ _ (k25 k5)]
      exact ⟨(hnone n).2.1, (hnone n).2.2⟩
    · have hi : i < nT m := by omega
      have := hR1.bn i n hi ((eMb i hi).mp hm) hn
      unfold nmR at this ⊢
      rw [h.emb, an i hi, eR _ _ _ (k25 (hR1.tk i hi).2.2.2.2.2.1), eR _ _ _ (k25 (hR1.tk i hi).2.2.2.2.2.2)]
      exact this
  · intro n hn f hf
    have : LnP m' f n ↔ LnP m f n := by
      unfold LnP
      rw [h.emb, h.rw (r := 12) (by omega), eT]
      by_cases e : f = nT m
      · rw [e, mby_0 nm0]
        exact ⟨fun z => absurd rfl z.2.2.1, fun z => absurd rfl z.2.2.1⟩
      · rw [h.at e 0]
        exact ⟨fun z => ⟨by omega, z.2⟩, fun z => ⟨by omega, z.2⟩⟩
    rw [this]
    exact hR1.le n hn f hf
  · refine ⟨fun x hx => ?_, fun x y hx hy z => hR1.xk.2 x y (by omega) (by omega) z⟩
    rw [eR _ _ _ (by omega)]
    exact hR1.xk.1 x (by omega)
  · intro x hx
    have hx : x < nX m := by omega
    obtain ⟨z1, z2, z3, z4, z5⟩ := hR1.xs x hx
    have hb := (hX.2.2.2 x hx).2.1
    rw [edX, ebX, esX, h.rw (r := 19) (by omega), h.rw (r := 20) (by omega), an _ hb, eR 5 0 _ (by omega), eR 5 3 _ (by omega), eI 5 1 _ (by omega) (by omega), eI 5 2 _ (by omega) (by omega)]
    exact ⟨z1, z2, z3, z4, z5⟩
  · intro x i hx hi
    rw [esX] at hi
    rw [epX, h.2.2.2.1 23]
    exact hR1.xj x i (by omega) hi
  · intro x hx
    have hx : x < nH m := by omega
    have hc := (hH.2.2 x hx).2.1
    rw [ehA, ehC, h.rw (r := 25) (by omega), h.rw (r := 26) (by omega), an _ hc, eR 23 74 _ (by omega), eR 1 0 _ (by omega), eR 1 1 _ (by omega), eI 1 2 _ (by omega) (by omega)]
    exact hR1.hd x hx
  · have := GCo.cg (GCo.set (a := 4) (j := nT m) (v := some a) hR1.gco (by omega)) (m' := m') (h.rw (by omega)) (h.rw (by omega)) (h.rw (by omega)) (h.2.2.2.1 31)
    exact this.1
  · have := GCo.cg (GCo.set (a := 4) (j := nT m) (v := some a) hR1.gco (by omega)) (m' := m') (h.rw (by omega)) (h.rw (by omega)) (h.rw (by omega)) (h.2.2.2.1 31)
    exact this.2
  · have := GQu.cg (GQu.set (a := 4) (j := nT m) (v := some a) hR1.gqu (by omega) (QuK.ne hR1.qk (by rw [k4a]; omega))) (m' := m') (h.2.2.2.2 43 (by omega)) (h.rw (by omega)) (h.rw (by omega)) (h.rw (by omega)) (h.rw (by omega)) (h.2.2.2.1 35)
    exact this.1
  · have := GQu.cg (GQu.set (a := 4) (j := nT m) (v := some a) hR1.gqu (by omega) (QuK.ne hR1.qk (by rw [k4a]; omega))) (m' := m') (h.2.2.2.2 43 (by omega)) (h.rw (by omega)) (h.rw (by omega)) (h.rw (by omega)) (h.rw (by omega)) (h.2.2.2.1 35)
    exact this.2
  · obtain ⟨z1, z2, z3, z4, z5⟩ := hR1.mt
    refine ⟨?_, ?_, ?_, ?_, ?_⟩
    · rw [h.1]; exact gI_at (sR u 23 4 (nT m) (some a)) 9 3 3 _
    · exact gI_at (sI (sR u 23 4 (nT m) (some a)) 9 3 3 (nI (nT m + 1))) 9 4 3 _
    · rw [h.ecl hI]; exact z3
    · rw [h.2.2.2.2 22 (by omega)]; exact z4
    · rw [h.2.2.2.2 29 (by omega)]; exact z5
  · obtain ⟨z1, z2⟩ := hR1.mr
    refine ⟨by rw [h.2.2.2.2 36 (by omega)]; exact z1, fun i hi => ?_⟩
    have : nTr m' = nTr m := by unfold nTr; rw [h.2.2.2.2 36 (by omega)]
    rw [h.rw (r := 27) (by omega)]
    exact z2 i (by omega)
  · obtain ⟨z1, z2, z3, z4, z5, z6, z7⟩ := hR1.mq
    have : nHt m' = nHt m := by unfold nHt; rw [h.2.2.2.2 49 (by omega)]
    refine ⟨by rw [h.2.2.2.2 43 (by omega)]; exact z1, by rw [h.2.2.2.2 49 (by omega)]; exact z2, by rw [h.2.2.2.2 51 (by omega)]; exact z3, by rw [h.2.2.2.2 42 (by omega)]; exact z4, by rw [h.2.2.2.2 35 (by omega)]; exact z5, by rw [h.2.2.2.2 0 (by omega)]; exact z6, fun i hi => ?_⟩
    rw [h.rw (r := 37) (by omega)]
    exact z7 i (by omega)
end
