/-! ===== a member more, on both sides ===== -/
section
variable {G : qGX} {A : qA} {m w : qSt} {Q : Option Value → qSt → Prop}
def aBn (A : qA) (P a : Nat) : qA := (A.1, (fun x => if x = P then a else aB A x), A.2.2)
def wMb (u : qSt) (b N a row nm : Nat) (pc : Int32) : qSt := sI (sR (sI (sR u 23 (b + 3) N (some a)) 7 12 b (nI (N + 1))) 23 (b + row) nm (some a)) 7 13 b pc
/-- sets of types lie apart from the lenders' -/
theorem Rep.u60 (hR : Rep A m w) {i k : Nat} (hi : i < nT m) (hk : k = 1 ∨ k = 2) : ¬ (60 ≤ aT A i + k ∧ aT A i + k < 70) := by
  intro z
  have k60 := hR.fk.2.2.2.2.1
  have k59 := hR.fk.2.2.2.1.1
  have h1 := (hR.tk i hi).2.1
  have h2 := (hR.tk i hi).2.2.1
  by_cases c : 60 ≤ aT A i
  · have := k60 (aT A i - 60) (by omega)
    rw [show 60 + (aT A i - 60) = aT A i by omega, h1] at this; omega
  · by_cases c2 : aT A i = 59
    · rw [c2, k59] at h1; omega
    · have : aT A i + 1 = 59 := by omega
      rw [this, k59] at h2; omega
theorem rep_member {m' u u0 : qSt} {a t nm row : Nat} {pc : Int32} (hR : Rep A m u0) (hI : TInv m) (hH : HInv m) (h : NwM m m' t) (ht : t < nT m) (htk : hasMb m t)
    (eN : gN u = gN u0) (eR : gR u = gR u0) (eI : gI u = gI u0) (eJ : ∀ r k x, ¬ (r = 8 ∧ 60 ≤ x ∧ x < 70) → gJ u r k x = gJ u0 r k x)
    (hnm : nm < 10) (e9 : ma m' 9 (10 * t + nM m t) = nI nm)
    (hrow : (row = 4 ∧ ma m' 8 (10 * t + nM m t) = 1) ∨ (row = 5 ∧ ma m' 8 (10 * t + nM m t) = 0))
    (hpc : pc = nI (pcN m' t))
    (hfresh : ∀ i j, i < nT m → j < nM m i → aB A (10 * i + j) ≠ a)
    (k0 : gN u 0 a = 2) (o0 : gR u 2 0 a = some (aT A t)) (o1 : gI u 2 1 a = nI (nM m t)) (o2 : gI u 2 2 a = nI nm)
    (o3 : gR u 2 3 a = cIf (ma m' 8 (10 * t + nM m t) = 0) none (some (aT A (tyN m' (10 * t + nM m t))))) (o4 : gI u 2 4 a = cIf (ma m' 8 (10 * t + nM m t) = 0) 0 (ma m' 11 (10 * t + nM m t))) (o5 : gI u 2 5 a = cIf (ma m' 8 (10 * t + nM m t) = 0) (-1) (nI (pcF m t (nM m t))))
    (o6 : gI u 2 6 a = cIf (ma m' 8 (10 * t + nM m t) = 0) (ma m' 12 (10 * t + nM m t)) 0) (o7 : gI u 2 7 a = cIf (ma m' 8 (10 * t + nM m t) = 0) (ma m' 13 (10 * t + nM m t)) 0) (o8 : ¬ ma m' 8 (10 * t + nM m t) = 0 → gJ u 2 8 a = ml m' 14 (10 * t + nM m t))
    (hLe : ∀ n, n < 10 → ∀ f, f < 128 → (tS u (60 + n) f = true ↔ LnP m' f n)) :
    Rep (aBn A (10 * t + nM m t) a) m' (wMb u (aT A t) (nM m t) a row nm pc) := by
  have h100 := hI.le
  have hlt := h.2.2.2.2.2.2.2
  have hr45 : row = 4 ∨ row = 5 := by omega
  obtain ⟨t1, t2, t3, t4, t5, t6, t7⟩ := hR.tk t ht
  have kr : gN u0 0 (aT A t + row) = 25 := by rcases hr45 with e | e <;> rw [e] <;> assumption
  have e0 := h.te
  have eF := h.fe
  have rows : ∀ r, r < 7 ∨ 13 < r → ma m' r = ma m r := h.2.2.2.1
  have emi := h.2.2.2.2.2.2.1
  have n10 : ∀ i, i < nT m → nM m i ≤ 10 := fun i hi => (hI.mbs (i := i) (by omega)).2.1
  have bn : ∀ i j, i < nT m → j < nM m i → aB (aBn A (10 * t + nM m t) a) (10 * i + j) = aB A (10 * i + j) := fun i j hi hj => by
    refine if_neg (fun z => ?_)
    have := n10 i hi
    have : i = t := by omega
    rw [this] at hj z; omega
  have bN : aB (aBn A (10 * t + nM m t) a) (10 * t + nM m t) = a := if_pos rfl
  -- the state
  have wI : ∀ r k x, ¬ (r = 7 ∧ (k = 12 ∨ k = 13) ∧ x = aT A t) → gI (wMb u (aT A t) (nM m t) a row nm pc) r k x = gI u0 r k x := by
    intro r k x q
    unfold wMb
    rw [gI_ne (by omega)]
    show gI (sI (sR u 23 (aT A t + 3) (nM m t) (some a)) 7 12 (aT A t) (nI (nM m t + 1))) r k x = _
    rw [gI_ne (by omega), ← eI]; rfl
  have wR : ∀ r k x, ¬ (r = 23 ∧ k = aT A t + 3 ∧ x = nM m t) → ¬ (r = 23 ∧ k = aT A t + row ∧ x = nm) → gR (wMb u (aT A t) (nM m t) a row nm pc) r k x = gR u0 r k x := by
    intro r k x q1 q2
    show gR (sR (sI (sR u 23 (aT A t + 3) (nM m t) (some a)) 7 12 (aT A t) (nI (nM m t + 1))) 23 (aT A t + row) nm (some a)) r k x = _
    rw [gR_ne (by omega)]
    show gR (sR u 23 (aT A t + 3) (nM m t) (some a)) r k x = _
    rw [gR_ne (by omega), eR]
  have wR3 : gR (wMb u (aT A t) (nM m t) a row nm pc) 23 (aT A t + 3) (nM m t) = some a := by
    show gR (sR (sI (sR u 23 (aT A t + 3) (nM m t) (some a)) 7 12 (aT A t) (nI (nM m t + 1))) 23 (aT A t + row) nm (some a)) 23 (aT A t + 3) (nM m t) = _
    rw [gR_ne (by omega)]
    exact gR_at _ _ _ _ _
  have wRr : gR (wMb u (aT A t) (nM m t) a row nm pc) 23 (aT A t + row) nm = some a := gR_at _ _ _ _ _
  have wN : ∀ k x, gN (wMb u (aT A t) (nM m t) a row nm pc) k x = gN u0 k x := fun k x => by rw [← eN]; rfl
  have wJ : ∀ r k x, ¬ (r = 8 ∧ 60 ≤ x ∧ x < 70) → gJ (wMb u (aT A t) (nM m t) a row nm pc) r k x = gJ u0 r k x := fun r k x q => eJ r k x q
  have w12 : gI (wMb u (aT A t) (nM m t) a row nm pc) 7 12 (aT A t) = nI (nM m t + 1) := by
    unfold wMb
    rw [gI_ne (by omega)]
    show gI (sI (sR u 23 (aT A t + 3) (nM m t) (some a)) 7 12 (aT A t) (nI (nM m t + 1))) 7 12 (aT A t) = _
    exact gI_at _ _ _ _ _
  have w13 : gI (wMb u (aT A t) (nM m t) a row nm pc) 7 13 (aT A t) = pc := gI_at _ _ _ _ _
  -- arrays of another kind
  have oth : ∀ k x c, gN u0 0 k = c → c ≠ 25 → gR (wMb u (aT A t) (nM m t) a row nm pc) 23 k x = gR u0 23 k x := fun k x c hc hne => wR 23 k x (fun z => by rw [z.2.1, t5] at hc; omega) (fun z => by rw [z.2.1, kr] at hc; omega)
  obtain ⟨k2, k3, k4, k59, k60, k71, k72, k73, k74, k75, k76, k77, k78, k1, kk0⟩ := id hR.fk
  have tne : ∀ i, i < nT m → i ≠ t → aT A i ≠ aT A t := fun i hi hne z => hne (hR.tinj hI hi ht z)
  have n0u : gN u0 0 a = 2 := by rw [← eN]; exact k0
  refine ⟨?_, ?_, ?_, ?_, ?_, ?_, ?_, ?_, ?_, ?_, ?_, ?_, ?_, ?_, ?_, ?_, ?_, ?_, ?_, ?_, ?_, ?_⟩
  · have := hR.fk; unfold FixK at this ⊢; simp only [wN]; exact this
  · obtain ⟨r1, r2, r3, r4, r5, r6, r7, r8, r9, r10, r11, r12, r13, r14, r15, r16, r17⟩ := hR.fr
    refine ⟨?_, ?_, ?_, ?_, ?_, ?_, ?_, ?_, ?_, fun n hn => (oth 59 n _ k59.1 (by omega)).trans (r10 n hn), ?_, ?_, ?_, ?_, ?_, ?_, ?_⟩
    all_goals first
      | (rw [wR _ _ _ (by omega) (by omega)]; assumption)
      | (funext j; rw [wI _ _ _ (by omega)]; exact congrFun r17 j)
  · intro i hi
    rw [e0.eT] at hi
    obtain ⟨q1, q2⟩ := hR.tk i hi
    simp only [wN]
    exact ⟨(oth 4 i _ k4.1 (by omega)).trans q1, q2⟩
  · intro i hi
    rw [e0.eT] at hi
    have := hR.ts i hi
    rw [e0.efr, e0.eow, e0.eba, e0.edp, e0.eml, e0.2.1, rows 3 (by omega)]
    simp only [wN]
    rw [wI 7 0 _ (by omega), wI 7 1 _ (by omega), wI 7 4 _ (by omega), wI 7 5 _ (by omega), wI 7 6 _ (by omega), wR 7 2 _ (by omega) (by omega), wR 7 3 _ (by omega) (by omega), wR 7 7 _ (by omega) (by omega), wR 7 8 _ (by omega) (by omega), wR 7 9 _ (by omega) (by omega), wR 7 10 _ (by omega) (by omega), wR 7 11 _ (by omega) (by omega)]
    exact this
  · intro i hi
    rw [e0.eT] at hi
    obtain ⟨q1, q2, q3, q4⟩ := hR.tm i hi
    rw [e0.erw, rows 4 (by omega)]
    show gI (wMb u (aT A t) (nM m t) a row nm pc) 7 12 (aT A i) = ma m' 7 i ∧ gI (wMb u (aT A t) (nM m t) a row nm pc) 7 13 (aT A i) = nI (pcN m' i) ∧ gI (wMb u (aT A t) (nM m t) a row nm pc) 7 14 (aT A i) = ma m 4 i ∧ gI (wMb u (aT A t) (nM m t) a row nm pc) 7 15 (aT A i) = rwI m i
    rw [wI 7 14 _ (by omega), wI 7 15 _ (by omega)]
    by_cases e : i = t
    · subst e
      exact ⟨w12.trans h.1.symm, w13.trans hpc, q3, q4⟩
    · have := tne i hi e
      rw [wI 7 12 _ (by omega), wI 7 13 _ (by omega), h.2.1 i e, h.epc e (n10 i hi)]
      exact ⟨q1, q2, q3, q4⟩
  · intro i hi j hj
    rw [e0.eT] at hi
    have := hR.tu i hi j hj
    rw [eF.eUp e0, eF.etl]
    unfold tS at this ⊢
    show (bt2 (gJ (wMb u (aT A t) (nM m t) a row nm pc) 8 0 (aT A i + 1)) (gJ (wMb u (aT A t) (nM m t) a row nm pc) 8 1 (aT A i + 1)) j = true ↔ _) ∧ (bt2 (gJ (wMb u (aT A t) (nM m t) a row nm pc) 8 0 (aT A i + 2)) (gJ (wMb u (aT A t) (nM m t) a row nm pc) 8 1 (aT A i + 2)) j = true ↔ _)
    have h1 := hR.u60 hi (Or.inl rfl)
    have h2 := hR.u60 hi (Or.inr rfl)
    rw [wJ 8 0 _ (fun z => h1 z.2), wJ 8 1 _ (fun z => h1 z.2), wJ 8 0 _ (fun z => h2 z.2), wJ 8 1 _ (fun z => h2 z.2)]
    exact this
  · intro i j hi hj
    rw [e0.eT] at hi
    rw [h.eM] at hj
    simp only [wN]
    show gR (wMb u (aT A t) (nM m t) a row nm pc) 23 (aT A i + 3) j = _ ∧ _
    by_cases e : i = t ∧ j = nM m t
    · obtain ⟨rfl, rfl⟩ := e
      rw [bN]
      exact ⟨wR3, n0u⟩
    · have hj2 : j < nM m i := by
        by_cases e2 : i = t
        · rw [if_pos e2] at hj; subst e2; omega
        · rw [if_neg e2] at hj; exact hj
      rw [bn i j hi hj2]
      have := hR.bk i j hi hj2
      refine ⟨(wR 23 _ _ (fun z => ?_) (fun z => ?_)).trans this.1, this.2⟩
      · exact e ⟨hR.tinj hI hi ht (by omega), z.2.2⟩
      · have z := z.2.1
        rcases hr45 with q | q
        · have h1 := (hR.tk i hi).2.1
          rw [show aT A i = aT A t + 1 by omega, t3] at h1; omega
        · have h1 := (hR.tk i hi).2.1
          rw [show aT A i = aT A t + 2 by omega, t4] at h1; omega
  · intro i j hi hj
    rw [e0.eT] at hi
    rw [h.eM] at hj
    by_cases e : i = t ∧ j = nM m t
    · obtain ⟨rfl, rfl⟩ := e
      rw [bN, wR 2 0 _ (by omega) (by omega), wR 2 3 _ (by omega) (by omega), wI 2 1 _ (by omega), wI 2 2 _ (by omega), wI 2 4 _ (by omega), wI 2 5 _ (by omega), wI 2 6 _ (by omega), wI 2 7 _ (by omega), ← eR, ← eI, e9, h.epf (by omega) (Or.inr (Nat.le_refl _))]
      exact ⟨o0, o1, o2, o3, o4, o5, o6, o7⟩
    · have hj2 : j < nM m i := by
        by_cases e2 : i = t
        · rw [if_pos e2] at hj; subst e2; omega
        · rw [if_neg e2] at hj; exact hj
      have hne : i ≠ t ∨ j < nM m t := by
        by_cases e2 : i = t
        · subst e2; exact Or.inr hj2
        · exact Or.inl e2
      have := hR.bs i j hi hj2
      have hj10 := n10 i hi
      have ety : tyN m' (10 * i + j) = tyN m (10 * i + j) := by unfold tyN; rw [h.at (by omega) (by omega) (by omega) hne]
      rw [bn i j hi hj2, wR 2 0 _ (by omega) (by omega), wR 2 3 _ (by omega) (by omega), wI 2 1 _ (by omega), wI 2 2 _ (by omega), wI 2 4 _ (by omega), wI 2 5 _ (by omega), wI 2 6 _ (by omega), wI 2 7 _ (by omega), ety, h.at (r := 8) (by omega) (by omega) (by omega) hne, h.at (r := 9) (by omega) (by omega) (by omega) hne, h.at (r := 11) (by omega) (by omega) (by omega) hne, h.at (r := 12) (by omega) (by omega) (by omega) hne, h.at (r := 13) (by omega) (by omega) (by omega) hne, h.epf (by omega) (by omega)]
      exact this
  · intro i j hi hj hf
    rw [e0.eT] at hi
    rw [h.eM] at hj
    by_cases e : i = t ∧ j = nM m t
    · obtain ⟨rfl, rfl⟩ := e
      rw [bN]
      exact o8 hf
    · have hj2 : j < nM m i := by
        by_cases e2 : i = t
        · rw [if_pos e2] at hj; subst e2; omega
        · rw [if_neg e2] at hj; exact hj
      have hne : i ≠ t ∨ j < nM m t := by
        by_cases e2 : i = t
        · subst e2; exact Or.inr hj2
        · exact Or.inl e2
      have hj10 := n10 i hi
      rw [h.at (by omega) (by omega) (by omega) hne] at hf
      rw [bn i j hi hj2, wJ 2 8 _ (by omega), h.2.2.2.2.1 _ (by omega)]
      exact hR.bj i j hi hj2 hf
  · intro i n hi hm hn
    rw [e0.eT] at hi
    rw [e0.eMb] at hm
    obtain ⟨q1, q2⟩ := hR.bn i n hi hm hn
    have old : ∀ (f : Int32), mby m' i (nI n) f = mby m i (nI n) f → nmR (aBn A (10 * t + nM m t) a) m' i n f = nmR A m i n f := by
      intro f e
      unfold nmR
      rw [e]
      rcases mby_cases m i (nI n) f with c | ⟨j, hj, c, -⟩
      · rw [cIf_t c, cIf_t c]
      · have := n10 i hi
        have hc : ¬ mby m i (nI n) f = -1 := by rw [c]; exact neX rfl (by omega)
        rw [cIf_f hc, cIf_f hc, c, tn_nI (by omega), bn i j hi hj]
    show gR (wMb u (aT A t) (nM m t) a row nm pc) 23 (aT A i + 4) n = _ ∧ gR (wMb u (aT A t) (nM m t) a row nm pc) 23 (aT A i + 5) n = _
    by_cases e : i = t
    · subst e
      have new : ∀ (f : Int32), ma m' 8 (10 * i + nM m i) = f → n = nm → nmR (aBn A (10 * i + nM m i) a) m' i n f = some a := by
        intro f e1 e2
        have emb : mby m' i (nI n) f = nI (nM m i) := by rw [h.embt, cIf_t ⟨e1, by rw [e9, e2]⟩]
        unfold nmR
        rw [emb, cIf_f (neX rfl (by omega)), tn_nI (by omega), bN]
      have same : ∀ (f : Int32), (¬ ma m' 8 (10 * i + nM m i) = f ∨ n ≠ nm) → nmR (aBn A (10 * i + nM m i) a) m' i n f = nmR A m i n f := by
        intro f e1
        refine old f ?_
        rw [h.embt, cIf_f (fun z => ?_)]
        rcases e1 with e1 | e1
        · exact e1 z.1
        · have := z.2
          rw [e9, nI_eqI (by omega) (by omega)] at this
          exact e1 this.symm
      rcases hrow with ⟨er, e8⟩ | ⟨er, e8⟩
      · have w5 : gR (wMb u (aT A i) (nM m i) a row nm pc) 23 (aT A i + 5) n = gR u0 23 (aT A i + 5) n := wR _ _ _ (by omega) (by omega)
        rw [w5, same 0 (Or.inl (by rw [e8]; decide))]
        refine ⟨?_, q2⟩
        by_cases en : n = nm
        · rw [new 1 e8 en, en]
          rw [er] at wRr; rw [er]; exact wRr
        · rw [same 1 (Or.inr en), wR _ _ _ (by omega) (by omega)]; exact q1
      · have w4 : gR (wMb u (aT A i) (nM m i) a row nm pc) 23 (aT A i + 4) n = gR u0 23 (aT A i + 4) n := wR _ _ _ (by omega) (by omega)
        rw [w4, same 1 (Or.inl (by rw [e8]; decide))]
        refine ⟨q1, ?_⟩
        by_cases en : n = nm
        · rw [new 0 e8 en, en]
          rw [er] at wRr; rw [er]; exact wRr
        · rw [same 0 (Or.inr en), wR _ _ _ (by omega) (by omega)]; exact q2
    · have h1 := (hR.tk i hi).2.1
      have d1 : ∀ x y, (x = 4 ∨ x = 5) → (y = 3 ∨ y = 4 ∨ y = 5) → aT A i + x = aT A t + y → False := by
        intro x y hx hy z
        have hne := tne i hi e
        have c : aT A i + 1 = aT A t ∨ aT A i + 2 = aT A t ∨ aT A i = aT A t + 1 := by omega
        rcases c with c | c | c
        · have := (hR.tk i hi).2.2.1
          rw [c, t2] at this; omega
        · have := (hR.tk i hi).2.2.2.1
          rw [c, t2] at this; omega
        · rw [c, t3] at h1; omega
      rw [old 1 (h.emb e (n10 i hi) _ _), old 0 (h.emb e (n10 i hi) _ _), wR _ _ _ (fun z => d1 4 3 (by omega) (by omega) z.2.1) (fun z => d1 4 row (by omega) (by omega) z.2.1), wR _ _ _ (fun z => d1 5 3 (by omega) (by omega) z.2.1) (fun z => d1 5 row (by omega) (by omega) z.2.1)]
      exact ⟨q1, q2⟩
  · exact hLe
  · have enX : nX m' = nX m := by unfold nX; rw [emi]
    refine ⟨fun x hx => ?_, fun x y hx hy z => hR.xk.2 x y (by omega) (by omega) z⟩
    simp only [wN]
    have := hR.xk.1 x (by omega)
    exact ⟨(oth 72 x _ k72.1 (by omega)).trans this.1, this.2⟩
  · intro x hx
    have enX : nX m' = nX m := by unfold nX; rw [emi]
    have := hR.xs x (by omega)
    unfold dX bX sX at *
    rw [rows 19 (by omega), rows 20 (by omega), rows 21 (by omega), wR 5 0 _ (by omega) (by omega), wR 5 3 _ (by omega) (by omega), wI 5 1 _ (by omega), wI 5 2 _ (by omega)]
    simp only [wN]
    exact this
  · intro x i hx hi
    have enX : nX m' = nX m := by unfold nX; rw [emi]
    unfold sX at hi
    unfold pX
    rw [rows 21 (by omega)] at hi
    rw [wJ 21 _ _ (by omega), rows 22 (by omega), h.2.2.2.2.2.1 23 (by omega)]
    exact hR.xj x i (by omega) hi
  · intro x hx
    have enH : nH m' = nH m := by unfold nH; rw [emi]
    have hx : x < nH m := by omega
    obtain ⟨q1, q2, q3, q4, q5⟩ := hR.hd x hx
    have ehA : hA m' x = hA m x := by unfold hA; rw [rows 26 (by omega)]
    have ehC : hC m' x = hC m x := by unfold hC; rw [rows 24 (by omega)]
    rw [ehA, ehC, rows 25 (by omega), rows 26 (by omega), wR 1 0 _ (by omega) (by omega), wR 1 1 _ (by omega) (by omega), wI 1 2 _ (by omega)]
    simp only [wN]
    refine ⟨(oth 74 x _ k74.1 (by omega)).trans q1, q2, q3, ?_, q5⟩
    show gR u0 1 1 (aH A x) = cIf (ma m 25 x = 0) (some (aB (aBn A (10 * t + nM m t) a) (hA m x))) none
    rw [q4]
    by_cases c : ma m 25 x = 0
    · rw [cIf_t c, cIf_t c]
      obtain ⟨z1, z2, z3, z4, z5, z6⟩ := hH.2.2 x hx
      rcases z6 with ⟨-, ⟨d, j, f0, f1, f2, f3, f4, -⟩, -⟩ | z6
      · rw [f0, bn d j f1 f3]
      · rw [c] at z6; exact absurd z6.1 (by decide)
    · rw [cIf_f c, cIf_f c]
  · refine ⟨fun k hk => ?_, fun k l hk hl c1 c2 z => hR.ck.2 k l hk hl (by rw [rows 28 (by omega)] at c1; exact c1) (by rw [rows 28 (by omega)] at c2; exact c2) z⟩
    unfold cN
    rw [rows 28 (by omega), rows 29 (by omega), rows 30 (by omega), oth 76 k _ k76.1 (by omega), wI 0 0 _ (by omega), wR 0 1 _ (by omega) (by omega)]
    simp only [wN]
    exact hR.ck.1 k hk
  · intro k i hk c hi
    unfold cN at hi
    rw [rows 28 (by omega)] at c
    rw [rows 30 (by omega)] at hi
    rw [wJ 21 _ _ (by omega), h.2.2.2.2.2.1 31 (by omega)]
    exact hR.cj k i hk c hi
  · have enQ : nQ m' = nQ m := by unfold nQ; rw [emi]
    refine ⟨fun q hq => ?_, fun p q hp hq z => hR.qk.2 p q (by omega) (by omega) z⟩
    rw [oth 77 q _ k77.1 (by omega), wR 3 0 _ (by omega) (by omega), wR 3 1 _ (by omega) (by omega), wR 3 2 _ (by omega) (by omega), wR 3 3 _ (by omega) (by omega)]
    simp only [wN]
    exact hR.qk.1 q (by omega)
  · intro q hq
    have enQ : nQ m' = nQ m := by unfold nQ; rw [emi]
    have hq : q < nQ m := by omega
    obtain ⟨v1, v2⟩ := hR.qm q hq
    refine ⟨by rw [wI 3 4 _ (by omega), rows 32 (by omega)]; exact v1, fun i hi => ?_⟩
    unfold tQ at hi
    rw [rows 32 (by omega)] at hi
    unfold tH
    rw [rows 33 (by omega), rows 34 (by omega), rows 36 (by omega), h.2.2.2.2.2.1 35 (by omega)]
    obtain ⟨x1, x2, x3, x4⟩ := v2 i hi
    exact ⟨(oth _ i _ (hR.qk.1 q hq).2.2.1 (by omega)).trans x1, (wI 20 _ _ (by omega)).trans x2, (wJ 21 _ _ (by omega)).trans x3, (wI 20 _ _ (by omega)).trans x4⟩
  · have : MaT m (wMb u (aT A t) (nM m t) a row nm pc) := by
      obtain ⟨z1, z2, z3, z4, z5⟩ := hR.mt
      refine ⟨?_, ?_, ?_, ?_, ?_⟩
      all_goals (rw [wI _ _ _ (by omega)]; assumption)
    exact MaT.cg this (emi 1) (emi 22) (emi 29) e0.2.1 (rows 4 (by omega))
  · obtain ⟨z1, z2⟩ := hR.mr
    refine ⟨by rw [wI 4 5 _ (by omega), emi]; exact z1, fun i hi => ?_⟩
    unfold nTr at hi
    rw [emi] at hi
    rw [wI 20 75 _ (by omega), rows 27 (by omega)]
    exact z2 i hi
  · obtain ⟨z1, z2, z3, z4, z5, z6, z7⟩ := hR.mq
    refine ⟨?_, ?_, ?_, ?_, ?_, ?_, fun i hi => ?_⟩
    · rw [wI _ _ _ (by omega), emi]; exact z1
    · rw [wI _ _ _ (by omega), emi]; exact z2
    · rw [wI _ _ _ (by omega), emi]; exact z3
    · rw [wI _ _ _ (by omega), emi]; exact z4
    · rw [wI _ _ _ (by omega), emi]; exact z5
    · rw [wI _ _ _ (by omega), emi]; exact z6
    · unfold nHt at hi
      rw [emi] at hi
      rw [wI 20 78 _ (by omega), rows 37 (by omega)]
      exact z7 i hi
end
