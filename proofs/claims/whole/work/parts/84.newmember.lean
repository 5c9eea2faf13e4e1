/-! ===== a member more: what stays ===== -/
def NwM (m m' : qSt) (t : Nat) : Prop := ma m' 7 t = nI (nM m t + 1) ∧ (∀ i, i ≠ t → ma m' 7 i = ma m 7 i) ∧ (∀ r a, 8 ≤ r → r ≤ 13 → a ≠ 10 * t + nM m t → ma m' r a = ma m r a) ∧ (∀ r, r < 7 ∨ 13 < r → ma m' r = ma m r) ∧ (∀ a, a ≠ 10 * t + nM m t → ml m' 14 a = ml m 14 a) ∧ (∀ r, r ≠ 14 → ml m' r = ml m r) ∧ (∀ k, mi m' k = mi m k) ∧ nM m t < 10
section
variable {m m' : qSt} {t : Nat}
theorem NwM.te (h : NwM m m' t) : TE0 m m' := ⟨h.2.2.2.2.2.2.1 1, h.2.2.2.1 0 (by omega), h.2.2.2.1 1 (by omega), h.2.2.2.1 2 (by omega)⟩
theorem NwM.fe (h : NwM m m' t) : FE m m' := ⟨h.2.2.2.1 5 (by omega), h.2.2.2.1 6 (by omega)⟩
theorem NwM.eM (h : NwM m m' t) (i : Nat) : nM m' i = if i = t then nM m t + 1 else nM m i := by
  show tn (ma m' 7 i) = _
  by_cases e : i = t
  · rw [if_pos e, e, h.1]; exact tn_nI (by have := h.2.2.2.2.2.2.2; omega)
  · rw [if_neg e, h.2.1 i e]; rfl
theorem NwM.at (h : NwM m m' t) {r i j : Nat} (h8 : 8 ≤ r) (h13 : r ≤ 13) (hj : j < 10) (hne : i ≠ t ∨ j < nM m t) : ma m' r (10 * i + j) = ma m r (10 * i + j) := by
  have := h.2.2.2.2.2.2.2
  exact h.2.2.1 r _ h8 h13 (by omega)
theorem NwM.embF (h : NwM m m' t) {i k : Nat} (n f : Int32) (hk : k ≤ 10) (hne : i ≠ t ∨ k ≤ nM m t) : mbF m' i n f k = mbF m i n f k := by
  induction k with
  | zero => rfl
  | succ k ih =>
    show cIf (ma m' 8 (10 * i + k) = f ∧ ma m' 9 (10 * i + k) = n) (nI k) (mbF m' i n f k) = cIf (ma m 8 (10 * i + k) = f ∧ ma m 9 (10 * i + k) = n) (nI k) (mbF m i n f k)
    rw [ih (by omega) (by omega), h.at (by omega) (by omega) (by omega) (by omega), h.at (by omega) (by omega) (by omega) (by omega)]
theorem NwM.emb (h : NwM m m' t) {i : Nat} (hi : i ≠ t) (h10 : nM m i ≤ 10) (n f : Int32) : mby m' i n f = mby m i n f := by
  unfold mby
  rw [h.eM, if_neg hi]
  exact h.embF n f h10 (Or.inl hi)
theorem NwM.embt (h : NwM m m' t) (n f : Int32) : mby m' t n f = cIf (ma m' 8 (10 * t + nM m t) = f ∧ ma m' 9 (10 * t + nM m t) = n) (nI (nM m t)) (mby m t n f) := by
  have := h.2.2.2.2.2.2.2
  show mbF m' t n f (nM m' t) = _
  rw [h.eM, if_pos rfl]
  show cIf (ma m' 8 (10 * t + nM m t) = f ∧ ma m' 9 (10 * t + nM m t) = n) (nI (nM m t)) (mbF m' t n f (nM m t)) = _
  rw [h.embF n f (by omega) (Or.inr (Nat.le_refl _))]
  rfl
theorem NwM.eiv (h : NwM m m' t) {i k : Nat} (hk : k ≤ 10) (hne : i ≠ t ∨ k ≤ nM m t) : ivF m' i k = ivF m i k := by
  induction k with
  | zero => rfl
  | succ k ih =>
    show ivF m' i k ++ cIf (isP m' (10 * i + k)) [laneV (ma m' 10 (10 * i + k))] [] = ivF m i k ++ cIf (isP m (10 * i + k)) [laneV (ma m 10 (10 * i + k))] []
    unfold isP
    rw [ih (by omega) (by omega), h.at (r := 8) (by omega) (by omega) (by omega) (by omega), h.at (r := 11) (by omega) (by omega) (by omega) (by omega), h.at (r := 10) (by omega) (by omega) (by omega) (by omega)]
theorem NwM.epf (h : NwM m m' t) {i k : Nat} (hk : k ≤ 10) (hne : i ≠ t ∨ k ≤ nM m t) : pcF m' i k = pcF m i k := by unfold pcF; rw [h.eiv hk hne]
theorem NwM.epc (h : NwM m m' t) {i : Nat} (hi : i ≠ t) (h10 : nM m i ≤ 10) : pcN m' i = pcN m i := by
  unfold pcN ivC
  rw [h.eM, if_neg hi, h.eiv h10 (Or.inl hi)]
theorem NwM.epct (h : NwM m m' t) : pcN m' t = pcN m t + cIf (isP m' (10 * t + nM m t)) 1 0 := by
  have := h.2.2.2.2.2.2.2
  unfold pcN ivC
  rw [h.eM, if_pos rfl]
  show (ivF m' t (nM m t) ++ cIf (isP m' (10 * t + nM m t)) [laneV (ma m' 10 (10 * t + nM m t))] []).length = _
  rw [h.eiv (by omega) (Or.inr (Nat.le_refl _)), List.length_append]
  by_cases c : isP m' (10 * t + nM m t)
  · rw [cIf_t c, cIf_t c]; rfl
  · rw [cIf_f c, cIf_f c]; rfl
theorem NwM.tinv (h : NwM m m' t) (hI : TInv m) (ht : t < nT m) (ht9 : 9 ≤ t) (hk : ma m 0 t = 1 ∨ ma m 0 t = 2) (hm : MemOK m' t (nM m t) (10 * t + nM m t)) : TInv m' := by
  have h100 := hI.le
  have hlt := h.2.2.2.2.2.2.2
  obtain ⟨a1, a2, a3, a4, a5, a6⟩ := id hI
  have r0 := h.te.2.1
  have r1 := h.te.2.2.1
  have r2 := h.te.2.2.2
  refine ⟨by unfold TyOK; rw [h.te.eT, h.te.1]; exact a1, by rw [r0]; exact a2, by rw [r0]; exact a3, by rw [r1]; exact a4, fun i h9 hi => ?_, fun i hi => ⟨?_, ?_, ?_⟩⟩
  · rw [h.te.eT] at hi
    unfold TyKind
    rw [r0, r1, r2, h.te.eup, h.te.eof]
    exact a5 i h9 hi
  · unfold FacOK
    rw [h.fe.eF, h.fe.efc, h.fe.1, h.fe.2, h.te.eT, r0]
    exact (a6 i hi).1
  · obtain ⟨f1, f2, f3, f4⟩ := (a6 i hi).2.1
    unfold MbsOK
    rw [h.eM, h.te.eT, r0]
    have old : ∀ j, j < nM m i → (i ≠ t ∨ j < nM m t) → MemOK m' i j (10 * i + j) := by
      intro j hj hne
      have hM := f4 j hj
      unfold MemOK nmN tyN bdN nuN at hM ⊢
      rw [h.at (r := 8) (by omega) (by omega) (by omega) hne, h.at (r := 9) (by omega) (by omega) (by omega) hne, h.at (r := 10) (by omega) (by omega) (by omega) hne, h.at (r := 11) (by omega) (by omega) (by omega) hne, h.at (r := 12) (by omega) (by omega) (by omega) hne, h.at (r := 13) (by omega) (by omega) (by omega) hne, h.te.eT, r0]
      obtain ⟨g1, g2, g3, g4⟩ := hM
      refine ⟨g1, g2, g3, ?_⟩
      rcases g4 with g4 | ⟨k1, k2, k3, k4, k5, k6⟩
      · exact Or.inl g4
      · refine Or.inr ⟨k1, k2, k3, k4, fun z => ?_, k6⟩
        obtain ⟨q1, q2, q3, q4⟩ := k5 z
        refine ⟨q1, q2, q3, ?_⟩
        have : tn (ma m 13 (10 * i + j)) < 10 := by omega
        rw [h.at (r := 8) (by omega) (by omega) this (by omega)]
        exact q4
    by_cases e : i = t
    · subst e
      rw [if_pos rfl]
      refine ⟨h.1, by omega, fun _ => ⟨ht9, ht, hk⟩, fun j hj => ?_⟩
      by_cases ej : j = nM m i
      · rw [ej]; exact hm
      · exact old j (by omega) (Or.inr (by omega))
    · rw [if_neg e, h.2.1 i e]
      exact ⟨f1, f2, f3, fun j hj => old j hj (Or.inl e)⟩
  · unfold FlgOK
    rw [h.te.eT, h.2.2.2.1 3 (by omega), h.2.2.2.1 4 (by omega)]
    exact (a6 i hi).2.2
theorem NwM.ainv (h : NwM m m' t) (hA : AInv m) : AInv m' := by unfold AInv; rw [h.fe.eF1]; exact hA
theorem NwM.xinv (h : NwM m m' t) (hI : TInv m) (hX : XInv m) (ht : t < nT m) (hc : ma m 4 t = 0) : XInv m' := by
  have h100 := hI.le
  have r : ∀ r, 13 < r → ma m' r = ma m r := fun r hr => h.2.2.2.1 r (Or.inr hr)
  have eb : bX m' = bX m := by funext a; unfold bX; rw [r 19 (by omega)]
  have ed : dX m' = dX m := by funext a; unfold dX; rw [r 20 (by omega)]
  have es : sX m' = sX m := by funext a; unfold sX; rw [r 21 (by omega)]
  have ep : pX m' = pX m := by funext a; unfold pX; rw [r 22 (by omega)]
  have en : nX m' = nX m := by unfold nX; rw [h.2.2.2.2.2.2.1 22]
  unfold XInv
  rw [en, ep, r 22 (by omega), h.2.2.2.2.2.2.1 22]
  refine ⟨hX.1, hX.2.1, hX.2.2.1, fun x hx => ?_⟩
  obtain ⟨z1, z2, z3, z4, z5, z6, z7, z8⟩ := hX.2.2.2 x hx
  unfold XOK
  rw [eb, ed, es, ep, r 19 (by omega), r 20 (by omega), r 21 (by omega), h.2.2.2.1 4 (by omega), h.te.2.1, h.te.eT, h.te.eab]
  refine ⟨z1, z2, z3, z4, z5, z6, z7, ?_⟩
  rcases z8 with ⟨y1, y2, y3, y4⟩ | y
  · refine Or.inl ⟨y1, y2, ?_, y4⟩
    have e : ∀ l : List Nat, (∀ d ∈ l, d < 100 ∧ ma m 4 d = 1) → ivL m' l = ivL m l := by
      intro l
      induction l with
      | nil => exact fun _ => rfl
      | cons c l ih =>
        intro hl
        obtain ⟨hc1, hc2⟩ := hl c (List.mem_cons_self)
        have hct : c ≠ t := fun z => by rw [z, hc] at hc2; exact absurd hc2 (by decide)
        show ivF m' c (nM m' c) ++ ivL m' l = ivF m c (nM m c) ++ ivL m l
        rw [ih (fun d hd => hl d (List.mem_cons_of_mem _ hd)), h.eM, if_neg hct, h.eiv (hI.mbs hc1).2.1 (Or.inl hct)]
    rw [e _ (fun d hd => ⟨by have := (abvs_in hI _ z2 y2 d hd).2.1; omega, y4 d hd⟩)]
    exact y3
  · exact Or.inr y
theorem NwM.hinv (h : NwM m m' t) (hI : TInv m) (hH : HInv m) : HInv m' := by
  have h100 := hI.le
  have r : ∀ r, 13 < r → ma m' r = ma m r := fun r hr => h.2.2.2.1 r (Or.inr hr)
  have eh : hA m' = hA m := by funext a; unfold hA; rw [r 26 (by omega)]
  have ec : hC m' = hC m := by funext a; unfold hC; rw [r 24 (by omega)]
  have en : nH m' = nH m := by unfold nH; rw [h.2.2.2.2.2.2.1 29]
  unfold HInv
  rw [en, h.2.2.2.2.2.2.1 29]
  refine ⟨hH.1, hH.2.1, fun x hx => ?_⟩
  obtain ⟨z1, z2, z3, z4, z5, z6⟩ := hH.2.2 x hx
  unfold HdOK
  rw [ec, eh, r 24 (by omega), r 25 (by omega), r 26 (by omega), h.te.2.1, h.te.eab, h.te.eT]
  refine ⟨z1, z2, z3, z4, z5, ?_⟩
  rcases z6 with ⟨y1, y2, y3⟩ | y
  · refine Or.inl ⟨y1, ?_, y3⟩
    obtain ⟨d, j, f0, f1, f2, f3, f4, f5, f6⟩ := y2
    refine ⟨d, j, f0, by rw [h.te.eT]; exact f1, f2, ?_, f4, ?_, by rw [h.te.2.1]; exact f6⟩
    · rw [h.eM]; split
      · rename_i e; rw [e] at f3; omega
      · exact f3
    · rw [f0] at f5 ⊢
      rw [h.at (by omega) (by omega) f4 (by
        by_cases e : d = t
        · rw [e] at f3; exact Or.inr f3
        · exact Or.inl e)]
      exact f5
  · exact Or.inr y
end
