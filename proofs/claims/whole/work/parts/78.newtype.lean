/-! ===== a type more: what stays ===== -/
def NwT (m m' : qSt) : Prop := mi m' 1 = nI (nT m + 1) ∧ nT m < 100 ∧ (∀ r i, ¬ (r ≤ 3 ∧ i = nT m) → ma m' r i = ma m r i) ∧ (∀ r, ml m' r = ml m r) ∧ (∀ k, k ≠ 1 → mi m' k = mi m k)
section
variable {m m' : qSt}
theorem NwT.eT (h : NwT m m') : nT m' = nT m + 1 := by show tn (mi m' 1) = _; rw [h.1]; exact tn_nI (by have := h.2.1; omega)
theorem NwT.at (h : NwT m m') {i : Nat} (hi : i ≠ nT m) (r : Nat) : ma m' r i = ma m r i := h.2.2.1 r i (by omega)
theorem NwT.rw (h : NwT m m') {r : Nat} (hr : 3 < r) : ma m' r = ma m r := by funext i; exact h.2.2.1 r i (by omega)
theorem NwT.up (h : NwT m m') {i : Nat} (hi : i ≠ nT m) : upN m' i = upN m i := by show tn (ma m' 1 i) = tn (ma m 1 i); rw [h.at hi]
theorem NwT.of (h : NwT m m') {i : Nat} (hi : i ≠ nT m) : ofN m' i = ofN m i := by show tn (ma m' 2 i) = tn (ma m 2 i); rw [h.at hi]
theorem NwT.ba (h : NwT m m') (hI : TInv m) {t : Nat} (ht : t < nT m) : baN m' t = baN m t := by
  have e : ∀ n t, t < nT m → baF m' n t = baF m n t := by
    intro n
    induction n with
    | zero => intro c _; rfl
    | succ n ih =>
      intro c hc
      show cIf (ma m' 0 c = 3 ∨ ma m' 0 c = 4) (baF m' n (ofN m' c)) c = cIf (ma m 0 c = 3 ∨ ma m 0 c = 4) (baF m n (ofN m c)) c
      rw [h.at (by omega), h.of (by omega)]
      by_cases hs : ma m 0 c = 3 ∨ ma m 0 c = 4
      · rw [cIf_t hs, cIf_t hs, ih _ (by have := (hI.of hc hs).2; omega)]
      · rw [cIf_f hs, cIf_f hs]
  exact e _ _ ht
theorem NwT.dp (h : NwT m m') (hI : TInv m) {t : Nat} (ht : t < nT m) : dpN m' t = dpN m t := by
  have e : ∀ n t, t < nT m → dpF m' n t = dpF m n t := by
    intro n
    induction n with
    | zero => intro c _; rfl
    | succ n ih =>
      intro c hc
      show cIf (ma m' 0 c = 3) (dpF m' n (ofN m' c)) (cIf (ma m' 0 c = 4) (dpF m' n (ofN m' c) + 1) 0) = cIf (ma m 0 c = 3) (dpF m n (ofN m c)) (cIf (ma m 0 c = 4) (dpF m n (ofN m c) + 1) 0)
      rw [h.at (by omega), h.of (by omega)]
      by_cases hs : ma m 0 c = 3
      · rw [cIf_t hs, cIf_t hs, ih _ (by have := (hI.of hc (Or.inl hs)).2; omega)]
      · rw [cIf_f hs, cIf_f hs]
        by_cases hs4 : ma m 0 c = 4
        · rw [cIf_t hs4, cIf_t hs4, ih _ (by have := (hI.of hc (Or.inr hs4)).2; omega)]
        · rw [cIf_f hs4, cIf_f hs4]
  exact e _ _ ht
theorem NwT.sq (h : NwT m m') (hI : TInv m) {t : Nat} (ht : t < nT m) : sqN m' t = sqN m t := by
  have e : ∀ n t, t < nT m → sqF m' n t = sqF m n t := by
    intro n
    induction n with
    | zero => intro c _; rfl
    | succ n ih =>
      intro c hc
      show cIf (ma m' 0 c = 4) (sqF m' n (ofN m' c)) c = cIf (ma m 0 c = 4) (sqF m n (ofN m c)) c
      rw [h.at (by omega), h.of (by omega)]
      by_cases hs : ma m 0 c = 4
      · rw [cIf_t hs, cIf_t hs, ih _ (by have := (hI.of hc (Or.inr hs)).2; omega)]
      · rw [cIf_f hs, cIf_f hs]
  exact e _ _ ht
theorem NwT.ab (h : NwT m m') (hI : TInv m) {t : Nat} (ht : t < nT m) (hs : ma m 0 t = 1) : abvs m' t = abvs m t := by
  have e : ∀ n t, t < nT m → ma m 0 t = 1 → chF m' n t = chF m n t := by
    intro n
    induction n with
    | zero => intro c _ _; rfl
    | succ n ih =>
      intro c hc hs
      show c :: (if c = 8 then [] else chF m' n (upN m' c)) = c :: (if c = 8 then [] else chF m n (upN m c))
      by_cases h8 : c = 8
      · rw [if_pos h8, if_pos h8]
      · obtain ⟨-, -, u3, u4⟩ := hI.up hc hs h8
        rw [if_neg h8, if_neg h8, h.up (by omega), ih _ (by omega) u4]
  exact e _ _ ht hs
theorem NwT.etl (h : NwT m m') : tld m' = tld m := by
  funext t g
  show (∃ k, k < tn (ma m' 5 t) ∧ tn (ma m' 6 (4 * t + k)) = g) = _
  rw [h.rw (by omega), h.rw (by omega)]; rfl
theorem NwT.eF1 (h : NwT m m') : FO1 m' = FO1 m := by funext t f; show (∀ P : Nat → Prop, (∀ g, tld m' t g → P g) → (∀ a g, P a → tld m' a g → P g) → P f) = _; rw [h.etl]; rfl
theorem NwT.eFO (h : NwT m m') (hI : TInv m) {t : Nat} (ht : t < nT m) (f : Nat) : FOf m' t f ↔ FOf m t f := by
  unfold FOf
  rw [h.at (by omega), h.eF1]
  constructor
  · rintro (z | ⟨z1, z2⟩)
    · exact Or.inl z
    · rw [h.ab hI ht z1] at z2; exact Or.inr ⟨z1, z2⟩
  · rintro (z | ⟨z1, z2⟩)
    · exact Or.inl z
    · rw [← h.ab hI ht z1] at z2; exact Or.inr ⟨z1, z2⟩
theorem NwT.eM (h : NwT m m') : nM m' = nM m := by funext i; show tn (ma m' 7 i) = tn (ma m 7 i); rw [h.rw (by omega)]
theorem NwT.emb (h : NwT m m') : mby m' = mby m := by
  funext t name fld
  have e : ∀ k, mbF m' t name fld k = mbF m t name fld k := by
    intro k
    induction k with
    | zero => rfl
    | succ k ih =>
      show cIf _ _ (mbF m' t name fld k) = cIf _ _ (mbF m t name fld k)
      rw [ih, h.rw (r := 8) (by omega), h.rw (r := 9) (by omega)]
  show mbF m' t name fld (nM m' t) = mbF m t name fld (nM m t)
  rw [e, h.eM]
theorem NwT.eiv (h : NwT m m') : ivF m' = ivF m := by
  funext c k
  induction k with
  | zero => rfl
  | succ k ih =>
    show ivF m' c k ++ cIf (isP m' (10 * c + k)) [laneV (ma m' 10 (10 * c + k))] [] = ivF m c k ++ cIf (isP m (10 * c + k)) [laneV (ma m 10 (10 * c + k))] []
    unfold isP
    rw [ih, h.rw (r := 8) (by omega), h.rw (r := 11) (by omega), h.rw (r := 10) (by omega)]
theorem NwT.epf (h : NwT m m') : pcF m' = pcF m := by funext c k; unfold pcF; rw [h.eiv]
theorem NwT.epc (h : NwT m m') : pcN m' = pcN m := by funext c; unfold pcN ivC; rw [h.eiv, h.eM]
/-- nothing is told of a type that is not there -/
theorem nF_0 (hI : TInv m) {i : Nat} (h1 : nT m ≤ i) (h2 : i < 100) : nF m i = 0 ∧ nM m i = 0 ∧ ma m 7 i = 0 ∧ ma m 4 i = 0 := by
  have a := (hI.fac h2).2.2.1
  have b := (hI.mbs h2)
  have c := (hI.flg h2).2.2.2 h1
  have z : nM m i = 0 := by have := b.2.2.1; omega
  refine ⟨by omega, z, ?_, c⟩
  rw [b.1, z]; rfl
theorem FO1_0 {t f : Nat} (h : nF m t = 0) : ¬ FO1 m t f := fun z => z (fun _ => False) (fun g ⟨k, hk, _⟩ => by omega) (fun _ _ p _ => p)
theorem mby_0 {t : Nat} {n fl : Int32} (h : nM m t = 0) : mby m t n fl = -1 := by unfold mby; rw [h]; rfl
theorem NwT.tinv (h : NwT m m') (hI : TInv m) (hk : TyKind m' (nT m)) (ho : ma m' 3 (nT m) = 0 ∨ ma m' 3 (nT m) = 1) : TInv m' := by
  have h100 := hI.le
  have hlt := h.2.1
  have eT := h.eT
  have a0 : ∀ i, i < nT m → ma m' 0 i = ma m 0 i := fun i hi => h.at (by omega) 0
  refine ⟨⟨by rw [eT, h.1], by omega, by omega⟩, fun i hi => (a0 i (by omega)).trans (hI.lane hi), (a0 8 (by omega)).trans hI.any, (h.at (by omega) 1).trans hI.2.2.2.1, fun i h9 hi => ?_, fun i hi => ⟨?_, ?_, ?_⟩⟩
  · by_cases e : i = nT m
    · rw [e]; exact hk
    · have hi2 : i < nT m := by omega
      unfold TyKind
      rw [h.at e 0, h.at e 1, h.at e 2, h.up e, h.of e]
      rcases hI.kind h9 hi2 with ⟨q1, q2, q3, q4, q5⟩ | q | ⟨q1, q2, q3, q4, q5, q6⟩ | q
      · exact Or.inl ⟨q1, q2, q3, q4, (a0 _ (by omega)).trans q5⟩
      · exact Or.inr (Or.inl q)
      · exact Or.inr (Or.inr (Or.inl ⟨q1, q2, q3, q4, (a0 _ (by omega)).trans q5, q6⟩))
      · exact Or.inr (Or.inr (Or.inr q))
  · obtain ⟨f1, f2, f3, f4⟩ := hI.fac hi
    have e5 : nF m' i = nF m i := by show tn (ma m' 5 i) = tn (ma m 5 i); rw [h.rw (by omega)]
    have e6 : ∀ j, fcN m' i j = fcN m i j := fun j => by show tn (ma m' 6 _) = tn (ma m 6 _); rw [h.rw (by omega)]
    unfold FacOK
    rw [e5, h.rw (r := 5) (by omega), h.rw (r := 6) (by omega), eT]
    refine ⟨f1, f2, fun z => ?_, fun j hj => ?_⟩
    · obtain ⟨g1, g2, g3⟩ := f3 z
      rw [a0 i g2]
      exact ⟨g1, by omega, g3⟩
    · obtain ⟨g1, g2, g3, g4⟩ := f4 j hj
      rw [e6, a0 _ g3]
      exact ⟨g1, g2, by omega, g4⟩
  · obtain ⟨f1, f2, f3, f4⟩ := hI.mbs hi
    unfold MbsOK
    rw [h.eM, h.rw (r := 7) (by omega), eT]
    refine ⟨f1, f2, fun z => ?_, fun j hj => ?_⟩
    · obtain ⟨g1, g2, g3⟩ := f3 z
      rw [a0 i g2]
      exact ⟨g1, by omega, g3⟩
    · have hi2 := (f3 (by omega)).2.1
      have e9 : nmN m' = nmN m := by funext a; show tn (ma m' 9 a) = tn (ma m 9 a); rw [h.rw (by omega)]
      have e10 : tyN m' = tyN m := by funext a; show tn (ma m' 10 a) = tn (ma m 10 a); rw [h.rw (by omega)]
      have e12 : bdN m' = bdN m := by funext a; show tn (ma m' 12 a) = tn (ma m 12 a); rw [h.rw (by omega)]
      have e13 : nuN m' = nuN m := by funext a; show tn (ma m' 13 a) = tn (ma m 13 a); rw [h.rw (by omega)]
      have := f4 j hj
      unfold MemOK at this ⊢
      rw [e9, e10, e12, e13, h.rw (r := 8) (by omega), h.rw (r := 9) (by omega), h.rw (r := 10) (by omega), h.rw (r := 11) (by omega), h.rw (r := 12) (by omega), h.rw (r := 13) (by omega), a0 i hi2, eT]
      obtain ⟨g1, g2, g3, g4⟩ := this
      refine ⟨g1, g2, g3, ?_⟩
      rcases g4 with ⟨k1, k2, k3, k4⟩ | g4
      · exact Or.inl ⟨k1, k2, k3, by omega⟩
      · exact Or.inr g4
  · obtain ⟨f1, f2, f3, f4⟩ := hI.flg hi
    unfold FlgOK
    rw [h.rw (r := 4) (by omega), eT]
    by_cases e : i = nT m
    · rw [e]
      exact ⟨ho, by rw [e] at f2; exact f2, fun z => by omega, fun z => by omega⟩
    · rw [h.at e 3]
      exact ⟨f1, f2, fun z => f3 (by omega), fun z => f4 (by omega)⟩
theorem NwT.ainv (h : NwT m m') (hA : AInv m) : AInv m' := by unfold AInv; rw [h.eF1]; exact hA
theorem NwT.xinv (h : NwT m m') (hI : TInv m) (hX : XInv m) : XInv m' := by
  have eb : bX m' = bX m := by funext a; show tn (ma m' 19 a) = tn (ma m 19 a); rw [h.rw (by omega)]
  have ed : dX m' = dX m := by funext a; show tn (ma m' 20 a) = tn (ma m 20 a); rw [h.rw (by omega)]
  have es : sX m' = sX m := by funext a; show tn (ma m' 21 a) = tn (ma m 21 a); rw [h.rw (by omega)]
  have ep : pX m' = pX m := by funext a; show tn (ma m' 22 a) = tn (ma m 22 a); rw [h.rw (by omega)]
  have en : nX m' = nX m := by unfold nX; rw [h.2.2.2.2 22 (by omega)]
  unfold XInv
  rw [en, ep, h.rw (r := 22) (by omega), h.2.2.2.2 22 (by omega)]
  refine ⟨hX.1, hX.2.1, hX.2.2.1, fun x hx => ?_⟩
  obtain ⟨z1, z2, z3, z4, z5, z6, z7, z8⟩ := hX.2.2.2 x hx
  unfold XOK
  rw [eb, ed, es, ep, h.rw (r := 19) (by omega), h.rw (r := 20) (by omega), h.rw (r := 21) (by omega), h.rw (r := 4) (by omega), h.at (i := bX m x) (by omega) 0, h.eT]
  refine ⟨z1, by omega, z3, z4, z5, z6, z7, ?_⟩
  rcases z8 with ⟨y1, y2, y3, y4⟩ | y
  · refine Or.inl ⟨y1, y2, ?_, ?_⟩
    · rw [h.ab hI z2 y2]
      have e : ∀ l, ivL m' l = ivL m l := by
        intro l
        induction l with
        | nil => rfl
        | cons c l ih => show ivF m' c (nM m' c) ++ ivL m' l = ivF m c (nM m c) ++ ivL m l; rw [ih, h.eiv, h.eM]
      rw [e]; exact y3
    · rw [h.ab hI z2 y2]; exact y4
  · exact Or.inr y
theorem NwT.hinv (h : NwT m m') (hI : TInv m) (hH : HInv m) : HInv m' := by
  have h100 := hI.le
  have eh : hA m' = hA m := by funext a; show tn (ma m' 26 a) = tn (ma m 26 a); rw [h.rw (by omega)]
  have ec : hC m' = hC m := by funext a; show tn (ma m' 24 a) = tn (ma m 24 a); rw [h.rw (by omega)]
  have en : nH m' = nH m := by unfold nH; rw [h.2.2.2.2 29 (by omega)]
  unfold HInv
  rw [en, h.2.2.2.2 29 (by omega)]
  refine ⟨hH.1, hH.2.1, fun x hx => ?_⟩
  obtain ⟨z1, z2, z3, z4, z5, z6⟩ := hH.2.2 x hx
  unfold HdOK
  rw [ec, eh, h.rw (r := 24) (by omega), h.rw (r := 25) (by omega), h.rw (r := 26) (by omega), h.at (i := hC m x) (by omega) 0, h.ab hI z2 z4, h.eT]
  refine ⟨z1, by omega, z3, z4, z5, ?_⟩
  rcases z6 with ⟨y1, y2, y3⟩ | y
  · refine Or.inl ⟨y1, ?_, y3⟩
    obtain ⟨d, j, f0, f1, f2, f3, f4, f5, f6⟩ := y2
    exact ⟨d, j, f0, by rw [h.eT]; omega, f2, by rw [h.eM]; exact f3, f4, by rw [h.rw (by omega)]; exact f5, by rw [h.at (by omega)]; exact f6⟩
  · exact Or.inr y
/-- the rows told of the old types -/
theorem rfF_snoc (m : qSt) (x : Int32) : ∀ (k i : Nat), rfF m x (k + 1) i = match rfF m x k i with
    | some r => some r
    | none => cIf (ma m 0 (i + k) = 4 ∧ ma m 2 (i + k) = x) (some (i + k)) none
  | 0, i => rfl
  | k + 1, i => by
    show cIf (ma m 0 i = 4 ∧ ma m 2 i = x) (some i) (rfF m x (k + 1) (i + 1)) = match cIf (ma m 0 i = 4 ∧ ma m 2 i = x) (some i) (rfF m x k (i + 1)) with
      | some r => some r
      | none => _
    by_cases c : ma m 0 i = 4 ∧ ma m 2 i = x
    · rw [cIf_t c, cIf_t c]
    · rw [cIf_f c, cIf_f c, rfF_snoc m x k (i + 1), show i + 1 + k = i + (k + 1) by omega]
theorem NwT.rf (h : NwT m m') (hI : TInv m) (x : Int32) : rfN m' x = match rfN m x with
    | some r => some r
    | none => cIf (ma m' 0 (nT m) = 4 ∧ ma m' 2 (nT m) = x) (some (nT m)) none := by
  have h100 := hI.le
  have key : ∀ (k i : Nat), i + k ≤ nT m → rfF m' x k i = rfF m x k i := by
    intro k
    induction k with
    | zero => exact fun _ _ => rfl
    | succ k ih =>
      intro i hi
      show cIf (ma m' 0 i = 4 ∧ ma m' 2 i = x) (some i) (rfF m' x k (i + 1)) = cIf (ma m 0 i = 4 ∧ ma m 2 i = x) (some i) (rfF m x k (i + 1))
      rw [ih _ (by omega), h.at (by omega), h.at (by omega)]
  show rfF m' x (nT m' - 9) 9 = _
  rw [h.eT, show nT m + 1 - 9 = (nT m - 9) + 1 by omega, rfF_snoc, key _ _ (by omega), show 9 + (nT m - 9) = nT m by omega]
  rfl
theorem NwT.ecs (h : NwT m m') (hI : TInv m) : csF m' (nT m') = csF m (nT m) + cIf (ma m' 0 (nT m) = 1) 1 0 := by
  have h100 := hI.le
  have key : ∀ n, n ≤ nT m → csF m' n = csF m n := by
    intro n
    induction n with
    | zero => exact fun _ => rfl
    | succ n ih => intro hn; show csF m' n + cIf (8 < n ∧ ma m' 0 n = 1) 1 0 = csF m n + cIf (8 < n ∧ ma m 0 n = 1) 1 0; rw [ih (by omega), h.at (by omega)]
  rw [h.eT]
  show csF m' (nT m) + cIf (8 < nT m ∧ ma m' 0 (nT m) = 1) 1 0 = _
  rw [key _ (Nat.le_refl _)]
  by_cases c : ma m' 0 (nT m) = 1
  · rw [cIf_t c, cIf_t ⟨by omega, c⟩]
  · rw [cIf_f c, cIf_f (fun z => c z.2)]
theorem NwT.ecl (h : NwT m m') (hI : TInv m) : clF m' (nT m') = clF m (nT m) := by
  have h100 := hI.le
  have key : ∀ n, clF m' n = clF m n := by
    intro n
    induction n with
    | zero => rfl
    | succ n ih => show clF m' n + cIf (ma m' 4 n = 0) 0 1 = clF m n + cIf (ma m 4 n = 0) 0 1; rw [ih, h.rw (r := 4) (by omega)]
  rw [h.eT]
  show clF m' (nT m) + cIf (ma m' 4 (nT m) = 0) 0 1 = _
  rw [key, h.rw (r := 4) (by omega), cIf_t (nF_0 hI (Nat.le_refl _) h.2.1).2.2.2]
  rfl
end
