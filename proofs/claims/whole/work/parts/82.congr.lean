/-! ===== what depends on which rows of the types ===== -/
/-- sorts, above, of -/
def TE0 (m m' : qSt) : Prop := mi m' 1 = mi m 1 ∧ ma m' 0 = ma m 0 ∧ ma m' 1 = ma m 1 ∧ ma m' 2 = ma m 2
/-- faces -/
def FE (m m' : qSt) : Prop := ma m' 5 = ma m 5 ∧ ma m' 6 = ma m 6
/-- members -/
def ME (m m' : qSt) : Prop := ∀ r, 7 ≤ r → r ≤ 13 → ma m' r = ma m r
section
variable {m m' : qSt}
theorem TE0.eT (h : TE0 m m') : nT m' = nT m := by show tn (mi m' 1) = tn (mi m 1); rw [h.1]
theorem TE0.eup (h : TE0 m m') : upN m' = upN m := by funext i; show tn (ma m' 1 i) = tn (ma m 1 i); rw [h.2.2.1]
theorem TE0.eof (h : TE0 m m') : ofN m' = ofN m := by funext i; show tn (ma m' 2 i) = tn (ma m 2 i); rw [h.2.2.2]
theorem TE0.eab (h : TE0 m m') : abvs m' = abvs m := by
  funext c
  have e : ∀ n c, chF m' n c = chF m n c := by
    intro n
    induction n with
    | zero => intro c; rfl
    | succ n ih =>
      intro c
      show c :: (if c = 8 then [] else chF m' n (upN m' c)) = c :: (if c = 8 then [] else chF m n (upN m c))
      rw [ih, h.eup]
  exact e _ _
theorem TE0.eba (h : TE0 m m') : baN m' = baN m := by
  funext c
  have e : ∀ n c, baF m' n c = baF m n c := by
    intro n
    induction n with
    | zero => intro c; rfl
    | succ n ih =>
      intro c
      show cIf _ (baF m' n (ofN m' c)) c = cIf _ (baF m n (ofN m c)) c
      rw [ih, h.eof, h.2.1]
  exact e _ _
theorem TE0.edp (h : TE0 m m') : dpN m' = dpN m := by
  funext c
  have e : ∀ n c, dpF m' n c = dpF m n c := by
    intro n
    induction n with
    | zero => intro c; rfl
    | succ n ih =>
      intro c
      show cIf _ (dpF m' n (ofN m' c)) (cIf _ (dpF m' n (ofN m' c) + 1) 0) = cIf _ (dpF m n (ofN m c)) (cIf _ (dpF m n (ofN m c) + 1) 0)
      rw [ih, h.eof, h.2.1]
  exact e _ _
theorem TE0.esq (h : TE0 m m') : sqN m' = sqN m := by
  funext c
  have e : ∀ n c, sqF m' n c = sqF m n c := by
    intro n
    induction n with
    | zero => intro c; rfl
    | succ n ih =>
      intro c
      show cIf _ (sqF m' n (ofN m' c)) c = cIf _ (sqF m n (ofN m c)) c
      rw [ih, h.eof, h.2.1]
  exact e _ _
theorem TE0.erf (h : TE0 m m') : rfN m' = rfN m := by
  have key : ∀ (x : Int32) (k i : Nat), rfF m' x k i = rfF m x k i := by
    intro x k
    induction k with
    | zero => exact fun _ => rfl
    | succ k ih =>
      intro i
      show cIf (ma m' 0 i = 4 ∧ ma m' 2 i = x) (some i) (rfF m' x k (i + 1)) = cIf (ma m 0 i = 4 ∧ ma m 2 i = x) (some i) (rfF m x k (i + 1))
      rw [ih, h.2.1, h.2.2.2]
  funext x
  show rfF m' x (nT m' - 9) 9 = rfF m x (nT m - 9) 9
  rw [key, h.eT]
theorem TE0.erw (h : TE0 m m') : rwI m' = rwI m := by funext i; unfold rwI; rw [h.erf]
theorem TE0.eMb (h : TE0 m m') : hasMb m' = hasMb m := by funext i; unfold hasMb; rw [h.2.1]
theorem TE0.efr {A : qA} (h : TE0 m m') : frA A m' = frA A m := by funext i; unfold frA; rw [h.2.1, h.eup, h.eof]
theorem TE0.eow {A : qA} (h : TE0 m m') : owA A m' = owA A m := by funext i; unfold owA; rw [h.2.1, h.eup, h.esq]
theorem TE0.eml (h : TE0 m m') : mlN m' = mlN m := by funext i; unfold mlN; rw [h.eMb]
theorem FE.eF (h : FE m m') : nF m' = nF m := by funext i; show tn (ma m' 5 i) = tn (ma m 5 i); rw [h.1]
theorem FE.efc (h : FE m m') : fcN m' = fcN m := by funext i j; show tn (ma m' 6 _) = tn (ma m 6 _); rw [h.2]
theorem FE.etl (h : FE m m') : tld m' = tld m := by funext t g; show (∃ k, k < nF m' t ∧ fcN m' t k = g) = _; rw [h.eF, h.efc]; rfl
theorem FE.eF1 (h : FE m m') : FO1 m' = FO1 m := by funext t f; show (∀ P : Nat → Prop, (∀ g, tld m' t g → P g) → (∀ a g, P a → tld m' a g → P g) → P f) = _; rw [h.etl]; rfl
theorem FE.eFO (h : FE m m') (h0 : TE0 m m') : FOf m' = FOf m := by funext t f; show ((ma m' 0 t = 2 ∧ FO1 m' t f) ∨ (ma m' 0 t = 1 ∧ ∃ c ∈ abvs m' t, FO1 m' c f)) = _; rw [h.eF1, h0.eab, h0.2.1]; rfl
theorem FE.eUp (h : FE m m') (h0 : TE0 m m') : UpP m' = UpP m := by funext i j; unfold UpP; rw [h.eFO h0, h0.eab, h0.2.1]
theorem ME.eM (h : ME m m') : nM m' = nM m := by funext i; show tn (ma m' 7 i) = tn (ma m 7 i); rw [h 7 (by omega) (by omega)]
theorem ME.emb (h : ME m m') : mby m' = mby m := by
  funext t name fld
  have e : ∀ k, mbF m' t name fld k = mbF m t name fld k := by
    intro k
    induction k with
    | zero => rfl
    | succ k ih =>
      show cIf _ _ (mbF m' t name fld k) = cIf _ _ (mbF m t name fld k)
      rw [ih, h 8 (by omega) (by omega), h 9 (by omega) (by omega)]
  show mbF m' t name fld (nM m' t) = mbF m t name fld (nM m t)
  rw [e, h.eM]
theorem ME.eiv (h : ME m m') : ivF m' = ivF m := by
  funext c k
  induction k with
  | zero => rfl
  | succ k ih =>
    show ivF m' c k ++ cIf (isP m' (10 * c + k)) [laneV (ma m' 10 (10 * c + k))] [] = ivF m c k ++ cIf (isP m (10 * c + k)) [laneV (ma m 10 (10 * c + k))] []
    unfold isP
    rw [ih, h 8 (by omega) (by omega), h 11 (by omega) (by omega), h 10 (by omega) (by omega)]
theorem ME.eiL (h : ME m m') : ivL m' = ivL m := by
  funext l
  induction l with
  | nil => rfl
  | cons c l ih => show ivF m' c (nM m' c) ++ ivL m' l = ivF m c (nM m c) ++ ivL m l; rw [ih, h.eiv, h.eM]
theorem ME.epf (h : ME m m') : pcF m' = pcF m := by funext c k; unfold pcF; rw [h.eiv]
theorem ME.epc (h : ME m m') : pcN m' = pcN m := by funext c; unfold pcN ivC; rw [h.eiv, h.eM]
theorem ME.ety (h : ME m m') : tyN m' = tyN m := by funext x; show tn (ma m' 10 x) = tn (ma m 10 x); rw [h 10 (by omega) (by omega)]
theorem MaT.cg0 {w : qSt} (hg : MaT m w) (h0 : TE0 m m') (h22 : mi m' 22 = mi m 22) (h29 : mi m' 29 = mi m 29) (r4 : ma m' 4 = ma m 4) : MaT m' w := MaT.cg hg h0.1 h22 h29 h0.2.1 r4
/-- the faces told of a type are told once -/
def DInv (m : qSt) : Prop := ∀ t j k, t < 100 → j < k → k < nF m t → fcN m t j ≠ fcN m t k
theorem ct_inj (f : Nat → Nat) : ∀ n, (∀ i, i < n → f i < 128) → (∀ i j, i < j → j < n → f i ≠ f j) → ∀ p : Nat → Bool, (∀ g, g < 128 → (p g = true ↔ ∃ k, k < n ∧ f k = g)) → fb_ct p 128 = n := by
  intro n
  induction n with
  | zero =>
    intro _ _ p hp
    refine fb_ct_zero.mpr (fun k hk => ?_)
    cases e : p k with
    | false => rfl
    | true => obtain ⟨x, hx, _⟩ := (hp k hk).mp e; omega
  | succ n ih =>
    intro h1 h2 p hp
    have hn : p (f n) = true := (hp _ (h1 n (by omega))).mpr ⟨n, by omega, rfl⟩
    have e1 : fb_ct (fun g => if g = f n then false else p g) 128 = n := by
      refine ih (fun i hi => h1 i (by omega)) (fun i j hij hj => h2 i j hij (by omega)) _ (fun g hg => ?_)
      by_cases e : g = f n
      · simp only [if_pos e]
        constructor
        · intro z; exact absurd z (by decide)
        · rintro ⟨k, hk, ek⟩; exact absurd (ek.trans e) (h2 k n hk (by omega))
      · simp only [if_neg e]
        rw [hp g hg]
        constructor
        · rintro ⟨k, hk, ek⟩
          have : k ≠ n := fun z => e (by rw [← ek, z])
          exact ⟨k, by omega, ek⟩
        · rintro ⟨k, hk, ek⟩
          exact ⟨k, by omega, ek⟩
    have e2 := fb_ct_upd p false (h1 n (by omega))
    rw [hn] at e2
    simp only [if_true, Bool.false_eq_true, if_false] at e2
    omega
/-- a face told of a type: the rows -/
theorem un_rows (T F : Nat) : TE0 m (sUn m T F) ∧ ME m (sUn m T F) ∧ (∀ r, r ≠ 5 → r ≠ 6 → ma (sUn m T F) r = ma m r) ∧ (∀ r, ml (sUn m T F) r = ml m r) ∧ (∀ k, mi (sUn m T F) k = mi m k) := by
  have rows : ∀ r, r ≠ 5 → r ≠ 6 → ma (sUn m T F) r = ma m r := by
    intro r h5 h6
    funext i
    show gI (sI (sI m 40 6 (4 * T + nF m T) (nI F)) 40 5 T (nI (nF m T + 1))) 40 r i = _
    rw [gI_ne (by omega), gI_ne (by omega)]
  exact ⟨⟨rfl, rows 0 (by omega) (by omega), rows 1 (by omega) (by omega), rows 2 (by omega) (by omega)⟩, fun r h1 h2 => rows r (by omega) (by omega), rows, fun _ => rfl, fun _ => rfl⟩
theorem un_nF {T F : Nat} (h4 : nF m T < 4) (i : Nat) : nF (sUn m T F) i = if i = T then nF m T + 1 else nF m i := by
  show tn (gI (sI (sI m 40 6 (4 * T + nF m T) (nI F)) 40 5 T (nI (nF m T + 1))) 40 5 i) = _
  by_cases e : i = T
  · rw [if_pos e, e, gI_at]; exact tn_nI (by omega)
  · rw [if_neg e, gI_ne (by omega), gI_ne (by omega)]; rfl
theorem un_fc {T F : Nat} (hF : F < 1000) (i k : Nat) : fcN (sUn m T F) i k = if 4 * i + k = 4 * T + nF m T then F else fcN m i k := by
  show tn (gI (sI (sI m 40 6 (4 * T + nF m T) (nI F)) 40 5 T (nI (nF m T + 1))) 40 6 (4 * i + k)) = _
  rw [gI_ne (by omega)]
  by_cases e : 4 * i + k = 4 * T + nF m T
  · rw [if_pos e, e, gI_at]; exact tn_nI (by omega)
  · rw [if_neg e, gI_ne (by omega)]; rfl
theorem un_tl (hI : TInv m) {T F : Nat} (hT : T < 100) (hF : F < 1000) (h4 : nF m T < 4) (a g : Nat) : tld (sUn m T F) a g ↔ (tld m a g ∨ (a = T ∧ g = F)) := by
  unfold tld
  constructor
  · rintro ⟨k, hk, e⟩
    rw [un_nF h4] at hk
    rw [un_fc hF] at e
    by_cases ea : a = T
    · rw [if_pos ea] at hk
      by_cases ek : k = nF m T
      · rw [if_pos (by omega)] at e
        exact Or.inr ⟨ea, e.symm⟩
      · rw [if_neg (by omega)] at e
        exact Or.inl ⟨k, by rw [ea]; omega, e⟩
    · rw [if_neg ea] at hk
      have hne : ¬ 4 * a + k = 4 * T + nF m T := by
        by_cases h100 : a < 100
        · have := (hI.fac h100).2.1; omega
        · omega
      rw [if_neg hne] at e
      exact Or.inl ⟨k, hk, e⟩
  · rintro (⟨k, hk, e⟩ | ⟨ea, eg⟩)
    · refine ⟨k, ?_, ?_⟩
      · rw [un_nF h4]
        by_cases ea : a = T
        · rw [if_pos ea]; rw [ea] at hk; omega
        · rw [if_neg ea]; exact hk
      · have hne : ¬ 4 * a + k = 4 * T + nF m T := by
          by_cases ea : a = T
          · rw [ea] at hk ⊢; omega
          · by_cases h100 : a < 100
            · have := (hI.fac h100).2.1; omega
            · omega
        rw [un_fc hF, if_neg hne]; exact e
    · refine ⟨nF m T, ?_, ?_⟩
      · rw [un_nF h4, if_pos ea]; omega
      · rw [un_fc hF, if_pos (by rw [ea]), eg]
theorem un_F1 (hI : TInv m) {T F : Nat} (hT : T < 100) (hF : F < 1000) (h4 : nF m T < 4) (c j : Nat) : FO1 (sUn m T F) c j ↔ (FO1 m c j ∨ ((c = T ∨ FO1 m c T) ∧ (j = F ∨ FO1 m F j))) := by
  have tl := un_tl hI hT hF h4
  constructor
  · intro h
    refine h (fun j => FO1 m c j ∨ ((c = T ∨ FO1 m c T) ∧ (j = F ∨ FO1 m F j))) (fun g hg => ?_) (fun a g hp hg => ?_)
    · rcases (tl _ _).mp hg with z | ⟨z1, z2⟩
      · exact Or.inl (FO1.base z)
      · exact Or.inr ⟨Or.inl z1, Or.inl z2⟩
    · rcases (tl _ _).mp hg with z | ⟨z1, z2⟩
      · rcases hp with q | ⟨q1, q2⟩
        · exact Or.inl (q.step z)
        · refine Or.inr ⟨q1, Or.inr ?_⟩
          rcases q2 with q2 | q2
          · rw [q2] at z; exact FO1.base z
          · exact q2.step z
      · rcases hp with q | ⟨q1, q2⟩
        · rw [z1] at q; exact Or.inr ⟨Or.inr q, Or.inl z2⟩
        · exact Or.inr ⟨q1, Or.inl z2⟩
  · have mono : ∀ {c j}, FO1 m c j → FO1 (sUn m T F) c j := fun h => h (FO1 (sUn m T F) _) (fun g hg => FO1.base ((tl _ _).mpr (Or.inl hg))) (fun a g p hg => p.step ((tl _ _).mpr (Or.inl hg)))
    have eTF : tld (sUn m T F) T F := (tl _ _).mpr (Or.inr ⟨rfl, rfl⟩)
    rintro (z | ⟨z1, z2⟩)
    · exact mono z
    · have h1 : FO1 (sUn m T F) c F := by
        rcases z1 with z1 | z1
        · rw [z1]; exact FO1.base eTF
        · exact (mono z1).step eTF
      rcases z2 with z2 | z2
      · rw [z2]; exact h1
      · exact h1.tr (mono z2)
/-- what is above each type, when a face was told -/
theorem un_Up (hI : TInv m) {T F : Nat} (hT : T < nT m) (hTk : hasMb m T) (hF : F < nT m) (hFs : ma m 0 F = 2) (h4 : nF m T < 4) {i : Nat} (hi : i < nT m) (j : Nat) : UpP (sUn m T F) i j ↔ (UpP m i j ∨ ((i = T ∨ UpP m i T) ∧ (j = F ∨ UpP m F j))) := by
  have h100 := hI.le
  obtain ⟨e0, eM, rows, -, -⟩ := un_rows (m := m) T F
  have f1 := un_F1 hI (show T < 100 by omega) (show F < 1000 by omega) h4
  have hUF : UpP m F j ↔ FO1 m F j := by
    unfold UpP FOf
    rw [hFs]
    constructor
    · rintro (⟨z, -⟩ | ⟨-, z⟩ | ⟨z, -⟩)
      · exact absurd z (by decide)
      · exact z
      · exact absurd z (by decide)
    · exact fun z => Or.inr (Or.inl ⟨rfl, z⟩)
  rw [hUF]
  unfold UpP FOf
  rw [e0.2.1, e0.eab]
  by_cases c1 : ma m 0 i = 1
  · rw [c1]
    have hself : i = T → T ∈ abvs m i := fun e => by
      rw [e] at c1 ⊢
      by_cases h8 : T = 8
      · rw [h8]; exact List.mem_cons_self
      · rw [abvs_c hI (by omega) c1 h8]; exact List.mem_cons_self
    constructor
    · rintro (⟨-, z⟩ | ⟨z, -⟩ | ⟨-, c, z1, z2⟩)
      · exact Or.inl (Or.inl ⟨rfl, z⟩)
      · exact absurd z (by decide)
      · rcases (f1 _ _).mp z2 with q | ⟨q1, q2⟩
        · exact Or.inl (Or.inr (Or.inr ⟨rfl, c, z1, q⟩))
        · refine Or.inr ⟨Or.inr ?_, q2⟩
          rcases q1 with q1 | q1
          · rw [q1] at z1; exact Or.inl ⟨rfl, z1⟩
          · exact Or.inr (Or.inr ⟨rfl, c, z1, q1⟩)
    · rintro ((⟨-, z⟩ | ⟨z, -⟩ | ⟨-, c, z1, z2⟩) | ⟨z1, z2⟩)
      · exact Or.inl ⟨rfl, z⟩
      · exact absurd z (by decide)
      · exact Or.inr (Or.inr ⟨rfl, c, z1, (f1 _ _).mpr (Or.inl z2)⟩)
      · rcases z1 with z1 | ⟨-, z1⟩ | ⟨z1, -⟩ | ⟨-, c, z1, z3⟩
        · exact Or.inr (Or.inr ⟨rfl, T, hself z1, (f1 _ _).mpr (Or.inr ⟨Or.inl rfl, z2⟩)⟩)
        · exact Or.inr (Or.inr ⟨rfl, T, z1, (f1 _ _).mpr (Or.inr ⟨Or.inl rfl, z2⟩)⟩)
        · exact absurd z1 (by decide)
        · exact Or.inr (Or.inr ⟨rfl, c, z1, (f1 _ _).mpr (Or.inr ⟨Or.inr z3, z2⟩)⟩)
  · by_cases c2 : ma m 0 i = 2
    · rw [c2]
      constructor
      · rintro (⟨z, -⟩ | ⟨-, z⟩ | ⟨z, -⟩)
        · exact absurd z (by decide)
        · rcases (f1 _ _).mp z with q | ⟨q1, q2⟩
          · exact Or.inl (Or.inr (Or.inl ⟨rfl, q⟩))
          · refine Or.inr ⟨?_, q2⟩
            rcases q1 with q1 | q1
            · exact Or.inl q1
            · exact Or.inr (Or.inr (Or.inl ⟨rfl, q1⟩))
        · exact absurd z (by decide)
      · rintro ((⟨z, -⟩ | ⟨-, z⟩ | ⟨z, -⟩) | ⟨z1, z2⟩)
        · exact absurd z (by decide)
        · exact Or.inr (Or.inl ⟨rfl, (f1 _ _).mpr (Or.inl z)⟩)
        · exact absurd z (by decide)
        · refine Or.inr (Or.inl ⟨rfl, (f1 _ _).mpr (Or.inr ⟨?_, z2⟩)⟩)
          rcases z1 with z1 | ⟨z1, -⟩ | ⟨-, z1⟩ | ⟨z1, -⟩
          · exact Or.inl z1
          · exact absurd z1 (by decide)
          · exact Or.inr z1
          · exact absurd z1 (by decide)
    · constructor
      · rintro (⟨z, -⟩ | ⟨z, -⟩ | ⟨z, -⟩)
        · exact absurd z c1
        · exact absurd z c2
        · exact absurd z c1
      · rintro ((⟨z, -⟩ | ⟨z, -⟩ | ⟨z, -⟩) | ⟨z1, z2⟩)
        · exact absurd z c1
        · exact absurd z c2
        · exact absurd z c1
        · rcases z1 with z1 | ⟨z1, -⟩ | ⟨z1, -⟩ | ⟨z1, -⟩
          · rw [z1] at c1 c2
            rcases hTk with q | q
            · exact absurd q c2
            · exact absurd q.1 c1
          · exact absurd z1 c1
          · exact absurd z1 c2
          · exact absurd z1 c1
end
