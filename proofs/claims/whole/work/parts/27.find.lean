/-! ===== what depends on the types' rows alone ===== -/
def TE (m m' : qSt) : Prop := mi m' 1 = mi m 1 ∧ ∀ r, r ≤ 13 → r ≠ 4 → ma m' r = ma m r
theorem Sc.row {w w' : qSt} (h : Sc w w') {r : Nat} (hs : scI 40 r = false) : ma w' r = ma w r := by
  funext i
  have := congrFun (congrFun (congrFun (congrArg (fun w : qSt => w.1) h.1) 40) r) i
  have e : (bif isM 40 && !scI 40 r then gI w' 40 r i else 0) = (bif isM 40 && !scI 40 r then gI w 40 r i else 0) := this
  rw [hs] at e
  exact e
theorem Sc.te {w w' : qSt} (h : Sc w w') : TE w w' := by
  refine ⟨h.c (fun w => mi w 1) (fun _ => rfl), fun r hr _ => h.row ?_⟩
  have : Nat.ble 15 r = false := by
    cases e : Nat.ble 15 r with
    | false => rfl
    | true => have := Nat.le_of_ble_eq_true e; omega
  show (Nat.ble 15 r && Nat.ble r 18) = false
  rw [this]; rfl
theorem TE.rf {m : qSt} : TE m m := ⟨rfl, fun _ _ _ => rfl⟩
theorem TE.sy {m m' : qSt} (h : TE m m') : TE m' m := ⟨h.1.symm, fun r hr h4 => (h.2 r hr h4).symm⟩
theorem TE.tr {a b c : qSt} (h : TE a b) (h' : TE b c) : TE a c := ⟨h'.1.trans h.1, fun r hr h4 => (h'.2 r hr h4).trans (h.2 r hr h4)⟩
section
variable {m m' : qSt} (h : TE m m')
theorem TE.eT (h : TE m m') : nT m' = nT m := by show tn (mi m' 1) = tn (mi m 1); rw [h.1]
theorem TE.eM (h : TE m m') : nM m' = nM m := by funext i; show tn (ma m' 7 i) = tn (ma m 7 i); rw [h.2 7 (by omega) (by omega)]
theorem TE.eup (h : TE m m') : upN m' = upN m := by funext i; show tn (ma m' 1 i) = tn (ma m 1 i); rw [h.2 1 (by omega) (by omega)]
theorem TE.eof (h : TE m m') : ofN m' = ofN m := by funext i; show tn (ma m' 2 i) = tn (ma m 2 i); rw [h.2 2 (by omega) (by omega)]
theorem TE.eF (h : TE m m') : nF m' = nF m := by funext i; show tn (ma m' 5 i) = tn (ma m 5 i); rw [h.2 5 (by omega) (by omega)]
theorem TE.efc (h : TE m m') : fcN m' = fcN m := by funext i j; show tn (ma m' 6 _) = tn (ma m 6 _); rw [h.2 6 (by omega) (by omega)]
theorem TE.emb (h : TE m m') : mby m' = mby m := by
  funext t name fld
  have e : ∀ k, mbF m' t name fld k = mbF m t name fld k := by
    intro k
    induction k with
    | zero => rfl
    | succ k ih =>
      show cIf _ _ (mbF m' t name fld k) = cIf _ _ (mbF m t name fld k)
      rw [ih, h.2 8 (by omega) (by omega), h.2 9 (by omega) (by omega)]
  show mbF m' t name fld (nM m' t) = mbF m t name fld (nM m t)
  rw [e, h.eM]
theorem TE.eab (h : TE m m') : abvs m' = abvs m := by
  funext c
  have e : ∀ n c, chF m' n c = chF m n c := by
    intro n
    induction n with
    | zero => intro c; rfl
    | succ n ih =>
      intro c
      show c :: (if c = 8 then [] else chF m' n (upN m' c)) = c :: (if c = 8 then [] else chF m n (upN m c))
      rw [ih, h.eup]
  exact e _ _
theorem TE.eba (h : TE m m') : baN m' = baN m := by
  funext c
  have e : ∀ n c, baF m' n c = baF m n c := by
    intro n
    induction n with
    | zero => intro c; rfl
    | succ n ih =>
      intro c
      show cIf _ (baF m' n (ofN m' c)) c = cIf _ (baF m n (ofN m c)) c
      rw [ih, h.eof, h.2 0 (by omega) (by omega)]
  exact e _ _
theorem TE.edp (h : TE m m') : dpN m' = dpN m := by
  funext c
  have e : ∀ n c, dpF m' n c = dpF m n c := by
    intro n
    induction n with
    | zero => intro c; rfl
    | succ n ih =>
      intro c
      show cIf _ (dpF m' n (ofN m' c)) (cIf _ (dpF m' n (ofN m' c) + 1) 0) = cIf _ (dpF m n (ofN m c)) (cIf _ (dpF m n (ofN m c) + 1) 0)
      rw [ih, h.eof, h.2 0 (by omega) (by omega)]
  exact e _ _
theorem TE.esq (h : TE m m') : sqN m' = sqN m := by
  funext c
  have e : ∀ n c, sqF m' n c = sqF m n c := by
    intro n
    induction n with
    | zero => intro c; rfl
    | succ n ih =>
      intro c
      show cIf _ (sqF m' n (ofN m' c)) c = cIf _ (sqF m n (ofN m c)) c
      rw [ih, h.eof, h.2 0 (by omega) (by omega)]
  exact e _ _
theorem TE.etl (h : TE m m') : tld m' = tld m := by funext t g; show (∃ k, k < nF m' t ∧ fcN m' t k = g) = _; rw [h.eF, h.efc]; rfl
theorem TE.eF1 (h : TE m m') : FO1 m' = FO1 m := by funext t f; show (∀ P : Nat → Prop, (∀ g, tld m' t g → P g) → (∀ a g, P a → tld m' a g → P g) → P f) = _; rw [h.etl]; rfl
theorem TE.eFO (h : TE m m') : FOf m' = FOf m := by funext t f; show ((ma m' 0 t = 2 ∧ FO1 m' t f) ∨ (ma m' 0 t = 1 ∧ ∃ c ∈ abvs m' t, FO1 m' c f)) = _; rw [h.eF1, h.eab, h.2 0 (by omega) (by omega)]; rfl
end
/-! ===== faces told; members seen and found ===== -/
theorem mby_cases (m : qSt) (t : Nat) (name fld : Int32) : mby m t name fld = -1 ∨ ∃ j, j < nM m t ∧ mby m t name fld = nI j ∧ ma m 8 (10 * t + j) = fld ∧ ma m 9 (10 * t + j) = name := mbF_cases m t name fld (nM m t)
theorem bI_or {p q : Prop} (h : p) : bI (p ∨ q) = 1 := bI_t (Or.inl h)
theorem gI_at (w : qSt) (r k i : Nat) (v : Int32) : gI (sI w r k i v) r k i = v := u3_at _ _ _ _ _
theorem gI_ne {w : qSt} {r k i r' k' i' : Nat} {v : Int32} (h : ¬ (r' = r ∧ k' = k ∧ i' = i)) : gI (sI w r k i v) r' k' i' = gI w r' k' i' := u3_off _ _ h
theorem gJ_at (w : qSt) (r k i : Nat) (v : Int64) : gJ (sJ w r k i v) r k i = v := u3_at _ _ _ _ _
theorem gJ_ne {w : qSt} {r k i r' k' i' : Nat} {v : Int64} (h : ¬ (r' = r ∧ k' = k ∧ i' = i)) : gJ (sJ w r k i v) r' k' i' = gJ w r' k' i' := u3_off _ _ h
def sUn (w : qSt) (t f : Nat) : qSt := sI (sI w 40 6 (4 * t + nF w t) (nI f)) 40 5 t (nI (nF w t + 1))
noncomputable def S_under (w : qSt) (t f : Int32) : Int32 × qSt :=
  cIf (t = 8 ∨ (¬ isC w t ∧ ¬ isF w t) ∨ ¬ isF w f) (-1, stt w (-1)) (cIf (nF w (tn t) = 4) (-2, stt w (-2))
    (cIf (ma w 4 (tn t) ≠ 0 ∨ tld w (tn t) (tn f) ∨ (ma w 0 (tn t) = 2 ∧ (tn t = tn f ∨ FOf w (tn f) (tn t)))) (-3, stt w (-3))
      (nI (nF w (tn t) + 1), stt (sUn w (tn t) (tn f)) 0)))
/-- the first place of a member of that name in a row of types -/
noncomputable def fsF (m : qSt) (name fld : Int32) : List Nat → Option Nat
  | [] => none
  | d :: l => cIf (mby m d name fld = -1) (fsF m name fld l) (some (10 * d + tn (mby m d name fld)))
def oI (d : Int32) : Option Nat → Int32
  | none => d
  | some a => nI a
noncomputable def seeN (m : qSt) (c : Nat) (name : Int32) : Option Nat := fsF m name 1 (abvs m c)
def tld2 (a : Nat) : Nat := 100 * (a / 10) + a % 10
noncomputable def S_seen (w : qSt) (c n : Int32) : Int32 × qSt :=
  cIf (¬ isC w c ∨ ¬ isN n) (-1, stt w (-1)) (match seeN w (tn c) n with | none => (-17, stt w (-17)) | some a => (nI (tld2 a), stt w 0))
theorem fsF_in {m : qSt} {name fld : Int32} : ∀ {l : List Nat} {a : Nat}, fsF m name fld l = some a → ∃ d ∈ l, ∃ j, j < nM m d ∧ mby m d name fld = nI j ∧ a = 10 * d + tn (nI j) ∧ ma m 8 (10 * d + j) = fld ∧ ma m 9 (10 * d + j) = name
  | [], a, h => by cases h
  | d :: l, a, h => by
    have h' : cIf (mby m d name fld = -1) (fsF m name fld l) (some (10 * d + tn (mby m d name fld))) = some a := h
    by_cases c : mby m d name fld = -1
    · rw [cIf_t c] at h'
      obtain ⟨d', hd, q⟩ := fsF_in h'
      exact ⟨d', List.mem_cons_of_mem _ hd, q⟩
    · rw [cIf_f c] at h'
      rcases mby_cases m d name fld with e | ⟨j, hj, e, e1, e2⟩
      · exact absurd e c
      · rw [e] at h'
        exact ⟨d, List.mem_cons_self, j, hj, e, (Option.some.inj h').symm, e1, e2⟩
section
variable {G : qGX} {w : qSt} {Q : Option Value → qSt → Prop}
theorem c12_under {t f : Int32} (hI : TInv w) (h : ∀ w', Sc (S_under w t f).2 w' → Q (some (.int (S_under w t f).1)) w') : Con G M12_under [.ref 79, .int t, .int f] w Q := by
  have h100 := hI.le
  unfold S_under at h
  have bad : (t = 8 ∨ (¬ isC w t ∧ ¬ isF w t) ∨ ¬ isF w f) → Wq G M12_under 30 [some (.ref 79), some (.int t), some (.int f), none, none] [] (0, 0) w Q := by
    intro hb
    rw [cIf_t hb] at h
    exact Wq.go ok12_under 20 [] (c12_fail (h _ Sc.rf))
  have main : (isC w t ∨ isF w t) → ¬ t = 8 → Wq G M12_under 22 [some (.ref 79), some (.int t), some (.int f), none, none] [] (0, 0) w Q := by
    intro hk h8
    refine Wq.go ok12_under 20 [30, 36] ?_
    refine c12_isFace hI.ty (And.intro (fun c => ?_) (fun c => ?_))
    · rw [bI_n0] at c
      rw [cIf_f (fun q => q.elim h8 (fun q => q.elim (fun q => hk.elim q.1 q.2) (fun q => q c)))] at h
      obtain ⟨i, rfl, hi⟩ : ∃ i, t = nI i ∧ i < nT w := hk.elim (fun ⟨i, e, hi, _⟩ => ⟨i, e, hi⟩) (fun ⟨i, e, hi, _⟩ => ⟨i, e, hi⟩)
      obtain ⟨g, rfl, hg, hgs⟩ := c
      rw [tn_nI (by omega), tn_nI (by omega)] at h
      have hin : vp_in (nI i) 100 := in_nI (by omega) (by decide)
      have e2 : (nI i).toNatClampNeg = i := nI_clamp (by omega)
      obtain ⟨f1, f2, f3, f4⟩ := hI.fac (i := i) (by omega)
      refine Wq.go ok12_under 20 [53] ?_
      refine And.intro hin (And.intro (fun (c : ¬ ma w 5 (nI i).toNatClampNeg = 4) => ?_) (fun (c : ma w 5 (nI i).toNatClampNeg = 4) => ?_)) <;> rw [e2, f1, c_4, nI_eqI (by omega) (by omega)] at c
      · rw [cIf_f c] at h
        -- the last part
        have last : ∀ (p : Prop) (x : Option Value) (w' : qSt), Sf w w' → (p ↔ (ma w 4 i ≠ 0 ∨ tld w i g ∨ (ma w 0 i = 2 ∧ (i = g ∨ FOf w g i)))) → Wq G M12_under 139 [some (.ref 79), some (.int (nI i)), some (.int (nI g)), some (.int (bI p)), none] [] (0, 0) w' Q := by
          intro p x w' hS hp
          refine Wq.go ok12_under 40 [] ?_
          have e5 : ma w' 5 = ma w 5 := hS.c (fun w => ma w 5) (fun _ => rfl)
          refine And.intro (fun c5 => ?_) (fun c5 => ?_)
          · rw [bI_0, hp] at c5
            rw [cIf_f c5] at h
            have ea : (4 : Int32) * nI i + ma w' 5 (nI i).toNatClampNeg = nI (4 * i + nF w i) := by rw [e2, e5, f1, ix4]
            have hin4 : vp_in ((4 : Int32) * nI i + ma w' 5 (nI i).toNatClampNeg) 400 := by rw [ea]; exact in_nI (by omega) (by decide)
            refine And.intro hin (And.intro hin4 (And.intro hin (And.intro hin (And.intro hin ?_))))
            refine c12_good ?_
            show Q (some (.int (gI (sI (sI w' 40 6 ((4 : Int32) * nI i + ma w' 5 (nI i).toNatClampNeg).toNatClampNeg (nI g)) 40 5 (nI i).toNatClampNeg (ma w' 5 (nI i).toNatClampNeg + 1)) 40 5 (nI i).toNatClampNeg))) (sI (sI (sI w' 40 6 ((4 : Int32) * nI i + ma w' 5 (nI i).toNatClampNeg).toNatClampNeg (nI g)) 40 5 (nI i).toNatClampNeg (ma w' 5 (nI i).toNatClampNeg + 1)) 12 0 0 0)
            rw [gI_at, ea, e2, nI_clamp (by omega), e5, f1, nI_1]
            exact h _ (((hS.toSc.I2 rfl).I2 rfl).I2 rfl)
          · rw [bI_n0, hp] at c5
            rw [cIf_t c5] at h
            exact c12_fail (h _ (hS.toSc.I2 rfl))
        -- behind the loop
        have third : ∀ (p : Prop), (p ↔ (ma w 4 i ≠ 0 ∨ tld w i g)) → Wq G M12_under 105 [some (.ref 79), some (.int (nI i)), some (.int (nI g)), some (.int (bI p)), none] [] (0, 0) w Q := by
          intro p hp
          have put : ∀ (v : Int32) (p' : Prop) (w' : qSt), Sf w w' → v = bI p' → (p' ↔ (p ∨ (ma w 0 i = 2 ∧ (i = g ∨ FOf w g i)))) → Wq G M12_under 138 [some (.ref 79), some (.int (nI i)), some (.int (nI g)), some (.int (bI p)), none] [.int v] (0, 0) w' Q := by
            intro v p' w' hS hv hp'
            rw [hv]
            refine Wq.go ok12_under 20 [139] ?_
            exact last p' none w' hS (by rw [hp', hp, or_assoc])
          refine Wq.go ok12_under 30 [138] ?_
          refine And.intro (fun c5 => ?_) (fun c5 => And.intro hin (And.intro (fun c6 => ?_) (fun c6 => And.intro (fun (c7 : nI i = nI g) => ?_) (fun (c7 : ¬ nI i = nI g) => ?_))))
          · rw [bI_n0] at c5
            exact put 1 True w Sf.rf (bI_t trivial).symm ⟨fun _ => Or.inl c5, fun _ => trivial⟩
          · rw [e2] at c6
            rw [bI_0] at c5
            exact put 0 False w Sf.rf (bI_f id).symm ⟨False.elim, fun q => q.elim c5 (fun q => c6 q.1)⟩
          · rw [e2] at c6
            rw [nI_eqI (by omega) (by omega)] at c7
            exact put 1 True w Sf.rf (bI_t trivial).symm ⟨fun _ => Or.inr ⟨c6, Or.inl c7⟩, fun _ => trivial⟩
          · rw [e2] at c6
            rw [bI_0] at c5
            rw [nI_eqI (by omega) (by omega)] at c7
            refine c12_isFaceOf hI hg (by omega) (fun w' hS => And.intro (fun c8 => ?_) (fun c8 => ?_))
            · rw [bI_0] at c8
              exact put 0 False w' hS (bI_f id).symm ⟨False.elim, fun q => q.elim c5 (fun q => q.2.elim c7 c8)⟩
            · rw [bI_n0] at c8
              exact put 1 True w' hS (bI_t trivial).symm ⟨fun _ => Or.inr ⟨c6, Or.inr c8⟩, fun _ => trivial⟩
        -- the loop
        have loop : ∀ (k j : Nat) (p : Prop), j + k = nF w i → (p ↔ (ma w 4 i ≠ 0 ∨ ∃ k, k < j ∧ fcN w i k = g)) → Wq G M12_under 63 [some (.ref 79), some (.int (nI i)), some (.int (nI g)), some (.int (bI p)), some (.int (nI j))] [] (0, 0) w Q := by
          intro k
          induction k with
          | zero =>
            intro j p hj hp
            refine Wq.go ok12_under 20 [105] ?_
            refine And.intro hin (And.intro (fun _ => ?_) (fun (q : ¬ ma w 5 (nI i).toNatClampNeg ≤ nI j) => absurd (by rw [e2, f1]; exact nI_le (by omega) (by omega)) q))
            refine Wq.ls (ls' := [some (.ref 79), some (.int (nI i)), some (.int (nI g)), some (.int (bI p)), none]) ⟨rfl, rfl, rfl, rfl, trivial⟩ ?_
            refine third p ?_
            rw [hp, show j = nF w i by omega]
            exact Iff.rfl
          | succ k ih =>
            intro j p hj hp
            obtain ⟨g1, g2, g3, g4⟩ := f4 j (by omega)
            have ea : (4 : Int32) * nI i + nI j = nI (4 * i + j) := ix4 i j
            have hin4 : vp_in ((4 : Int32) * nI i + nI j) 400 := by rw [ea]; exact in_nI (by omega) (by decide)
            have put : ∀ (v : Int32) (p' : Prop), v = bI p' → (p' ↔ (p ∨ fcN w i j = g)) → Wq G M12_under 98 [some (.ref 79), some (.int (nI i)), some (.int (nI g)), some (.int (bI p)), some (.int (nI j))] [.int v] (0, 0) w Q := by
              intro v p' hv hp'
              rw [hv]
              refine Wq.go ok12_under 20 [63] ?_
              show Wq G M12_under 63 [some (.ref 79), some (.int (nI i)), some (.int (nI g)), some (.int (bI p')), some (.int (nI j + 1))] [] (0, 0) w Q
              rw [nI_1]
              refine ih (j + 1) p' (by omega) ?_
              rw [hp', hp, or_assoc]
              refine or_congr_right ⟨fun q => q.elim (fun ⟨k, hk, e⟩ => ⟨k, by omega, e⟩) (fun e => ⟨j, by omega, e⟩), fun ⟨k, hk, e⟩ => ?_⟩
              by_cases ek : k = j
              · rw [ek] at e; exact Or.inr e
              · exact Or.inl ⟨k, by omega, e⟩
            refine Wq.go ok12_under 30 [98] ?_
            refine And.intro hin (And.intro (fun (q : ma w 5 (nI i).toNatClampNeg ≤ nI j) => ?_) (fun _ => And.intro (fun c5 => ?_) (fun c5 => And.intro hin4 (And.intro (fun (c6 : ¬ ma w 6 ((4 : Int32) * nI i + nI j).toNatClampNeg = nI g) => ?_) (fun (c6 : ma w 6 ((4 : Int32) * nI i + nI j).toNatClampNeg = nI g) => ?_)))))
            · rw [e2, f1, nI_leI (by omega) (by omega)] at q; omega
            · rw [bI_n0] at c5
              exact put 1 True (bI_t trivial).symm ⟨fun _ => Or.inl c5, fun _ => trivial⟩
            · rw [bI_0] at c5
              rw [ea, nI_clamp (by omega), g1, nI_eqI (by omega) (by omega)] at c6
              exact put 0 False (bI_f id).symm ⟨False.elim, fun q => q.elim c5 c6⟩
            · rw [ea, nI_clamp (by omega), g1, nI_eqI (by omega) (by omega)] at c6
              exact put 1 True (bI_t trivial).symm ⟨fun _ => Or.inr c6, fun _ => trivial⟩
        refine Wq.go ok12_under 20 [63] ?_
        refine And.intro hin ?_
        show Wq G M12_under 63 [some (.ref 79), some (.int (nI i)), some (.int (nI g)), some (.int (ma w 4 (nI i).toNatClampNeg)), some (.int (nI 0))] [] (0, 0) w Q
        rw [e2]
        have eb : ma w 4 i = bI (ma w 4 i ≠ 0) := by
          rcases (hI.flg (i := i) (by omega)).2.1 with q | q
          · rw [bI_f (fun z => z q)]; exact q
          · rw [bI_t (by rw [q]; decide)]; exact q
        rw [eb]
        exact loop (nF w i) 0 _ (Nat.zero_add _) ⟨fun q => Or.inl q, fun q => q.elim id (fun ⟨k, hk, _⟩ => absurd hk (by omega))⟩
      · rw [cIf_t c] at h
        exact c12_fail (h _ Sc.rf)
    · rw [bI_0] at c
      exact bad (Or.inr (Or.inr c))
  refine Con.go hw12_under ok12_under 40 [30, 22] rfl ?_
  refine And.intro (fun c => bad (Or.inl c)) (fun c => c12_isClass hI.ty (And.intro (fun c2 => ?_) (fun c2 => ?_)))
  · rw [bI_n0] at c2
    exact main (Or.inl c2) c
  · rw [bI_0] at c2
    refine c12_isFace hI.ty (And.intro (fun c3 => ?_) (fun c3 => ?_))
    · rw [bI_0] at c3
      exact bad (Or.inr (Or.inl ⟨c2, c3⟩))
    · rw [bI_n0] at c3
      exact main (Or.inr c3) c
theorem c12_see {c : Nat} {name : Int32} (hI : TInv w) (hc : c < nT w) (hs : ma w 0 c = 1) (h : Q (some (.int (oI (-17) (seeN w c name)))) w) : Con G M12_see [.ref 79, .int (nI c), .int name] w Q := by
  have h100 := hI.le
  have key : ∀ (N c : Nat) (x : Value), c < N → c < nT w → ma w 0 c = 1 → Q (some (.int (oI (-17) (fsF w name 1 (abvs w c))))) w → Wq G M12_see 2 [some (.ref 79), some x, some (.int name), some (.int (nI c)), none] [] (0, 0) w Q := by
    intro N
    induction N with
    | zero => intro c x h0; omega
    | succ N ih =>
      intro c x hN hc hs h
      have hin : vp_in (nI c) 100 := in_nI (by omega) (by decide)
      have e2 : (nI c).toNatClampNeg = c := nI_clamp (by omega)
      refine Wq.go ok12_see 30 [2] ?_
      refine And.intro (fun q => absurd q (nI_pos (by omega))) (fun _ => ?_)
      refine c12_memberBy hI (by omega) ?_
      rcases mby_cases w c name 1 with e | ⟨j, hj, e, -, -⟩
      · rw [e]
        refine And.intro (fun _ => ?_) (fun q => absurd (by decide) q)
        refine And.intro hin ?_
        show Wq G M12_see 2 [some (.ref 79), some x, some (.int name), some (.int (ma w 1 (nI c).toNatClampNeg)), some (.int (-1))] [] (0, 0) w Q
        rw [e2]
        by_cases h8 : c = 8
        · subst h8
          rw [hI.2.2.2.1]
          refine Wq.go ok12_see 30 [] ?_
          refine And.intro (fun _ => ?_) (fun q => absurd (by decide) q)
          rw [abvs_8, show fsF w name 1 [8] = fsF w name 1 [] from cIf_t e] at h
          exact h
        · obtain ⟨u1, u2, u3, u4⟩ := hI.up hc hs h8
          rw [u1]
          refine Wq.ls (ls' := [some (.ref 79), some x, some (.int name), some (.int (nI (upN w c))), none]) ⟨rfl, rfl, rfl, rfl, trivial⟩ ?_
          refine ih _ x (by omega) (by omega) u4 ?_
          rw [abvs_c hI hc hs h8, show fsF w name 1 (c :: abvs w (upN w c)) = fsF w name 1 (abvs w (upN w c)) from cIf_t e] at h
          exact h
      · have hj10 := (hI.mbs (i := c) (by omega)).2.1
        have en : ¬ mby w c name 1 = -1 := by rw [e]; exact fun q => absurd (congrArg Int32.toInt q) (by rw [nI_t (by omega)]; show ¬ (j : Int) = -1; omega)
        have ef : fsF w name 1 (abvs w c) = some (10 * c + j) := by
          have : fsF w name 1 (abvs w c) = some (10 * c + tn (mby w c name 1)) := by
            by_cases h8 : c = 8
            · subst h8; exact cIf_f en
            · rw [abvs_c hI hc hs h8]; exact cIf_f en
          rw [this, e, tn_nI (by omega)]
        rw [ef] at h
        rw [e]
        refine And.intro (fun q => absurd q (nI_pos (by omega))) (fun _ => ?_)
        show Q (some (.int ((10 : Int32) * nI c + nI j))) w
        rw [ix10]
        exact h
  refine Con.go hw12_see ok12_see 30 [2] rfl ?_
  exact key (c + 1) c _ (by omega) hc hs h
end
