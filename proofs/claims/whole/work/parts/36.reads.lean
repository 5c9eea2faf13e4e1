/-! ===== what reading depends on ===== -/
def rbI (r k : Nat) : Bool := bif Nat.beq r 12 then (Nat.beq k 1 || Nat.beq k 22 || Nat.beq k 29) else bif Nat.beq r 40 then Nat.ble k 26 && !(Nat.ble 15 k && Nat.ble k 18) else false
def rbJ (r k : Nat) : Bool := bif Nat.beq r 40 then Nat.beq k 14 || Nat.beq k 23 else false
def rp (w : qSt) : qSt := (fun r k i => bif rbI r k then gI w r k i else 0, fun r k i => bif rbJ r k then gJ w r k i else 0, fun _ _ _ => none, fun _ _ => 0)
def RE (w w' : qSt) : Prop := rp w' = rp w
theorem RE.rf {w : qSt} : RE w w := rfl
theorem RE.sy {w w' : qSt} (h : RE w w') : RE w' w := Eq.symm h
theorem RE.tr {a b c : qSt} (h : RE a b) (h' : RE b c) : RE a c := Eq.trans h' h
theorem RE.c {α : Sort _} {w w' : qSt} (h : RE w w') (P : qSt → α) (hP : ∀ w, P (rp w) = P w) : P w' = P w := by rw [← hP w', show rp w' = rp w from h, hP]
theorem RE.I {w w' : qSt} (h : RE w w') {r k i : Nat} {v : Int32} (hs : rbI r k = false) : RE w (sI w' r k i v) := by
  refine Eq.trans (b := rp w') (st_ext ?_ rfl rfl rfl) h
  funext r' k' i'
  show (bif rbI r' k' then u3 w'.1 r k i v r' k' i' else 0) = (bif rbI r' k' then w'.1 r' k' i' else 0)
  by_cases e : r' = r ∧ k' = k ∧ i' = i
  · obtain ⟨rfl, rfl, rfl⟩ := e
    rw [hs]; rfl
  · rw [u3_off _ _ e]
theorem RE.J {w w' : qSt} (h : RE w w') {r k i : Nat} {v : Int64} (hs : rbJ r k = false) : RE w (sJ w' r k i v) := by
  refine Eq.trans (b := rp w') (st_ext rfl ?_ rfl rfl) h
  funext r' k' i'
  show (bif rbJ r' k' then u3 w'.2.1 r k i v r' k' i' else 0) = (bif rbJ r' k' then w'.2.1 r' k' i' else 0)
  by_cases e : r' = r ∧ k' = k ∧ i' = i
  · obtain ⟨rfl, rfl, rfl⟩ := e
    rw [hs]; rfl
  · rw [u3_off _ _ e]
theorem rbI_m {r k : Nat} (h : rbI r k = true) : (isM r && !scI r k) = true := by
  unfold rbI at h
  unfold isM scI
  cases e : Nat.beq r 12 with
  | true =>
    rw [e] at h
    have h : (Nat.beq k 1 || Nat.beq k 22 || Nat.beq k 29) = true := h
    show (!(Nat.beq k 18 || Nat.beq k 33)) = true
    rcases Bool.or_eq_true_iff.mp h with h | h
    · rcases Bool.or_eq_true_iff.mp h with h | h
      · rw [Nat.eq_of_beq_eq_true h]; rfl
      · rw [Nat.eq_of_beq_eq_true h]; rfl
    · rw [Nat.eq_of_beq_eq_true h]; rfl
  | false =>
    rw [e] at h
    cases e2 : Nat.beq r 40 with
    | true =>
      rw [e2] at h
      have h : (Nat.ble k 26 && !(Nat.ble 15 k && Nat.ble k 18)) = true := h
      rw [Bool.and_eq_true] at h
      exact h.2
    | false => rw [e2] at h; exact absurd (show false = true from h) (by decide)
theorem rbJ_m {r k : Nat} (h : rbJ r k = true) : (isM r && !scJ r k) = true := by
  unfold rbJ at h
  unfold isM scJ
  cases e2 : Nat.beq r 40 with
  | true => rw [Nat.eq_of_beq_eq_true e2]; rfl
  | false => rw [e2] at h; exact absurd (show false = true from h) (by decide)
theorem Mq.re {w w' : qSt} (h : Mq w w') : RE w w' := by
  refine st_ext ?_ ?_ rfl rfl
  · funext r k i
    have e := congrFun (congrFun (congrFun (congrArg (fun w : qSt => w.1) h) r) k) i
    have e : (bif isM r && !scI r k then gI w' r k i else 0) = (bif isM r && !scI r k then gI w r k i else 0) := e
    show (bif rbI r k then gI w' r k i else 0) = (bif rbI r k then gI w r k i else 0)
    cases hb : rbI r k with
    | false => rfl
    | true => rw [rbI_m hb] at e; exact e
  · funext r k i
    have e := congrFun (congrFun (congrFun (congrArg (fun w : qSt => w.2.1) h) r) k) i
    have e : (bif isM r && !scJ r k then gJ w' r k i else 0) = (bif isM r && !scJ r k then gJ w r k i else 0) := e
    show (bif rbJ r k then gJ w' r k i else 0) = (bif rbJ r k then gJ w r k i else 0)
    cases hb : rbJ r k with
    | false => rfl
    | true => rw [rbJ_m hb] at e; exact e
theorem Sc.re {w w' : qSt} (h : Sc w w') : RE w w' := h.mq.re
theorem Sf.re {w w' : qSt} (h : Sf w w') : RE w w' := h.toSc.re
theorem RE.row {w w' : qSt} (h : RE w w') {r : Nat} (hs : rbI 40 r = true) : ma w' r = ma w r := by
  funext i
  have := congrFun (congrFun (congrFun (congrArg (fun w : qSt => w.1) h) 40) r) i
  have e : (bif rbI 40 r then gI w' 40 r i else 0) = (bif rbI 40 r then gI w 40 r i else 0) := this
  rw [hs] at e
  exact e
theorem RE.te {w w' : qSt} (h : RE w w') : TE w w' := by
  refine ⟨h.c (fun w => mi w 1) (fun _ => rfl), fun r hr _ => h.row ?_⟩
  have h1 : Nat.ble 15 r = false := by
    cases e : Nat.ble 15 r with
    | false => rfl
    | true => have := Nat.le_of_ble_eq_true e; omega
  have h2 : Nat.ble r 26 = true := Nat.ble_eq_true_of_le (by omega)
  show (Nat.ble r 26 && !(Nat.ble 15 r && Nat.ble r 18)) = true
  rw [h1, h2]; rfl
theorem RE.ebX {w w' : qSt} (h : RE w w') : bX w' = bX w := h.c bX (fun _ => rfl)
theorem RE.edX {w w' : qSt} (h : RE w w') : dX w' = dX w := h.c dX (fun _ => rfl)
theorem RE.esX {w w' : qSt} (h : RE w w') : sX w' = sX w := h.c sX (fun _ => rfl)
theorem RE.epX {w w' : qSt} (h : RE w w') : pX w' = pX w := h.c pX (fun _ => rfl)
theorem RE.enX {w w' : qSt} (h : RE w w') : nX w' = nX w := h.c nX (fun _ => rfl)
theorem RE.enH {w w' : qSt} (h : RE w w') : nH w' = nH w := h.c nH (fun _ => rfl)
theorem RE.enoX {w w' : qSt} (h : RE w w') : noX w' = noX w := h.c noX (fun _ => rfl)
theorem RE.tinv {w w' : qSt} (h : RE w w') (hI : TInv w) : TInv w' := (h.c TInv (fun _ => rfl)).mpr hI
theorem RE.xinv {w w' : qSt} (h : RE w w') (hX : XInv w) : XInv w' := by
  obtain ⟨x1, x2, x3, x4⟩ := hX
  have e22 : mi w' 22 = mi w 22 := h.c (fun w => mi w 22) (fun _ => rfl)
  refine ⟨by rw [e22, h.enX]; exact x1, by rw [h.enX]; exact x2, fun x hx => ?_, fun x hx => ?_⟩
  · rw [h.row (r := 22) rfl, h.epX]
    exact x3 x (by rw [h.enX] at hx; exact hx)
  · have := x4 x (by rw [h.enX] at hx; exact hx)
    unfold XOK at this ⊢
    rw [h.row (r := 19) rfl, h.row (r := 20) rfl, h.row (r := 21) rfl, h.row (r := 0) rfl, h.row (r := 4) rfl, h.ebX, h.edX, h.esX, h.epX, h.te.eT, h.te.eiv, h.te.eab]
    exact this
theorem TE.eHv {m m' : qSt} (h : TE m m') : Hv m' = Hv m := by
  funext c n f
  show (FOf m' c f ∧ ¬ mby m' f n 0 = -1 ∧ ¬ ma m' 12 (10 * f + tn (mby m' f n 0)) = 0) = _
  rw [h.eFO, h.emb, h.2 12 (by omega) (by omega)]; rfl
theorem TE.eMx {m m' : qSt} (h : TE m m') : Mx m' = Mx m := by
  funext c n f
  show (Hv m' c n f ∧ ∀ g, Hv m' c n g → g ≠ f → ¬ FOf m' g f) = _
  rw [h.eHv, h.eFO]; rfl
theorem TE.ecd {m m' : qSt} (h : TE m m') : codeN m' = codeN m := by
  funext n f
  show 10 * f + tn (mby m' f n 0) = _
  rw [h.emb]; rfl
theorem TE.ele {m m' : qSt} (h : TE m m') : lendN m' = lendN m := by
  funext c n
  unfold lendN
  rw [h.eMx, h.ecd]
theorem TE.efs {m m' : qSt} (h : TE m m') : fsF m' = fsF m := by
  funext n f l
  induction l with
  | nil => rfl
  | cons c l ih =>
    unfold fsF
    rw [h.emb, ih]
theorem TE.efd {m m' : qSt} (h : TE m m') : fdN m' = fdN m := by
  funext c n
  unfold fdN
  rw [h.efs, h.eab, h.ele, h.2 12 (by omega) (by omega)]
theorem TE.eP {m m' : qSt} (h : TE m m') : isP m' = isP m := by
  funext a; show (¬ ma m' 8 a = 0 ∧ ma m' 11 a = 0) = _; rw [h.2 8 (by omega) (by omega), h.2 11 (by omega) (by omega)]; rfl
theorem TE.eivF {m m' : qSt} (h : TE m m') : ivF m' = ivF m := by
  funext c k
  induction k with
  | zero => rfl
  | succ k ih => show ivF m' c k ++ cIf (isP m' (10 * c + k)) [laneV (ma m' 10 (10 * c + k))] [] = ivF m c k ++ cIf (isP m (10 * c + k)) [laneV (ma m 10 (10 * c + k))] []; rw [ih, h.eP, h.2 10 (by omega) (by omega)]
theorem TE.epc {m m' : qSt} (h : TE m m') : pcN m' = pcN m := by
  funext c; show (ivF m' c (nM m' c)).length = _; rw [h.eivF, h.eM]; rfl
theorem TE.epf {m m' : qSt} (h : TE m m') : pcF m' = pcF m := by
  funext c k; show (ivF m' c k).length = _; rw [h.eivF]; rfl
/-- where the place of a member stands among those of a thing -/
noncomputable def offA (m : qSt) (d : Nat) : List Nat → Nat
  | [] => 0
  | c :: l => if c = d then 0 else pcN m c + offA m d l
noncomputable def offN (m : qSt) (b a : Nat) : Nat := offA m (a / 10) (abvs m b) + pcF m (a / 10) (a % 10)
theorem TE.eof2 {m m' : qSt} (h : TE m m') : offN m' = offN m := by
  have hA : offA m' = offA m := by
    funext d l
    induction l with
    | nil => rfl
    | cons c l ih => show (if c = d then 0 else pcN m' c + offA m' d l) = (if c = d then 0 else pcN m c + offA m d l); rw [ih, h.epc]
  funext b a
  show offA m' (a / 10) (abvs m' b) + pcF m' (a / 10) (a % 10) = _
  rw [hA, h.eab, h.epf]; rfl
theorem pcF_s (m : qSt) (c k : Nat) : pcF m c (k + 1) = pcF m c k + cIf (isP m (10 * c + k)) 1 0 := by
  show (ivF m c k ++ cIf (isP m (10 * c + k)) [laneV (ma m 10 (10 * c + k))] []).length = (ivF m c k).length + _
  by_cases q : isP m (10 * c + k)
  · rw [cIf_t q, cIf_t q, List.length_append]; rfl
  · rw [cIf_f q, cIf_f q, List.append_nil]; rfl
theorem pcF_mono (m : qSt) (c : Nat) {i j : Nat} (h : i ≤ j) : pcF m c i ≤ pcF m c j := by
  induction j with
  | zero => have : i = 0 := by omega
            subst this; exact Nat.le_refl _
  | succ j ih =>
    rcases Nat.lt_or_ge j i with q | q
    · have : i = j + 1 := by omega
      subst this; exact Nat.le_refl _
    · rw [pcF_s]; have := ih q; omega
theorem pcF_lt {m : qSt} {c j : Nat} (hj : j < nM m c) (hP : isP m (10 * c + j)) : pcF m c j < pcN m c := by
  have h1 : pcF m c (j + 1) ≤ pcN m c := pcF_mono m c (by omega)
  rw [pcF_s, cIf_t hP] at h1
  omega
theorem pcN_le (m : qSt) (c : Nat) : pcN m c ≤ nM m c := ivF_len m c (nM m c)
theorem pcF_le (m : qSt) (c k : Nat) : pcF m c k ≤ k := ivF_len m c k
theorem offA_le {m : qSt} {d : Nat} : ∀ {l : List Nat}, d ∈ l → offA m d l + pcN m d ≤ (ivL m l).length
  | c :: l, h => by
    show (if c = d then 0 else pcN m c + offA m d l) + pcN m d ≤ (ivC m c ++ ivL m l).length
    rw [List.length_append]
    by_cases e : c = d
    · subst e
      rw [if_pos rfl, Nat.zero_add]
      exact Nat.le_add_right _ _
    · rw [if_neg e]
      have := offA_le (m := m) (l := l) ((List.mem_cons.mp h).resolve_left (fun q => e q.symm))
      have : pcN m c = (ivC m c).length := rfl
      omega
theorem off_lt {m : qSt} {b d j : Nat} (hd : d ∈ abvs m b) (hj : j < nM m d) (hj10 : j < 10) (hP : isP m (10 * d + j)) : offN m b (10 * d + j) < (ivL m (abvs m b)).length := by
  unfold offN
  rw [show (10 * d + j) / 10 = d by omega, show (10 * d + j) % 10 = j by omega]
  have h1 := offA_le (m := m) hd
  have h2 := pcF_lt hj hP
  omega
/-- the field at a is a member of d; the place of it in the thing X -/
def FdOK (w : qSt) (a : Nat) : Prop := ∃ d j, a = 10 * d + j ∧ d < nT w ∧ 9 ≤ d ∧ j < nM w d ∧ j < 10 ∧ ma w 8 a = 1 ∧ ma w 0 d = 1
def HasF (w : qSt) (X a : Nat) : Prop := X < nX w ∧ dX w X = 0 ∧ a / 10 ∈ abvs w (bX w X)
theorem XInv.cls {w : qSt} (hX : XInv w) {X : Nat} (h : X < nX w) (hd : dX w X = 0) : bX w X < nT w ∧ ma w 0 (bX w X) = 1 ∧ sX w X = (ivL w (abvs w (bX w X))).length ∧ ∀ d ∈ abvs w (bX w X), ma w 4 d = 1 := by
  obtain ⟨y1, y2, y3, y4, y5, y6, y7, y8⟩ := hX.2.2.2 X h
  rcases y8 with q | q
  · exact ⟨y2, q.2.1, q.2.2.1, q.2.2.2⟩
  · omega
theorem off_in {w : qSt} (hX : XInv w) {X a : Nat} (hF : FdOK w a) (hH : HasF w X a) (hs : ma w 11 a = 0) : offN w (bX w X) a < sX w X := by
  obtain ⟨d, j, rfl, h1, h2, h3, h4, h5, h6⟩ := hF
  obtain ⟨g1, g2, g3⟩ := hH
  rw [show (10 * d + j) / 10 = d by omega] at g3
  rw [(hX.cls g1 g2).2.2.1]
  exact off_lt g3 h3 h4 ⟨by rw [h5]; decide, hs⟩
noncomputable def tfL (w : qSt) (a : Nat) : Int32 := cIf (isL (ma w 10 a)) (ma w 10 a) 8
noncomputable def tfV (w : qSt) (X a : Nat) : Int64 := cIf (ma w 11 a = 0) (ml w 23 (pX w X + offN w (bX w X) a)) (ml w 14 a)
theorem RE.etL {w w' : qSt} (h : RE w w') : tfL w' = tfL w := h.c tfL (fun _ => rfl)
theorem RE.etV {w w' : qSt} (h : RE w w') : tfV w' = tfV w := by
  funext X a
  have e1 : ml w' 23 = ml w 23 := h.c (fun w => ml w 23) (fun _ => rfl)
  have e2 : ml w' 14 = ml w 14 := h.c (fun w => ml w 14) (fun _ => rfl)
  unfold tfV
  rw [h.row (r := 11) rfl, e1, e2, h.epX, h.ebX, h.te.eof2]
section
variable {G : qGX} {w : qSt} {Q : Option Value → qSt → Prop}
theorem c12_placeIn {X a : Nat} (hI : TInv w) (hX : XInv w) (hF : FdOK w a) (hH : HasF w X a) (h : Q (some (.int (nI (pX w X + offN w (bX w X) a)))) w) : Con G M12_placeIn [.ref 79, .int (nI X), .int (nI a)] w Q := by
  have h100 := hI.le
  obtain ⟨d, j, rfl, f1, f2, f3, f4, f5, f6⟩ := hF
  obtain ⟨g1, g2, g3⟩ := hH
  have ed : (10 * d + j) / 10 = d := by omega
  have ej : (10 * d + j) % 10 = j := by omega
  rw [ed] at g3
  unfold offN at h
  rw [ed, ej] at h
  have hX60 := hX.2.1
  obtain ⟨y1, y2, y3, y4, y5, y6, y7, y8⟩ := hX.2.2.2 X g1
  have hcl := hX.cls g1 g2
  have hp := hX.2.2.1 X (by omega)
  have hsz := hX.sz g1
  have e2 : (nI X).toNatClampNeg = X := nI_clamp (by omega)
  have last : ∀ (n i P : Nat), i + n = j → Q (some (.int (nI (P + (pcF w d j - pcF w d i))))) w → Wq G M12_placeIn 89 [some (.ref 79), some (.int (nI X)), some (.int (nI (10 * d + j))), some (.int (nI P)), some (.int (nI (10 * d + i))), none] [] (0, 0) w Q := by
    intro n
    induction n with
    | zero =>
      intro i P hi hq
      have : i = j := by omega
      subst this
      refine Wq.go ok12_placeIn 20 [] ?_
      refine And.intro (fun _ => ?_) (fun (q : ¬ nI (10 * d + i) ≤ nI (10 * d + i)) => absurd (by rw [i32_le]; omega) q)
      rw [show P + (pcF w d i - pcF w d i) = P by omega] at hq
      exact hq
    | succ n ih =>
      intro i P hi hq
      have hs := pcF_s w d i
      have hm := pcF_mono w d (i := i + 1) (j := j) (by omega)
      refine Wq.go ok12_placeIn 20 [110] ?_
      refine And.intro (fun (q : nI (10 * d + j) ≤ nI (10 * d + i)) => ?_) (fun _ => c12_isPlace (a := 10 * d + i) (by omega) (And.intro (fun c => ?_) (fun c => ?_)))
      · rw [nI_leI (by omega) (by omega)] at q; omega
      · rw [bI_0] at c
        have c : ¬ isP w (10 * d + i) := c
        rw [cIf_f c] at hs
        refine Wq.go ok12_placeIn 20 [89] ?_
        show Wq G M12_placeIn 89 [some (.ref 79), some (.int (nI X)), some (.int (nI (10 * d + j))), some (.int (nI P + nI 0)), some (.int (nI (10 * d + i) + 1)), none] [] (0, 0) w Q
        rw [nI_add, nI_1]
        refine ih (i + 1) (P + 0) (by omega) ?_
        rw [show P + 0 + (pcF w d j - pcF w d (i + 1)) = P + (pcF w d j - pcF w d i) by omega]
        exact hq
      · rw [bI_n0] at c
        have c : isP w (10 * d + i) := c
        rw [cIf_t c] at hs
        refine Wq.go ok12_placeIn 20 [89] ?_
        show Wq G M12_placeIn 89 [some (.ref 79), some (.int (nI X)), some (.int (nI (10 * d + j))), some (.int (nI P + 1)), some (.int (nI (10 * d + i) + 1)), none] [] (0, 0) w Q
        rw [nI_1, nI_1]
        refine ih (i + 1) (P + 1) (by omega) ?_
        rw [show P + 1 + (pcF w d j - pcF w d (i + 1)) = P + (pcF w d j - pcF w d i) by omega]
        exact hq
  have inner : ∀ (c : Nat), c < nT w → ∀ (n i P : Nat), i + n = nM w c → (Wq G M12_placeIn 68 [some (.ref 79), some (.int (nI X)), some (.int (nI (10 * d + j))), some (.int (nI (P + (pcN w c - pcF w c i)))), some (.int (nI c)), some (.int (nI (nM w c)))] [] (0, 0) w Q) → Wq G M12_placeIn 27 [some (.ref 79), some (.int (nI X)), some (.int (nI (10 * d + j))), some (.int (nI P)), some (.int (nI c)), some (.int (nI i))] [] (0, 0) w Q := by
    intro c hc n
    obtain ⟨m1, m2, -⟩ := hI.mbs (i := c) (by omega)
    have hin : vp_in (nI c) 100 := in_nI (by omega) (by decide)
    have e3 : (nI c).toNatClampNeg = c := nI_clamp (by omega)
    induction n with
    | zero =>
      intro i P hi hw
      have : i = nM w c := by omega
      subst this
      rw [show pcN w c - pcF w c (nM w c) = 0 from Nat.sub_self _] at hw
      refine Wq.go ok12_placeIn 20 [68] ?_
      refine And.intro hin (And.intro (fun _ => hw) (fun (q : ¬ ma w 7 (nI c).toNatClampNeg ≤ nI (nM w c)) => absurd (by rw [e3, m1, i32_le]; exact Int.le_refl _) q))
    | succ n ih =>
      intro i P hi hw
      have hs := pcF_s w c i
      have hm : pcF w c (i + 1) ≤ pcN w c := pcF_mono w c (by omega)
      refine Wq.go ok12_placeIn 30 [60] ?_
      refine And.intro hin (And.intro (fun (q : ma w 7 (nI c).toNatClampNeg ≤ nI i) => ?_) (fun _ => ?_))
      · rw [e3, m1, nI_leI (by omega) (by omega)] at q; omega
      · show Con G M12_isPlace [.ref 79, .int ((10 : Int32) * nI c + nI i)] w _
        rw [ix10]
        refine c12_isPlace (by omega) (And.intro (fun q => ?_) (fun q => ?_))
        · rw [bI_0] at q
          have q : ¬ isP w (10 * c + i) := q
          rw [cIf_f q] at hs
          refine Wq.go ok12_placeIn 20 [27] ?_
          show Wq G M12_placeIn 27 [some (.ref 79), some (.int (nI X)), some (.int (nI (10 * d + j))), some (.int (nI P + nI 0)), some (.int (nI c)), some (.int (nI i + 1))] [] (0, 0) w Q
          rw [nI_add, nI_1]
          refine ih (i + 1) (P + 0) (by omega) ?_
          rw [show P + 0 + (pcN w c - pcF w c (i + 1)) = P + (pcN w c - pcF w c i) by omega]
          exact hw
        · rw [bI_n0] at q
          have q : isP w (10 * c + i) := q
          rw [cIf_t q] at hs
          refine Wq.go ok12_placeIn 20 [27] ?_
          show Wq G M12_placeIn 27 [some (.ref 79), some (.int (nI X)), some (.int (nI (10 * d + j))), some (.int (nI P + 1)), some (.int (nI c)), some (.int (nI i + 1))] [] (0, 0) w Q
          rw [nI_1, nI_1]
          refine ih (i + 1) (P + 1) (by omega) ?_
          rw [show P + 1 + (pcN w c - pcF w c (i + 1)) = P + (pcN w c - pcF w c i) by omega]
          exact hw
  have outer : ∀ (n c P : Nat), c < n → c < nT w → ma w 0 c = 1 → d ∈ abvs w c → Q (some (.int (nI (P + (offA w d (abvs w c) + pcF w d j))))) w → Wq G M12_placeIn 15 [some (.ref 79), some (.int (nI X)), some (.int (nI (10 * d + j))), some (.int (nI P)), some (.int (nI c)), none] [] (0, 0) w Q := by
    intro n
    induction n with
    | zero => intro c P h0; omega
    | succ n ih =>
      intro c P hn hc hs hd hq
      refine Wq.go ok12_placeIn 20 [24, 80] ?_
      refine And.intro (by decide) (And.intro (fun (q : nI c = nI (10 * d + j) / 10) => ?_) (fun (q : ¬ nI c = nI (10 * d + j) / 10) => ?_)) <;> rw [div10 (by omega), ed, nI_eqI (by omega) (by omega)] at q
      · subst q
        have e0 : offA w c (abvs w c) = 0 := if_pos rfl
        rw [e0, Nat.zero_add] at hq
        refine Wq.go ok12_placeIn 20 [89] ?_
        refine And.intro (by decide) ?_
        show Wq G M12_placeIn 89 [some (.ref 79), some (.int (nI X)), some (.int (nI (10 * c + j))), some (.int (nI P)), some (.int ((10 : Int32) * (nI (10 * c + j) / 10))), none] [] (0, 0) w Q
        rw [div10 (by omega), ed, show (10 : Int32) = nI 10 from rfl, pk_mul]
        refine last j 0 P (by omega) ?_
        rw [show pcF w c 0 = 0 from rfl, Nat.sub_zero]
        exact hq
      · have h8 : c ≠ 8 := by
          intro e
          subst e
          rw [abvs_8, List.mem_singleton] at hd
          omega
        obtain ⟨u1, u2, u3, u4⟩ := hI.up hc hs h8
        rw [abvs_c hI hc hs h8] at hd hq
        have hd' := (List.mem_cons.mp hd).resolve_left (fun e => q e.symm)
        have e0 : offA w d (c :: abvs w (upN w c)) = pcN w c + offA w d (abvs w (upN w c)) := if_neg q
        rw [e0] at hq
        have hin : vp_in (nI c) 100 := in_nI (by omega) (by decide)
        have e3 : (nI c).toNatClampNeg = c := nI_clamp (by omega)
        refine Wq.go ok12_placeIn 20 [27] ?_
        refine inner c hc (nM w c) 0 P (by omega) ?_
        refine Wq.go ok12_placeIn 20 [15] ?_
        refine And.intro hin ?_
        show Wq G M12_placeIn 15 [some (.ref 79), some (.int (nI X)), some (.int (nI (10 * d + j))), some (.int (nI (P + (pcN w c - pcF w c 0)))), some (.int (ma w 1 (nI c).toNatClampNeg)), some (.int (nI (nM w c)))] [] (0, 0) w Q
        rw [e3, u1, show pcF w c 0 = 0 from rfl, Nat.sub_zero]
        refine Wq.ls (ls' := [some (.ref 79), some (.int (nI X)), some (.int (nI (10 * d + j))), some (.int (nI (P + pcN w c))), some (.int (nI (upN w c))), none]) ⟨rfl, rfl, rfl, rfl, rfl, trivial⟩ ?_
        refine ih (upN w c) (P + pcN w c) (by omega) (by omega) u4 hd' ?_
        rw [show P + pcN w c + (offA w d (abvs w (upN w c)) + pcF w d j) = P + (pcN w c + offA w d (abvs w (upN w c)) + pcF w d j) by omega]
        exact hq
  have hin : vp_in (nI X) 61 := in_nI (by omega) (by decide)
  have hin2 : vp_in (nI X) 60 := in_nI (by omega) (by decide)
  refine Con.go hw12_placeIn ok12_placeIn 40 [15] rfl ?_
  refine And.intro hin (And.intro hin2 ?_)
  show Wq G M12_placeIn 15 [some (.ref 79), some (.int (nI X)), some (.int (nI (10 * d + j))), some (.int (ma w 22 (nI X).toNatClampNeg)), some (.int (ma w 19 (nI X).toNatClampNeg)), none] [] (0, 0) w Q
  rw [e2, hp.1, y1]
  exact outer (bX w X + 1) (bX w X) (pX w X) (by omega) hcl.1 hcl.2.1 g3 h
theorem c12_takeField {x : Int32} {a : Nat} (hI : TInv w) (hX : XInv w) (hF : FdOK w a) (hH : ma w 11 a = 0 → ∃ X, x = nI X ∧ HasF w X a) (h : Q none (sI (sJ w 12 34 0 (tfV w (tn x) a)) 12 33 0 (tfL w a))) : Con G M12_takeField [.ref 79, .int x, .int (nI a)] w Q := by
  have h100 := hI.le
  have ha : a < 1000 := by obtain ⟨d, j, rfl, f1, f2, f3, f4, -⟩ := hF; omega
  have hin : vp_in (nI a) 1000 := in_nI (by omega) (by decide)
  have e2 : (nI a).toNatClampNeg = a := nI_clamp (by omega)
  have nx : ∀ V, V = tfV w (tn x) a → Wq G M12_takeField 30 [some (.ref 79), some (.int x), some (.int (nI a))] [.long V, .ref 79] (0, 0) w Q := by
    intro V hV
    rw [hV]
    refine Wq.go ok12_takeField 20 [] ?_
    refine And.intro hin ?_
    show Con G M12_isLane [.int (ma w 10 (nI a).toNatClampNeg)] _ _
    rw [e2]
    refine c12_isLane (And.intro (fun c => ?_) (fun c => And.intro hin ?_))
    · rw [bI_0] at c
      unfold tfL at h
      rw [cIf_f c] at h
      exact h
    · rw [bI_n0] at c
      unfold tfL at h
      rw [cIf_t c] at h
      show Q none (sI (sJ w 12 34 0 (tfV w (tn x) a)) 12 33 0 (ma w 10 (nI a).toNatClampNeg))
      rw [e2]
      exact h
  refine Con.go hw12_takeField ok12_takeField 20 [30] rfl ?_
  refine And.intro hin (And.intro (fun (c : ma w 11 (nI a).toNatClampNeg = 0) => ?_) (fun (c : ¬ ma w 11 (nI a).toNatClampNeg = 0) => And.intro hin ?_)) <;> rw [e2] at c
  · obtain ⟨X, rfl, hHF⟩ := hH c
    have h60 := hX.2.1
    have hsz := hX.sz hHF.1
    have ho := off_in hX hF hHF c
    have hX1 := hHF.1
    refine c12_placeIn hI hX hF hHF (And.intro (in_nI (N := 60000) (by omega) (by decide)) ?_)
    refine nx _ ?_
    show ml w 23 (nI (pX w X + offN w (bX w X) a)).toNatClampNeg = _
    rw [nI_clamp (by omega), tn_nI (by omega)]
    exact (cIf_t c).symm
  · refine nx _ ?_
    show ml w 14 (nI a).toNatClampNeg = _
    rw [e2]
    exact (cIf_f c).symm
end
