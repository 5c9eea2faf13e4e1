/-! ===== .. the rest of the calls ===== -/
section
variable {w w' : qSt}
theorem q_get (h : Mq w w') (a x : Int32) : RQ w' (S_get w a x) (S_get w' a x) := by
  unfold S_get
  have e1 : isH w' = isH w := h.c isH (fun _ => rfl)
  rw [h.re.enoX, h.re.erd]
  refine RQ.cI (by rw [e1]) (RQ.s0 h rfl rfl) (RQ.cI rfl (RQ.st rfl rfl (Mq.Tr _ (h.I rfl)) ?_) (RQ.st rfl rfl ((Mq.Tr _ (h.I rfl)).I rfl) ?_))
  · rw [cpTr, cp12I]
  · rw [cp12I, cpTr, cp12I]
theorem q_getAs (h : Mq w w') (a x l : Int32) : RQ w' (S_getAs w a x l) (S_getAs w' a x l) := by
  unfold S_getAs
  have e1 : isH w' = isH w := h.c isH (fun _ => rfl)
  rw [h.re.enoX, h.re.erd]
  refine RQ.cI (by rw [e1]) (RQ.s0 h rfl rfl) (RQ.cI rfl (RQ.st rfl rfl (Mq.Tr _ (h.I rfl)) ?_) (RQ.st rfl rfl (Mq.Tr _ (h.I rfl)) ?_))
  · rw [cpTr, cp12I]
  · rw [cpTr, cp12I]
theorem q_set (h : Mq w w') (a x : Int32) (v : Int64) : RQ w' (S_set w a x v) (S_set w' a x v) := by
  unfold S_set
  have e1 : isH w' = isH w := h.c isH (fun _ => rfl)
  have e2 : tyN w' = tyN w := h.c tyN (fun _ => rfl)
  rw [h.re.enoX, h.re.erc, h.emb, h.re.ehA, e2, h.te.eba, h.te.edp, h.row (r := 25) rfl, h.row (r := 11) rfl, h.epX, h.ebX, h.te.eof2]
  refine RQ.cI (by rw [e1]) (RQ.s0 h rfl rfl) (RQ.cI rfl (RQ.s0 h rfl rfl) (RQ.cI rfl (RQ.s0 h rfl rfl) (RQ.cI rfl (RQ.s0 h rfl rfl) ?_)))
  by_cases c : ma w 11 (hA w (tn a)) = 0
  · rw [cIf_t c, cIf_t c]
    exact RQ.st rfl rfl (h.J rfl) (cp40J _ _ _ _)
  · rw [cIf_f c, cIf_f c]
    exact RQ.st rfl rfl (h.J rfl) (cp40J _ _ _ _)
theorem q_column (h : Mq w w') (k l n : Int32) : RQ w' (S_column w k l n) (S_column w' k l n) := by
  unfold S_column
  refine RQ.cI rfl (RQ.s0 h rfl rfl) (RQ.cI rfl (RQ.s0 h rfl rfl) (RQ.st rfl rfl ?_ ?_))
  · unfold sCol
    exact Mq.rJ (((h.I rfl).I rfl).I rfl) (by rw [h.rowJ 31])
  · unfold sCol; rw [cpRJ, cp40I, cp40I, cp40I]
theorem q_cell (h : Mq w w') (k i : Int32) : RQ w' (S_cell w k i) (S_cell w' k i) := by
  unfold S_cell
  have e1 : cN w' = cN w := h.c cN (fun _ => rfl)
  rw [h.row (r := 28) rfl, h.rowJ 31, e1]
  exact RQ.cI rfl (RQ.s0 h rfl rfl) (RQ.cI rfl (RQ.s0 h rfl rfl) (RQ.cI rfl (RQ.s0 h rfl rfl) (RQ.s0 h rfl rfl)))
theorem q_sum (h : Mq w w') (k : Int32) : RQ w' (S_sum w k) (S_sum w' k) := by
  unfold S_sum
  have e1 : cN w' = cN w := h.c cN (fun _ => rfl)
  have e2 : cL w' = cL w := h.c cL (fun _ => rfl)
  have e3 : alF w' = alF w := by
    funext k i
    induction i with
    | zero => rfl
    | succ i ih => show alF w' k i + ml w' 31 (60 * k + i) = alF w k i + ml w 31 (60 * k + i); rw [ih, h.rowJ 31]
  have e4 : dsF w' = dsF w := by
    funext k i
    induction i with
    | zero => rfl
    | succ i ih => show cIf (finB (dbV (cL w' k) (ml w' 31 (60 * k + i)))) (FP.dadd (dsF w' k i) (dbV (cL w' k) (ml w' 31 (60 * k + i)))) (dsF w' k i) = cIf (finB (dbV (cL w k) (ml w 31 (60 * k + i)))) (FP.dadd (dsF w k i) (dbV (cL w k) (ml w 31 (60 * k + i)))) (dsF w k i); rw [ih, h.rowJ 31, e2]
  rw [h.row (r := 28) rfl, e1, e2, e3, e4]
  exact RQ.cI rfl (RQ.s0 h rfl rfl) (RQ.cI rfl (RQ.s0 h rfl rfl) (RQ.s0 h rfl rfl))
theorem Mq.efl (h : Mq w w') : flR w' = flR w := by
  have e1 : cN w' = cN w := h.c cN (fun _ => rfl)
  have e2 : cL w' = cL w := h.c cL (fun _ => rfl)
  have e3 : fno w' = fno w := by
    funext K f r
    unfold fno cmN
    rw [e1, e2]
  funext K a n
  induction n with
  | zero => rfl
  | succ n ih =>
    funext x f
    unfold flR
    rw [ih, h.te.eSo, h.ebX, h.edX, h.re.ehC, h.re.erd, e2, e3]
theorem q_fill (h : Mq w w') (k a : Int32) : RQ w' (S_fill w k a) (S_fill w' k a) := by
  unfold S_fill
  have e1 : isH w' = isH w := h.c isH (fun _ => rfl)
  rw [h.efl, h.row (r := 28) rfl, h.enX]
  have st : ∀ (K : Nat) (tr : List Int32) (vs : List Int64), Mq (stF (sI w 12 36 0 0) K tr vs) (stF (sI w' 12 36 0 0) K tr vs) ∧ cp (stF (sI w' 12 36 0 0) K tr vs) = cp w' := by
    intro K tr vs
    unfold stF
    refine ⟨(Mq.rJ (Mq.Tr tr (h.I rfl)) ?_).I rfl, ?_⟩
    · show putL (ml w' 31) (60 * K) vs = putL (ml w 31) (60 * K) vs
      rw [h.rowJ 31]
    · rw [cp12I, cpRJ, cpTr, cp12I]
  exact RQ.cI (by rw [e1]) (RQ.s0 h rfl rfl) (RQ.cI rfl (RQ.s0 h rfl rfl) (RQ.cI rfl (RQ.st rfl rfl (st _ _ _).1 (st _ _ _).2) (RQ.st rfl rfl (st _ _ _).1 (st _ _ _).2)))
theorem q_query (h : Mq w w') : RQ w' (S_query w) (S_query w') := by
  unfold S_query
  rw [h.enQ]
  exact RQ.cI rfl (RQ.s0 h rfl rfl) (RQ.st rfl rfl (h.I rfl) (cp12I _ _ _ _))
theorem q_test (h : Mq w w') (q a op : Int32) (v : Int64) (or : Int32) : RQ w' (S_test w q a op v or) (S_test w' q a op v or) := by
  unfold S_test
  have e1 : isH w' = isH w := h.c isH (fun _ => rfl)
  have e2 : isQ w' = isQ w := h.c isQ (fun _ => rfl)
  have e3 : tQ w' = tQ w := h.c tQ (fun _ => rfl)
  refine RQ.cI (by rw [e1, e2]) (RQ.s0 h rfl rfl) (RQ.cI (by rw [e3]) (RQ.s0 h rfl rfl) (RQ.st (by rw [e3]) rfl ?_ ?_))
  · unfold sTs; rw [e3]; exact ((((h.I rfl).I rfl).J rfl).I rfl).I rfl
  · unfold sTs; rw [cp40I, cp40I, cp40J, cp40I, cp40I]
theorem Mq.eak (h : Mq w w') : akF w' = akF w := by
  have e1 : tH w' = tH w := h.c tH (fun _ => rfl)
  have e2 : tO w' = tO w := h.c tO (fun _ => rfl)
  funext q x n
  induction n with
  | zero => rfl
  | succ n ih =>
    funext k is
    unfold akF
    rw [ih, h.re.erd, h.row (r := 36) rfl, h.rowJ 35, e1, e2]
theorem Mq.ern (h : Mq w w') : rnF w' = rnF w := by
  have e1 : tH w' = tH w := h.c tH (fun _ => rfl)
  have e2 : tQ w' = tQ w := h.c tQ (fun _ => rfl)
  have e3 : akX w' = akX w := by
    funext q x
    unfold akX
    rw [h.eak, h.te.eSo, h.ebX, h.edX, h.re.ehC, e1, e2]
  funext q n
  induction n with
  | zero => rfl
  | succ n ih =>
    funext x
    unfold rnF
    rw [ih, e3]
theorem q_run (h : Mq w w') (q f n : Int32) : RQ w' (S_run w q f n) (S_run w' q f n) := by
  unfold S_run
  have e2 : isQ w' = isQ w := h.c isQ (fun _ => rfl)
  have e3 : tQ w' = tQ w := h.c tQ (fun _ => rfl)
  have e4 : rnN w' = rnN w := by
    funext q f n
    unfold rnN
    rw [h.ern, h.enX]
  rw [e4, e3]
  have st : ∀ (tr : List Int32) (hs : List Nat) (fa : Int32), Mq (stR (sI w 12 36 0 0) tr hs fa) (stR (sI w' 12 36 0 0) tr hs fa) ∧ cp (stR (sI w' 12 36 0 0) tr hs fa) = cp w' := by
    intro tr hs fa
    unfold stR
    refine ⟨((Mq.rI (Mq.Tr tr (h.I rfl)) ?_).I rfl).I rfl, ?_⟩
    · show putI (ma w' 37) hs = putI (ma w 37) hs
      rw [h.row (r := 37) rfl]
    · rw [cp12I, cp12I, cpRI, cpTr, cp12I]
  exact RQ.cI (by rw [e2]) (RQ.s0 h rfl rfl) (RQ.cI rfl (RQ.s0 h rfl rfl) (RQ.cI rfl (RQ.st rfl rfl (st _ _ _).1 (st _ _ _).2) (RQ.st rfl rfl (st _ _ _).1 (st _ _ _).2)))
theorem Mq.eHt (h : Mq w w') : nHt w' = nHt w := h.c nHt (fun _ => rfl)
theorem q_total (h : Mq w w') (a : Int32) : RQ w' (S_total w a) (S_total w' a) := by
  unfold S_total
  have e1 : isH w' = isH w := h.c isH (fun _ => rfl)
  have e2 : ttF w' = ttF w := by
    funext a n
    induction n with
    | zero => rfl
    | succ n ih =>
      funext k A
      unfold ttF
      rw [ih, h.re.erd, h.row (r := 37) rfl]
  rw [e2, h.eHt]
  refine RQ.cI (by rw [e1]) (RQ.s0 h rfl rfl) (RQ.cI rfl (RQ.st rfl rfl (Mq.Tr _ (h.I rfl)) ?_) (RQ.st rfl rfl (Mq.Tr _ (h.I rfl)) ?_))
  · rw [cpTr, cp12I]
  · rw [cpTr, cp12I]
theorem q_hit (h : Mq w w') (k : Int32) : S_hit w' k = S_hit w k := by
  unfold S_hit
  rw [h.eHt, h.row (r := 37) rfl]
theorem q_trace (h : Mq w w') (k : Int32) : S_trace w' k = S_trace w k := by
  unfold S_trace
  rw [h.eTr, h.row (r := 27) rfl]
theorem q_told (h : Mq w w') (k : Int32) : S_told w' k = S_told w k := by
  unfold S_told
  rw [h.te.eT, h.enX, h.enH, h.enQ, h.eTr, h.eHt, ecl4 (h.row (r := 4) rfl), ecs0 (h.row (r := 0) rfl)]
theorem q_digest (h : Mq w w') : RQ w' (S_digest w) (S_digest w') := by
  unfold S_digest
  have e1 : itF w' = itF w := by
    funext n
    induction n with
    | zero => rfl
    | succ n ih => funext p a; show itF w' n (p + 1) (mx a (ml w' 23 p)) = itF w n (p + 1) (mx a (ml w 23 p)); rw [ih, h.rowJ 23]
  have e2 : xF w' = xF w := by
    funext n
    induction n with
    | zero => rfl
    | succ n ih => funext x a; unfold xF; rw [ih, e1, h.esX, h.epX, h.row (r := 19) rfl, h.row (r := 20) rfl]
  have e3 : isSh w' = isSh w := h.c isSh (fun _ => rfl)
  have e4 : shF w' = shF w := by
    funext n
    induction n with
    | zero => rfl
    | succ n ih => funext x a; unfold shF; rw [ih, e3, h.rowJ 14]
  have e5 : ceF w' = ceF w := by
    funext n
    induction n with
    | zero => rfl
    | succ n ih => funext p a; show ceF w' n (p + 1) (mx a (ml w' 31 p)) = ceF w n (p + 1) (mx a (ml w 31 p)); rw [ih, h.rowJ 31]
  have e6 : cN w' = cN w := h.c cN (fun _ => rfl)
  have e7 : coF w' = coF w := by
    funext n
    induction n with
    | zero => rfl
    | succ n ih => funext x a; unfold coF; rw [ih, e5, e6, h.row (r := 28) rfl, h.row (r := 29) rfl]
  rw [e2, e4, e7, h.te.eT, h.enX]
  exact RQ.s0 h rfl rfl
end
/-! the class's objects, read with another number of the model, or over other cells of the model -/
theorem Rep.mq2 {A : qA} {m m' w : qSt} (hR : Rep A m w) (h : Mq m m') : Rep A m' w := by
  have e : ∀ k, scI 12 k = false → mi m' k = mi m k := fun k hk => h.emi hk
  refine (hR.r0.sr h.sr).rep ?_ ?_
  · obtain ⟨a1, a2⟩ := hR.mr
    refine ⟨by rw [e 36 rfl]; exact a1, fun i hi => ?_⟩
    rw [h.eTr] at hi
    rw [h.row (r := 27) rfl]; exact a2 i hi
  · obtain ⟨a1, a2, a3, a4, a5, a6, a7⟩ := hR.mq
    refine ⟨by rw [e 43 rfl]; exact a1, by rw [e 49 rfl]; exact a2, by rw [e 51 rfl]; exact a3, by rw [e 42 rfl]; exact a4, by rw [e 35 rfl]; exact a5, by rw [e 0 rfl]; exact a6, fun i hi => ?_⟩
    rw [h.eHt] at hi
    rw [h.row (r := 37) rfl]; exact a7 i hi
theorem cp_sc {w w' : qSt} (h : cp w' = cp w) (a : Nat) : SameC w w' a := by
  have eI : ∀ r k i, isM r = false → gI w' r k i = gI w r k i := fun r k i hr => by
    have e := congrFun (congrFun (congrFun (congrArg (fun w : qSt => w.1) h) r) k) i
    have e : (bif isM r then 0 else gI w' r k i) = (bif isM r then 0 else gI w r k i) := e
    rw [hr] at e; exact e
  have eJ : ∀ r k i, isM r = false → gJ w' r k i = gJ w r k i := fun r k i hr => by
    have e := congrFun (congrFun (congrFun (congrArg (fun w : qSt => w.2.1) h) r) k) i
    have e : (bif isM r then 0 else gJ w' r k i) = (bif isM r then 0 else gJ w r k i) := e
    rw [hr] at e; exact e
  have eR : gR w' = gR w := show (cp w').2.2.1 = (cp w).2.2.1 by rw [h]
  have eN : gN w' = gN w := show (cp w').2.2.2 = (cp w).2.2.2 by rw [h]
  have hM : ∀ r, r < 12 → isM r = false := by
    intro r hr
    unfold isM
    rw [show Nat.beq r 12 = false from by cases e : Nat.beq r 12; rfl; have := Nat.eq_of_beq_eq_true e; omega, show Nat.beq r 40 = false from by cases e : Nat.beq r 40; rfl; have := Nat.eq_of_beq_eq_true e; omega]; rfl
  exact ⟨by rw [eN], by rw [eN], fun r k hr => ⟨eI r k a (hM r hr), eJ r k a (hM r hr), by rw [eR]⟩, fun j => ⟨eI 20 a j rfl, eJ 21 a j rfl, by rw [eR]⟩⟩
theorem cp_zero {w w' : qSt} (h : cp w' = cp w) (hz : qZero w) : qZero w' := by
  have eN : gN w' = gN w := show (cp w').2.2.2 = (cp w).2.2.2 by rw [h]
  intro a ha
  rw [eN] at ha
  obtain ⟨z1, z2, z3⟩ := hz a ha
  obtain ⟨s1, s2, s3, s4⟩ := cp_sc h a
  exact ⟨s1.trans z1, fun r k hr => ⟨(s3 r k hr).1.trans (z2 r k hr).1, (s3 r k hr).2.1.trans (z2 r k hr).2.1, (s3 r k hr).2.2.trans (z2 r k hr).2.2⟩, fun j => ⟨(s4 j).1.trans (z3 j).1, (s4 j).2.1.trans (z3 j).2.1, (s4 j).2.2.trans (z3 j).2.2⟩⟩
/-- both sides have done a call: the objects stand for the model as it is now -/
theorem both {α : Type} {A : qA} {a b : α × qSt} {w w' w'' : qSt} (hF : Fin A a.2 w w') (hq : RQ w' a b) (hS : Sc b.2 w'') : Rep A w'' w'' ∧ qZero w'' ∧ Mq a.2 w'' ∧ gN w'' 4 0 = gN w 4 0 := by
  have hm : Mq a.2 w'' := hq.2.1.tr hS.1
  have hc : cp w'' = cp w' := hS.2.trans hq.2.2
  refine ⟨(hF.1.mq2 hm).agree (fun x _ => cp_sc hc x), cp_zero hc hF.2.1, hm, ?_⟩
  have eN : gN w'' = gN w' := show (cp w'').2.2.2 = (cp w').2.2.2 by rw [hc]
  rw [eN]; exact hF.2.2.2
