/-! ===== a call depends on the model's own numbers alone ===== -/
theorem mp_at {w w' : qSt} (h : mp w' = mp w) {r k : Nat} (hs : (isM r && !scI r k) = true) (i : Nat) : gI w' r k i = gI w r k i := by
  have e := congrFun (congrFun (congrFun (congrArg (fun w : qSt => w.1) h) r) k) i
  have e : (bif isM r && !scI r k then gI w' r k i else 0) = (bif isM r && !scI r k then gI w r k i else 0) := e
  rw [hs] at e
  exact e
theorem Mq.emi {w w' : qSt} (h : Mq w w') {k : Nat} (hs : scI 12 k = false) : mi w' k = mi w k := mp_at h (by rw [hs]; rfl) 0
theorem Mq.rI {w w' : qSt} (h : Mq w w') {r : Nat} {f f' : Nat → Int32} (e : f' = f) : Mq (rI w r f) (rI w' r f') := by
  subst e
  refine st_ext ?_ (show (mp w').2.1 = (mp w).2.1 from congrArg (fun u : qSt => u.2.1) h) rfl rfl
  funext a k i
  have e2 := congrFun (congrFun (congrFun (congrArg (fun w : qSt => w.1) h) a) k) i
  have e2 : (bif isM a && !scI a k then gI w' a k i else 0) = (bif isM a && !scI a k then gI w a k i else 0) := e2
  show (bif isM a && !scI a k then (bif Nat.beq a 40 && Nat.beq k r then f' i else gI w' a k i) else 0) = (bif isM a && !scI a k then (bif Nat.beq a 40 && Nat.beq k r then f' i else gI w a k i) else 0)
  cases hb : Nat.beq a 40 && Nat.beq k r with
  | true => rfl
  | false => exact e2
theorem Mq.rJ {w w' : qSt} (h : Mq w w') {r : Nat} {f f' : Nat → Int64} (e : f' = f) : Mq (rJ w r f) (rJ w' r f') := by
  subst e
  refine st_ext (show (mp w').1 = (mp w).1 from congrArg (fun u : qSt => u.1) h) ?_ rfl rfl
  funext a k i
  have e2 := congrFun (congrFun (congrFun (congrArg (fun w : qSt => w.2.1) h) a) k) i
  have e2 : (bif isM a && !scJ a k then gJ w' a k i else 0) = (bif isM a && !scJ a k then gJ w a k i else 0) := e2
  show (bif isM a && !scJ a k then (bif Nat.beq a 40 && Nat.beq k r then f' i else gJ w' a k i) else 0) = (bif isM a && !scJ a k then (bif Nat.beq a 40 && Nat.beq k r then f' i else gJ w a k i) else 0)
  cases hb : Nat.beq a 40 && Nat.beq k r with
  | true => rfl
  | false => exact e2
theorem Mq.eTr {w w' : qSt} (h : Mq w w') : nTr w' = nTr w := h.c nTr (fun _ => rfl)
theorem Mq.T1 {w w' : qSt} (h : Mq w w') (t : Int32) : Mq (sT1 w t) (sT1 w' t) := by
  unfold sT1
  rw [h.eTr]
  split
  · exact (h.I rfl).I rfl
  · exact h
theorem Mq.Tr (l : List Int32) : ∀ {w w' : qSt}, Mq w w' → Mq (sTr w l) (sTr w' l) := by
  induction l with
  | nil => exact fun h => h
  | cons t l ih => exact fun h => ih (h.T1 t)
/-! the class's cells stay -/
theorem cp40I (w : qSt) (k i : Nat) (v : Int32) : cp (sI w 40 k i v) = cp w := cp_sI rfl
theorem cp12I (w : qSt) (k i : Nat) (v : Int32) : cp (sI w 12 k i v) = cp w := cp_sI rfl
theorem cp40J (w : qSt) (k i : Nat) (v : Int64) : cp (sJ w 40 k i v) = cp w := cp_sJ rfl
theorem cpRI (w : qSt) (r : Nat) (f : Nat → Int32) : cp (rI w r f) = cp w := by
  refine st_ext ?_ rfl rfl rfl
  funext a k i
  show (bif isM a then 0 else (bif Nat.beq a 40 && Nat.beq k r then f i else gI w a k i)) = (bif isM a then 0 else gI w a k i)
  cases hb : Nat.beq a 40 with
  | true => rw [Nat.eq_of_beq_eq_true hb]; rfl
  | false => rfl
theorem cpRJ (w : qSt) (r : Nat) (f : Nat → Int64) : cp (rJ w r f) = cp w := by
  refine st_ext rfl ?_ rfl rfl
  funext a k i
  show (bif isM a then 0 else (bif Nat.beq a 40 && Nat.beq k r then f i else gJ w a k i)) = (bif isM a then 0 else gJ w a k i)
  cases hb : Nat.beq a 40 with
  | true => rw [Nat.eq_of_beq_eq_true hb]; rfl
  | false => rfl
theorem cpT1 (w : qSt) (t : Int32) : cp (sT1 w t) = cp w := by
  unfold sT1
  split
  · rw [cp12I, cp40I]
  · rfl
theorem cpTr (l : List Int32) : ∀ (w : qSt), cp (sTr w l) = cp w := by
  induction l with
  | nil => exact fun _ => rfl
  | cons t l ih => exact fun w => (ih (sT1 w t)).trans (cpT1 w t)
/-- two ends of a call: the same answer, the same numbers of the model; the second leaves the class's cells as they were -/
def RQ {α : Type} (w' : qSt) (a b : α × qSt) : Prop := b.1 = a.1 ∧ Mq a.2 b.2 ∧ cp b.2 = cp w'
section
variable {α : Type} {w w' s s' : qSt}
theorem RQ.st {v v' : α} {r r' : Int32} (e : v' = v) (er : r' = r) (h : Mq s s') (hc : cp s' = cp w') : RQ w' (v, stt s r) (v', stt s' r') := by
  subst e er
  exact ⟨rfl, h.I rfl, (cp12I _ _ _ _).trans hc⟩
theorem RQ.s0 {v v' : α} {r r' : Int32} (h : Mq w w') (e : v' = v) (er : r' = r) : RQ w' (v, stt w r) (v', stt w' r') := RQ.st e er h rfl
theorem RQ.cI {p p' : Prop} {a a' b b' : α × qSt} (hp : p' = p) (h1 : RQ w' a a') (h2 : RQ w' b b') : RQ w' (cIf p a b) (cIf p' a' b') := by
  subst hp
  by_cases c : p'
  · rw [cIf_t c, cIf_t c]; exact h1
  · rw [cIf_f c, cIf_f c]; exact h2
theorem RQ.lt {v v' : Int32} {a a' b b' : α × qSt} (hp : v' = v) (h1 : RQ w' a a') (h2 : RQ w' b b') : RQ w' (cIf (v < 0) a b) (cIf (v' < 0) a' b') := RQ.cI (by rw [hp]) h1 h2
theorem q_cls (h : Mq w w') (u o : Int32) : RQ w' (S_cls w u o) (S_cls w' u o) := by
  unfold S_cls
  have eT := h.te.eT
  have e1 : isC w' = isC w := h.c isC (fun _ => rfl)
  refine RQ.cI (by rw [e1]) (RQ.s0 h rfl rfl) (RQ.cI (by rw [eT]) (RQ.s0 h rfl rfl) (RQ.st (by rw [eT]) rfl ?_ ?_))
  · unfold sMk; rw [eT]; exact (((h.I rfl).I rfl).I rfl).I rfl
  · unfold sMk; rw [cp40I, cp40I, cp12I, cp40I]
theorem q_face (h : Mq w w') : RQ w' (S_face w) (S_face w') := by
  unfold S_face
  have eT := h.te.eT
  refine RQ.cI (by rw [eT]) (RQ.s0 h rfl rfl) (RQ.st (by rw [eT]) rfl ?_ ?_)
  · unfold sMk; rw [eT]; exact (h.I rfl).I rfl
  · unfold sMk; rw [cp12I, cp40I]
theorem q_var (h : Mq w w') (c b : Int32) : RQ w' (S_var w c b) (S_var w' c b) := by
  unfold S_var
  have eT := h.te.eT
  have e1 : isC w' = isC w := h.c isC (fun _ => rfl)
  have e2 : isT w' = isT w := h.c isT (fun _ => rfl)
  refine RQ.cI (by rw [e1, e2]) (RQ.s0 h rfl rfl) (RQ.cI (by rw [eT]) (RQ.s0 h rfl rfl) (RQ.st (by rw [eT]) rfl ?_ ?_))
  · unfold sMk; rw [eT]; exact (((h.I rfl).I rfl).I rfl).I rfl
  · unfold sMk; rw [cp40I, cp40I, cp12I, cp40I]
theorem q_row (h : Mq w w') (t : Int32) : RQ w' (S_row w t) (S_row w' t) := by
  unfold S_row
  have eT := h.te.eT
  have e2 : isT w' = isT w := h.c isT (fun _ => rfl)
  refine RQ.cI (by rw [e2]) (RQ.s0 h rfl rfl) ?_
  rw [h.te.erf]
  cases rfN w t with
  | some i => exact RQ.s0 h rfl rfl
  | none =>
    refine RQ.cI (by rw [eT]) (RQ.s0 h rfl rfl) (RQ.st (by rw [eT]) rfl ?_ ?_)
    · unfold sMk; rw [eT]; exact ((h.I rfl).I rfl).I rfl
    · unfold sMk; rw [cp40I, cp12I, cp40I]
theorem q_erased (h : Mq w w') (t k : Int32) : RQ w' (S_erased w t k) (S_erased w' t k) := by
  unfold S_erased
  have e2 : isT w' = isT w := h.c isT (fun _ => rfl)
  rw [h.te.eba, h.te.edp]
  exact RQ.cI (by rw [e2]) (RQ.s0 h rfl rfl) (RQ.cI rfl (RQ.s0 h rfl rfl) (RQ.s0 h rfl rfl))
theorem q_is (h : Mq w w') (s t : Int32) : RQ w' (S_is w s t) (S_is w' s t) := by
  unfold S_is
  have e2 : isT w' = isT w := h.c isT (fun _ => rfl)
  rw [h.te.eba, h.te.edp, h.te.eSo]
  exact RQ.cI (by rw [e2]) (RQ.s0 h rfl rfl) (RQ.s0 h rfl rfl)
theorem q_under (h : Mq w w') (t f : Int32) : RQ w' (S_under w t f) (S_under w' t f) := by
  unfold S_under
  have e1 : isC w' = isC w := h.c isC (fun _ => rfl)
  have e2 : isF w' = isF w := h.c isF (fun _ => rfl)
  have e3 : nF w' = nF w := h.te.eF
  refine RQ.cI (by rw [e1, e2]) (RQ.s0 h rfl rfl) (RQ.cI (by rw [e3]) (RQ.s0 h rfl rfl) (RQ.cI (by rw [h.row (r := 4) rfl, h.row (r := 0) rfl, h.te.etl, h.te.eFO]) (RQ.s0 h rfl rfl) (RQ.st (by rw [e3]) rfl ?_ ?_)))
  · unfold sUn; rw [e3]; exact (h.I rfl).I rfl
  · unfold sUn; rw [cp40I, cp40I]
theorem q_field (h : Mq w w') (c n t s : Int32) : RQ w' (S_field w c n t s) (S_field w' c n t s) := by
  unfold S_field
  have e1 : isC w' = isC w := h.c isC (fun _ => rfl)
  have e2 : isT w' = isT w := h.c isT (fun _ => rfl)
  have e3 : nM w' = nM w := h.te.eM
  refine RQ.cI (by rw [e1, e2]) (RQ.s0 h rfl rfl) (RQ.cI (by rw [e3]) (RQ.s0 h rfl rfl) (RQ.cI (by rw [h.row (r := 4) rfl, h.row (r := 0) rfl, h.row (r := 1) rfl, h.te.emb, h.te.esq]) (RQ.s0 h rfl rfl) (RQ.st (by rw [e3]) rfl ?_ ?_)))
  · unfold sFld sAdd; rw [e3]; exact (((((h.I rfl).I rfl).I rfl).I rfl).I rfl).J rfl
  · unfold sFld sAdd; rw [cp40J, cp40I, cp40I, cp40I, cp40I, cp40I]
theorem q_method (h : Mq w w') (t n b a : Int32) : RQ w' (S_method w t n b a) (S_method w' t n b a) := by
  unfold S_method
  have e1 : badM w' = badM w := h.c badM (fun _ => rfl)
  have e3 : nM w' = nM w := h.te.eM
  have e4 : noM w' = noM w := by
    funext t n b a
    unfold noM
    rw [h.row (r := 4) rfl, h.row (r := 0) rfl, h.row (r := 3) rfl, h.row (r := 8) rfl, h.te.emb, e3]
  refine RQ.cI (by rw [e1]) (RQ.s0 h rfl rfl) (RQ.cI (by rw [e3]) (RQ.s0 h rfl rfl) (RQ.cI (by rw [e4]) (RQ.s0 h rfl rfl) (RQ.st (by rw [e3]) rfl ?_ ?_)))
  · unfold sMet sAdd; rw [e3]; exact ((((h.I rfl).I rfl).I rfl).I rfl).I rfl
  · unfold sMet sAdd; rw [cp40I, cp40I, cp40I, cp40I, cp40I]
theorem q_found (h : Mq w w') (c n : Int32) : RQ w' (S_found w c n) (S_found w' c n) := by
  unfold S_found
  have e1 : isC w' = isC w := h.c isC (fun _ => rfl)
  rw [h.te.efd]
  refine RQ.cI (by rw [e1]) (RQ.s0 h rfl rfl) ?_
  first | exact RQ.s0 h rfl rfl | exact RQ.cI rfl (RQ.s0 h rfl rfl) (RQ.s0 h rfl rfl)
theorem TE.ese {m m' : qSt} (h : TE m m') : seeN m' = seeN m := by
  funext c n
  unfold seeN
  rw [h.efs, h.eab]
theorem q_seen (h : Mq w w') (c n : Int32) : RQ w' (S_seen w c n) (S_seen w' c n) := by
  unfold S_seen
  have e1 : isC w' = isC w := h.c isC (fun _ => rfl)
  rw [h.te.ese]
  refine RQ.cI (by rw [e1]) (RQ.s0 h rfl rfl) ?_
  first | exact RQ.s0 h rfl rfl | (cases seeN w (tn c) n <;> exact RQ.s0 h rfl rfl)
theorem q_thing (h : Mq w w') (c : Int32) : RQ w' (S_thing w c) (S_thing w' c) := by
  unfold S_thing
  have e1 : isC w' = isC w := h.c isC (fun _ => rfl)
  have eX := h.enX
  have ep := h.epX
  have ec : clsF w' = clsF w := by
    funext c i
    unfold clsF
    rw [h.te.eab, h.te.eFO, h.row (r := 4) rfl]
  refine RQ.cI (by rw [e1]) (RQ.s0 h rfl rfl) (RQ.cI (by rw [eX]) (RQ.s0 h rfl rfl) (RQ.cI (by rw [h.row (r := 3) rfl]) (RQ.s0 h rfl rfl) (RQ.st (by rw [eX]) rfl ?_ ?_)))
  · have h2 := (h.rI (r := 4) (f := clsF w (tn c)) (f' := clsF w' (tn c)) (by rw [ec])).rJ (r := 23) (f := putL (ml w 23) (pX w (nX w)) (ivL w (abvs w (tn c)))) (f' := putL (ml w' 23) (pX w' (nX w')) (ivL w' (abvs w' (tn c)))) (by rw [h.rowJ 23, ep, eX, h.te.eiv, h.te.eab])
    have e2 := h2.enX
    have e3 := h2.epX
    unfold sAd
    rw [e2, e3, eX, ep, h.te.eiv, h.te.eab]
    rw [eX, ep, h.te.eiv, h.te.eab] at h2
    exact ((((h2.I rfl).I rfl).I rfl).I rfl).I rfl
  · unfold sAd; rw [cp40I, cp12I, cp40I, cp40I, cp40I, cpRJ, cpRI]
theorem q_things (h : Mq w w') (t n : Int32) : RQ w' (S_things w t n) (S_things w' t n) := by
  unfold S_things
  have e1 : isT w' = isT w := h.c isT (fun _ => rfl)
  have eX := h.enX
  have ep := h.epX
  refine RQ.cI (by rw [e1]) (RQ.s0 h rfl rfl) (RQ.cI (by rw [eX]) (RQ.s0 h rfl rfl) (RQ.cI rfl (RQ.s0 h rfl rfl) (RQ.st (by rw [eX]) rfl ?_ ?_)))
  · have h2 := h.rJ (r := 23) (f := putL (ml w 23) (pX w (nX w)) (List.replicate (tn n) (cIf (baN w (tn t) < 8 ∧ dpN w (tn t) = 0) 0 (-1)))) (f' := putL (ml w' 23) (pX w' (nX w')) (List.replicate (tn n) (cIf (baN w' (tn t) < 8 ∧ dpN w' (tn t) = 0) 0 (-1)))) (by rw [h.rowJ 23, ep, eX, h.te.eba, h.te.edp])
    have e2 := h2.enX
    have e3 := h2.epX
    unfold sAd
    rw [e2, e3, eX, ep, h.te.eba, h.te.edp]
    rw [eX, ep, h.te.eba, h.te.edp] at h2
    exact ((((h2.I rfl).I rfl).I rfl).I rfl).I rfl
  · unfold sAd; rw [cp40I, cp12I, cp40I, cp40I, cp40I, cpRJ]
theorem q_kind (h : Mq w w') (x k : Int32) : RQ w' (S_kind w x k) (S_kind w' x k) := by
  unfold S_kind
  have e1 : noX w' = noX w := h.re.enoX
  rw [h.row (r := 19) rfl, h.row (r := 20) rfl, h.row (r := 21) rfl]
  exact RQ.cI (by rw [e1]) (RQ.s0 h rfl rfl) (RQ.cI rfl (RQ.s0 h rfl rfl) (RQ.s0 h rfl rfl))
theorem q_isA (h : Mq w w') (x t : Int32) : RQ w' (S_isA w x t) (S_isA w' x t) := by
  unfold S_isA
  have e1 : noX w' = noX w := h.re.enoX
  have e2 : isT w' = isT w := h.c isT (fun _ => rfl)
  rw [h.ebX, h.edX, h.te.eSo, h.te.eba, h.te.edp]
  repeat' first | exact RQ.s0 h rfl rfl | refine RQ.cI (by rw [e1, e2]) ?_ ?_ | refine RQ.cI (by rw [e1]) ?_ ?_ | refine RQ.cI (by rw [e2]) ?_ ?_ | refine RQ.cI rfl ?_ ?_
theorem Mq.ehd (h : Mq w w') : hdN w' = hdN w := by
  funext x i n
  unfold hdN
  rw [h.re.enoX, h.edX, h.esX]
theorem Mq.ehl (h : Mq w w') : hlN w' = hlN w := by
  funext x i l
  unfold hlN
  rw [h.ehd, h.edX, h.ebX, show isX w' = isX w from h.c isX (fun _ => rfl)]
theorem Mq.emb (h : Mq w w') : mbP w' = mbP w := by
  funext b d v
  unfold mbP
  rw [h.enX, h.ebX, h.edX, h.te.eSo]
theorem q_read (h : Mq w w') (x i : Int32) : RQ w' (S_read w x i) (S_read w' x i) := by
  unfold S_read
  rw [h.ehd, h.epX, h.rowJ 23]
  exact RQ.cI rfl (RQ.s0 h rfl rfl) (RQ.s0 h rfl rfl)
theorem q_write (h : Mq w w') (x i : Int32) (v : Int64) : RQ w' (S_write w x i v) (S_write w' x i v) := by
  unfold S_write
  rw [h.ehd, h.epX, h.ebX, h.edX, h.emb]
  refine RQ.cI rfl (RQ.s0 h rfl rfl) (RQ.cI rfl (RQ.st rfl rfl (h.J rfl) (cp40J _ _ _ _)) (RQ.s0 h rfl rfl))
theorem q_readAs (h : Mq w w') (x i l : Int32) : RQ w' (S_readAs w x i l) (S_readAs w' x i l) := by
  unfold S_readAs
  rw [h.ehl, h.epX, h.ebX, h.rowJ 23]
  exact RQ.cI rfl (RQ.s0 h rfl rfl) (RQ.cI rfl (RQ.s0 h rfl rfl) (RQ.s0 h rfl rfl))
theorem q_writeAs (h : Mq w w') (x i l : Int32) (v : Int64) : RQ w' (S_writeAs w x i l v) (S_writeAs w' x i l v) := by
  unfold S_writeAs
  rw [h.ehl, h.epX, h.ebX]
  refine RQ.cI rfl (RQ.s0 h rfl rfl) (RQ.cI rfl (RQ.st rfl rfl (h.J rfl) (cp40J _ _ _ _)) (RQ.s0 h rfl rfl))
theorem TE.ehm {m m' : qSt} (h : TE m m') : hasM m' = hasM m := by
  funext c n
  unfold hasM
  rw [h.eab, h.emb, h.eFO]
theorem q_handle (h : Mq w w') (c n me : Int32) : RQ w' (S_handle w c n me) (S_handle w' c n me) := by
  unfold S_handle
  have e1 : isC w' = isC w := h.c isC (fun _ => rfl)
  have eH := h.enH
  rw [h.te.ese, h.te.ehm]
  have hd : ∀ a : Int32, RQ w' (nI (nH w), stt (sHdl w c me a) 0) (nI (nH w'), stt (sHdl w' c me a) 0) := by
    intro a
    refine RQ.st (by rw [eH]) rfl ?_ ?_
    · unfold sHdl; rw [eH]; exact (((h.I rfl).I rfl).I rfl).I rfl
    · unfold sHdl; rw [cp12I, cp40I, cp40I, cp40I]
  refine RQ.cI (by rw [e1]) (RQ.s0 h rfl rfl) (RQ.cI (by rw [eH]) (RQ.s0 h rfl rfl) (RQ.cI rfl ?_ (RQ.cI rfl (hd n) (RQ.s0 h rfl rfl))))
  cases seeN w (tn c) n with
  | none => exact RQ.s0 h rfl rfl
  | some a => exact hd _
end
