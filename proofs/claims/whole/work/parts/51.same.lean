/-! ===== what Rep depends on ===== -/
def Rep0 (A : qA) (m w : qSt) : Prop := FixK w ∧ FixR w ∧ TyK A m w ∧ TyS A m w ∧ TyM A m w ∧ TyU A m w ∧ MbK A m w ∧ MbS A m w ∧ MbJ A m w ∧ MbN A m w ∧ LeS m w ∧ XoK A m w ∧ XoS A m w ∧ XoJ A m w ∧ HdR A m w ∧ CoK A m w ∧ CoJ A m w ∧ QuK A m w ∧ QuM A m w ∧ MaT m w
theorem Rep.r0 {A : qA} {m w : qSt} (h : Rep A m w) : Rep0 A m w := by
  obtain ⟨a1, a2, a3, a4, a5, a6, a7, a8, a9, a10, a11, a12, a13, a14, a15, a16, a17, a18, a19, a20, -⟩ := h
  exact ⟨a1, a2, a3, a4, a5, a6, a7, a8, a9, a10, a11, a12, a13, a14, a15, a16, a17, a18, a19, a20⟩
theorem Rep0.rep {A : qA} {m w : qSt} (h : Rep0 A m w) (hr : MaR m w) (hq : MaQ m w) : Rep A m w := by
  obtain ⟨a1, a2, a3, a4, a5, a6, a7, a8, a9, a10, a11, a12, a13, a14, a15, a16, a17, a18, a19, a20⟩ := h
  exact ⟨a1, a2, a3, a4, a5, a6, a7, a8, a9, a10, a11, a12, a13, a14, a15, a16, a17, a18, a19, a20, hr, hq⟩
/-- the model's numbers that Rep0 speaks of -/
def srI (r k : Nat) : Bool := bif Nat.beq r 12 then (Nat.beq k 1 || Nat.beq k 22 || Nat.beq k 29 || Nat.beq k 43) else bif Nat.beq r 40 then Nat.ble k 36 && !(Nat.ble 15 k && Nat.ble k 18) && !(Nat.beq k 27) else false
def srJ (r _k : Nat) : Bool := Nat.beq r 40
def sp_ (w : qSt) : qSt := (fun r k i => bif srI r k then gI w r k i else 0, fun r k i => bif srJ r k then gJ w r k i else 0, fun _ _ _ => none, fun _ _ => 0)
def SR (m m' : qSt) : Prop := sp_ m' = sp_ m
theorem SR.rf {m : qSt} : SR m m := rfl
theorem SR.tr {a b c : qSt} (h : SR a b) (h' : SR b c) : SR a c := Eq.trans h' h
theorem SR.c {α : Sort _} {w w' : qSt} (h : SR w w') (P : qSt → α) (hP : ∀ w, P (sp_ w) = P w) : P w' = P w := by rw [← hP w', show sp_ w' = sp_ w from h, hP]
theorem SR.I {w w' : qSt} (h : SR w w') {r k i : Nat} {v : Int32} (hs : srI r k = false) : SR w (sI w' r k i v) := by
  refine Eq.trans (b := sp_ w') (st_ext ?_ rfl rfl rfl) h
  funext r' k' i'
  show (bif srI r' k' then u3 w'.1 r k i v r' k' i' else 0) = (bif srI r' k' then w'.1 r' k' i' else 0)
  by_cases e : r' = r ∧ k' = k ∧ i' = i
  · obtain ⟨rfl, rfl, rfl⟩ := e
    rw [hs]; rfl
  · rw [u3_off _ _ e]
theorem srI_m {r k : Nat} (h : srI r k = true) : (isM r && !scI r k) = true := by
  unfold srI at h
  unfold isM scI
  cases e : Nat.beq r 12 with
  | true =>
    rw [e] at h
    have h : (Nat.beq k 1 || Nat.beq k 22 || Nat.beq k 29 || Nat.beq k 43) = true := h
    show (!(Nat.beq k 18 || Nat.beq k 33)) = true
    rcases Bool.or_eq_true_iff.mp h with h | h
    · rcases Bool.or_eq_true_iff.mp h with h | h
      · rcases Bool.or_eq_true_iff.mp h with h | h
        · rw [Nat.eq_of_beq_eq_true h]; rfl
        · rw [Nat.eq_of_beq_eq_true h]; rfl
      · rw [Nat.eq_of_beq_eq_true h]; rfl
    · rw [Nat.eq_of_beq_eq_true h]; rfl
  | false =>
    rw [e] at h
    cases e2 : Nat.beq r 40 with
    | true =>
      rw [e2] at h
      have h : (Nat.ble k 36 && !(Nat.ble 15 k && Nat.ble k 18) && !(Nat.beq k 27)) = true := h
      rw [Bool.and_eq_true, Bool.and_eq_true] at h
      exact h.1.2
    | false => rw [e2] at h; exact absurd (show false = true from h) (by decide)
theorem srJ_m {r k : Nat} (h : srJ r k = true) : (isM r && !scJ r k) = true := by
  rw [Nat.eq_of_beq_eq_true (show Nat.beq r 40 = true from h)]; rfl
theorem Mq.sr {w w' : qSt} (h : Mq w w') : SR w w' := by
  refine st_ext ?_ ?_ rfl rfl
  · funext r k i
    have e := congrFun (congrFun (congrFun (congrArg (fun w : qSt => w.1) h) r) k) i
    have e : (bif isM r && !scI r k then gI w' r k i else 0) = (bif isM r && !scI r k then gI w r k i else 0) := e
    show (bif srI r k then gI w' r k i else 0) = (bif srI r k then gI w r k i else 0)
    cases hb : srI r k with
    | false => rfl
    | true => rw [srI_m hb] at e; exact e
  · funext r k i
    have e := congrFun (congrFun (congrFun (congrArg (fun w : qSt => w.2.1) h) r) k) i
    have e : (bif isM r && !scJ r k then gJ w' r k i else 0) = (bif isM r && !scJ r k then gJ w r k i else 0) := e
    show (bif srJ r k then gJ w' r k i else 0) = (bif srJ r k then gJ w r k i else 0)
    cases hb : srJ r k with
    | false => rfl
    | true => rw [srJ_m hb] at e; exact e
theorem SR.row {w w' : qSt} (h : SR w w') {r : Nat} (hs : srI 40 r = true) : ma w' r = ma w r := by
  funext i
  have := congrFun (congrFun (congrFun (congrArg (fun w : qSt => w.1) h) 40) r) i
  have e : (bif srI 40 r then gI w' 40 r i else 0) = (bif srI 40 r then gI w 40 r i else 0) := this
  rw [hs] at e
  exact e
theorem SR.rowJ {w w' : qSt} (h : SR w w') (r : Nat) : ml w' r = ml w r := h.c (fun w => ml w r) (fun _ => rfl)
theorem SR.te {w w' : qSt} (h : SR w w') : TE w w' := by
  refine ⟨h.c (fun w => mi w 1) (fun _ => rfl), fun r hr _ => h.row ?_⟩
  have h1 : Nat.ble 15 r = false := by
    cases e : Nat.ble 15 r with
    | false => rfl
    | true => have := Nat.le_of_ble_eq_true e; omega
  have h2 : Nat.ble r 36 = true := Nat.ble_eq_true_of_le (by omega)
  have h3 : Nat.beq r 27 = false := by
    cases e : Nat.beq r 27 with
    | false => rfl
    | true => have := Nat.eq_of_beq_eq_true e; omega
  show (Nat.ble r 36 && !(Nat.ble 15 r && Nat.ble r 18) && !(Nat.beq r 27)) = true
  rw [h1, h2, h3]; rfl
theorem SR.erf {m m' : qSt} (h : SR m m') : rfN m' = rfN m := by
  have key : ∀ (x : Int32) (k i : Nat), rfF m' x k i = rfF m x k i := by
    intro x k
    induction k with
    | zero => exact fun _ => rfl
    | succ k ih =>
      intro i
      show cIf (ma m' 0 i = 4 ∧ ma m' 2 i = x) (some i) (rfF m' x k (i + 1)) = cIf (ma m 0 i = 4 ∧ ma m 2 i = x) (some i) (rfF m x k (i + 1))
      rw [ih, h.row (r := 0) rfl, h.row (r := 2) rfl]
  funext x
  show rfF m' x (nT m' - 9) 9 = rfF m x (nT m - 9) 9
  rw [key, h.te.eT]
theorem SR.ecl {m m' : qSt} (h : SR m m') : clF m' = clF m := by
  funext n
  induction n with
  | zero => rfl
  | succ n ih => show clF m' n + cIf (ma m' 4 n = 0) 0 1 = clF m n + cIf (ma m 4 n = 0) 0 1; rw [ih, h.row (r := 4) rfl]
theorem SR.ecs {m m' : qSt} (h : SR m m') : csF m' = csF m := by
  funext n
  induction n with
  | zero => rfl
  | succ n ih => show csF m' n + cIf (8 < n ∧ ma m' 0 n = 1) 1 0 = csF m n + cIf (8 < n ∧ ma m 0 n = 1) 1 0; rw [ih, h.row (r := 0) rfl]
theorem Rep0.sr {A : qA} {m m' w : qSt} (hR : Rep0 A m w) (h : SR m m') : Rep0 A m' w := by
  obtain ⟨a1, a2, a3, a4, a5, a6, a7, a8, a9, a10, a11, a12, a13, a14, a15, a16, a17, a18, a19, a20⟩ := hR
  have eX : nX m' = nX m := h.c nX (fun _ => rfl)
  have eH : nH m' = nH m := h.c nH (fun _ => rfl)
  have eQ : nQ m' = nQ m := h.c nQ (fun _ => rfl)
  have ehA : hA m' = hA m := h.c hA (fun _ => rfl)
  have ehC : hC m' = hC m := h.c hC (fun _ => rfl)
  have etQ : tQ m' = tQ m := h.c tQ (fun _ => rfl)
  have etH : tH m' = tH m := h.c tH (fun _ => rfl)
  have ecN : cN m' = cN m := h.c cN (fun _ => rfl)
  have ebX : bX m' = bX m := h.c bX (fun _ => rfl)
  have edX : dX m' = dX m := h.c dX (fun _ => rfl)
  have esX : sX m' = sX m := h.c sX (fun _ => rfl)
  have epX : pX m' = pX m := h.c pX (fun _ => rfl)
  have ety : tyN m' = tyN m := h.c tyN (fun _ => rfl)
  have eMb : hasMb m' = hasMb m := h.c hasMb (fun _ => rfl)
  refine ⟨a1, a2, ?_, ?_, ?_, ?_, ?_, ?_, ?_, ?_, ?_, ?_, ?_, ?_, ?_, ?_, ?_, ?_, ?_, ?_⟩
  · unfold TyK at *; rw [h.te.eT]; exact a3
  · unfold TyS frA owA mlN at *; rw [h.te.eT, h.row (r := 0) rfl, h.row (r := 3) rfl, h.te.eup, h.te.eof, h.te.esq, h.te.eba, h.te.edp, eMb]; exact a4
  · unfold TyM rwI at *; rw [h.te.eT, h.row (r := 7) rfl, h.row (r := 4) rfl, h.te.epc, h.erf]; exact a5
  · unfold TyU UpP at *; rw [h.te.eT, h.row (r := 0) rfl, h.te.eab, h.te.eFO, h.te.etl]; exact a6
  · unfold MbK at *; rw [h.te.eT, h.te.eM]; exact a7
  · unfold MbS at *; rw [h.te.eT, h.te.eM, h.row (r := 8) rfl, h.row (r := 9) rfl, h.row (r := 11) rfl, h.row (r := 12) rfl, h.row (r := 13) rfl, ety, h.te.epf]; exact a8
  · unfold MbJ at *; rw [h.te.eT, h.te.eM, h.row (r := 8) rfl, h.rowJ 14]; exact a9
  · unfold MbN nmR at *; rw [h.te.eT, eMb, h.te.emb]; exact a10
  · unfold LeS LnP at *; rw [h.te.eT, h.row (r := 0) rfl, h.row (r := 12) rfl, h.te.emb]; exact a11
  · unfold XoK at *; rw [eX]; exact a12
  · unfold XoS at *; rw [eX, edX, ebX, esX, h.row (r := 19) rfl, h.row (r := 20) rfl]; exact a13
  · unfold XoJ at *; rw [eX, esX, epX, h.rowJ 23]; exact a14
  · unfold HdR at *; rw [eH, ehC, ehA, h.row (r := 25) rfl, h.row (r := 26) rfl]; exact a15
  · unfold CoK at *; rw [h.row (r := 28) rfl, h.row (r := 29) rfl, ecN]; exact a16
  · unfold CoJ at *; rw [h.row (r := 28) rfl, ecN, h.rowJ 31]; exact a17
  · unfold QuK at *; rw [eQ]; exact a18
  · unfold QuM at *; rw [eQ, etQ, etH, h.row (r := 32) rfl, h.row (r := 34) rfl, h.row (r := 36) rfl, h.rowJ 35]; exact a19
  · unfold MaT at *; rw [h.c (fun w => mi w 1) (fun _ => rfl), h.c (fun w => mi w 22) (fun _ => rfl), h.c (fun w => mi w 29) (fun _ => rfl), h.te.eT, h.ecs, h.ecl]; exact a20
/-- the class's cells but for what it scribbles -/
def SW (w w' : qSt) : Prop := gN w' = gN w ∧ gR w' = gR w ∧ (∀ r k, r < 12 → ¬ (r = 10 ∧ 6 ≤ k) → ¬ (r = 4 ∧ 5 ≤ k) → gI w' r k = gI w r k) ∧ (∀ r k a, r < 12 → r ≠ 4 → ¬ (r = 8 ∧ a = 70) → gJ w' r k a = gJ w r k a) ∧ (∀ a, a ≠ 75 → a ≠ 78 → gI w' 20 a = gI w 20 a) ∧ gJ w' 21 = gJ w 21
theorem SW.rf (w : qSt) : SW w w := ⟨rfl, rfl, fun _ _ _ _ _ => rfl, fun _ _ _ _ _ _ => rfl, fun _ _ _ => rfl, rfl⟩
theorem SW.tr {a b c : qSt} (h : SW a b) (h' : SW b c) : SW a c :=
  ⟨h'.1.trans h.1, h'.2.1.trans h.2.1, fun r k x y z => (h'.2.2.1 r k x y z).trans (h.2.2.1 r k x y z), fun r k u x y z => (h'.2.2.2.1 r k u x y z).trans (h.2.2.2.1 r k u x y z), fun u x y => (h'.2.2.2.2.1 u x y).trans (h.2.2.2.2.1 u x y), h'.2.2.2.2.2.trans h.2.2.2.2.2⟩
theorem SW.I {w w' : qSt} (h : SW w w') {r k a : Nat} {v : Int32} (hs : (r = 10 ∧ 6 ≤ k) ∨ (r = 4 ∧ 5 ≤ k)) : SW w (sI w' r k a v) := by
  refine h.tr ⟨rfl, rfl, fun r' k' hr h1 h2 => ?_, fun _ _ _ _ _ _ => rfl, fun x h1 h2 => ?_, rfl⟩
  · funext i; exact gI_ne (by omega)
  · funext i; exact gI_ne (by omega)
theorem SW.A {w w' : qSt} (h : SW w w') {a j : Nat} {v : Int32} (hs : a = 75 ∨ a = 78) : SW w (sI w' 20 a j v) := by
  refine h.tr ⟨rfl, rfl, fun r' k' hr h1 h2 => ?_, fun _ _ _ _ _ _ => rfl, fun x h1 h2 => ?_, rfl⟩
  · funext i; exact gI_ne (by omega)
  · funext i; exact gI_ne (by omega)
theorem SW.J {w w' : qSt} (h : SW w w') {k a : Nat} {v : Int64} : SW w (sJ w' 4 k a v) := by
  refine h.tr ⟨rfl, rfl, fun _ _ _ _ _ => rfl, fun r' k' a' hr h1 h2 => ?_, fun _ _ _ => rfl, ?_⟩
  · exact gJ_ne (by omega)
  · funext x i; exact gJ_ne (by omega)
theorem SW.cd {w w' w'' : qSt} (h : SW w w') (hc : Cd w' w'') : SW w w'' := by
  obtain ⟨lo, hi, rfl⟩ := hc
  refine h.tr ⟨rfl, rfl, fun _ _ _ _ _ => rfl, fun r' k' a' hr h1 h2 => ?_, fun _ _ _ => rfl, ?_⟩
  · unfold sS; rw [gJ_ne (by omega), gJ_ne (by omega)]
  · funext x i; unfold sS; rw [gJ_ne (by omega), gJ_ne (by omega)]
theorem Rep0.sw {A : qA} {m w w' : qSt} (hR : Rep0 A m w) (h : SW w w') : Rep0 A m w' := by
  obtain ⟨a1, a2, a3, a4, a5, a6, a7, a8, a9, a10, a11, a12, a13, a14, a15, a16, a17, a18, a19, a20⟩ := hR
  obtain ⟨eN, eR, eI, eJ, eA, eB⟩ := h
  have k60 := a1.2.2.2.2.1
  have k71 := a1.2.2.2.2.2.1
  have k73 := a1.2.2.2.2.2.2.2.1
  have k74 := a1.2.2.2.2.2.2.2.2.1.1
  have k76 := a1.2.2.2.2.2.2.2.2.2.2.1.1
  refine ⟨?_, ?_, ?_, ?_, ?_, ?_, ?_, ?_, ?_, ?_, ?_, ?_, ?_, ?_, ?_, ?_, ?_, ?_, ?_, ?_⟩
  · unfold FixK at *; rw [eN]; exact a1
  · unfold FixR at *; rw [eR, eA 1 (by omega) (by omega)]; exact a2
  · unfold TyK at *; rw [eN, eR]; exact a3
  · unfold TyS at *; rw [eN, eR, eI 7 0 (by omega) (by omega) (by omega), eI 7 1 (by omega) (by omega) (by omega), eI 7 4 (by omega) (by omega) (by omega), eI 7 5 (by omega) (by omega) (by omega), eI 7 6 (by omega) (by omega) (by omega)]; exact a4
  · unfold TyM at *; rw [eI 7 12 (by omega) (by omega) (by omega), eI 7 13 (by omega) (by omega) (by omega), eI 7 14 (by omega) (by omega) (by omega), eI 7 15 (by omega) (by omega) (by omega)]; exact a5
  · intro i hi j hj
    obtain ⟨t1, t2, -⟩ := a3 i hi
    have n1 : aT A i + 1 ≠ 70 := fun z => by
      have := k60 9 (by omega)
      rw [show 60 + 9 = aT A i by omega, t2] at this; omega
    have n2 : aT A i + 2 ≠ 70 := fun z => by
      have := k60 8 (by omega)
      rw [show 60 + 8 = aT A i by omega, t2] at this; omega
    have := a6 i hi j hj
    unfold tS at this ⊢
    rw [eJ 8 0 (aT A i + 1) (by omega) (by omega) (by omega), eJ 8 1 (aT A i + 1) (by omega) (by omega) (by omega), eJ 8 0 (aT A i + 2) (by omega) (by omega) (by omega), eJ 8 1 (aT A i + 2) (by omega) (by omega) (by omega)]
    exact this
  · unfold MbK at *; rw [eN, eR]; exact a7
  · unfold MbS at *; rw [eR, eI 2 1 (by omega) (by omega) (by omega), eI 2 2 (by omega) (by omega) (by omega), eI 2 4 (by omega) (by omega) (by omega), eI 2 5 (by omega) (by omega) (by omega), eI 2 6 (by omega) (by omega) (by omega), eI 2 7 (by omega) (by omega) (by omega)]; exact a8
  · intro i j hi hj hf
    rw [eJ 2 8 _ (by omega) (by omega) (by omega)]; exact a9 i j hi hj hf
  · unfold MbN at *; rw [eR]; exact a10
  · intro n hn f hf
    have := a11 n hn f hf
    unfold tS at this ⊢
    rw [eJ 8 0 (60 + n) (by omega) (by omega) (by omega), eJ 8 1 (60 + n) (by omega) (by omega) (by omega)]
    exact this
  · unfold XoK at *; rw [eN, eR]; exact a12
  · unfold XoS at *; rw [eN, eR, eI 5 1 (by omega) (by omega) (by omega), eI 5 2 (by omega) (by omega) (by omega)]; exact a13
  · unfold XoJ at *; rw [eB]; exact a14
  · unfold HdR at *; rw [eN, eR, eI 1 2 (by omega) (by omega) (by omega)]; exact a15
  · unfold CoK at *; rw [eN, eR, eI 0 0 (by omega) (by omega) (by omega)]; exact a16
  · unfold CoJ at *; rw [eB]; exact a17
  · unfold QuK at *; rw [eN, eR]; exact a18
  · intro q hq
    obtain ⟨v1, v2⟩ := a19 q hq
    obtain ⟨u1, u2, u3, u4, u5, u6, -⟩ := a18.1 q hq
    have x1 : aY A q + 2 ≠ 75 := fun z => by rw [show aY A q = 73 by omega, k73] at u2; omega
    have x2 : aY A q + 2 ≠ 78 := fun z => by rw [show aY A q = 76 by omega, k76] at u2; omega
    have x3 : aY A q + 4 ≠ 75 := fun z => by rw [show aY A q = 71 by omega, k71] at u2; omega
    have x4 : aY A q + 4 ≠ 78 := fun z => by rw [show aY A q = 74 by omega, k74] at u2; omega
    rw [eI 3 4 (by omega) (by omega) (by omega), eR, eA _ x1 x2, eA _ x3 x4, eB]
    exact ⟨v1, v2⟩
  · unfold MaT at *; rw [eI 9 3 (by omega) (by omega) (by omega), eI 9 4 (by omega) (by omega) (by omega), eI 9 5 (by omega) (by omega) (by omega), eI 6 2 (by omega) (by omega) (by omega), eI 4 4 (by omega) (by omega) (by omega)]; exact a20
/-- the class's call leaves the model's part as it was -/
def CW (w w' : qSt) : Prop := Mq w w' ∧ gN w' 4 0 = gN w 4 0
theorem CW.rf (w : qSt) : CW w w := ⟨rfl, rfl⟩
theorem CW.tr {a b c : qSt} (h : CW a b) (h' : CW b c) : CW a c := ⟨h.1.tr h'.1, h'.2.trans h.2⟩
theorem CW.I {w w' : qSt} (h : CW w w') {r k i : Nat} {v : Int32} (hr : isM r = false) : CW w (sI w' r k i v) := h.tr ⟨mp_sI0 (Or.inl hr), rfl⟩
theorem CW.J {w w' : qSt} (h : CW w w') {r k i : Nat} {v : Int64} (hr : isM r = false) : CW w (sJ w' r k i v) := h.tr ⟨mp_sJ0 (Or.inl hr), rfl⟩
theorem CW.R {w w' : qSt} (h : CW w w') {r k i : Nat} {v : Option Nat} : CW w (sR w' r k i v) := h.tr ⟨rfl, rfl⟩
theorem CW.O {w w' : qSt} (h : CW w w') {x : Nat} : CW w (nwO w' x) := h.tr ⟨rfl, rfl⟩
theorem CW.Ar {w w' : qSt} (h : CW w w') {x n : Nat} : CW w (nwA w' x n) := h.tr ⟨rfl, rfl⟩
theorem CW.cd {w w' w'' : qSt} (h : CW w w') (hc : Cd w' w'') : CW w w'' := by
  obtain ⟨lo, hi, rfl⟩ := hc
  exact (h.J rfl).J rfl
/-- where a call of the class ends -/
def Fin (A : qA) (m w w' : qSt) : Prop := Rep A m w' ∧ qZero w' ∧ CW w w'
theorem qZero.cd {w w' : qSt} (h : qZero w) (hc : Cd w w') (h70 : gN w 0 70 = 8) : qZero w' := by
  obtain ⟨lo, hi, rfl⟩ := hc
  have := h.lt h70 (by omega)
  exact (h.J this (by omega)).J this (by omega)
theorem MaQ_st {m w : qSt} (h : MaQ m w) (v : Int32) : MaQ (stt m v) (sI w 10 11 2 v) := by
  obtain ⟨u1, u2, u3, u4, u5, u6, u7⟩ := h
  exact ⟨u1, u2, u3, u4, u5, (gI_at w 10 11 2 v).trans (gI_at m 12 0 0 v).symm, u7⟩
/-- the refusal is told on both sides -/
theorem Rep.stt {A : qA} {m w : qSt} (h : Rep A m w) (v : Int32) : Rep A (stt m v) (sI w 10 11 2 v) :=
  ((h.r0.sw ((SW.rf w).I (k := 11) (a := 2) (v := v) (Or.inl ⟨rfl, by omega⟩))).sr (SR.rf.I (r := 12) (k := 0) rfl)).rep h.mr (MaQ_st h.mq v)
theorem Rep.k2 {A : qA} {m w : qSt} (h : Rep A m w) : gN w 0 2 = 10 := h.fk.1
theorem Rep.fin {A : qA} {m w : qSt} (h : Rep A m w) (hz : qZero w) (v : Int32) : Fin A (CQueryHandlesLaw_law_r6115_62a76e.stt m v) w (sI w 10 11 2 v) := ⟨h.stt v, hz.I (hz.lt h.k2 (by omega)) (by omega), (CW.rf w).I rfl⟩
