/-! ===== the model's types: new ones, members; small questions ===== -/
def subL : List (Option Value) → List (Option Value) → Prop
  | [], _ => True
  | none :: a, _ :: b => subL a b
  | some v :: a, some u :: b => v = u ∧ subL a b
  | _ :: _, _ => False
theorem subL_nth : ∀ {a b : List (Option Value)}, subL a b → ∀ i v, nth a i = some v → nth b i = some v
  | [], _, _, i, v, h => by simp [nth] at h
  | none :: a, y :: b, hs, i, v, h => by
    cases i with
    | zero => cases h
    | succ i => exact subL_nth (a := a) (b := b) hs i v h
  | some x :: a, some y :: b, hs, i, v, h => by
    cases i with
    | zero =>
      have e : x = y := hs.1
      subst e
      exact h
    | succ i => exact subL_nth (a := a) (b := b) hs.2 i v h
  | some x :: a, none :: b, hs, i, v, h => False.elim hs
  | none :: a, [], hs, i, v, h => False.elim hs
  | some x :: a, [], hs, i, v, h => False.elim hs
/-- fewer locals are enough -/
theorem Wq.ls {G : qGX} {M : qMH} {pc : Nat} {ls ls' : List (Option Value)} {st : List Value} {q : Nat × Nat} {w : qSt} {Q : Option Value → qSt → Prop} (hs : subL ls' ls) (h : Wq G M pc ls' st q w Q) : Wq G M pc ls st q w Q := by
  intro fl p e s m args below meth c Z hf C F d0 la H locs hd hlv hS hlk h1 h2
  exact h fl p e s m args below meth c Z hf C F d0 la H locs hd ⟨hlv.1, hlv.2.1, fun i v hv => hlv.2.2 i v (subL_nth hs i v hv)⟩ hS hlk h1 h2
theorem c_1 : (1 : Int32) = nI 1 := rfl
theorem c_2 : (2 : Int32) = nI 2 := rfl
theorem c_3 : (3 : Int32) = nI 3 := rfl
theorem c_4 : (4 : Int32) = nI 4 := rfl
theorem c_5 : (5 : Int32) = nI 5 := rfl
theorem c_6 : (6 : Int32) = nI 6 := rfl
theorem c_7 : (7 : Int32) = nI 7 := rfl
theorem c_8 : (8 : Int32) = nI 8 := rfl
theorem c_9 : (9 : Int32) = nI 9 := rfl
theorem c_10 : (10 : Int32) = nI 10 := rfl
theorem c_12 : (12 : Int32) = nI 12 := rfl
theorem c_20 : (20 : Int32) = nI 20 := rfl
theorem c_40 : (40 : Int32) = nI 40 := rfl
theorem c_60 : (60 : Int32) = nI 60 := rfl
theorem c_100 : (100 : Int32) = nI 100 := rfl
def sAdd (w : qSt) (t : Nat) (name fld : Int32) : qSt := sI (sI (sI w 40 8 (10 * t + nM w t) fld) 40 9 (10 * t + nM w t) name) 40 7 t (nI (nM w t + 1))
theorem rem10 {a : Nat} (h : a < 2147483648) : nI a - nI a / (10 : Int32) * 10 = nI (a % 10) := pk_rem (d := 10) h (by decide) (by decide)
theorem div10 {a : Nat} (h : a < 2147483648) : nI a / (10 : Int32) = nI (a / 10) := pk_div (d := 10) h (by decide) (by decide)
section
variable {G : qGX} {w : qSt} {Q : Option Value → qSt → Prop}
theorem c12_addMember {t : Nat} {name fld : Int32} (hI : TInv w) (ht : t < 100) (hk : nM w t < 10) (hf : fld &&& 1 = fld) (h : Q (some (.int (nI (10 * t + nM w t)))) (sAdd w t name fld)) : Con G M12_addMember [.ref 79, .int (nI t), .int name, .int fld] w Q := by
  obtain ⟨m1, m2, -⟩ := hI.mbs ht
  have hin : vp_in (nI t) 100 := in_nI (by omega) (by decide)
  have e2 : (nI t).toNatClampNeg = t := tn_nI (by omega)
  have ea : (10 : Int32) * nI t + ma w 7 (nI t).toNatClampNeg = nI (10 * t + nM w t) := by rw [e2, m1, ix10]
  have hin2 : vp_in ((10 : Int32) * nI t + ma w 7 (nI t).toNatClampNeg) 1000 := by rw [ea]; exact in_nI (by omega) (by decide)
  refine Con.go hw12_addMember ok12_addMember 40 [] rfl ?_
  refine And.intro hin (And.intro hf (And.intro hin2 (And.intro hin2 (And.intro hin (And.intro hin ?_)))))
  show Q (some (.int ((10 : Int32) * nI t + ma w 7 (nI t).toNatClampNeg))) (sI (sI (sI w 40 8 ((10 : Int32) * nI t + ma w 7 (nI t).toNatClampNeg).toNatClampNeg fld) 40 9 ((10 : Int32) * nI t + ma w 7 (nI t).toNatClampNeg).toNatClampNeg name) 40 7 (nI t).toNatClampNeg (ma w 7 (nI t).toNatClampNeg + 1))
  rw [ea, e2, m1, nI_1, nI_clamp (by omega)]
  exact h
theorem c12_cls {up op : Int32} (hI : TInv w) (ho : op &&& 1 = op) (h : Q (some (.int (S_cls w up op).1)) (S_cls w up op).2) : Con G M12_cls [.ref 79, .int up, .int op] w Q := by
  have h100 := hI.le
  have e1 : mi w 1 = nI (nT w) := hI.ty.1
  unfold S_cls at h
  refine Con.go hw12_cls ok12_cls 40 [] rfl ?_
  refine c12_isClass hI.ty (And.intro (fun c => ?_) (fun c => ?_))
  · rw [bI_n0] at c
    rw [cIf_f (fun q => q c)] at h
    refine And.intro (fun (c2 : ¬ mi w 1 = 100) => ?_) (fun (c2 : mi w 1 = 100) => ?_) <;> rw [e1, c_100, nI_eqI (by omega) (by omega)] at c2
    · rw [cIf_f c2] at h
      have hin : vp_in (nI (nT w)) 100 := in_nI (by omega) (by decide)
      refine c12_make hI.ty (by omega) (And.intro hin (And.intro ho (And.intro hin (c12_good ?_))))
      show Q (some (.int (nI (nT w)))) (sI (sI (sI (sMk w 1) 40 1 (nI (nT w)).toNatClampNeg up) 40 3 (nI (nT w)).toNatClampNeg op) 12 0 0 0)
      rw [nI_clamp (by omega)]
      exact h
    · rw [cIf_t c2] at h
      exact c12_fail h
  · rw [bI_0] at c
    rw [cIf_t c] at h
    exact c12_fail h
theorem c12_face (hI : TInv w) (h : Q (some (.int (S_face w).1)) (S_face w).2) : Con G M12_face [.ref 79] w Q := by
  have h100 := hI.le
  have e1 : mi w 1 = nI (nT w) := hI.ty.1
  unfold S_face at h
  refine Con.go hw12_face ok12_face 40 [] rfl ?_
  refine And.intro (fun (c2 : ¬ mi w 1 = 100) => ?_) (fun (c2 : mi w 1 = 100) => ?_) <;> rw [e1, c_100, nI_eqI (by omega) (by omega)] at c2
  · rw [cIf_f c2] at h
    exact c12_make hI.ty (by omega) (c12_good h)
  · rw [cIf_t c2] at h
    exact c12_fail h
theorem c12_variable {c b : Int32} (hI : TInv w) (h : Q (some (.int (S_var w c b).1)) (S_var w c b).2) : Con G M12_variable [.ref 79, .int c, .int b] w Q := by
  have h100 := hI.le
  have e1 : mi w 1 = nI (nT w) := hI.ty.1
  unfold S_var at h
  have bad : (c = 8 ∨ ¬ isC w c ∨ ¬ isT w b ∨ isL b) → Wq G M12_variable 29 [some (.ref 79), some (.int c), some (.int b), none] [] (0, 0) w Q := by
    intro hb
    rw [cIf_t hb] at h
    exact Wq.go ok12_variable 20 [] (c12_fail h)
  refine Con.go hw12_variable ok12_variable 40 [29] rfl ?_
  refine And.intro (fun c1 => bad (Or.inl c1)) (fun c1 => c12_isClass hI.ty (And.intro (fun c2 => ?_) (fun c2 => ?_)))
  · rw [bI_0] at c2
    exact bad (Or.inr (Or.inl c2))
  · rw [bI_n0] at c2
    refine c12_isType hI.ty (And.intro (fun c3 => ?_) (fun c3 => ?_))
    · rw [bI_0] at c3
      exact bad (Or.inr (Or.inr (Or.inl c3)))
    · rw [bI_n0] at c3
      refine c12_isLane (And.intro (fun c4 => ?_) (fun c4 => ?_))
      · rw [bI_0] at c4
        rw [cIf_f (fun q => q.elim c1 (fun q => q.elim (fun q => q c2) (fun q => q.elim (fun q => q c3) c4)))] at h
        refine And.intro (fun (c5 : ¬ mi w 1 = 100) => ?_) (fun (c5 : mi w 1 = 100) => ?_) <;> rw [e1, c_100, nI_eqI (by omega) (by omega)] at c5
        · rw [cIf_f c5] at h
          have hin : vp_in (nI (nT w)) 100 := in_nI (by omega) (by decide)
          refine c12_make hI.ty (by omega) (And.intro hin (And.intro hin (c12_good ?_)))
          show Q (some (.int (nI (nT w)))) (sI (sI (sI (sMk w 3) 40 1 (nI (nT w)).toNatClampNeg c) 40 2 (nI (nT w)).toNatClampNeg b) 12 0 0 0)
          rw [nI_clamp (by omega)]
          exact h
        · rw [cIf_t c5] at h
          exact c12_fail h
      · rw [bI_n0] at c4
        exact bad (Or.inr (Or.inr (Or.inr c4)))
theorem c12_row {t : Int32} (hI : TInv w) (h : Q (some (.int (S_row w t).1)) (S_row w t).2) : Con G M12_row [.ref 79, .int t] w Q := by
  have h100 := hI.le
  have e1 : mi w 1 = nI (nT w) := hI.ty.1
  unfold S_row at h
  refine Con.go hw12_row ok12_row 40 [17] rfl ?_
  refine c12_isType hI.ty (And.intro (fun c => ?_) (fun c => ?_))
  · rw [bI_n0] at c
    rw [cIf_f (fun q => q c)] at h
    have key : ∀ (k i : Nat), i + k = nT w → 9 ≤ i → (∀ r, rfF w t k i = some r → Q (some (.int (nI r))) (stt w 0)) → (rfF w t k i = none → Q (some (.int (cIf (nT w = 100) (-2, stt w (-2)) (nI (nT w), stt (sI (sMk w 4) 40 2 (nT w) t) 0)).1)) (cIf (nT w = 100) (-2, stt w (-2)) (nI (nT w), stt (sI (sMk w 4) 40 2 (nT w) t) 0)).2) → Wq G M12_row 17 [some (.ref 79), some (.int t), some (.int (nI i))] [] (0, 0) w Q := by
      intro k
      induction k with
      | zero =>
        intro i hi h9 hs hn
        have hn := hn rfl
        refine Wq.go ok12_row 30 [17] ?_
        refine And.intro (fun _ => ?_) (fun (c1 : ¬ mi w 1 ≤ nI i) => absurd (by rw [e1]; exact nI_le (by omega) (by omega)) c1)
        refine And.intro (fun (c2 : ¬ mi w 1 = 100) => ?_) (fun (c2 : mi w 1 = 100) => ?_) <;> rw [e1, c_100, nI_eqI (by omega) (by omega)] at c2
        · rw [cIf_f c2] at hn
          have hin : vp_in (nI (nT w)) 100 := in_nI (by omega) (by decide)
          refine c12_make hI.ty (by omega) (And.intro hin (c12_good ?_))
          show Q (some (.int (nI (nT w)))) (sI (sI (sMk w 4) 40 2 (nI (nT w)).toNatClampNeg t) 12 0 0 0)
          rw [nI_clamp (by omega)]
          exact hn
        · rw [cIf_t c2] at hn
          exact c12_fail hn
      | succ k ih =>
        intro i hi h9 hs hn
        have hin : vp_in (nI i) 100 := in_nI (by omega) (by decide)
        have e2 : (nI i).toNatClampNeg = i := tn_nI (by omega)
        have nx : ¬ (ma w 0 i = 4 ∧ ma w 2 i = t) → Wq G M12_row 51 [some (.ref 79), some (.int t), some (.int (nI i))] [] (0, 0) w Q := by
          intro hc
          have er : rfF w t (k + 1) i = rfF w t k (i + 1) := cIf_f hc
          refine Wq.go ok12_row 30 [17] ?_
          show Wq G M12_row 17 [some (.ref 79), some (.int t), some (.int (nI i + 1))] [] (0, 0) w Q
          rw [nI_1]
          exact ih (i + 1) (by omega) (by omega) (fun r hr => hs r (er.trans hr)) (fun hr => hn (er.trans hr))
        refine Wq.go ok12_row 30 [51] ?_
        refine And.intro (fun (c1 : mi w 1 ≤ nI i) => ?_) (fun _ => And.intro hin (And.intro (fun c2 => ?_) (fun c2 => And.intro hin (And.intro (fun c3 => ?_) (fun c3 => ?_)))))
        · rw [e1, nI_leI (by omega) (by omega)] at c1; omega
        · rw [e2] at c2
          exact nx (fun q => c2 q.1)
        · rw [e2] at c3
          exact nx (fun q => c3 q.2)
        · rw [e2] at c2 c3
          exact c12_good (hs i (cIf_t ⟨c2, c3⟩))
    refine key (nT w - 9) 9 (by omega) (by omega) (fun r hr => ?_) (fun hr => ?_)
    · rw [show rfN w t = some r from hr] at h
      exact h
    · rw [show rfN w t = none from hr] at h
      exact h
  · rw [bI_0] at c
    rw [cIf_t c] at h
    exact c12_fail h
theorem i32_01 (x : Int32) : (0 ≤ x.toInt ∧ x.toInt ≤ 1) ↔ (x = 0 ∨ x = 1) := by
  rw [i32_eq x 0, i32_eq x 1]
  show _ ↔ (x.toInt = 0 ∨ x.toInt = 1)
  omega
theorem c12_erased {t what : Int32} (hI : TInv w) (h : Q (some (.int (S_erased w t what).1)) (S_erased w t what).2) : Con G M12_erased [.ref 79, .int t, .int what] w Q := by
  have h100 := hI.le
  unfold S_erased at h
  have bad : (¬ isT w t ∨ ¬ (what = 0 ∨ what = 1)) → Wq G M12_erased 18 [some (.ref 79), some (.int t), some (.int what)] [] (0, 0) w Q := by
    intro hb
    rw [cIf_t hb] at h
    exact Wq.go ok12_erased 20 [] (c12_fail h)
  refine Con.go hw12_erased ok12_erased 40 [18] rfl ?_
  refine c12_isType hI.ty (And.intro (fun c => ?_) (fun c => ?_))
  · rw [bI_0] at c
    exact bad (Or.inl c)
  · rw [bI_n0] at c
    refine c12_inI (x := what.toInt) (y := 0) (z := 1) (i32_wide what) rfl rfl (And.intro (fun c2 => ?_) (fun c2 => ?_))
    · rw [bI_n0, i32_01] at c2
      rw [cIf_f (fun q => q.elim (fun q => q c) (fun q => q c2))] at h
      obtain ⟨j, rfl, hj⟩ := c
      rw [tn_nI (by omega)] at h
      refine And.intro (fun c3 => ?_) (fun c3 => ?_)
      · rw [cIf_f c3] at h
        exact c12_depth hI hj (c12_good h)
      · rw [cIf_t c3] at h
        exact c12_base hI hj (c12_good h)
    · rw [bI_0, i32_01] at c2
      exact bad (Or.inr c2)
theorem c12_toldBy {a : Nat} (ha : a < 2000) (h : Q (some (.int (nI (100 * (a / 10) + a % 10)))) w) : Con G M12_toldBy [.int (nI a)] w Q := by
  refine Con.go hw12_toldBy ok12_toldBy 40 [] rfl ?_
  refine And.intro (by decide) (And.intro (by decide) ?_)
  show Q (some (.int ((100 : Int32) * (nI a / 10) + (nI a - nI a / 10 * 10)))) w
  rw [rem10 (by omega), div10 (by omega), c_100, pk_mul, nI_add]
  exact h
theorem c12_isPlace {a : Nat} (ha : a < 1000) (h : Q (some (.int (bI (¬ ma w 8 a = 0 ∧ ma w 11 a = 0)))) w) : Con G M12_isPlace [.ref 79, .int (nI a)] w Q := by
  have hin : vp_in (nI a) 1000 := in_nI (by omega) (by decide)
  have e2 : (nI a).toNatClampNeg = a := tn_nI (by omega)
  refine Con.go hw12_isPlace ok12_isPlace 40 [] rfl ?_
  refine And.intro hin (And.intro (fun c => ?_) (fun c => And.intro hin (And.intro (fun c2 => ?_) (fun c2 => ?_)))) <;> rw [e2] at c
  · rw [bI_f (fun q => q.1 c)] at h
    exact And.intro rfl h
  · rw [e2] at c2
    rw [bI_f (fun q => c2 q.2)] at h
    exact And.intro rfl h
  · rw [e2] at c2
    rw [bI_t ⟨c, c2⟩] at h
    exact And.intro rfl h
end
/-- how many things, handles, queries -/
def nX (m : qSt) : Nat := tn (mi m 22)
def nH (m : qSt) : Nat := tn (mi m 29)
def nQ (m : qSt) : Nat := tn (mi m 43)
def isX (m : qSt) (t : Int32) : Prop := ∃ j, t = nI j ∧ j < nX m
def isH (m : qSt) (t : Int32) : Prop := ∃ j, t = nI j ∧ j < nH m
def isQ (m : qSt) (t : Int32) : Prop := ∃ j, t = nI j ∧ j < nQ m
theorem ex_iff {n : Nat} (h : n < 1000) (t : Int32) : (∃ j, t = nI j ∧ j < n) ↔ 0 ≤ t.toInt ∧ t.toInt ≤ (n : Int) - 1 := by
  constructor
  · rintro ⟨j, rfl, hj⟩
    rw [nI_t (by omega)]; omega
  · intro hq
    refine ⟨t.toInt.toNat, ?_, by omega⟩
    rw [i32_eq, nI_t (by omega)]; omega
theorem sub1 {n : Nat} (h : n < 1000) : (nI n - 1 : Int32).toInt = (n : Int) - 1 := by
  rw [i32_sub] <;> rw [nI_t (by omega)] <;> simp <;> omega
section
variable {G : qGX} {w : qSt} {Q : Option Value → qSt → Prop}
theorem c12_isThing {t : Int32} (e : mi w 22 = nI (nX w)) (hb : nX w ≤ 60) (h : Q (some (.int (bI (isX w t)))) w) : Con G M12_isThing [.ref 79, .int t] w Q := by
  refine Con.go hw12_isThing ok12_isThing 20 [] rfl ?_
  refine c12_inI (x := t.toInt) (y := 0) (z := (nX w : Int) - 1) (i32_wide t) rfl ?_ ?_
  · show ((mi w 22 - 1 : Int32).toInt64).toInt = _
    rw [i32_wide, e, sub1 (by omega)]
  · rw [← ex_iff (by omega)]
    exact ⟨bI_and _, h⟩
theorem c12_isHandle {t : Int32} (e : mi w 29 = nI (nH w)) (hb : nH w ≤ 40) (h : Q (some (.int (bI (isH w t)))) w) : Con G M12_isHandle [.ref 79, .int t] w Q := by
  refine Con.go hw12_isHandle ok12_isHandle 20 [] rfl ?_
  refine c12_inI (x := t.toInt) (y := 0) (z := (nH w : Int) - 1) (i32_wide t) rfl ?_ ?_
  · show ((mi w 29 - 1 : Int32).toInt64).toInt = _
    rw [i32_wide, e, sub1 (by omega)]
  · rw [← ex_iff (by omega)]
    exact ⟨bI_and _, h⟩
theorem c12_isQuery {t : Int32} (e : mi w 43 = nI (nQ w)) (hb : nQ w ≤ 20) (h : Q (some (.int (bI (isQ w t)))) w) : Con G M12_isQuery [.ref 79, .int t] w Q := by
  refine Con.go hw12_isQuery ok12_isQuery 20 [] rfl ?_
  refine c12_inI (x := t.toInt) (y := 0) (z := (nQ w : Int) - 1) (i32_wide t) rfl ?_ ?_
  · show ((mi w 43 - 1 : Int32).toInt64).toInt = _
    rw [i32_wide, e, sub1 (by omega)]
  · rw [← ex_iff (by omega)]
    exact ⟨bI_and _, h⟩
theorem c12_isNoThing {t : Int32} (e : mi w 22 = nI (nX w)) (hb : nX w ≤ 60) (h : Q (some (.int (bI (¬ t = -1 ∧ ¬ isX w t)))) w) : Con G M12_isNoThing [.ref 79, .int t] w Q := by
  refine Con.go hw12_isNoThing ok12_isNoThing 20 [] rfl ?_
  refine And.intro (fun c => ?_) (fun c => c12_isThing e hb (And.intro (fun c2 => ?_) (fun c2 => ?_)))
  · rw [bI_f (fun q => q.1 c)] at h
    exact And.intro rfl h
  · rw [bI_n0] at c2
    rw [bI_f (fun q => q.2 c2)] at h
    exact And.intro rfl h
  · rw [bI_0] at c2
    rw [bI_t ⟨c, c2⟩] at h
    exact And.intro rfl h
end
