/-! ===== what depends on the model's own rows alone; items of rows ===== -/
def Mq (w w' : qSt) : Prop := mp w' = mp w
theorem Sc.mq {w w' : qSt} (h : Sc w w') : Mq w w' := h.1
theorem Mq.rf {w : qSt} : Mq w w := rfl
theorem Mq.sy {w w' : qSt} (h : Mq w w') : Mq w' w := Eq.symm h
theorem Mq.tr {a b c : qSt} (h : Mq a b) (h' : Mq b c) : Mq a c := Eq.trans h' h
theorem Mq.c {α : Sort _} {w w' : qSt} (h : Mq w w') (P : qSt → α) (hP : ∀ w, P (mp w) = P w) : P w' = P w := by rw [← hP w', show mp w' = mp w from h, hP]
theorem Mq.row {w w' : qSt} (h : Mq w w') {r : Nat} (hs : scI 40 r = false) : ma w' r = ma w r := by
  funext i
  have := congrFun (congrFun (congrFun (congrArg (fun w : qSt => w.1) h) 40) r) i
  have e : (bif isM 40 && !scI 40 r then gI w' 40 r i else 0) = (bif isM 40 && !scI 40 r then gI w 40 r i else 0) := this
  rw [hs] at e
  exact e
theorem Mq.rowJ {w w' : qSt} (h : Mq w w') (r : Nat) : ml w' r = ml w r := h.c (fun w => ml w r) (fun _ => rfl)
theorem Mq.te {w w' : qSt} (h : Mq w w') : TE w w' := by
  refine ⟨h.c (fun w => mi w 1) (fun _ => rfl), fun r hr _ => h.row ?_⟩
  have : Nat.ble 15 r = false := by
    cases e : Nat.ble 15 r with
    | false => rfl
    | true => have := Nat.le_of_ble_eq_true e; omega
  show (Nat.ble 15 r && Nat.ble r 18) = false
  rw [this]; rfl
theorem Mq.I {w w' : qSt} (h : Mq w w') {r k i : Nat} {v : Int32} (hm : isM r = true) : Mq (sI w r k i v) (sI w' r k i v) := by
  unfold Mq at *
  cases hs : scI r k with
  | true => rw [mp_sI0 (Or.inr hs), mp_sI0 (Or.inr hs), h]
  | false => rw [mp_sI hm hs, mp_sI hm hs, h]
theorem Mq.J {w w' : qSt} (h : Mq w w') {r k i : Nat} {v : Int64} (hm : isM r = true) : Mq (sJ w r k i v) (sJ w' r k i v) := by
  unfold Mq at *
  cases hs : scJ r k with
  | true => rw [mp_sJ0 (Or.inr hs), mp_sJ0 (Or.inr hs), h]
  | false => rw [mp_sJ hm hs, mp_sJ hm hs, h]
theorem TE.eiv {m m' : qSt} (h : TE m m') : ivL m' = ivL m := by
  have e8 := h.2 8 (by omega) (by omega)
  have e10 := h.2 10 (by omega) (by omega)
  have e11 := h.2 11 (by omega) (by omega)
  have hP : isP m' = isP m := by funext a; show (¬ ma m' 8 a = 0 ∧ ma m' 11 a = 0) = _; rw [e8, e11]; rfl
  have hF : ivF m' = ivF m := by
    funext c k
    induction k with
    | zero => rfl
    | succ k ih => show ivF m' c k ++ cIf (isP m' (10 * c + k)) [laneV (ma m' 10 (10 * c + k))] [] = ivF m c k ++ cIf (isP m (10 * c + k)) [laneV (ma m 10 (10 * c + k))] []; rw [ih, hP, e10]
  funext l
  induction l with
  | nil => rfl
  | cons c l ih => show ivF m' c (nM m' c) ++ ivL m' l = ivF m c (nM m c) ++ ivL m l; rw [hF, h.eM, ih]
theorem TE.eSo {m m' : qSt} (h : TE m m') : soP m' = soP m := by
  funext s ds t dt
  unfold soP
  rw [h.eab, h.eFO, h.2 0 (by omega) (by omega)]
theorem Mq.ebX {w w' : qSt} (h : Mq w w') : bX w' = bX w := by funext x; show tn (ma w' 19 x) = tn (ma w 19 x); rw [h.row (r := 19) rfl]
theorem Mq.edX {w w' : qSt} (h : Mq w w') : dX w' = dX w := by funext x; show tn (ma w' 20 x) = tn (ma w 20 x); rw [h.row (r := 20) rfl]
theorem Mq.esX {w w' : qSt} (h : Mq w w') : sX w' = sX w := by funext x; show tn (ma w' 21 x) = tn (ma w 21 x); rw [h.row (r := 21) rfl]
theorem Mq.epX {w w' : qSt} (h : Mq w w') : pX w' = pX w := by funext x; show tn (ma w' 22 x) = tn (ma w 22 x); rw [h.row (r := 22) rfl]
theorem Mq.enX {w w' : qSt} (h : Mq w w') : nX w' = nX w := h.c nX (fun _ => rfl)
theorem Mq.enH {w w' : qSt} (h : Mq w w') : nH w' = nH w := h.c nH (fun _ => rfl)
theorem Mq.enQ {w w' : qSt} (h : Mq w w') : nQ w' = nQ w := h.c nQ (fun _ => rfl)
theorem Mq.tinv {w w' : qSt} (h : Mq w w') (hI : TInv w) : TInv w' := (h.c TInv (fun _ => rfl)).mpr hI
theorem Mq.xinv {w w' : qSt} (h : Mq w w') (hX : XInv w) : XInv w' := by
  obtain ⟨x1, x2, x3, x4⟩ := hX
  have e22 : mi w' 22 = mi w 22 := h.c (fun w => mi w 22) (fun _ => rfl)
  refine ⟨by rw [e22, h.enX]; exact x1, by rw [h.enX]; exact x2, fun x hx => ?_, fun x hx => ?_⟩
  · rw [h.row (r := 22) rfl, h.epX]
    exact x3 x (by rw [h.enX] at hx; exact hx)
  · have := x4 x (by rw [h.enX] at hx; exact hx)
    unfold XOK at this ⊢
    rw [h.row (r := 19) rfl, h.row (r := 20) rfl, h.row (r := 21) rfl, h.row (r := 0) rfl, h.row (r := 4) rfl, h.ebX, h.edX, h.esX, h.epX, h.te.eT, h.te.eiv, h.te.eab]
    exact this
theorem rng_iff {n : Nat} (h : n < 2147483648) (t : Int32) : (∃ k, t = nI k ∧ k < n) ↔ 0 ≤ t.toInt ∧ t.toInt ≤ (n : Int) - 1 := by
  constructor
  · rintro ⟨j, rfl, hj⟩
    rw [nI_t (by omega)]; omega
  · intro hq
    refine ⟨t.toInt.toNat, ?_, by omega⟩
    rw [i32_eq, nI_t (by omega)]; omega
theorem sub1n {v : Int32} {n : Nat} (e : v = nI n) (h : n < 2147483648) : (v - 1).toInt64.toInt = (n : Int) - 1 := by
  rw [i32_wide, e, i32_sub] <;> rw [nI_t h] <;> simp <;> omega
theorem nlt0 {a : Int32} (h : 0 ≤ a) : ¬ a < 0 := by rw [i32_le] at h; rw [i32_lt]; have : (0 : Int32).toInt = 0 := rfl; omega
theorem lt0 {a : Int32} (h : ¬ 0 ≤ a) : a < 0 := by rw [i32_le] at h; rw [i32_lt]; have : (0 : Int32).toInt = 0 := rfl; omega
noncomputable def hdN (w : qSt) (x i nr : Int32) : Int32 := cIf (noX w x) (-1) (cIf (x = -1) (-11) (cIf (dX w (tn x) = 0) nr (cIf (∃ k, i = nI k ∧ k < sX w (tn x)) 0 (-12))))
theorem hd_get {w : qSt} {x i nr : Int32} (hX : XInv w) (hn : nr < 0) (h : ¬ hdN w x i nr < 0) : ∃ j k, x = nI j ∧ j < nX w ∧ i = nI k ∧ k < sX w j ∧ dX w j ≠ 0 := by
  unfold hdN at h
  by_cases c1 : noX w x
  · rw [cIf_t c1] at h; exact absurd (by decide) h
  rw [cIf_f c1] at h
  by_cases c2 : x = -1
  · rw [cIf_t c2] at h; exact absurd (by decide) h
  rw [cIf_f c2] at h
  obtain ⟨j, rfl, hj⟩ := isX_lt hX c1 c2
  have := hX.2.1
  rw [tn_nI (by omega)] at h
  by_cases c3 : dX w j = 0
  · rw [cIf_t c3] at h; exact absurd hn h
  rw [cIf_f c3] at h
  by_cases c4 : ∃ k, i = nI k ∧ k < sX w j
  · obtain ⟨k, hk, hk2⟩ := c4; exact ⟨j, k, rfl, hj, hk, hk2, c3⟩
  · rw [cIf_f c4] at h; exact absurd (by decide) h
theorem XInv.sz {w : qSt} (hX : XInv w) {j : Nat} (hj : j < nX w) : pX w j + sX w j ≤ 60000 := by
  have h1 := (hX.2.2.1 (j + 1) (by omega)).2
  have h2 := (hX.2.2.2 j hj).2.2.2.2.2.2.1
  have h3 := hX.2.1
  omega
theorem pl_ix {w : qSt} (hX : XInv w) {j k : Nat} (hj : j < nX w) (hk : k < sX w j) : ma w 22 (nI j).toNatClampNeg + nI k = nI (pX w j + k) ∧ vp_in (nI j) 61 ∧ vp_in (nI j) 60 ∧ pX w j + k < 60000 := by
  have h3 := hX.2.1
  have h4 := hX.sz hj
  refine ⟨?_, in_nI (by omega) (by decide), in_nI (by omega) (by decide), by omega⟩
  rw [nI_clamp (by omega), (hX.2.2.1 j (by omega)).1, nI_add]
/-- whether a number may be put into a place of a type; what is kept of it -/
def mbP (w : qSt) (b d : Nat) (v : Int64) : Prop := (b < 8 ∧ d = 0) ∨ v = -1 ∨ ∃ j : Nat, v.toInt = (j : Int) ∧ j < nX w ∧ soP w (bX w j) (dX w j) b d
noncomputable def rdV (b d : Nat) (v : Int64) : Int64 := cIf (b < 8 ∧ d = 0) (kp b v) v
noncomputable def S_read (w : qSt) (x i : Int32) : Int64 × qSt := cIf (hdN w x i (-13) < 0) (-9223372036854775808, stt w (hdN w x i (-13))) (ml w 23 (pX w (tn x) + tn i), stt w 0)
noncomputable def S_write (w : qSt) (x i : Int32) (v : Int64) : Int32 × qSt := cIf (hdN w x i (-13) < 0) (hdN w x i (-13), stt w (hdN w x i (-13)))
  (cIf (mbP w (bX w (tn x)) (dX w (tn x) - 1) v) (1, stt (sJ w 40 23 (pX w (tn x) + tn i) (rdV (bX w (tn x)) (dX w (tn x) - 1) v)) 0) (-14, stt w (-14)))
noncomputable def hlN (w : qSt) (x i l : Int32) : Int32 := cIf (isL l) (cIf (isX w x ∧ ¬ (dX w (tn x) = 1 ∧ bX w (tn x) < 8)) (-16) (hdN w x i (-16))) (-1)
noncomputable def S_readAs (w : qSt) (x i l : Int32) : Int64 × qSt := cIf (hlN w x i l < 0) (-9223372036854775808, stt w (hlN w x i l))
  (cIf (wdP (bX w (tn x)) (tn l)) (wd (bX w (tn x)) (tn l) (ml w 23 (pX w (tn x) + tn i)), stt w 0) (-9223372036854775808, stt w (-16)))
noncomputable def S_writeAs (w : qSt) (x i l : Int32) (v : Int64) : Int32 × qSt := cIf (hlN w x i l < 0) (hlN w x i l, stt w (hlN w x i l))
  (cIf (wdP (tn l) (bX w (tn x))) (1, stt (sJ w 40 23 (pX w (tn x) + tn i) (wd (tn l) (bX w (tn x)) (kp (tn l) v))) 0) (-16, stt w (-16)))
theorem hl_get {w : qSt} {x i l : Int32} (hX : XInv w) (h : ¬ hlN w x i l < 0) : ∃ j k L, x = nI j ∧ j < nX w ∧ i = nI k ∧ k < sX w j ∧ dX w j = 1 ∧ bX w j < 8 ∧ l = nI L ∧ L < 8 := by
  unfold hlN at h
  by_cases c1 : isL l
  · rw [cIf_t c1] at h
    obtain ⟨L, rfl, hL⟩ := c1
    by_cases c2 : isX w x ∧ ¬ (dX w (tn x) = 1 ∧ bX w (tn x) < 8)
    · rw [cIf_t c2] at h; exact absurd (by decide) h
    · rw [cIf_f c2] at h
      obtain ⟨j, k, rfl, hj, rfl, hk, hd⟩ := hd_get hX (by decide) h
      have h3 := hX.2.1
      rw [tn_nI (by omega)] at c2
      have c3 : dX w j = 1 ∧ bX w j < 8 := Classical.byContradiction (fun q => c2 ⟨⟨j, rfl, hj⟩, q⟩)
      exact ⟨j, k, L, rfl, hj, rfl, hk, c3.1, c3.2, rfl, hL⟩
  · rw [cIf_f c1] at h; exact absurd (by decide) h
theorem i64_32 {v : Int64} {j : Nat} (h : v.toInt = (j : Int)) (hj : j < 2147483648) : v.toInt32 = nI j := by
  rw [i32_eq, nI_t hj, Int64.toInt_toInt32, h]
  exact Int.bmod_eq_of_le (by omega) (by omega)
theorem and31 (a : Int32) : (a &&& 2147483647).toInt = ((a.toUInt32.toNat % 2147483648 : Nat) : Int) := by
  have h : (a &&& 2147483647 : Int32).toBitVec.toNat = a.toUInt32.toNat % 2147483648 := by
    rw [Int32.toBitVec_and, BitVec.toNat_and]
    show a.toBitVec.toNat &&& (2 ^ 31 - 1) = _
    rw [Nat.and_two_pow_sub_one_eq_mod]
    rfl
  show (a &&& 2147483647 : Int32).toBitVec.toInt = _
  rw [BitVec.toInt_eq_toNat_of_lt (by rw [h]; omega), h]
theorem and63 (a : Int64) : (a &&& 9223372036854775807).toInt = ((a.toUInt64.toNat % 9223372036854775808 : Nat) : Int) := by
  have h : (a &&& 9223372036854775807 : Int64).toBitVec.toNat = a.toUInt64.toNat % 9223372036854775808 := by
    rw [Int64.toBitVec_and, BitVec.toNat_and]
    show a.toBitVec.toNat &&& (2 ^ 63 - 1) = _
    rw [Nat.and_two_pow_sub_one_eq_mod]
    rfl
  show (a &&& 9223372036854775807 : Int64).toBitVec.toInt = _
  rw [BitVec.toInt_eq_toNat_of_lt (by rw [h]; omega), h]
theorem uand31 (b : UInt32) : (b &&& 0x7fffffff).toNat = b.toNat % 2147483648 := by
  rw [UInt32.toNat_and]
  exact Nat.and_two_pow_sub_one_eq_mod _ 31
theorem uand63 (b : UInt64) : (b &&& 0x7fffffffffffffff).toNat = b.toNat % 9223372036854775808 := by
  rw [UInt64.toNat_and]
  exact Nat.and_two_pow_sub_one_eq_mod _ 63
theorem kp6_ok {v : Int64} (h : kp 6 v = v) : vn_sni2f v.toInt32 = false := by
  have h : cIf ((2139095040 : Int32) < v.toInt32 &&& 2147483647) 2143289344 v.toInt32.toInt64 = v := h
  by_cases c : (2139095040 : Int32) < v.toInt32 &&& 2147483647
  · rw [cIf_t c] at h
    rw [← h]
    decide +kernel
  · unfold vn_sni2f
    have e : ¬ v.toInt32.toUInt32 &&& 0x7fffffff > 0x7f800000 := by
      intro q
      rw [gt_iff_lt, UInt32.lt_iff_toNat_lt, uand31] at q
      rw [i32_lt, and31] at c
      have e1 : (2139095040 : Int32).toInt = 2139095040 := rfl
      have e2 : (0x7f800000 : UInt32).toNat = 2139095040 := rfl
      rw [e1] at c
      rw [e2] at q
      omega
    rw [decide_eq_false e]; rfl
theorem kp7_ok {v : Int64} (h : kp 7 v = v) : vn_snl2d v = false := by
  have h : cIf ((9218868437227405312 : Int64) < v &&& 9223372036854775807) 9221120237041090560 v = v := h
  by_cases c : (9218868437227405312 : Int64) < v &&& 9223372036854775807
  · rw [cIf_t c] at h
    rw [← h]
    decide +kernel
  · unfold vn_snl2d
    have e : ¬ v.toUInt64 &&& 0x7fffffffffffffff > 0x7ff0000000000000 := by
      intro q
      rw [gt_iff_lt, UInt64.lt_iff_toNat_lt, uand63] at q
      rw [i64_lt, and63] at c
      have e1 : (9218868437227405312 : Int64).toInt = 9218868437227405312 := rfl
      have e2 : (0x7ff0000000000000 : UInt64).toNat = 9218868437227405312 := rfl
      rw [e1] at c
      rw [e2] at q
      omega
    rw [decide_eq_false e]; rfl
section
variable {G : qGX} {w : qSt} {Q : Option Value → qSt → Prop}
theorem c12_inN {i v : Int32} {n : Nat} (e : v = nI n) (hn : n < 1000000) (h : Q (some (.int (bI (∃ k, i = nI k ∧ k < n)))) w) : Con G M12_in [.long i.toInt64, .long 0, .long (v - 1).toInt64] w Q := by
  refine c12_inI (i32_wide i) rfl (sub1n e (by omega)) ?_
  have h' := h
  rw [rng_iff (by omega)] at h'
  exact h'
theorem c12_hinders {x i nr : Int32} (hX : XInv w) (h : Q (some (.int (hdN w x i nr))) w) : Con G M12_hinders [.ref 79, .int x, .int i, .int nr] w Q := by
  obtain ⟨x1, x2, x3, x4⟩ := id hX
  unfold hdN at h
  refine Con.go hw12_hinders ok12_hinders 40 [] rfl ?_
  refine c12_isNoThing x1 x2 (And.intro (fun c1 => ?_) (fun c1 => ?_))
  · rw [bI_0] at c1
    rw [cIf_f (show ¬ noX w x from c1)] at h
    refine And.intro (fun (c3 : ¬ x = -1) => ?_) (fun (c3 : x = -1) => ?_)
    · rw [cIf_f c3] at h
      obtain ⟨j, rfl, hj⟩ := isX_lt hX c1 c3
      have hin : vp_in (nI j) 60 := in_nI (by omega) (by decide)
      have e2 : (nI j).toNatClampNeg = j := nI_clamp (by omega)
      obtain ⟨-, -, -, y4, y5, y6, -⟩ := x4 j hj
      have hsz := hX.sz hj
      rw [tn_nI (by omega)] at h
      refine And.intro hin (And.intro (fun (c4 : ¬ ma w 20 (nI j).toNatClampNeg = 0) => ?_) (fun (c4 : ma w 20 (nI j).toNatClampNeg = 0) => ?_)) <;> rw [e2, y4, c_0', nI_eqI (by omega) (by omega)] at c4
      · rw [cIf_f c4] at h
        refine And.intro hin (c12_inN (n := sX w j) ?_ (by omega) (And.intro (fun c5 => ?_) (fun c5 => ?_)))
        · show ma w 21 (nI j).toNatClampNeg = _
          rw [e2, y6]
        · rw [bI_0] at c5
          rw [cIf_f c5] at h
          exact h
        · rw [bI_n0] at c5
          rw [cIf_t c5] at h
          exact h
      · rw [cIf_t c4] at h
        exact h
    · rw [cIf_t c3] at h
      exact h
  · rw [bI_n0] at c1
    rw [cIf_t (show noX w x from c1)] at h
    exact h
theorem c12_read {x i : Int32} (hX : XInv w) (h : ∀ w', Sc (S_read w x i).2 w' → Q (some (.long (S_read w x i).1)) w') : Con G M12_read [.ref 79, .int x, .int i] w Q := by
  unfold S_read at h
  refine Con.go hw12_read ok12_read 40 [] rfl ?_
  refine c12_hinders hX (And.intro (fun (c : 0 ≤ hdN w x i (-13)) => ?_) (fun (c : ¬ 0 ≤ hdN w x i (-13)) => ?_))
  · rw [cIf_f (nlt0 c)] at h
    obtain ⟨j, k, rfl, hj, rfl, hk, hd⟩ := hd_get hX (by decide) (nlt0 c)
    obtain ⟨p1, p2, p3, p4⟩ := pl_ix hX hj hk
    have h3 := hX.2.1
    refine And.intro p2 (And.intro (show vp_in (ma w 22 (nI j).toNatClampNeg + nI k) 60000 by rw [p1]; exact in_nI (by omega) (by decide)) (c12_told0 ?_))
    show Q (some (.long (ml w 23 (ma w 22 (nI j).toNatClampNeg + nI k).toNatClampNeg))) _
    rw [p1, nI_clamp (by omega)]
    rw [tn_nI (by omega), tn_nI (by omega)] at h
    exact h _ Sc.rf
  · rw [cIf_t (lt0 c)] at h
    exact c12_lost (h _ Sc.rf)
theorem c12_mayBePut {b d : Nat} {b' d' : Int32} {v : Int64} (hI : TInv w) (hX : XInv w) (eb : b' = nI b) (ed : d' = nI d) (hb : b < nT w) (hd : d < 1000) (h : ∀ w', Sf (sJ w 12 28 0 (rdV b d v)) w' → Q (some (.int (bI (mbP w b d v)))) w') : Con G M12_mayBePut [.ref 79, .int b', .int d', .long v] w Q := by
  subst eb ed
  obtain ⟨x1, x2, x3, x4⟩ := id hX
  have h100 := hI.le
  have tail : ¬ (b < 8 ∧ d = 0) → Wq G M12_mayBePut 22 [some (.ref 79), some (.int (nI b)), some (.int (nI d)), some (.long v), none] [] (0, 0) w Q := by
    intro hn
    have er : rdV b d v = v := cIf_f hn
    rw [er] at h
    refine Wq.go ok12_mayBePut 60 [] ?_
    refine And.intro (fun c => ?_) (fun c => ?_) <;> rw [lg_eq0] at c
    · have := h _ Sf.rf
      rw [bI_t (show mbP w b d v from Or.inr (Or.inl c))] at this
      exact And.intro rfl this
    · refine c12_inI (x := v.toInt) (y := 0) (z := (nX w : Int) - 1) rfl rfl (sub1n (v := mi w 22) x1 (by omega)) (And.intro (fun c2 => ?_) (fun c2 => ?_))
      · rw [bI_0] at c2
        have := h _ Sf.rf
        rw [bI_f (show ¬ mbP w b d v from fun q => q.elim hn (fun q => q.elim c (fun ⟨j, q1, q2, _⟩ => c2 (by omega))))] at this
        exact And.intro rfl this
      · rw [bI_n0] at c2
        obtain ⟨j, hj⟩ : ∃ j : Nat, v.toInt = (j : Int) := ⟨v.toInt.toNat, by omega⟩
        have hjX : j < nX w := by omega
        have e32 : v.toInt32 = nI j := i64_32 hj (by omega)
        have hin : vp_in v.toInt32 60 := by rw [e32]; exact in_nI (by omega) (by decide)
        have e2 : v.toInt32.toNatClampNeg = j := by rw [e32]; exact nI_clamp (by omega)
        obtain ⟨y1, y2, -, y4, y5, -⟩ := x4 j hjX
        refine And.intro hin (And.intro hin ?_)
        show Con G M12_isSo [.ref 79, .int (ma w 19 v.toInt32.toNatClampNeg), .int (ma w 20 v.toInt32.toNatClampNeg), .int (nI b), .int (nI d)] (sJ w 12 28 0 v) _
        rw [e2, y1, y4]
        have eSo : soP (sJ w 12 28 0 v) = soP w := TE.eSo (m := w) ⟨rfl, fun _ _ _ => rfl⟩
        refine c12_isSo (w := sJ w 12 28 0 v) hI y2 hb (by omega) hd (fun w' hw' => And.intro (fun c3 => ?_) (fun c3 => ?_))
        · rw [bI_0, eSo] at c3
          have := h _ hw'
          have hq3 : ∀ i : Nat, v.toInt = (i : Int) → i = j := by intro i hi; omega
          rw [bI_f (show ¬ mbP w b d v from fun q => q.elim hn (fun q => q.elim c (fun ⟨i, q1, q2, q3⟩ => c3 (hq3 i q1 ▸ q3))))] at this
          exact And.intro rfl this
        · rw [bI_n0, eSo] at c3
          have := h _ hw'
          rw [bI_t (show mbP w b d v from Or.inr (Or.inr ⟨j, hj, hjX, c3⟩))] at this
          exact And.intro rfl this
  refine Con.go hw12_mayBePut ok12_mayBePut 40 [22] rfl ?_
  refine c12_isLane (And.intro (fun c1 => ?_) (fun c1 => ?_))
  · rw [bI_0, isL_nI (by omega)] at c1
    exact tail (fun q => c1 q.1)
  · rw [bI_n0, isL_nI (by omega)] at c1
    refine And.intro (fun (c2 : ¬ nI d = 0) => ?_) (fun (c2 : nI d = 0) => ?_) <;> rw [c_0', nI_eqI (by omega) (by omega)] at c2
    · exact tail (fun q => c2 q.2)
    · refine c12_kept c1 ?_
      rw [show rdV b d v = kp b v from cIf_t ⟨c1, c2⟩] at h
      have := h _ Sf.rf
      rw [bI_t (show mbP w b d v from Or.inl ⟨c1, c2⟩)] at this
      exact And.intro rfl this
theorem c12_write {x i : Int32} {v : Int64} (hI : TInv w) (hX : XInv w) (h : ∀ w', Sc (S_write w x i v).2 w' → Q (some (.int (S_write w x i v).1)) w') : Con G M12_write [.ref 79, .int x, .int i, .long v] w Q := by
  unfold S_write at h
  have h100 := hI.le
  refine Con.go hw12_write ok12_write 40 [] rfl ?_
  refine c12_hinders hX (And.intro (fun (c : 0 ≤ hdN w x i (-13)) => ?_) (fun (c : ¬ 0 ≤ hdN w x i (-13)) => ?_))
  · rw [cIf_f (nlt0 c)] at h
    obtain ⟨j, k, rfl, hj, rfl, hk, hd⟩ := hd_get hX (by decide) (nlt0 c)
    obtain ⟨p1, p2, p3, p4⟩ := pl_ix hX hj hk
    have h3 := hX.2.1
    obtain ⟨y1, y2, -, y4, y5, -⟩ := hX.2.2.2 j hj
    have e2 : (nI j).toNatClampNeg = j := nI_clamp (by omega)
    rw [tn_nI (by omega), tn_nI (by omega)] at h
    refine And.intro p3 (And.intro p3 (c12_mayBePut (b := bX w j) (d := dX w j - 1) hI hX ?_ ?_ y2 (by omega) (fun w' hw' => And.intro (fun c2 => ?_) (fun c2 => ?_))))
    · show ma w 19 (nI j).toNatClampNeg = _
      rw [e2, y1]
    · show ma w 20 (nI j).toNatClampNeg - 1 = _
      rw [e2, y4]
      obtain ⟨D, hD⟩ : ∃ D, dX w j = D + 1 := ⟨dX w j - 1, by omega⟩
      rw [hD]; exact nI_m1 D
    · rw [bI_n0] at c2
      rw [cIf_t c2] at h
      have e22 : ma w' 22 = ma w 22 := hw'.c (fun w => ma w 22) (fun _ => rfl)
      have e28 : mj w' 28 = rdV (bX w j) (dX w j - 1) v := (hw'.c (fun w => mj w 28) (fun _ => rfl)).trans (gJ_at w 12 28 0 _)
      have p1' : ma w' 22 (nI j).toNatClampNeg + nI k = nI (pX w j + k) := by rw [e22]; exact p1
      refine And.intro p2 (And.intro (show vp_in (ma w' 22 (nI j).toNatClampNeg + nI k) 60000 by rw [p1']; exact in_nI (by omega) (by decide)) (c12_good ?_))
      show Q _ (stt (sJ w' 40 23 (ma w' 22 (nI j).toNatClampNeg + nI k).toNatClampNeg (mj w' 28)) 0)
      rw [p1', nI_clamp (by omega), e28]
      exact h _ (((((Sc.rf (w := w)).J (r := 12) (k := 28) (i := 0) (v := rdV (bX w j) (dX w j - 1) v) rfl rfl).tr hw'.toSc).J2 rfl).I2 rfl)
    · rw [bI_0] at c2
      rw [cIf_f c2] at h
      exact c12_fail (h _ ((((Sc.rf (w := w)).J (r := 12) (k := 28) (i := 0) (v := rdV (bX w j) (dX w j - 1) v) rfl rfl).tr hw'.toSc).I2 rfl))
  · rw [cIf_t (lt0 c)] at h
    exact c12_fail (h _ Sc.rf)
theorem c12_isOfLane {j : Nat} (hX : XInv w) (hT : nT w ≤ 100) (hj : j < nX w) (h : Q (some (.int (bI (dX w j = 1 ∧ bX w j < 8)))) w) : Con G M12_isOfLane [.ref 79, .int (nI j)] w Q := by
  obtain ⟨x1, x2, x3, x4⟩ := id hX
  obtain ⟨y1, y2, -, y4, y5, -⟩ := x4 j hj
  have hin : vp_in (nI j) 60 := in_nI (by omega) (by decide)
  have e2 : (nI j).toNatClampNeg = j := nI_clamp (by omega)
  refine Con.go hw12_isOfLane ok12_isOfLane 40 [] rfl ?_
  refine And.intro hin (And.intro (fun (c : ¬ ma w 20 (nI j).toNatClampNeg = 1) => ?_) (fun (c : ma w 20 (nI j).toNatClampNeg = 1) => ?_)) <;> rw [e2, y4, c_1, nI_eqI (by omega) (by omega)] at c
  · rw [bI_f (fun q => c q.1)] at h
    exact And.intro rfl h
  · refine And.intro hin ?_
    show Con G M12_isLane [.int (ma w 19 (nI j).toNatClampNeg)] w _
    rw [e2, y1]
    refine c12_isLane (And.intro (fun c2 => ?_) (fun c2 => ?_))
    · rw [bI_0, isL_nI (by omega)] at c2
      rw [bI_f (fun q => c2 q.2)] at h
      exact And.intro rfl h
    · rw [bI_n0, isL_nI (by omega)] at c2
      rw [bI_t ⟨c, c2⟩] at h
      exact And.intro rfl h
theorem c12_hindersLane {x i : Int32} (hX : XInv w) (hT : nT w ≤ 100) (h : Q (some (.int (cIf (isX w x ∧ ¬ (dX w (tn x) = 1 ∧ bX w (tn x) < 8)) (-16) (hdN w x i (-16))))) w) : Con G M12_hindersLane [.ref 79, .int x, .int i] w Q := by
  obtain ⟨x1, x2, x3, x4⟩ := id hX
  have tail : ¬ (isX w x ∧ ¬ (dX w (tn x) = 1 ∧ bX w (tn x) < 8)) → Wq G M12_hindersLane 21 [some (.ref 79), some (.int x), some (.int i)] [] (0, 0) w Q := by
    intro hn
    rw [cIf_f hn] at h
    exact Wq.go ok12_hindersLane 20 [] (c12_hinders hX h)
  refine Con.go hw12_hindersLane ok12_hindersLane 40 [21] rfl ?_
  refine c12_isThing x1 x2 (And.intro (fun c1 => ?_) (fun c1 => ?_))
  · rw [bI_0] at c1
    exact tail (fun q => c1 q.1)
  · rw [bI_n0] at c1
    obtain ⟨j, rfl, hj⟩ := c1
    rw [tn_nI (by omega)] at h tail
    refine c12_isOfLane hX hT hj (And.intro (fun c2 => ?_) (fun c2 => ?_))
    · rw [bI_n0] at c2
      exact tail (fun q => q.2 c2)
    · rw [bI_0] at c2
      rw [cIf_t ⟨⟨j, rfl, hj⟩, c2⟩] at h
      exact h
theorem c12_readAs {x i l : Int32} (hX : XInv w) (hT : nT w ≤ 100) (hV : ∀ j k, j < nX w → k < sX w j → dX w j = 1 → bX w j < 8 → kp (bX w j) (ml w 23 (pX w j + k)) = ml w 23 (pX w j + k)) (h : ∀ w', Sc (S_readAs w x i l).2 w' → Q (some (.long (S_readAs w x i l).1)) w') : Con G M12_readAs [.ref 79, .int x, .int i, .int l] w Q := by
  unfold S_readAs at h
  have main : Wq G M12_readAs 17 [some (.ref 79), some (.int x), some (.int i), some (.int l), none] [.int (hlN w x i l)] (0, 0) w Q := by
    refine Wq.go ok12_readAs 60 [] ?_
    refine And.intro (fun (c : 0 ≤ hlN w x i l) => ?_) (fun (c : ¬ 0 ≤ hlN w x i l) => ?_)
    · rw [cIf_f (nlt0 c)] at h
      obtain ⟨j, k, L, rfl, hj, rfl, hk, hd, hb, rfl, hL⟩ := hl_get hX (nlt0 c)
      obtain ⟨p1, p2, p3, p4⟩ := pl_ix hX hj hk
      have h3 := hX.2.1
      obtain ⟨y1, y2, -, y4, y5, -⟩ := hX.2.2.2 j hj
      have e2 : (nI j).toNatClampNeg = j := nI_clamp (by omega)
      rw [tn_nI (by omega), tn_nI (by omega), tn_nI (by omega)] at h
      refine And.intro p3 ?_
      show Con G M12_widens [.int (ma w 19 (nI j).toNatClampNeg), .int (nI L)] w _
      rw [e2, y1]
      refine c12_widens (by omega) (by omega) (And.intro (fun c2 => ?_) (fun c2 => ?_))
      · rw [bI_n0] at c2
        rw [cIf_t c2] at h
        refine And.intro p3 (And.intro p2 (And.intro (show vp_in (ma w 22 (nI j).toNatClampNeg + nI k) 60000 by rw [p1]; exact in_nI (by omega) (by decide)) ?_))
        show Con G M12_widened [.int (ma w 19 (nI j).toNatClampNeg), .int (nI L), .long (ml w 23 (ma w 22 (nI j).toNatClampNeg + nI k).toNatClampNeg)] w _
        rw [p1, nI_clamp (n := pX w j + k) (by omega), e2, y1]
        refine c12_widened (by omega) (by omega) (fun q => ?_) (c12_told0 (h _ Sc.rf))
        have := hV j k hj hk hd hb
        rw [q] at this
        exact kp6_ok this
      · rw [bI_0] at c2
        rw [cIf_f c2] at h
        exact c12_lost (h _ Sc.rf)
    · rw [cIf_t (lt0 c)] at h
      exact c12_lost (h _ Sc.rf)
  refine Con.go hw12_readAs ok12_readAs 40 [17] rfl ?_
  refine c12_isLane (And.intro (fun c1 => ?_) (fun c1 => ?_))
  · rw [bI_0] at c1
    rw [show hlN w x i l = -1 from cIf_f c1] at main
    exact main
  · rw [bI_n0] at c1
    refine c12_hindersLane hX hT ?_
    rw [show hlN w x i l = _ from cIf_t c1] at main
    exact main
theorem c12_writeAs {x i l : Int32} {v : Int64} (hX : XInv w) (hT : nT w ≤ 100) (hV : ∀ L u, kp L (kp L u) = kp L u) (h : ∀ w', Sc (S_writeAs w x i l v).2 w' → Q (some (.int (S_writeAs w x i l v).1)) w') : Con G M12_writeAs [.ref 79, .int x, .int i, .int l, .long v] w Q := by
  unfold S_writeAs at h
  have main : Wq G M12_writeAs 17 [some (.ref 79), some (.int x), some (.int i), some (.int l), some (.long v), none, none] [.int (hlN w x i l)] (0, 0) w Q := by
    refine Wq.go ok12_writeAs 60 [] ?_
    refine And.intro (fun (c : 0 ≤ hlN w x i l) => ?_) (fun (c : ¬ 0 ≤ hlN w x i l) => ?_)
    · rw [cIf_f (nlt0 c)] at h
      obtain ⟨j, k, L, rfl, hj, rfl, hk, hd, hb, rfl, hL⟩ := hl_get hX (nlt0 c)
      obtain ⟨p1, p2, p3, p4⟩ := pl_ix hX hj hk
      have h3 := hX.2.1
      obtain ⟨y1, y2, -, y4, y5, -⟩ := hX.2.2.2 j hj
      have e2 : (nI j).toNatClampNeg = j := nI_clamp (by omega)
      rw [tn_nI (by omega), tn_nI (by omega), tn_nI (by omega)] at h
      refine And.intro p3 ?_
      show Con G M12_widens [.int (nI L), .int (ma w 19 (nI j).toNatClampNeg)] w _
      rw [e2, y1]
      refine c12_widens (by omega) (by omega) (And.intro (fun c2 => ?_) (fun c2 => ?_))
      · rw [bI_n0] at c2
        rw [cIf_t c2] at h
        refine And.intro p2 (And.intro p3 (c12_kept hL ?_))
        show Con G M12_widened [.int (nI L), .int (ma w 19 (nI j).toNatClampNeg), .long (kp L v)] w _
        rw [e2, y1]
        have p1' : ma w 22 j + nI k = nI (pX w j + k) := by rw [← p1, e2]
        refine c12_widened (by omega) (by omega) (fun q => ?_) (And.intro (show vp_in (ma w 22 j + nI k) 60000 by rw [p1']; exact in_nI (by omega) (by decide)) (c12_good ?_))
        · subst q
          exact kp6_ok (hV 6 v)
        · show Q _ (stt (sJ w 40 23 (ma w 22 j + nI k).toNatClampNeg (wd L (bX w j) (kp L v))) 0)
          rw [p1', nI_clamp (by omega)]
          exact h _ Sc.rf
      · rw [bI_0] at c2
        rw [cIf_f c2] at h
        exact c12_fail (h _ Sc.rf)
    · rw [cIf_t (lt0 c)] at h
      exact c12_fail (h _ Sc.rf)
  refine Con.go hw12_writeAs ok12_writeAs 40 [17] rfl ?_
  refine c12_isLane (And.intro (fun c1 => ?_) (fun c1 => ?_))
  · rw [bI_0] at c1
    rw [show hlN w x i l = -1 from cIf_f c1] at main
    exact main
  · rw [bI_n0] at c1
    refine c12_hindersLane hX hT ?_
    rw [show hlN w x i l = _ from cIf_t c1] at main
    exact main
end
