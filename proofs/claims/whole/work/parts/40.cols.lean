/-! ===== columns ===== -/
def cL (w : qSt) (k : Nat) : Nat := tn (ma w 29 k)
def cN (w : qSt) (k : Nat) : Nat := tn (ma w 30 k)
def isK (k : Int32) : Prop := ∃ j, k = nI j ∧ j < 6
def ColOK (w : qSt) (k : Nat) : Prop := ma w 29 k = nI (cL w k) ∧ cL w k < 8 ∧ ma w 30 k = nI (cN w k) ∧ cN w k ≤ 60 ∧ ∀ i, i < cN w k → kp (cL w k) (ml w 31 (60 * k + i)) = ml w 31 (60 * k + i)
def CInv (w : qSt) : Prop := ∀ k, k < 6 → (ma w 28 k = 0 ∨ ma w 28 k = 1) ∧ (¬ ma w 28 k = 0 → ColOK w k)
theorem ix60 (t k : Nat) : (60 : Int32) * nI t + nI k = nI (60 * t + k) := by rw [show (60 : Int32) = nI 60 from rfl, pk_mul, nI_add]
theorem ix8 (t k : Nat) : (8 : Int32) * nI t + nI k = nI (8 * t + k) := by rw [show (8 : Int32) = nI 8 from rfl, pk_mul, nI_add]
theorem sI_sI (w : qSt) (r k i : Nat) (a b : Int32) : sI (sI w r k i a) r k i b = sI w r k i b := by
  refine st_ext ?_ rfl rfl rfl
  funext r' k' i'
  show u3 (u3 w.1 r k i a) r k i b r' k' i' = u3 w.1 r k i b r' k' i'
  by_cases e : r' = r ∧ k' = k ∧ i' = i
  · obtain ⟨rfl, rfl, rfl⟩ := e
    rw [u3_at, u3_at]
  · rw [u3_off _ _ e, u3_off _ _ e, u3_off _ _ e]
theorem sI_cm (w : qSt) {r k i r' k' i' : Nat} (a b : Int32) (h : ¬ (r = r' ∧ k = k' ∧ i = i')) : sI (sI w r k i a) r' k' i' b = sI (sI w r' k' i' b) r k i a := by
  refine st_ext ?_ rfl rfl rfl
  funext x y z
  show u3 (u3 w.1 r k i a) r' k' i' b x y z = u3 (u3 w.1 r' k' i' b) r k i a x y z
  by_cases e : x = r ∧ y = k ∧ z = i
  · obtain ⟨rfl, rfl, rfl⟩ := e
    rw [u3_at, u3_off _ _ h, u3_at]
  · rw [u3_off (u3 w.1 r' k' i' b) a e]
    by_cases e2 : x = r' ∧ y = k' ∧ z = i'
    · obtain ⟨rfl, rfl, rfl⟩ := e2
      rw [u3_at, u3_at]
    · rw [u3_off _ _ e2, u3_off _ _ e2, u3_off _ _ e]
theorem c60i : ((60 : Int32)).toInt = 60 := rfl
theorem c0i : ((0 : Int32)).toInt = 0 := rfl
noncomputable def sCol (w : qSt) (K : Nat) (l n : Int32) : qSt := rJ (sI (sI (sI w 40 28 K 1) 40 29 K l) 40 30 K n) 31 (putL (ml w 31) (60 * K) (List.replicate (tn n) 0))
noncomputable def S_column (w : qSt) (k l n : Int32) : Int32 × qSt := cIf (¬ isK k ∨ ¬ isL l ∨ 60 < n) (-1, stt w (-1)) (cIf (n < 0) (-15, stt w (-15)) (n, stt (sCol w (tn k) l n) 0))
noncomputable def S_cell (w : qSt) (k i : Int32) : Int64 × qSt := cIf (¬ isK k) (-9223372036854775808, stt w (-1)) (cIf (ma w 28 (tn k) = 0) (-9223372036854775808, stt w (-11)) (cIf (∃ j, i = nI j ∧ j < cN w (tn k)) (ml w 31 (60 * tn k + tn i), stt w 0) (-9223372036854775808, stt w (-12))))
def dbV (L : Nat) (b : Int64) : UInt64 := if L = 6 then FP.f2d b.toInt32.toUInt32 else b.toUInt64
noncomputable def dsF (w : qSt) (k : Nat) : Nat → UInt64
  | 0 => 0
  | i + 1 => cIf (finB (dbV (cL w k) (ml w 31 (60 * k + i)))) (FP.dadd (dsF w k i) (dbV (cL w k) (ml w 31 (60 * k + i)))) (dsF w k i)
def alF (w : qSt) (k : Nat) : Nat → Int64
  | 0 => 0
  | i + 1 => alF w k i + ml w 31 (60 * k + i)
noncomputable def S_sum (w : qSt) (k : Int32) : Int64 × qSt := cIf (¬ isK k) (-9223372036854775808, stt w (-1)) (cIf (ma w 28 (tn k) = 0) (-9223372036854775808, stt w (-11)) (cIf (cL w (tn k) ≤ 5) (alF w (tn k) (cN w (tn k))) (dB (dsF w (tn k) (cN w (tn k)))), stt w 0))
theorem dbR_fin {L : Nat} {b : Int64} {u : UInt64} (h : dbR L b u) : (finB u ↔ finB (dbV L b)) ∧ (finB (dbV L b) → u = dbV L b) := by
  unfold dbV
  by_cases e : L = 6
  · rw [if_pos e]
    rcases alk (h.1 e) with q | ⟨q1, q2⟩
    · rw [q]; exact ⟨Iff.rfl, fun _ => rfl⟩
    · rw [nan64] at q1 q2
      unfold finB
      exact ⟨⟨fun q => by omega, fun q => by omega⟩, fun q => by omega⟩
  · rw [if_neg e, h.2 e]; exact ⟨Iff.rfl, fun _ => rfl⟩
theorem fin_val {u : UInt64} (h : finB u) : ∃ s c q, FP.Core.val64 u = .fin s c q := by
  have : FP.Core.mag FP.Core.b64 u.toNat < FP.Core.infBits FP.Core.b64 := by
    rw [FP.Core.mag_toNat64, FP.Core.infBits_b64]; exact h
  obtain ⟨s, c, q, h1, -, -⟩ := FP.Core.fin_of_mag FP.Core.good_b64 this
  exact ⟨s, c, q, h1⟩
theorem dadd_nn {a x : UInt64} (ha : ¬ FP.Core.dIsNaN a = true) (hx : finB x) : ¬ FP.Core.dIsNaN (FP.dadd a x) = true := by
  rw [FP.Core.dIsNaN_iff] at ha ⊢
  rw [show FP.Core.val64 (FP.dadd a x) = _ from FP.Core.val64_dadd a x]
  obtain ⟨s, c, q, e⟩ := fin_val hx
  rw [e]
  cases hv : FP.Core.val64 a with
  | nan => exact absurd hv ha
  | inf t => exact FP.Core.Datum.noConfusion
  | fin t d r => exact FP.Core.roundRatio_ne_nan _ _ _ _ _
theorem alk_n {u x : UInt64} (h : alike64 u x = true) (hx : ¬ FP.Core.dIsNaN x = true) : u = x := by
  rcases alk h with q | q
  · exact q
  · exact absurd q.2 hx
theorem ds_nn (w : qSt) (k : Nat) : ∀ i, ¬ FP.Core.dIsNaN (dsF w k i) = true
  | 0 => by show ¬ FP.Core.dIsNaN 0 = true; rw [nan64]; decide
  | i + 1 => by
    show ¬ FP.Core.dIsNaN (cIf _ _ _) = true
    by_cases c : finB (dbV (cL w k) (ml w 31 (60 * k + i)))
    · rw [cIf_t c]; exact dadd_nn (ds_nn w k i) c
    · rw [cIf_f c]; exact ds_nn w k i
section
variable {G : qGX} {w : qSt} {Q : Option Value → qSt → Prop}
theorem c12_inC {i : Int32} {b : Int64} {n : Nat} (e : b.toInt = (n : Int) - 1) (hn : n < 1000000) (h : Q (some (.int (bI (∃ k, i = nI k ∧ k < n)))) w) : Con G M12_in [.long i.toInt64, .long 0, .long b] w Q := by
  refine c12_inI (i32_wide i) rfl e ?_
  have h' := h
  rw [rng_iff (by omega)] at h'
  exact h'
theorem c12_column {k l n : Int32} (h : ∀ w', Sc (S_column w k l n).2 w' → Q (some (.int (S_column w k l n).1)) w') : Con G M12_column [.ref 79, .int k, .int l, .int n] w Q := by
  unfold S_column at h
  have bad : (¬ isK k ∨ ¬ isL l ∨ 60 < n) → Wq G M12_column 25 [some (.ref 79), some (.int k), some (.int l), some (.int n), none] [] (0, 0) w Q := by
    intro hb
    rw [cIf_t hb] at h
    exact Wq.go ok12_column 20 [] (c12_fail (h _ Sc.rf))
  refine Con.go hw12_column ok12_column 40 [25, 31] rfl ?_
  refine c12_inC (n := 6) rfl (by omega) (And.intro (fun c1 => bad (Or.inl (bI_0.mp c1))) (fun c1 => c12_isLane (And.intro (fun c2 => bad (Or.inr (Or.inl (bI_0.mp c2)))) (fun c2 => And.intro (fun (c3 : n ≤ 60) => ?_) (fun (c3 : ¬ n ≤ 60) => bad (Or.inr (Or.inr (by rw [i32_lt]; rw [i32_le] at c3; omega))))))))
  rw [bI_n0] at c1 c2
  rw [cIf_f (fun q => q.elim (fun q => q c1) (fun q => q.elim (fun q => q c2) (fun q => by rw [i32_lt] at q; rw [i32_le] at c3; omega)))] at h
  obtain ⟨K, rfl, hK⟩ := c1
  refine Wq.go ok12_column 40 [42] ?_
  refine And.intro (fun (c4 : 0 ≤ n) => ?_) (fun (c4 : ¬ 0 ≤ n) => ?_)
  · rw [cIf_f (nlt0 c4)] at h
    obtain ⟨N, rfl, hN⟩ : ∃ N, n = nI N ∧ N ≤ 60 := by
      rw [i32_le, c60i] at c3
      rw [i32_le, c0i] at c4
      refine ⟨n.toInt.toNat, ?_, by omega⟩
      rw [i32_eq, nI_t (by omega)]; omega
    have hin : vp_in (nI K) 6 := in_nI hK (by decide)
    have eK : (nI K).toNatClampNeg = K := nI_clamp (by omega)
    unfold sCol at h
    rw [tn_nI (by omega), tn_nI (by omega)] at h
    have loop : ∀ (r i : Nat), i + r = N → Wq G M12_column 66 [some (.ref 79), some (.int (nI K)), some (.int l), some (.int (nI N)), some (.int (nI i))] [] (0, 0) (rJ (sI (sI (sI w 40 28 K 1) 40 29 K l) 40 30 K (nI N)) 31 (putL (ml w 31) (60 * K) (List.replicate i 0))) Q := by
      intro r
      induction r with
      | zero =>
        intro i hi
        have : i = N := by omega
        subst this
        refine Wq.go ok12_column 40 [] ?_
        refine And.intro (fun _ => ?_) (fun (q : ¬ nI i ≤ nI i) => absurd (by rw [i32_le]; omega) q)
        exact c12_good (h _ Sc.rf)
      | succ r ih =>
        intro i hi
        have ei : (60 : Int32) * nI K + nI i = nI (60 * K + i) := ix60 K i
        refine Wq.go ok12_column 40 [66] ?_
        refine And.intro (fun (q : nI N ≤ nI i) => ?_) (fun _ => And.intro (show vp_in ((60 : Int32) * nI K + nI i) 360 by rw [ei]; exact in_nI (by omega) (by decide)) ?_)
        · rw [nI_leI (by omega) (by omega)] at q; omega
        · show Wq G M12_column 66 [some (.ref 79), some (.int (nI K)), some (.int l), some (.int (nI N)), some (.int (nI i + 1))] [] (0, 0) (sJ (rJ (sI (sI (sI w 40 28 K 1) 40 29 K l) 40 30 K (nI N)) 31 (putL (ml w 31) (60 * K) (List.replicate i 0))) 40 31 ((60 : Int32) * nI K + nI i).toNatClampNeg 0) Q
          rw [ei, nI_clamp (by omega), nI_1, rJ_sJ]
          have e := putL_snoc (ml w 31) (60 * K) (List.replicate i (0 : Int64)) 0
          rw [List.length_replicate] at e
          rw [e, rep_snoc]
          exact ih (i + 1) (by omega)
    refine Wq.go ok12_column 40 [66] ?_
    refine And.intro (by decide) (And.intro hin (And.intro hin (And.intro hin ?_)))
    have := loop N 0 (by omega)
    rw [show List.replicate 0 (0 : Int64) = [] from rfl, putL_nil] at this
    show Wq G M12_column 66 [some (.ref 79), some (.int (nI K)), some (.int l), some (.int (nI N)), some (.int (nI 0))] [] (0, 0) (sI (sI (sI w 40 28 (nI K).toNatClampNeg 1) 40 29 (nI K).toNatClampNeg l) 40 30 (nI K).toNatClampNeg (nI N)) Q
    rw [eK]
    have e2 := rJ_self (sI (sI (sI w 40 28 K 1) 40 29 K l) 40 30 K (nI N)) 31
    rw [show ml (sI (sI (sI w 40 28 K 1) 40 29 K l) 40 30 K (nI N)) 31 = ml w 31 from rfl] at e2
    rw [e2] at this
    exact this
  · rw [cIf_t (lt0 c4)] at h
    exact c12_fail (h _ Sc.rf)
theorem c12_filled (hq : Q (some (.int (mi w 42))) w) : Con G M12_filled [.ref 79] w Q := Con.go hw12_filled ok12_filled 20 [] rfl hq
theorem c12_cell {k i : Int32} (hC : CInv w) (h : ∀ w', Sc (S_cell w k i).2 w' → Q (some (.long (S_cell w k i).1)) w') : Con G M12_cell [.ref 79, .int k, .int i] w Q := by
  unfold S_cell at h
  refine Con.go hw12_cell ok12_cell 40 [] rfl ?_
  refine c12_inC (n := 6) rfl (by omega) (And.intro (fun c1 => ?_) (fun c1 => ?_))
  · rw [bI_n0] at c1
    rw [cIf_f (fun q => q c1)] at h
    obtain ⟨K, rfl, hK⟩ := c1
    have hin : vp_in (nI K) 6 := in_nI hK (by decide)
    have eK : (nI K).toNatClampNeg = K := nI_clamp (by omega)
    rw [tn_nI (by omega)] at h
    refine And.intro hin (And.intro (fun (c2 : ¬ ma w 28 (nI K).toNatClampNeg = 0) => And.intro hin ?_) (fun (c2 : ma w 28 (nI K).toNatClampNeg = 0) => ?_)) <;> rw [eK] at c2
    · rw [cIf_f c2] at h
      obtain ⟨o1, o2, o3, o4, o5⟩ := (hC K hK).2 c2
      refine c12_inN (n := cN w K) ?_ (by omega) (And.intro (fun c3 => ?_) (fun c3 => ?_))
      · show ma w 30 (nI K).toNatClampNeg = _
        rw [eK, o3]
      · rw [bI_0] at c3
        rw [cIf_f c3] at h
        exact c12_lost (h _ Sc.rf)
      · rw [bI_n0] at c3
        rw [cIf_t c3] at h
        obtain ⟨j, rfl, hj⟩ := c3
        rw [tn_nI (by omega)] at h
        have ei : (60 : Int32) * nI K + nI j = nI (60 * K + j) := ix60 K j
        refine And.intro (show vp_in ((60 : Int32) * nI K + nI j) 360 by rw [ei]; exact in_nI (by omega) (by decide)) (c12_told0 ?_)
        show Q (some (.long (ml w 31 ((60 : Int32) * nI K + nI j).toNatClampNeg))) _
        rw [ei, nI_clamp (by omega)]
        exact h _ Sc.rf
    · rw [cIf_t c2] at h
      exact c12_lost (h _ Sc.rf)
  · rw [bI_0] at c1
    rw [cIf_t (show ¬ isK k from c1)] at h
    exact c12_lost (h _ Sc.rf)
theorem c12_sum {k : Int32} (hC : CInv w) (h : ∀ w', Sc (S_sum w k).2 w' → Q (some (.long (S_sum w k).1)) w') : Con G M12_sum [.ref 79, .int k] w Q := by
  unfold S_sum at h
  refine Con.go hw12_sum ok12_sum 40 [42] rfl ?_
  refine c12_inC (n := 6) rfl (by omega) (And.intro (fun c1 => ?_) (fun c1 => ?_))
  · rw [bI_n0] at c1
    rw [cIf_f (fun q => q c1)] at h
    obtain ⟨K, rfl, hK⟩ := c1
    have hin : vp_in (nI K) 6 := in_nI hK (by decide)
    have eK : (nI K).toNatClampNeg = K := nI_clamp (by omega)
    rw [tn_nI (by omega)] at h
    refine And.intro hin (And.intro (fun (c2 : ¬ ma w 28 (nI K).toNatClampNeg = 0) => ?_) (fun (c2 : ma w 28 (nI K).toNatClampNeg = 0) => ?_)) <;> rw [eK] at c2
    · rw [cIf_f c2] at h
      obtain ⟨o1, o2, o3, o4, o5⟩ := (hC K hK).2 c2
      have e29 : ma w 29 (nI K).toNatClampNeg = nI (cL w K) := by rw [eK, o1]
      have e30 : ma w 30 (nI K).toNatClampNeg = nI (cN w K) := by rw [eK, o3]
      have loop : ∀ (r i : Nat) (A : Int64) (R : UInt64), i + r = cN w K → (cL w K ≤ 5 → A = alF w K i) → (¬ cL w K ≤ 5 → R = dsF w K i) → Wq G M12_sum 42 [some (.ref 79), some (.int (nI K)), some (.long A), none, some (.double R), none, some (.int (nI i)), none, none] [] (0, 0) w Q := by
        intro r
        induction r with
        | zero =>
          intro i A R hi hA hR
          have : i = cN w K := by omega
          subst this
          refine Wq.go ok12_sum 40 [] ?_
          refine And.intro hin (And.intro (fun _ => And.intro hin ?_) (fun (q : ¬ ma w 30 (nI K).toNatClampNeg ≤ nI (cN w K)) => absurd (by rw [e30, i32_le]; omega) q))
          refine And.intro (fun (c3 : 5 < ma w 29 (nI K).toNatClampNeg) => ?_) (fun (c3 : ¬ 5 < ma w 29 (nI K).toNatClampNeg) => ?_) <;> rw [e29, c_5, nI_ltI (by omega) (by omega)] at c3
          · rw [cIf_f (show ¬ cL w K ≤ 5 by omega)] at h
            refine c12_doubleBits (c12_told0 ?_)
            rw [hR (by omega)]
            exact h _ Sc.rf
          · rw [cIf_t (show cL w K ≤ 5 by omega)] at h
            refine c12_told0 ?_
            rw [hA (by omega)]
            exact h _ Sc.rf
        | succ r ih =>
          intro i A R hi hA hR
          have ei : (60 : Int32) * nI K + nI i = nI (60 * K + i) := ix60 K i
          have go : ∀ (A' : Int64) (R' : UInt64), (cL w K ≤ 5 → A' = alF w K (i + 1)) → (¬ cL w K ≤ 5 → R' = dsF w K (i + 1)) → Wq G M12_sum 118 [some (.ref 79), some (.int (nI K)), some (.long A'), none, some (.double R'), none, some (.int (nI i)), some (.long (ml w 31 (60 * K + i))), none] [] (0, 0) w Q := by
            intro A' R' hA' hR'
            refine Wq.go ok12_sum 40 [42] ?_
            show Wq G M12_sum 42 [some (.ref 79), some (.int (nI K)), some (.long A'), none, some (.double R'), none, some (.int (nI i + 1)), some (.long (ml w 31 (60 * K + i))), none] [] (0, 0) w Q
            rw [nI_1]
            refine Wq.ls (ls' := [some (.ref 79), some (.int (nI K)), some (.long A'), none, some (.double R'), none, some (.int (nI (i + 1))), none, none]) ⟨rfl, rfl, rfl, rfl, rfl, trivial⟩ ?_
            exact ih (i + 1) A' R' (by omega) hA' hR'
          have main : Wq G M12_sum 67 [some (.ref 79), some (.int (nI K)), some (.long A), none, some (.double R), none, some (.int (nI i)), some (.long (ml w 31 (60 * K + i))), none] [] (0, 0) w Q := by
            refine Wq.go ok12_sum 40 [118] ?_
            refine And.intro hin (And.intro (fun (c3 : 5 < ma w 29 (nI K).toNatClampNeg) => And.intro hin ?_) (fun (c3 : ¬ 5 < ma w 29 (nI K).toNatClampNeg) => ?_)) <;> rw [e29, c_5, nI_ltI (by omega) (by omega)] at c3
            · have hL : cL w K = 6 ∨ cL w K = 7 := by omega
              have ho : okB (cL w K) (ml w 31 (60 * K + i)) := by
                have := o5 i (by omega)
                refine ⟨fun q => ?_, fun q => ?_⟩
                · rw [q] at this; exact kp6_ok this
                · rw [q] at this; exact kp7_ok this
              show Con G M12_asDouble [.int (ma w 29 (nI K).toNatClampNeg), .long (ml w 31 (60 * K + i))] w _
              rw [e29]
              refine c12_asDouble (by omega) ho hL (fun u1 h1 => c12_isFinite (And.intro (fun c4 => ?_) (fun c4 => ?_)))
              · rw [bI_0, (dbR_fin h1).1] at c4
                refine go A R (fun q => by omega) (fun q => ?_)
                rw [hR q]
                exact (cIf_f c4).symm
              · rw [bI_n0, (dbR_fin h1).1] at c4
                refine And.intro hin ?_
                show Con G M12_asDouble [.int (ma w 29 (nI K).toNatClampNeg), .long (ml w 31 (60 * K + i))] w _
                rw [e29]
                refine c12_asDouble (by omega) ho hL (fun u2 h2 => ?_)
                have e2 := (dbR_fin h2).2 c4
                intro u3 h3
                rw [e2, hR (by omega)] at h3
                have e3 := alk_n h3 (dadd_nn (ds_nn w K i) c4)
                refine go A u3 (fun q => by omega) (fun q => ?_)
                rw [e3]
                exact (cIf_t c4).symm
            · refine go _ R (fun q => ?_) (fun q => by omega)
              rw [hA q]; rfl
          refine Wq.go ok12_sum 40 [67] ?_
          refine And.intro hin (And.intro (fun (q : ma w 30 (nI K).toNatClampNeg ≤ nI i) => ?_) (fun _ => And.intro (show vp_in ((60 : Int32) * nI K + nI i) 360 by rw [ei]; exact in_nI (by omega) (by decide)) ?_))
          · rw [e30, nI_leI (by omega) (by omega)] at q; omega
          · show Wq G M12_sum 67 [some (.ref 79), some (.int (nI K)), some (.long A), none, some (.double R), none, some (.int (nI i)), some (.long (ml w 31 ((60 : Int32) * nI K + nI i).toNatClampNeg)), none] [] (0, 0) w Q
            rw [ei, nI_clamp (by omega)]
            exact main
      exact loop (cN w K) 0 0 0 (by omega) (fun _ => rfl) (fun _ => rfl)
    · rw [cIf_t c2] at h
      exact c12_lost (h _ Sc.rf)
  · rw [bI_0] at c1
    rw [cIf_t (show ¬ isK k from c1)] at h
    exact c12_lost (h _ Sc.rf)
end
