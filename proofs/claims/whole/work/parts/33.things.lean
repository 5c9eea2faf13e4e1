/-! ===== rows of things; kinds ===== -/
def noX (m : qSt) (x : Int32) : Prop := ¬ x = -1 ∧ ¬ isX m x
noncomputable def S_kind (w : qSt) (x k : Int32) : Int32 × qSt :=
  cIf (noX w x ∨ ¬ (0 ≤ k.toInt ∧ k.toInt ≤ 2)) (-1, stt w (-1)) (cIf (x = -1) (-11, stt w (-11)) (cIf (k = 0) (ma w 19 (tn x)) (cIf (k = 1) (ma w 20 (tn x)) (ma w 21 (tn x))), stt w 0))
noncomputable def S_isA (w : qSt) (x t : Int32) : Int32 × qSt :=
  cIf (noX w x ∨ ¬ isT w t) (-1, stt w (-1)) (cIf (x = -1) (-11, stt w (-11)) (bI (soP w (bX w (tn x)) (dX w (tn x)) (baN w (tn t)) (dpN w (tn t))), stt w 0))
theorem isX_lt {w : qSt} (hX : XInv w) {x : Int32} (h : ¬ noX w x) (h1 : ¬ x = -1) : ∃ j, x = nI j ∧ j < nX w := Classical.byContradiction (fun q => h ⟨h1, q⟩)
theorem c_0' : (0 : Int32) = nI 0 := rfl
theorem rep_snoc (k : Nat) (v : Int64) : List.replicate k v ++ [v] = List.replicate (k + 1) v := List.replicate_succ'.symm
section
variable {G : qGX} {w : qSt} {Q : Option Value → qSt → Prop}
theorem c12_kind {x k : Int32} (hX : XInv w) (h : ∀ w', Sc (S_kind w x k).2 w' → Q (some (.int (S_kind w x k).1)) w') : Con G M12_kind [.ref 79, .int x, .int k] w Q := by
  obtain ⟨x1, x2, x3, x4⟩ := id hX
  unfold S_kind at h
  have bad : (noX w x ∨ ¬ (0 ≤ k.toInt ∧ k.toInt ≤ 2)) → Wq G M12_kind 20 [some (.ref 79), some (.int x), some (.int k)] [] (0, 0) w Q := by
    intro hb
    rw [cIf_t hb] at h
    exact Wq.go ok12_kind 20 [] (c12_fail (h _ Sc.rf))
  refine Con.go hw12_kind ok12_kind 40 [20, 26] rfl ?_
  refine c12_isNoThing x1 x2 (And.intro (fun c1 => bad (Or.inl (bI_n0.mp c1))) (fun c1 => ?_))
  rw [bI_0] at c1
  refine c12_inI (x := k.toInt) (y := 0) (z := 2) (i32_wide k) rfl rfl (And.intro (fun c2 => ?_) (fun c2 => bad (Or.inr (bI_0.mp c2))))
  rw [bI_n0] at c2
  rw [cIf_f (fun q => q.elim c1 (fun q => q c2))] at h
  refine Wq.go ok12_kind 40 [] ?_
  refine And.intro (fun (c3 : ¬ x = -1) => ?_) (fun (c3 : x = -1) => ?_)
  · rw [cIf_f c3] at h
    obtain ⟨j, rfl, hj⟩ := isX_lt hX c1 c3
    have hin : vp_in (nI j) 60 := in_nI (by omega) (by decide)
    have e2 : (nI j).toNatClampNeg = j := nI_clamp (by omega)
    rw [tn_nI (by omega)] at h
    refine And.intro (fun c4 => And.intro (fun (c5 : ¬ k = 1) => And.intro hin (c12_good ?_)) (fun (c5 : k = 1) => And.intro hin (c12_good ?_))) (fun c4 => And.intro hin (c12_good ?_))
    · show Q (some (.int (ma w 21 (nI j).toNatClampNeg))) _
      rw [e2]
      rw [cIf_f c4, cIf_f c5] at h
      exact h _ Sc.rf
    · show Q (some (.int (ma w 20 (nI j).toNatClampNeg))) _
      rw [e2]
      rw [cIf_f c4, cIf_t c5] at h
      exact h _ Sc.rf
    · show Q (some (.int (ma w 19 (nI j).toNatClampNeg))) _
      rw [e2]
      rw [cIf_t c4] at h
      exact h _ Sc.rf
  · rw [cIf_t c3] at h
    exact c12_fail (h _ Sc.rf)
theorem c12_isA {x t : Int32} (hI : TInv w) (hX : XInv w) (h : ∀ w', Sc (S_isA w x t).2 w' → Q (some (.int (S_isA w x t).1)) w') : Con G M12_isA [.ref 79, .int x, .int t] w Q := by
  have h100 := hI.le
  obtain ⟨x1, x2, x3, x4⟩ := id hX
  unfold S_isA at h
  have bad : (noX w x ∨ ¬ isT w t) → Wq G M12_isA 16 [some (.ref 79), some (.int x), some (.int t)] [] (0, 0) w Q := by
    intro hb
    rw [cIf_t hb] at h
    exact Wq.go ok12_isA 20 [] (c12_fail (h _ Sc.rf))
  refine Con.go hw12_isA ok12_isA 40 [16, 22] rfl ?_
  refine c12_isNoThing x1 x2 (And.intro (fun c1 => bad (Or.inl (bI_n0.mp c1))) (fun c1 => ?_))
  rw [bI_0] at c1
  refine c12_isType hI.ty (And.intro (fun c2 => ?_) (fun c2 => bad (Or.inr (bI_0.mp c2))))
  rw [bI_n0] at c2
  rw [cIf_f (fun q => q.elim c1 (fun q => q c2))] at h
  refine Wq.go ok12_isA 40 [] ?_
  refine And.intro (fun (c3 : ¬ x = -1) => ?_) (fun (c3 : x = -1) => ?_)
  · rw [cIf_f c3] at h
    obtain ⟨j, rfl, hj⟩ := isX_lt hX c1 c3
    obtain ⟨i, rfl, hi⟩ := c2
    obtain ⟨o1, o2, o3, o4, o5, o6⟩ := x4 j hj
    have hin : vp_in (nI j) 60 := in_nI (by omega) (by decide)
    have e2 : (nI j).toNatClampNeg = j := nI_clamp (by omega)
    rw [tn_nI (by omega), tn_nI (by omega)] at h
    have b1 := baN_le hI i hi
    refine And.intro hin (And.intro hin (c12_base hI hi (c12_depth hI hi ?_)))
    show Con G M12_isSo [.ref 79, .int (ma w 19 (nI j).toNatClampNeg), .int (ma w 20 (nI j).toNatClampNeg), .int (nI (baN w i)), .int (nI (dpN w i))] w _
    rw [e2, o1, o4]
    refine c12_isSo hI o2 (by omega) (by omega) (by omega) (fun w' hS => And.intro (fun c5 => ?_) (fun c5 => ?_))
    · rw [bI_0] at c5
      rw [bI_f c5] at h
      exact c12_good (h _ (hS.toSc.I2 rfl))
    · rw [bI_n0] at c5
      rw [bI_t c5] at h
      exact c12_good (h _ (hS.toSc.I2 rfl))
  · rw [cIf_t c3] at h
    exact c12_fail (h _ Sc.rf)
theorem c12_things {t n : Int32} (hI : TInv w) (hX : XInv w) (h : ∀ w', Sc (S_things w t n).2 w' → Q (some (.int (S_things w t n).1)) w') : Con G M12_things [.ref 79, .int t, .int n] w Q := by
  have h100 := hI.le
  obtain ⟨x1, x2, x3, x4⟩ := id hX
  unfold S_things at h
  have bad : (¬ isT w t ∨ 12 < n) → Wq G M12_things 14 [some (.ref 79), some (.int t), some (.int n), none, none] [] (0, 0) w Q := by
    intro hb
    rw [cIf_t hb] at h
    exact Wq.go ok12_things 20 [] (c12_fail (h _ Sc.rf))
  refine Con.go hw12_things ok12_things 40 [14, 20] rfl ?_
  refine c12_isType hI.ty (And.intro (fun c1 => bad (Or.inl (bI_0.mp c1))) (fun c1 => And.intro (fun (c2 : n ≤ 12) => ?_) (fun (c2 : ¬ n ≤ 12) => bad (Or.inr (by rw [i32_lt]; rw [i32_le] at c2; omega)))))
  rw [bI_n0] at c1
  rw [cIf_f (fun q => q.elim (fun q => q c1) (fun q => by rw [i32_lt] at q; rw [i32_le] at c2; omega))] at h
  refine Wq.go ok12_things 40 [36] ?_
  refine And.intro (fun (c3 : ¬ mi w 22 = 60) => ?_) (fun (c3 : mi w 22 = 60) => ?_) <;> rw [x1, c_60, nI_eqI (by omega) (by omega)] at c3
  · rw [cIf_f c3] at h
    refine Wq.go ok12_things 40 [47] ?_
    refine And.intro (fun (c4 : 0 ≤ n) => ?_) (fun (c4 : ¬ 0 ≤ n) => ?_)
    · rw [cIf_f (fun q => by rw [i32_lt] at q; rw [i32_le] at c4; omega)] at h
      obtain ⟨i, rfl, hi⟩ := c1
      obtain ⟨N, rfl, hN⟩ : ∃ N, n = nI N ∧ N ≤ 12 := by
        rw [i32_le] at c2 c4
        have c2' : n.toInt ≤ 12 := c2
        have c4' : 0 ≤ n.toInt := c4
        refine ⟨n.toInt.toNat, ?_, by omega⟩
        rw [i32_eq, nI_t (by omega)]; omega
      rw [tn_nI (by omega), tn_nI (by omega)] at h
      obtain ⟨p1, p2⟩ := x3 (nX w) (Nat.le_refl _)
      have b1 := baN_le hI i hi
      have hin61 : vp_in (mi w 22) 61 := by rw [x1]; exact in_nI (by omega) (by decide)
      have e22 : (mi w 22).toNatClampNeg = nX w := by rw [x1]; exact nI_clamp (by omega)
      have loop : ∀ (p : Prop) (r k : Nat), (p ↔ baN w i < 8 ∧ dpN w i = 0) → k + r = N → Wq G M12_things 75 [some (.ref 79), some (.int (nI i)), some (.int (nI N)), some (.int (bI p)), some (.int (nI k))] [] (0, 0) (rJ w 23 (putL (ml w 23) (pX w (nX w)) (List.replicate k (cIf (baN w i < 8 ∧ dpN w i = 0) 0 (-1))))) Q := by
        intro p r
        induction r with
        | zero =>
          intro k hp hk
          have hk : k = N := by omega
          subst hk
          refine Wq.go ok12_things 60 [] ?_
          refine And.intro (fun _ => ?_) (fun (q : ¬ nI k ≤ nI k) => absurd (by rw [i32_le]; omega) q)
          have hI1 : TInv (rJ w 23 (putL (ml w 23) (pX w (nX w)) (List.replicate k (cIf (baN w i < 8 ∧ dpN w i = 0) 0 (-1))))) := hI
          have eba : baN (rJ w 23 (putL (ml w 23) (pX w (nX w)) (List.replicate k (cIf (baN w i < 8 ∧ dpN w i = 0) 0 (-1))))) = baN w := TE.eba (m := w) ⟨rfl, fun _ _ _ => rfl⟩
          have edp : dpN (rJ w 23 (putL (ml w 23) (pX w (nX w)) (List.replicate k (cIf (baN w i < 8 ∧ dpN w i = 0) 0 (-1))))) = dpN w := TE.edp (m := w) ⟨rfl, fun _ _ _ => rfl⟩
          refine c12_base hI1 hi (c12_depth hI1 hi (And.intro hin61 ?_))
          show Con G M12_added [.ref 79, .int (nI (baN _ i)), .int (nI (dpN _ i) + 1), .int (ma w 22 (mi w 22).toNatClampNeg + nI k)] _ _
          rw [eba, edp, nI_1, e22, p1, nI_add]
          refine c12_added (P := pX w (nX w)) x1 (show nX w < 60 by omega) p1 (by omega) (by omega) ?_
          exact h _ Sc.rf
        | succ r ih =>
          intro k hp hk
          have eP : ma w 22 (mi w 22).toNatClampNeg + nI k = nI (pX w (nX w) + k) := by rw [e22, p1, nI_add]
          have hinp : vp_in (ma w 22 (mi w 22).toNatClampNeg + nI k) 60000 := by rw [eP]; exact in_nI (by omega) (by decide)
          have fin : ∀ v : Int64, v = cIf (baN w i < 8 ∧ dpN w i = 0) 0 (-1) → Wq G M12_things 75 [some (.ref 79), some (.int (nI i)), some (.int (nI N)), some (.int (bI p)), some (.int (nI k + 1))] [] (0, 0) (sJ (rJ w 23 (putL (ml w 23) (pX w (nX w)) (List.replicate k (cIf (baN w i < 8 ∧ dpN w i = 0) 0 (-1))))) 40 23 (ma w 22 (mi w 22).toNatClampNeg + nI k).toNatClampNeg v) Q := by
            intro v hv
            rw [eP, nI_clamp (by omega), nI_1, hv, rJ_sJ]
            have e := putL_snoc (ml w 23) (pX w (nX w)) (List.replicate k (cIf (baN w i < 8 ∧ dpN w i = 0) (0 : Int64) (-1))) (cIf (baN w i < 8 ∧ dpN w i = 0) 0 (-1))
            rw [List.length_replicate] at e
            rw [e, rep_snoc]
            exact ih (k + 1) hp (by omega)
          refine Wq.go ok12_things 60 [75] ?_
          refine And.intro (fun (q : nI N ≤ nI k) => ?_) (fun _ => And.intro hin61 (And.intro (fun c5 => And.intro hinp ?_) (fun c5 => And.intro hinp ?_)))
          · rw [nI_leI (by omega) (by omega)] at q; omega
          · rw [bI_0, hp] at c5
            exact fin (-1) (cIf_f c5).symm
          · rw [bI_n0, hp] at c5
            exact fin 0 (cIf_t c5).symm
      have put : ∀ (v : Int32) (p : Prop), v = bI p → (p ↔ baN w i < 8 ∧ dpN w i = 0) → Wq G M12_things 71 [some (.ref 79), some (.int (nI i)), some (.int (nI N)), none, none] [.int v] (0, 0) w Q := by
        intro v p hv hp
        rw [hv]
        refine Wq.go ok12_things 40 [75] ?_
        have := loop p N 0 hp (Nat.zero_add _)
        rw [show List.replicate 0 (cIf (baN w i < 8 ∧ dpN w i = 0) (0 : Int64) (-1)) = [] from rfl, putL_nil, rJ_self] at this
        exact this
      refine Wq.go ok12_things 40 [71] ?_
      refine c12_base hI hi (c12_isLane (And.intro (fun c5 => ?_) (fun c5 => c12_depth hI hi (And.intro (fun c6 => ?_) (fun c6 => ?_)))))
      · rw [bI_0, isL_nI (by omega)] at c5
        exact put 0 False (bI_f id).symm ⟨False.elim, fun q => c5 q.1⟩
      · rw [c_0', nI_eqI (by omega) (by omega)] at c6
        exact put 0 False (bI_f id).symm ⟨False.elim, fun q => c6 q.2⟩
      · rw [bI_n0, isL_nI (by omega)] at c5
        rw [c_0', nI_eqI (by omega) (by omega)] at c6
        exact put 1 True (bI_t trivial).symm ⟨fun _ => ⟨c5, c6⟩, fun _ => trivial⟩
    · rw [cIf_t (by rw [i32_lt]; rw [i32_le] at c4; omega)] at h
      exact c12_fail (h _ Sc.rf)
  · rw [cIf_t c3] at h
    exact c12_fail (h _ Sc.rf)
end
