/-! ===== run of the class ===== -/
section
variable {G : qGX} {A : qA} {m w : qSt} {Q : Option Value → qSt → Prop}
theorem rep_fail (hR : Rep A m w) (n : Int32) : Rep A (sI m 12 51 0 n) (sI w 10 8 2 n) := by
  refine ((hR.r0.sw ((SW.rf w).I (k := 8) (a := 2) (Or.inl ⟨rfl, by omega⟩))).sr (SR.rf.I (r := 12) (k := 51) rfl)).rep hR.mr ?_
  obtain ⟨u1, u2, u3, u4, u5, u6, u7⟩ := hR.mq
  exact ⟨u1, u2, (gI_at _ _ _ _ _).trans (gI_at _ 12 51 0 _).symm, u4, u5, u6, u7⟩
theorem rep_hits0 (hR : Rep A m w) : Rep A (sI m 12 49 0 0) (sI w 10 7 2 0) := by
  refine ((hR.r0.sw ((SW.rf w).I (k := 7) (a := 2) (Or.inl ⟨rfl, by omega⟩))).sr (SR.rf.I (r := 12) (k := 49) rfl)).rep hR.mr ?_
  obtain ⟨u1, u2, u3, u4, u5, u6, u7⟩ := hR.mq
  refine ⟨u1, (gI_at _ _ _ _ _).trans (gI_at _ 12 49 0 _).symm, u3, u4, u5, u6, fun i hi => ?_⟩
  have e : mi (sI m 12 49 0 0) 49 = 0 := gI_at _ _ _ _ _
  have : nHt (sI m 12 49 0 0) = 0 := (congrArg tn e).trans rfl
  omega
theorem rep_hit {h : Nat} (hR : Rep A m w) (h49 : mi m 49 = nI h) (hh : h < 60) (x : Int32) : Rep A (sI (sI m 40 37 h x) 12 49 0 (nI (h + 1))) (sI (sI w 20 78 h x) 10 7 2 (nI (h + 1))) := by
  refine ((hR.r0.sw (((SW.rf w).A (a := 78) (j := h) (v := x) (Or.inr rfl)).I (k := 7) (a := 2) (Or.inl ⟨rfl, by omega⟩))).sr ((SR.rf.I (r := 40) (k := 37) rfl).I (r := 12) (k := 49) rfl)).rep ?_ ?_
  · obtain ⟨u1, u2⟩ := hR.mr
    exact ⟨u1, fun i hi => (show gI (sI (sI w 20 78 h x) 10 7 2 (nI (h + 1))) 20 75 i = gI w 20 75 i by rw [gI_ne (by omega), gI_ne (by omega)]).trans (u2 i hi)⟩
  · obtain ⟨u1, u2, u3, u4, u5, u6, u7⟩ := hR.mq
    refine ⟨u1, (gI_at _ _ _ _ _).trans (gI_at _ 12 49 0 _).symm, u3, u4, u5, u6, fun i hi => ?_⟩
    have e : mi (sI (sI m 40 37 h x) 12 49 0 (nI (h + 1))) 49 = nI (h + 1) := gI_at _ _ _ _ _
    have en : nHt (sI (sI m 40 37 h x) 12 49 0 (nI (h + 1))) = h + 1 := (congrArg tn e).trans (tn_nI (by omega))
    have en2 : nHt m = h := (congrArg tn h49).trans (tn_nI (by omega))
    show gI (sI w 20 78 h x) 20 78 i = gI (sI m 40 37 h x) 40 37 i
    by_cases c : i = h
    · subst c; rw [gI_at, gI_at]
    · rw [gI_ne (by omega), gI_ne (by omega)]; exact u7 i (by omega)
theorem stR_nil (m : qSt) (v : Int32) : stR m [] [] v = sI (sI m 12 49 0 0) 12 51 0 v := by
  unfold stR
  rw [putI_nil]
  have : rI m 37 (ma m 37) = m := by
    refine st_ext ?_ rfl rfl rfl
    funext a k i
    show (bif Nat.beq a 40 && Nat.beq k 37 then ma m 37 i else gI m a k i) = gI m a k i
    cases e : (Nat.beq a 40 && Nat.beq k 37) with
    | false => rfl
    | true =>
      rw [Bool.and_eq_true] at e
      rw [Nat.eq_of_beq_eq_true e.1, Nat.eq_of_beq_eq_true e.2]; rfl
  show sI (sI (rI m 37 (ma m 37)) 12 49 0 (nI 0)) 12 51 0 v = _
  rw [this]; rfl
theorem RnE.stR {tr : List Int32} {hs : List Nat} {fa : Int32} : RnE m (CQueryHandlesLaw_law_r6115_62a76e.stR (sI m 12 36 0 0) tr hs fa) ∧ mi (CQueryHandlesLaw_law_r6115_62a76e.stR (sI m 12 36 0 0) tr hs fa) 43 = mi m 43 := by
  obtain ⟨a1, a2, a3⟩ := sTr_28 tr (sI m 12 36 0 0)
  refine ⟨⟨(RE.rf.I (r := 12) (k := 36) rfl).tr (RE.stR _ tr hs fa), ?_, a1 32 (by omega), a1 33 (by omega), a1 34 (by omega), a1 36 (by omega), ?_⟩, a2 43 (by omega)⟩
  · exact TrOK.str tr (tr0 (w := m))
  · exact congrArg (fun z : (Nat → Nat → Nat → Int64) × (Nat → Nat → Nat → Option Nat) × (Nat → Nat → Nat) => z.1 40 35) a3
theorem c11_run {q f n : Int32} (hR : Rep A m w) (hI : TInv m) (hAc : AInv m) (hX : XInv m) (hH : HInv m) (hV : VRd m) (hQ : QInv m) (hz : qZero w) (h : ∀ A' w', Fin A' (S_run m q f n).2 w w' → Q (some (.int (S_run m q f n).1)) w') : Con G M11_run [.ref 2, .int q, .int f, .int n] w Q := by
  obtain ⟨q1, q2, q3⟩ := id hQ
  have h60 := hX.2.1
  have h100 := hI.le
  unfold S_run at h
  have bad : (¬ isQ m q ∨ ¬ (∃ k, f = nI k ∧ k < 60) ∨ ¬ (∃ k, n = nI k ∧ k < 61)) → ∀ l4, Wq G M11_run 32 [some (.ref 2), some (.int q), some (.int f), some (.int n), l4, none, none, none, none, none] [] (0, 0) w Q := by
    intro hb l4
    rw [cIf_t hb] at h
    refine Wq.ls (ls' := [some (.ref 2), some (.int q), some (.int f), some (.int n), none, none, none, none, none, none]) ⟨rfl, rfl, rfl, rfl, by cases l4 <;> trivial⟩ ?_
    exact Wq.go ok11_run 20 [] (And.intro hR.k2 (ans_n hR hz (by decide) h))
  refine Con.go hw11_run ok11_run 40 [32, 38] rfl ?_
  refine And.intro hR.k2 (c11_queryAt hR hQ (fun z => bad (Or.inl z) _) (fun J eJ hJ => ?_))
  refine And.intro (fun c => bad (Or.inr (Or.inl (nNot (by omega) (Or.inl c)))) _) (fun c => And.intro (fun (c2 : nI 60 ≤ f) => bad (Or.inr (Or.inl (fun ⟨k, ek, hk⟩ => ?_))) _) (fun (c2 : ¬ nI 60 ≤ f) => And.intro (fun c3 => bad (Or.inr (Or.inr (nNot (by omega) (Or.inl c3)))) _) (fun c3 => And.intro (fun (c4 : n ≤ nI 60) => ?_) (fun (c4 : ¬ n ≤ nI 60) => bad (Or.inr (Or.inr (fun ⟨k, ek, hk⟩ => ?_))) _))))
  · rw [ek, nI_leI (by omega) (by omega)] at c2; omega
  rotate_left
  · rw [ek, nI_leI (by omega) (by omega)] at c4; omega
  obtain ⟨F, rfl, hF⟩ := lt_n (n := 60) (by omega) c c2
  obtain ⟨N, rfl, hN⟩ := lt_n (n := 61) (by omega) c3 (fun z => by
    rw [i32_le] at c4 z
    rw [nI_t (by omega)] at c4 z
    omega)
  subst eJ
  rw [cIf_f (fun z => z.elim (fun z => z ⟨J, rfl, hJ⟩) (fun z => z.elim (fun z => z ⟨F, rfl, hF⟩) (fun z => z ⟨N, rfl, hN⟩)))] at h
  obtain ⟨t1, t2, t3, t4⟩ := q3 J (by omega)
  obtain ⟨g1, kq, k24, -, -, -, n24, -, -, -, r0, -⟩ := hR.qk.1 J hJ
  obtain ⟨f1, f2⟩ := hR.qm J hJ
  rw [tn_nI (by omega), tn_nI (by omega), tn_nI (by omega)] at h
  rw [t1] at f1
  have in8 : vp_in (0 : Int32) (gN w 1 (aY A J + 1)) := by rw [n24]; exact in_nI (n := 0) (by omega) (by decide)
  by_cases hT : tQ m J = 0
  · rw [cIf_t hT] at h
    rw [hT] at f1
    have k60 : ∀ l5, Wq G M11_run 60 [some (.ref 2), some (.int (nI J)), some (.int (nI F)), some (.int (nI N)), some (.ref (aY A J)), l5, none, none, none, none] [] (0, 0) w Q := by
      intro l5
      refine Wq.ls (ls' := [some (.ref 2), some (.int (nI J)), some (.int (nI F)), some (.int (nI N)), some (.ref (aY A J)), none, none, none, none, none]) ⟨rfl, rfl, rfl, rfl, rfl, by cases l5 <;> trivial⟩ ?_
      exact Wq.go ok11_run 20 [] (And.intro hR.k2 (ans_n hR hz (by decide) h))
    refine Wq.go ok11_run 20 [60, 67] ?_
    refine And.intro kq (refS r0 (And.intro (And.intro (by rw [k24]; rfl) in8) (And.intro (fun _ => And.intro kq (And.intro (fun _ => k60 _) (fun z => absurd f1 z))) (fun b _ => And.intro kq (And.intro (fun _ => k60 _) (fun z => absurd f1 z))))))
  rw [cIf_f hT] at h
  obtain ⟨b1, -⟩ := f2 0 (by omega)
  rw [Nat.add_zero] at b1
  obtain ⟨s1, s2, -⟩ := t4 0 (by omega)
  rw [Nat.add_zero] at s1 s2
  have loop : ∀ (M x : Nat) (tr : List Int32) (hs : List Nat) (l8 l9 : Option Value) (w1 : qSt), (x < min (F + N) (nX m) → M = min (F + N) (nX m) - x) → (¬ x < min (F + N) (nX m) → M = 0) → x ≤ 200 → hs.length + M ≤ 60 → Rep A (stR (sI m 12 36 0 0) tr hs (-1)) w1 → qZero w1 → CW w w1 →
      ((rnF m J M x).1 < 0 → ∀ A' w', Fin A' (stt (stR (sI m 12 36 0 0) (tr ++ (rnF m J M x).2.2.2) (hs ++ (rnF m J M x).2.2.1) (rnF m J M x).2.1) (rnF m J M x).1) w w' → Q (some (.int (rnF m J M x).1)) w') →
      (¬ (rnF m J M x).1 < 0 → ∀ A' w', Fin A' (stt (stR (sI m 12 36 0 0) (tr ++ (rnF m J M x).2.2.2) (hs ++ (rnF m J M x).2.2.1) (rnF m J M x).2.1) 0) w w' → Q (some (.int (nI (hs ++ (rnF m J M x).2.2.1).length))) w') →
      Wq G M11_run 103 [some (.ref 2), some (.int (nI J)), some (.int (nI F)), some (.int (nI N)), some (.ref (aY A J)), some (.ref (aH A (tH m (8 * J)))), some (.int (nI (min (F + N) (nX m)))), some (.int (nI x)), l8, l9] [] (0, 0) w1 Q := by
    intro M
    induction M with
    | zero =>
      intro x tr hs l8 l9 w1 hm hm0 hx2 hl hR1 hz1 hcw hf hg
      have e49 : gI w1 10 7 2 = nI hs.length := hR1.mq.2.1.trans (gI_at (rI (sTr (sI m 12 36 0 0) tr) 37 (putI (ma (sI m 12 36 0 0) 37) hs)) 12 49 0 (nI hs.length))
      unfold rnF at hg
      rw [List.append_nil, List.append_nil] at hg
      refine Wq.ls (ls' := [some (.ref 2), some (.int (nI J)), some (.int (nI F)), some (.int (nI N)), some (.ref (aY A J)), some (.ref (aH A (tH m (8 * J)))), some (.int (nI (min (F + N) (nX m)))), some (.int (nI x)), none, none]) ⟨rfl, rfl, rfl, rfl, rfl, rfl, rfl, rfl, by cases l8 <;> cases l9 <;> trivial⟩ ?_
      refine Wq.go ok11_run 40 [] ?_
      refine And.intro (fun _ => And.intro hR1.k2 (And.intro hR1.k2 ?_)) (fun (c1 : ¬ nI (min (F + N) (nX m)) ≤ nI x) => ?_)
      · rw [e49]
        exact ans_p hR1 hz1 (nI_pos (by omega)) (fun A' w' hF => hg (show ¬ (0 : Int32) < 0 by decide) A' w' (hF.cw hcw))
      · rw [nI_leI (by omega) (by omega)] at c1
        have := hm (by omega)
        omega
    | succ M ih =>
      intro x tr hs l8 l9 w1 hm hm0 hx2 hl hR1 hz1 hcw hf hg
      have hlt : x < min (F + N) (nX m) := Classical.byContradiction (fun z => by have := hm0 z; omega)
      have hm1 := hm hlt
      have hxX2 : x < nX m := by omega
      obtain ⟨hE, e43⟩ := RnE.stR (m := m) (tr := tr) (hs := hs) (fa := -1)
      have e49 : mi (stR (sI m 12 36 0 0) tr hs (-1)) 49 = nI hs.length := gI_at (rI (sTr (sI m 12 36 0 0) tr) 37 (putI (ma (sI m 12 36 0 0) 37) hs)) 12 49 0 (nI hs.length)
      have hRE := hE.1
      have hxX : ¬ noX m (nI x) := fun z => z.2 ⟨x, rfl, hxX2⟩
      have hI1 := hRE.tinv hI
      have hX1 := hRE.xinv hX
      have hH1 := hRE.hinv hH
      unfold rnF at hf hg
      have nx : ∀ (tr' : List Int32) (hs' : List Nat) (l8 l9 : Option Value) (w2 : qSt), hs'.length + M ≤ 60 → Rep A (stR (sI m 12 36 0 0) tr' hs' (-1)) w2 → qZero w2 → CW w w2 →
          ((rnF m J M (x + 1)).1 < 0 → ∀ A' w', Fin A' (stt (stR (sI m 12 36 0 0) (tr' ++ (rnF m J M (x + 1)).2.2.2) (hs' ++ (rnF m J M (x + 1)).2.2.1) (rnF m J M (x + 1)).2.1) (rnF m J M (x + 1)).1) w w' → Q (some (.int (rnF m J M (x + 1)).1)) w') →
          (¬ (rnF m J M (x + 1)).1 < 0 → ∀ A' w', Fin A' (stt (stR (sI m 12 36 0 0) (tr' ++ (rnF m J M (x + 1)).2.2.2) (hs' ++ (rnF m J M (x + 1)).2.2.1) (rnF m J M (x + 1)).2.1) 0) w w' → Q (some (.int (nI (hs' ++ (rnF m J M (x + 1)).2.2.1).length))) w') →
          Wq G M11_run 213 [some (.ref 2), some (.int (nI J)), some (.int (nI F)), some (.int (nI N)), some (.ref (aY A J)), some (.ref (aH A (tH m (8 * J)))), some (.int (nI (min (F + N) (nX m)))), some (.int (nI x)), l8, l9] [] (0, 0) w2 Q := by
        intro tr' hs' l8 l9 w2 hl2 hR2 hz2 hcw2 hf2 hg2
        refine Wq.ls (ls' := [some (.ref 2), some (.int (nI J)), some (.int (nI F)), some (.int (nI N)), some (.ref (aY A J)), some (.ref (aH A (tH m (8 * J)))), some (.int (nI (min (F + N) (nX m)))), some (.int (nI x)), none, none]) ⟨rfl, rfl, rfl, rfl, rfl, rfl, rfl, rfl, by cases l8 <;> cases l9 <;> trivial⟩ ?_
        refine Wq.go ok11_run 40 [103] ?_
        show Wq G M11_run 103 [some (.ref 2), some (.int (nI J)), some (.int (nI F)), some (.int (nI N)), some (.ref (aY A J)), some (.ref (aH A (tH m (8 * J)))), some (.int (nI (min (F + N) (nX m)))), some (.int (nI x + 1)), none, none] [] (0, 0) w2 Q
        rw [nI_1]
        exact ih (x + 1) tr' hs' none none w2 (fun z => by omega) (fun z => by omega) (by omega) hl2 hR2 hz2 hcw2 hf2 hg2
      have hh1 : tH m (8 * J) < nH (stR (sI m 12 36 0 0) tr hs (-1)) := by rw [hRE.enH]; exact s2
      obtain ⟨a1, a2, a3, a4, a5⟩ := hR1.hd _ hh1
      obtain ⟨z1, z2, z3, z4, z5, z6⟩ := hH1.2.2 _ hh1
      have hcls : ¬ (ma (stR (sI m 12 36 0 0) tr hs (-1)) 0 (hC (stR (sI m 12 36 0 0) tr hs (-1)) (tH m (8 * J))) = 3 ∨ ma (stR (sI m 12 36 0 0) tr hs (-1)) 0 (hC (stR (sI m 12 36 0 0) tr hs (-1)) (tH m (8 * J))) = 4) := by rw [z4]; decide
      refine Wq.ls (ls' := [some (.ref 2), some (.int (nI J)), some (.int (nI F)), some (.int (nI N)), some (.ref (aY A J)), some (.ref (aH A (tH m (8 * J)))), some (.int (nI (min (F + N) (nX m)))), some (.int (nI x)), none, none]) ⟨rfl, rfl, rfl, rfl, rfl, rfl, rfl, rfl, by cases l8 <;> cases l9 <;> trivial⟩ ?_
      refine Wq.go ok11_run 60 [146, 213] ?_
      refine And.intro (fun (c1 : nI (min (F + N) (nX m)) ≤ nI x) => ?_) (fun _ => And.intro hR1.k2 (refS hR1.r2 (And.intro hR1.k71 (c7_at hR1 hX1 (fun z => absurd ⟨x, rfl, by rw [hRE.enX]; omega⟩ z) (fun x' ex' hxx' => ?_)))))
      · rw [nI_leI (by omega) (by omega)] at c1; omega
      have hx1 : x' < nX m := by rw [← hRE.enX]; exact hxx'
      have : x' = x := by rw [nI_eqI (by omega) (by omega)] at ex'; exact ex'.symm
      subst this
      refine And.intro hR1.k2 (refS hR1.r1 (And.intro a2 (refS a3 (And.intro hR1.k3 (c10_isThingUnder hR1 hI1 hX1 hxx' z2 ?_)))))
      rw [baN_self hcls, dpN_0 hcls, hRE.te.eSo, hRE.ebX, hRE.edX, hRE.ehC]
      refine And.intro (fun c4 => ?_) (fun c4 => ?_)
      · rw [bI_n0] at c4
        have ek : akX m J x' = akF m J (nI x') (tQ m J) 0 True := cIf_t c4
        have hcs := ak_cases (w := m) (q := J) (x := nI x') (tQ m J) 0 True
        rw [ek] at hf hg
        refine Wq.go ok11_run 60 [174, 213] ?_
        refine And.intro hR1.k2 (c11_holds hI hAc hX hH hV hQ hJ hxX2 (by omega) hE e43 hR1 hz1 (fun w2 hR2 hz2 hcw2 => ?_))
        rw [stR_tr] at hR2
        generalize akF m J (nI x') (tQ m J) 0 True = r at *
        refine And.intro (fun (c5 : 0 ≤ r.1) => ?_) (fun (c5 : ¬ 0 ≤ r.1) => And.intro hR2.k2 (And.intro hR2.k2 ?_))
        · have c6 : ¬ r.1 < 0 := nlt0 c5
          rw [cIf_f c6] at hf hg
          have e492 : mi (stR (sI m 12 36 0 0) (tr ++ r.2) hs (-1)) 49 = nI hs.length := gI_at (rI (sTr (sI m 12 36 0 0) (tr ++ r.2)) 37 (putI (ma (sI m 12 36 0 0) 37) hs)) 12 49 0 (nI hs.length)
          have e7 : gI w2 10 7 2 = nI hs.length := hR2.mq.2.1.trans e492
          have k78 := hR2.fk.2.2.2.2.2.2.2.2.2.2.2.2.1
          refine Wq.go ok11_run 60 [213] ?_
          refine And.intro (fun (c7 : ¬ r.1 = 1) => ?_) (fun (c7 : r.1 = 1) => And.intro hR2.k2 (And.intro hR2.k2 (refS hR2.r6 (And.intro (Or.inl k78.1) (And.intro (fun (c8 : nI (gN w2 1 78) ≤ gI w2 10 7 2) => ?_) (fun _ => And.intro hR2.k2 (refS hR2.r6 (And.intro hR2.k2 (And.intro k78.1 (And.intro (by rw [k78.2, e7]; exact in_nI (by omega) (by decide)) (And.intro hR2.k2 (And.intro hR2.k2 ?_)))))))))) ))
          · rw [cIf_f (a := [x']) c7] at hf hg
            refine nx _ _ _ _ w2 (by omega) hR2 hz2 (hcw.tr hcw2) ?_ ?_
            · rw [List.append_assoc]; exact hf
            · rw [List.append_assoc]; exact hg
          · rw [k78.2, e7, nI_leI (by omega) (by omega)] at c8; omega
          · rw [cIf_t (a := [x']) c7] at hf hg
            have hR3 := rep_hit hR2 e492 (by omega) (nI x')
            rw [stR_snoc] at hR3
            have hz3 := hz2.AI (j := hs.length) (v := nI x') (hz2.lt k78.1 (by omega))
            show Wq G M11_run 213 _ [] (0, 0) (sI (sI w2 20 78 (gI w2 10 7 2).toNatClampNeg (nI x')) 10 7 2 (gI (sI w2 20 78 (gI w2 10 7 2).toNatClampNeg (nI x')) 10 7 2 + 1)) Q
            rw [gI_ne (by omega), e7, nI_clamp (by omega), nI_1]
            refine nx _ _ _ _ _ ?_ hR3 (hz3.I (hz3.lt hR2.k2 (by omega)) (by omega)) (((hcw.tr hcw2).I rfl).I rfl) ?_ ?_
            · rw [List.length_append, List.length_singleton]; omega
            · rw [List.append_assoc, List.append_assoc]; exact hf
            · rw [List.append_assoc, List.append_assoc]; exact hg
        · have c6 : r.1 < 0 := lt0 c5
          rw [cIf_t c6] at hf
          rw [List.append_nil] at hf
          have hR3 := rep_fail hR2 (nI x')
          rw [stR_fa] at hR3
          exact ans_n hR3 (hz2.I (hz2.lt hR2.k2 (by omega)) (by omega)) c6 (fun A' w' hF => hf c6 A' w' (hF.cw ((hcw.tr hcw2).I rfl)))
      · rw [bI_0] at c4
        have ek : akX m J x' = (0, []) := cIf_f c4
        rw [ek, cIf_f (show ¬ (0 : Int32) < 0 by decide), cIf_f (a := [x']) (show ¬ (0 : Int32) = 1 by decide)] at hf hg
        exact nx tr hs _ _ w1 (by omega) hR1 hz1 hcw hf hg
  obtain ⟨hR1, hRd1⟩ := hR.tr0
  have hz1 := hRd1.2.2.2.2 hz
  have hR2 := rep_hits0 hR1
  have hz2 := hz1.I (k := 7) (v := 0) (hz1.lt hR1.k2 (by omega)) (show 10 < 12 by omega)
  have hR3 := rep_fail hR2 (-1)
  have hz3 := hz2.I (k := 8) (v := -1) (hz2.lt hR2.k2 (by omega)) (show 10 < 12 by omega)
  rw [← stR_nil] at hR3
  have ecnt : gI w 6 2 71 = nI (nX m) := hR.mt.2.2.2.1.trans hX.1
  refine Wq.go ok11_run 60 [103] ?_
  refine And.intro kq (refS r0 (And.intro (And.intro (by rw [k24]; rfl) in8) (refS b1 (And.intro kq (And.intro (fun z => ?_) (fun _ => And.intro hR.k2 (refS hR.r3 (And.intro hR.k73 (And.intro hR1.k2 (And.intro hR2.k2 (And.intro hR3.k2 (refS hR3.r2 (And.intro hR3.k71 (cJ_min ?_))))))))))))))
  · have z : gI w 3 4 (aY A J) = nI 0 := z
    rw [f1, nI_eqI (by omega) (by omega)] at z
    exact absurd z hT
  have emin : cIf (gI w 6 2 71 < nI F + nI N) (gI w 6 2 71) (nI F + nI N) = nI (min (F + N) (nX m)) := by
    rw [ecnt, nI_add]
    by_cases c : nX m < F + N
    · rw [cIf_t (by rw [nI_ltI (by omega) (by omega)]; exact c), Nat.min_eq_right (by omega)]
    · rw [cIf_f (by rw [nI_ltI (by omega) (by omega)]; exact c), Nat.min_eq_left (by omega)]
  have hloop := loop (min (F + N) (nX m) - F) F [] [] none none _ (fun _ => rfl) (fun z => by omega) (by omega) (by show 0 + _ ≤ 60; omega) hR3 hz3 ((hRd1.2.2.2.1.I rfl).I rfl) ?_ ?_
  · rw [← emin] at hloop
    exact hloop
  · intro z A' w' hF
    have z : (rnN m J F N).1 < 0 := z
    rw [cIf_t z] at h
    exact h A' w' hF
  · intro z A' w' hF
    have z : ¬ (rnN m J F N).1 < 0 := z
    rw [cIf_f z] at h
    exact h A' w' hF
end
