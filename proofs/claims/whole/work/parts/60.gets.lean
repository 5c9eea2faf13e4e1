/-! ===== get, total of the class ===== -/
section
variable {G : qGX} {A : qA} {m w : qSt} {Q : Option Value → qSt → Prop}
/-- the trace begins anew -/
theorem Rep.tr0 (hR : Rep A m w) : Rep A (sI m 12 36 0 0) (sI w 4 5 73 0) ∧ Rd w (sI w 4 5 73 0) := by
  have hRd : Rd w (sI w 4 5 73 0) := Rd.I4 (by omega) hR.k73
  refine ⟨((hR.r0.sw hRd.1).sr (SR.rf.I (r := 12) (k := 36) rfl)).rep ?_ ?_, hRd⟩
  · have e : mi (sI m 12 36 0 0) 36 = 0 := gI_at _ _ _ _ _
    refine ⟨(gI_at _ _ _ _ _).trans e.symm, fun i hi => ?_⟩
    have en : nTr (sI m 12 36 0 0) = 0 := (congrArg tn e).trans rfl
    omega
  · obtain ⟨u1, u2, u3, u4, u5, u6, u7⟩ := hR.mq
    exact ⟨u1, u2, u3, u4, u5, u6, u7⟩
/-- behind a reading of a call that begins the trace -/
theorem Rep.rdT {m1 w1 w' : qSt} (hR : Rep A m1 w1) (h : Rd w1 w') (l : List Int32) (hr : MaR (sTr m1 l) w') (hz : qZero w1) : Rep A (sTr m1 l) w' ∧ qZero w' := ⟨hR.rd h l hr, h.2.2.2.2 hz⟩
/-- x as the class looks it up -/
theorem c7_atV {x : Int32} (hR : Rep A m w) (hX : XInv m) (h0 : ¬ isX m x → Q (some .null) w) (h1 : ∀ X, x = nI X → X < nX m → Q (some (.ref (aX A X))) w) : Con G M7_at [.ref 71, .int x] w Q := c7_at hR hX h0 h1
theorem c11_get {h x : Int32} (hR : Rep A m w) (hI : TInv m) (hAc : AInv m) (hX : XInv m) (hH : HInv m) (hz : qZero w) (hq : ∀ A' w', Fin A' (S_get m h x).2 w w' → Q (some (.long (S_get m h x).1)) w') : Con G M11_get [.ref 2, .int h, .int x] w Q := by
  have h40 := hH.2.1
  have h60 := hX.2.1
  unfold S_get at hq
  have bad : (¬ isH m h ∨ noX m x) → ∀ l3, Wq G M11_get 28 [some (.ref 2), some (.int h), some (.int x), l3, none] [] (0, 0) w Q := by
    intro hb l3
    rw [cIf_t hb] at hq
    refine Wq.ls (ls' := [some (.ref 2), some (.int h), some (.int x), none, none]) ⟨rfl, rfl, rfl, by cases l3 <;> trivial⟩ ?_
    exact Wq.go ok11_get 20 [] (And.intro hR.k2 (los_n hR hz (by decide) hq))
  refine Con.go hw11_get ok11_get 40 [28, 37] rfl ?_
  refine And.intro hR.k2 (refS hR.r3 (And.intro hR.k73 (c5_handleAt hR hH (fun z => bad (Or.inl z) _) (fun H eH hHH => ?_))))
  have main : ∀ (t : Value), tV A m x t → Wq G M11_get 37 [some (.ref 2), some (.int h), some (.int x), some (.ref (aH A H)), none] [] (0, 0) w Q := by
    intro t ht
    have hx : ¬ noX m x := by
      rcases ht with ⟨e, -⟩ | ⟨X, e, hX1, -⟩
      · exact fun y => y.1 e
      · exact fun y => y.2 ⟨X, e, hX1⟩
    rw [cIf_f (fun y => y.elim (fun y => y ⟨H, eH, hHH⟩) hx)] at hq
    subst eH
    rw [tn_nI (by omega)] at hq
    obtain ⟨hR1, hRd1⟩ := hR.tr0
    have hRE : RE m (sI m 12 36 0 0) := RE.rf.I rfl
    have hz1 := hRd1.2.2.2.2 hz
    have fin : ∀ (u : Value), tV A (sI m 12 36 0 0) x u → Con G M5_readBy [.ref 73, .ref (aH A H), u] (sI w 4 5 73 0) (fun o w' => Wq G M11_get 61 [some (.ref 2), some (.int (nI H)), some (.int x), some (.ref (aH A H)), none] (psh o []) (0, 0) w' Q) := by
      intro u hu
      refine c5_readBy hR1 (hRE.tinv hI) (by unfold AInv; rw [hRE.te.eF1]; exact hAc) (hRE.xinv hX) (hRE.hinv hH) tr0 (by rw [hRE.enH]; exact hHH) hu (fun w2 hRd2 hM2 hv => ?_)
      rw [hRE.erd] at hM2 hv ⊢
      have hR2 := hR1.rd hRd2 _ hM2
      have hz2 := hRd2.2.2.2.2 hz1
      have hcw : CW w w2 := hRd1.2.2.2.1.tr hRd2.2.2.2.1
      refine Wq.go ok11_get 30 [] ?_
      refine And.intro (fun (c : ¬ (rdR m H x).1 = 0) => And.intro hR2.k2 (refS hR2.r3 (And.intro hR2.k73 (And.intro hR2.k2 ?_)))) (fun (c : (rdR m H x).1 = 0) => ?_)
      · rw [cIf_t ((rd_le m H x).resolve_right c)] at hq
        exact los_n hR2 hz2 c (fun A' w' hF => hq A' w' (hF.cw hcw))
      · obtain ⟨v1, v2⟩ := hv c
        rw [cIf_f (by rw [c]; decide)] at hq
        refine And.intro hR2.k2 (refS hR2.r3 (And.intro hR2.k73 (And.intro hR2.k2 ?_)))
        show gN w2 0 2 = 10 ∧ _
        refine And.intro hR2.k2 (refS hR2.r3 (And.intro hR2.k73 (And.intro hR2.k2 ?_)))
        show Con G M11_lostOr [.ref 2, .int (rdR m H x).1, .long (gJ w2 4 7 73)] (sI w2 10 10 2 (gI w2 4 6 73)) _
        rw [v1, v2, c]
        have hR3 : Rep A (sI (sTr (sI m 12 36 0 0) (rdR m H x).2.2.2) 12 35 0 (rdR m H x).2.1) (sI w2 10 10 2 (rdR m H x).2.1) := by
          refine ((hR2.r0.sw ((SW.rf w2).I (k := 10) (a := 2) (Or.inl ⟨rfl, by omega⟩))).sr (SR.rf.I (r := 12) (k := 35) rfl)).rep ?_ ?_
          · exact hR2.mr
          · obtain ⟨u1, u2, u3, u4, u5, u6, u7⟩ := hR2.mq
            exact ⟨u1, u2, u3, u4, (gI_at _ _ _ _ _).trans (gI_at _ 12 35 0 _).symm, u6, u7⟩
        exact los_p hR3 (hz2.I (hz2.lt hR2.k2 (by omega)) (by omega)) (fun A' w' hF => hq A' w' (hF.cw (hcw.I rfl)))
    refine Wq.go ok11_get 30 [61] ?_
    refine And.intro hR.k2 (refS hR.r3 (And.intro hR.k73 ?_))
    show gN (sI w 4 5 73 0) 0 2 = 10 ∧ _
    refine And.intro hR1.k2 (refS hR1.r3 (And.intro hR1.k2 (refS hR1.r2 (And.intro hR1.k71 ?_))))
    refine c7_at (w := sI w 4 5 73 0) hR1 (hRE.xinv hX) (fun z => And.intro hR1.k73 ?_) (fun X eX hXX => And.intro hR1.k73 ?_)
    · refine (fin .null (Or.inl ⟨?_, rfl⟩)).mono (fun o w' hw' => hw')
      rcases ht with ⟨e, -⟩ | ⟨X, e, hX1, -⟩
      · exact e
      · exact absurd ⟨X, e, hX1⟩ z
    · exact (fin (.ref (aX A X)) (Or.inr ⟨X, eX, hXX, rfl⟩)).mono (fun o w' hw' => hw')
  refine And.intro hR.k2 (refS hR.r2 (And.intro hR.k71 (c7_at hR hX (fun z => c11_isNoThing0 (And.intro (fun c => ?_) (fun c => bad (Or.inr ⟨bI_n0.mp c, z⟩) _))) (fun X eX hXX => c11_isNoThing1 (And.intro (fun _ => ?_) (fun c => absurd rfl c))))))
  · rw [bI_0, Classical.not_not] at c
    exact main .null (Or.inl ⟨c, rfl⟩)
  · exact main (.ref (aX A X)) (Or.inr ⟨X, eX, hXX, rfl⟩)
theorem c11_total {h : Int32} (hR : Rep A m w) (hI : TInv m) (hAc : AInv m) (hX : XInv m) (hH : HInv m) (hHt : HtInv m) (hz : qZero w) (hq : ∀ A' w', Fin A' (S_total m h).2 w w' → Q (some (.long (S_total m h).1)) w') : Con G M11_total [.ref 2, .int h] w Q := by
  have h40 := hH.2.1
  have h60 := hX.2.1
  obtain ⟨g1, g2, g3⟩ := id hHt
  unfold S_total at hq
  refine Con.go hw11_total ok11_total 40 [22] rfl ?_
  refine And.intro hR.k2 (refS hR.r3 (And.intro hR.k73 (c5_handleAt hR hH (fun z => ?_) (fun H eH hHH => ?_))))
  · rw [cIf_t z] at hq
    exact And.intro hR.k2 (los_n hR hz (by decide) hq)
  rw [cIf_f (fun y => y ⟨H, eH, hHH⟩)] at hq
  subst eH
  rw [tn_nI (by omega)] at hq
  have loop : ∀ (n k : Nat) (S : Int64) (l6 : Option Value) (m1 w1 : qSt), k + n = nHt m → RE m m1 → SR m m1 → TrOK m1 → mi m1 49 = mi m 49 → ma m1 37 = ma m 37 → Rep A m1 w1 → qZero w1 → CW w w1 →
      ((ttF m H n k S).1 < 0 → ∀ A' w', Fin A' (stt (sTr m1 (ttF m H n k S).2.2) (ttF m H n k S).1) w w' → Q (some (.long (-9223372036854775808))) w') →
      (¬ (ttF m H n k S).1 < 0 → ∀ A' w', Fin A' (stt (sTr m1 (ttF m H n k S).2.2) 0) w w' → Q (some (.long (ttF m H n k S).2.1)) w') →
      Wq G M11_total 35 [some (.ref 2), some (.int (nI H)), some (.ref (aH A H)), some (.long S), none, some (.int (nI k)), l6] [] (0, 0) w1 Q := by
    intro n
    induction n with
    | zero =>
      intro k S l6 m1 w1 hk hRE hSR hT e49 e37 hR1 hz1 hcw hf hg
      unfold ttF at hg
      have hc : gI w1 10 7 2 = nI (nHt m) := hR1.mq.2.1.trans (e49.trans g1)
      refine Wq.ls (ls' := [some (.ref 2), some (.int (nI H)), some (.ref (aH A H)), some (.long S), none, some (.int (nI k)), none]) ⟨rfl, rfl, rfl, rfl, rfl, by cases l6 <;> trivial⟩ ?_
      refine Wq.go ok11_total 30 [] ?_
      refine And.intro hR1.k2 (And.intro (fun _ => And.intro hR1.k2 ?_) (fun z => absurd (by rw [hc, nI_leI (by omega) (by omega)]; omega) z))
      exact los_p hR1 hz1 (fun A' w' hF => hg (show ¬ (0 : Int32) < 0 by decide) A' w' (hF.cw hcw))
    | succ n ih =>
      intro k S l6 m1 w1 hk hRE hSR hT e49 e37 hR1 hz1 hcw hf hg
      have hc : gI w1 10 7 2 = nI (nHt m) := hR1.mq.2.1.trans (e49.trans g1)
      have k78 := hR1.fk.2.2.2.2.2.2.2.2.2.2.2.2.1
      have hnt : nHt m1 = nHt m := by unfold nHt; rw [e49]
      obtain ⟨X, eX, hXX⟩ := g3 k (by omega)
      have ehit : gI w1 20 78 k = nI X := by rw [hR1.mq.2.2.2.2.2.2 k (by omega), e37, eX]
      have hI1 := hRE.tinv hI
      have hX1 := hRE.xinv hX
      have hxx : ¬ noX m (ma m 37 k) := fun z => z.2 ⟨X, eX, hXX⟩
      unfold ttF at hf hg
      refine Wq.ls (ls' := [some (.ref 2), some (.int (nI H)), some (.ref (aH A H)), some (.long S), none, some (.int (nI k)), none]) ⟨rfl, rfl, rfl, rfl, rfl, by cases l6 <;> trivial⟩ ?_
      refine Wq.go ok11_total 30 [66] ?_
      refine And.intro hR1.k2 (And.intro (fun z => ?_) (fun _ => And.intro hR1.k2 (refS hR1.r3 (And.intro hR1.k2 (refS hR1.r2 (And.intro hR1.k2 (refS hR1.r6 (And.intro (Or.inr k78.1) (And.intro (by rw [k78.2]; exact in_nI (by omega) (by decide)) (And.intro hR1.k71 ?_)))))))) ))
      · rw [hc, nI_leI (by omega) (by omega)] at z; omega
      show Con G M7_at [.ref 71, .int (gI w1 20 78 (nI k).toNatClampNeg)] w1 _
      rw [nI_clamp (by omega), ehit]
      refine c7_at hR1 hX1 (fun z => absurd ⟨X, rfl, by rw [hRE.enX]; exact hXX⟩ z) (fun X' eX' hXX' => And.intro hR1.k73 ?_)
      refine c5_readBy (x := ma m 37 k) hR1 hI1 (by unfold AInv; rw [hRE.te.eF1]; exact hAc) hX1 (hRE.hinv hH) hT (by rw [hRE.enH]; exact hHH) (Or.inr ⟨X', by rw [eX, eX'], hXX', rfl⟩) (fun w2 hRd2 hM2 hv => ?_)
      rw [hRE.erd] at hM2 hv ⊢
      have hR2 := hR1.rd hRd2 _ hM2
      have hz2 := hRd2.2.2.2.2 hz1
      have hcw2 : CW w w2 := hcw.tr hRd2.2.2.2.1
      obtain ⟨a1, a2, a3⟩ := sTr_28 (rdR m H (ma m 37 k)).2.2.2 m1
      have h88 : ∀ v : Int32, v = tno (rdR m H (ma m 37 k)) → Wq G M11_total 88 [some (.ref 2), some (.int (nI H)), some (.ref (aH A H)), some (.long S), none, some (.int (nI k)), some (.int v)] [] (0, 0) w2 Q := by
        intro v hv2
        refine Wq.go ok11_total 30 [35] ?_
        refine And.intro (fun (c : v = 0) => And.intro hR2.k2 (refS hR2.r3 (And.intro hR2.k73 ?_))) (fun (c : ¬ v = 0) => And.intro hR2.k2 ?_)
        · have c6 : ¬ tno (rdR m H (ma m 37 k)) < 0 := by rw [← hv2, c]; decide
          rw [cIf_f c6] at hf hg
          have r0 : ¬ (rdR m H (ma m 37 k)).1 < 0 := fun z => c6 (by unfold tno; rw [cIf_t z]; exact z)
          obtain ⟨v1, v2⟩ := hv ((rd_le m H (ma m 37 k)).resolve_left r0)
          show Wq G M11_total 35 [some (.ref 2), some (.int (nI H)), some (.ref (aH A H)), some (.long (S + gJ w2 4 7 73)), none, some (.int (nI k + 1)), some (.int v)] [] (0, 0) w2 Q
          rw [v2, nI_1]
          refine ih (k + 1) _ _ _ w2 (by omega) (hRE.tr (RE.sTr _ _)) (hSR.tr (SR.sTr _ _)) (hT.str _) ((a2 49 (by omega)).trans e49) ((a1 37 (by omega)).trans e37) hR2 hz2 hcw2 ?_ ?_
          · intro z A' w' hF
            rw [← sTr_app] at hF
            exact hf z A' w' hF
          · intro z A' w' hF
            rw [← sTr_app] at hF
            exact hg z A' w' hF
        · have hlt : tno (rdR m H (ma m 37 k)) < 0 := by
            rw [hv2] at c
            unfold tno at c ⊢
            by_cases z : (rdR m H (ma m 37 k)).1 < 0
            · rw [cIf_t z]; exact z
            · rw [cIf_f z] at c ⊢
              by_cases y : 5 < (rdR m H (ma m 37 k)).2.1
              · rw [cIf_t y]; decide
              · rw [cIf_f y] at c; exact absurd rfl c
          rw [cIf_t hlt] at hf
          rw [hv2]
          rw [hv2] at c
          exact los_n hR2 hz2 c (fun A' w' hF => hf hlt A' w' (hF.cw hcw2))
      refine Wq.go ok11_total 30 [88] ?_
      refine And.intro (fun (c : ¬ (rdR m H (ma m 37 k)).1 = 0) => h88 _ ?_) (fun (c : (rdR m H (ma m 37 k)).1 = 0) => And.intro hR2.k2 (refS hR2.r3 (And.intro hR2.k73 (And.intro (fun (y : gI w2 4 6 73 ≤ 5) => h88 _ ?_) (fun (y : ¬ gI w2 4 6 73 ≤ 5) => h88 _ ?_)))))
      · unfold tno; rw [cIf_t ((rd_le m H (ma m 37 k)).resolve_right c)]
      · rw [(hv c).1, i32_le] at y
        unfold tno; rw [cIf_f (by rw [c]; decide), cIf_f (by rw [i32_lt]; omega)]; exact c
      · rw [(hv c).1, i32_le] at y
        unfold tno; rw [cIf_f (by rw [c]; decide), cIf_t (by rw [i32_lt]; omega)]
  obtain ⟨hR1, hRd1⟩ := hR.tr0
  refine Wq.go ok11_total 30 [35] ?_
  refine And.intro hR.k2 (refS hR.r3 (And.intro hR.k73 ?_))
  refine loop (nHt m) 0 0 none (sI m 12 36 0 0) (sI w 4 5 73 0) (Nat.zero_add _) (RE.rf.I rfl) (SR.rf.I rfl) tr0 rfl rfl hR1 (hRd1.2.2.2.2 hz) hRd1.2.2.2.1 ?_ ?_
  · intro z A' w' hF
    rw [cIf_t z] at hq
    exact hq A' w' hF
  · intro z A' w' hF
    rw [cIf_f z] at hq
    exact hq A' w' hF
end
