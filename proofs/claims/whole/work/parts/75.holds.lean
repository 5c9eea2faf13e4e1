/-! ===== holds of the class ===== -/
section
variable {G : qGX} {A : qA} {m w : qSt} {Q : Option Value → qSt → Prop}
theorem c11_holds {m1 : qSt} {q X : Nat} (hI : TInv m) (hAc : AInv m) (hX : XInv m) (hH : HInv m) (hV : VRd m) (hQ : QInv m) (hq : q < nQ m) (hXX : X < nX m) (ht : 0 < tQ m q) (hE : RnE m m1) (e43 : mi m1 43 = mi m 43) (hR : Rep A m1 w) (hz : qZero w)
    (h : ∀ w', Rep A (sTr m1 (akF m q (nI X) (tQ m q) 0 True).2) w' → qZero w' → CW w w' → Q (some (.int (akF m q (nI X) (tQ m q) 0 True).1)) w') : Con G M11_holds [.ref 2, .ref (aY A q), .ref (aX A X)] w Q := by
  have h60 := hX.2.1
  obtain ⟨q1, q2, q3⟩ := id hQ
  obtain ⟨t1, t2, t3, t4⟩ := q3 q (by omega)
  have hxX : ¬ noX m (nI X) := fun z => z.2 ⟨X, rfl, hXX⟩
  have loop : ∀ (n k : Nat) (is : Prop) (so : Int32) (l5 : Option Value) (m2 w2 : qSt), k + n = tQ m q → (0 < k → so = bI is) → (k = 0 → 0 < n) → RnE m m2 → mi m2 43 = mi m 43 → Rep A m2 w2 → qZero w2 → CW w w2 →
      (∀ w', Rep A (sTr m2 (akF m q (nI X) n k is).2) w' → qZero w' → CW w w' → Q (some (.int (akF m q (nI X) n k is).1)) w') →
      Wq G M11_holds 5 [some (.ref 2), some (.ref (aY A q)), some (.ref (aX A X)), some (.int so), some (.int (nI k)), l5] [] (0, 0) w2 Q := by
    intro n
    induction n with
    | zero =>
      intro k is so l5 m2 w2 hk hso h0 hE2 e2 hR2 hz2 hcw hf
      have hq2 : q < nQ m2 := by unfold nQ; rw [e2]; exact hq
      have kq := (hR2.qk.1 q hq2).2.1
      have ec : gI w2 3 4 (aY A q) = nI (tQ m q) := (hR2.qm q hq2).1.trans (by rw [hE2.2.2.1, t1])
      have hso1 := hso (by omega)
      unfold akF at hf
      refine Wq.ls (ls' := [some (.ref 2), some (.ref (aY A q)), some (.ref (aX A X)), some (.int so), some (.int (nI k)), none]) ⟨rfl, rfl, rfl, rfl, rfl, by cases l5 <;> trivial⟩ ?_
      refine Wq.go ok11_holds 40 [] ?_
      refine And.intro kq (And.intro (fun _ => And.intro (fun (c : so = 0) => ?_) (fun (c : ¬ so = 0) => ?_)) (fun (z : ¬ gI w2 3 4 (aY A q) ≤ nI k) => ?_))
      · rw [hso1, bI_0] at c
        rw [bI_f c] at hf
        exact hf w2 hR2 hz2 hcw
      · rw [hso1, bI_n0] at c
        rw [bI_t c] at hf
        exact hf w2 hR2 hz2 hcw
      · rw [ec, nI_leI (by omega) (by omega)] at z; omega
    | succ n ih =>
      intro k is so l5 m2 w2 hk hso h0 hE2 e2 hR2 hz2 hcw hf
      have hq2 : q < nQ m2 := by unfold nQ; rw [e2]; exact hq
      obtain ⟨g1, kq, k24, k20, k21, k22, n24, n20, n21, n22, r0, r1, r2, r3⟩ := hR2.qk.1 q hq2
      obtain ⟨f1, f2⟩ := hR2.qm q hq2
      have ec : gI w2 3 4 (aY A q) = nI (tQ m q) := f1.trans (by rw [hE2.2.2.1, t1])
      have etQ : tQ m2 q = tQ m q := by unfold tQ; rw [hE2.2.2.1]
      obtain ⟨b1, b2, b3, b4⟩ := f2 k (by omega)
      obtain ⟨s1, s2, s3, s4, s5⟩ := t4 k (by omega)
      have etH : tH m2 (8 * q + k) = tH m (8 * q + k) := by unfold tH; rw [hE2.2.2.2.1]
      rw [etH] at b1
      rw [hE2.2.2.2.2.1, s3] at b2
      rw [hE2.2.2.2.2.2.2] at b3
      rw [hE2.2.2.2.2.2.1] at b4
      have hRE := hE2.1
      have nx : ∀ (is' : Prop) (so' : Int32) (l : Option Value) (m3 w3 : qSt), so' = bI is' → RnE m m3 → mi m3 43 = mi m 43 → Rep A m3 w3 → qZero w3 → CW w w3 →
          (∀ w', Rep A (sTr m3 (akF m q (nI X) n (k + 1) is').2) w' → qZero w' → CW w w' → Q (some (.int (akF m q (nI X) n (k + 1) is').1)) w') →
          Wq G M11_holds 111 [some (.ref 2), some (.ref (aY A q)), some (.ref (aX A X)), some (.int so'), some (.int (nI k)), l] [] (0, 0) w3 Q := by
        intro is' so' l m3 w3 hs' hE3 e3 hR3 hz3 hcw3 hf3
        refine Wq.ls (ls' := [some (.ref 2), some (.ref (aY A q)), some (.ref (aX A X)), some (.int so'), some (.int (nI k)), none]) ⟨rfl, rfl, rfl, rfl, rfl, by cases l <;> trivial⟩ ?_
        refine Wq.go ok11_holds 40 [5] ?_
        show Wq G M11_holds 5 [some (.ref 2), some (.ref (aY A q)), some (.ref (aX A X)), some (.int so'), some (.int (nI k + 1)), none] [] (0, 0) w3 Q
        rw [nI_1]
        exact ih (k + 1) is' so' none m3 w3 (by omega) (fun _ => hs') (fun z => by omega) hE3 e3 hR3 hz3 hcw3 hf3
      unfold akF at hf
      have h33 : ¬ (0 < k ∧ bI is = ma m 36 (8 * q + k)) → Wq G M11_holds 33 [some (.ref 2), some (.ref (aY A q)), some (.ref (aX A X)), some (.int so), some (.int (nI k)), none] [] (0, 0) w2 Q := by
        intro hn
        rw [cIf_f hn] at hf
        have hrl := rd_le m (tH m (8 * q + k)) (nI X)
        obtain ⟨Ln, eLn, hLn⟩ := rd_lane m (tH m (8 * q + k)) (nI X)
        have hkp := hV (tH m (8 * q + k)) (nI X) s2 hxX
        have herd : rdR m2 (tH m (8 * q + k)) (nI X) = rdR m (tH m (8 * q + k)) (nI X) := by rw [hRE.erd]
        refine Wq.go ok11_holds 40 [71] ?_
        refine And.intro hR2.k2 (refS hR2.r3 (And.intro kq (refS r0 (And.intro (And.intro (by rw [k24]; rfl) (by rw [n24]; exact in_nI (by omega) (by decide))) ?_))))
        rw [nI_clamp (by omega)]
        refine refS b1 (And.intro hR2.k73 (c5_readBy (x := nI X) hR2 (hRE.tinv hI) (by unfold AInv; rw [hRE.te.eF1]; exact hAc) (hRE.xinv hX) (hRE.hinv hH) hE2.2.1 (by rw [hRE.enH]; exact s2) (Or.inr ⟨X, rfl, by rw [hRE.enX]; exact hXX, rfl⟩) (fun w3 hRd3 hM3 hv => ?_)))
        rw [herd] at hM3 hv ⊢
        generalize rdR m (tH m (8 * q + k)) (nI X) = r at *
        have hR3 := hR2.rd hRd3 _ hM3
        have hz3 := hRd3.2.2.2.2 hz2
        have hcw3 : CW w w3 := hcw.tr hRd3.2.2.2.1
        have hE3 := hE2.tr r.2.2.2
        have e3 : mi (sTr m2 r.2.2.2) 43 = mi m 43 := ((sTr_28 r.2.2.2 m2).2.1 43 (by omega)).trans e2
        have h71 : ∀ v : Int32, v = ano r → Wq G M11_holds 71 [some (.ref 2), some (.ref (aY A q)), some (.ref (aX A X)), some (.int so), some (.int (nI k)), some (.int v)] [] (0, 0) w3 Q := by
          intro v hv2
          refine Wq.go ok11_holds 40 [111] ?_
          refine And.intro (fun (c : v = 0) => ?_) (fun (c : ¬ v = 0) => ?_)
          · have ca : ano r = 0 := by rw [← hv2]; exact c
            rw [cIf_f (by rw [ca]; decide)] at hf
            have r0' : r.1 = 0 := by
              rcases hrl with z | z
              · unfold ano at ca; rw [cIf_t z] at ca; rw [ca] at z; exact absurd z (by decide)
              · exact z
            have r8 : ¬ Ln = 8 := by
              intro z
              unfold ano at ca
              rw [cIf_f (by rw [r0']; decide), cIf_t (by rw [eLn, z]; rfl)] at ca
              exact absurd ca (by decide)
            obtain ⟨v1, v2⟩ := hv r0'
            rw [eLn] at v1
            rw [eLn, tn_nI (by omega)] at hf
            have hq3 : q < nQ (sTr m2 r.2.2.2) := by unfold nQ; rw [e3]; exact hq
            obtain ⟨-, kq', -, k20', k21', -, -, n20', n21', -, -, r1', r2', -⟩ := hR3.qk.1 q hq3
            obtain ⟨-, f2'⟩ := hR3.qm q hq3
            have etQ3 : tQ (sTr m2 r.2.2.2) q = tQ m q := by unfold tQ; rw [hE3.2.2.1]
            obtain ⟨-, b2', b3', -⟩ := f2' k (by omega)
            rw [hE3.2.2.2.2.1, s3] at b2'
            rw [hE3.2.2.2.2.2.2] at b3'
            refine And.intro hR3.k2 (refS hR3.r3 (And.intro hR3.k73 (And.intro hR3.k2 (refS hR3.r3 (And.intro hR3.k73 (And.intro kq' (refS r1' (And.intro (Or.inr k20') (And.intro (by rw [n20']; exact in_nI (by omega) (by decide)) (And.intro kq' (refS r2' (And.intro k21' (And.intro (by rw [n21']; exact in_nI (by omega) (by decide)) ?_)))))))))))))
            show Con G M2_compares [.long (gJ w3 4 7 73), .int (gI w3 4 6 73), .int (gI w3 20 (aY A q + 2) (nI k).toNatClampNeg), .long (gJ w3 21 (aY A q + 3) (nI k).toNatClampNeg)] w3 _
            rw [nI_clamp (by omega), v1, v2, b2', b3']
            refine c2_compares (by omega) s4 (fun z => by subst z; exact hkp r0' 6 (by omega) eLn) ?_
            refine nx _ _ _ _ w3 rfl hE3 e3 hR3 hz3 hcw3 (fun w' x1 x2 x3 => hf w' ?_ x2 x3)
            rw [sTr_app]; exact x1
          · have hlt : ano r < 0 := by
              rw [hv2] at c
              unfold ano at c ⊢
              by_cases z : r.1 < 0
              · rw [cIf_t z]; exact z
              · rw [cIf_f z] at c ⊢
                by_cases y : r.2.1 = 8
                · rw [cIf_t y]; decide
                · rw [cIf_f y] at c; exact absurd rfl c
            rw [cIf_t hlt] at hf
            rw [hv2]
            exact hf w3 hR3 hz3 hcw3
        refine And.intro (fun (c : ¬ r.1 = 0) => h71 _ ?_) (fun (c : r.1 = 0) => And.intro hR3.k2 (refS hR3.r3 (And.intro hR3.k73 (And.intro (fun (y : ¬ gI w3 4 6 73 = 8) => h71 _ ?_) (fun (y : gI w3 4 6 73 = 8) => h71 _ ?_)))))
        · unfold ano; rw [cIf_t (hrl.resolve_right c)]
        · rw [(hv c).1] at y
          unfold ano; rw [cIf_f (by rw [c]; decide), cIf_f y]; exact c
        · rw [(hv c).1] at y
          unfold ano; rw [cIf_f (by rw [c]; decide), cIf_t y]
      refine Wq.ls (ls' := [some (.ref 2), some (.ref (aY A q)), some (.ref (aX A X)), some (.int so), some (.int (nI k)), none]) ⟨rfl, rfl, rfl, rfl, rfl, by cases l5 <;> trivial⟩ ?_
      refine Wq.go ok11_holds 40 [33, 111] ?_
      refine And.intro kq (And.intro (fun (z : gI w2 3 4 (aY A q) ≤ nI k) => ?_) (fun _ => And.intro (fun (c : nI k ≤ nI 0) => ?_) (fun (c : ¬ nI k ≤ nI 0) => And.intro kq (refS r3 (And.intro k22 (And.intro (by rw [n22]; exact in_nI (by omega) (by decide)) ?_))))))
      · rw [ec, nI_leI (by omega) (by omega)] at z; omega
      · rw [nI_leI (by omega) (by omega)] at c
        exact h33 (fun z => by omega)
      · rw [nI_leI (by omega) (by omega)] at c
        refine And.intro (fun (c2 : ¬ so = gI w2 20 (aY A q + 4) (nI k).toNatClampNeg) => ?_) (fun (c2 : so = gI w2 20 (aY A q + 4) (nI k).toNatClampNeg) => ?_) <;> rw [nI_clamp (by omega), b4, hso (by omega)] at c2
        · exact h33 (fun z => c2 z.2)
        · rw [cIf_t ⟨by omega, c2⟩] at hf
          exact nx is so none m2 w2 (hso (by omega)) hE2 e2 hR2 hz2 hcw hf
  refine Con.go hw11_holds ok11_holds 20 [5] rfl ?_
  exact loop (tQ m q) 0 True 0 none m1 w (Nat.zero_add _) (fun z => by omega) (fun _ => ht) hE e43 hR hz (CW.rf w) h
end
