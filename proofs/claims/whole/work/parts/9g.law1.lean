/-! ===== the law's calls, printed by a program ===== -/
section
variable {G : qGX} {w : qSt} {Q : Option Value → qSt → Prop}
theorem lw_cls {i q1 q2 : Nat} (hi : i + 7 ≤ (xS G).2.1) (hL : (xS G).2.1 ≤ 448) (h : LwI w) (hq1 : q1 + 20 ≤ 600000) (hq2 : q2 + 2000 ≤ 7302250) (hk : ∀ w1 r1 r2, LwI w1 → r1 ≤ q1 + 20 → r2 ≤ q2 + 2000 → Wq G ML_law 1635 [some (.ref 0), some (.ref 2), some (.ref 79), some (.int (nI i))] [] (r1, r2) w1 Q) : Wq G ML_law 204 [some (.ref 0), some (.ref 2), some (.ref 79), some (.int (nI i))] [] (q1, q2) w Q := by
  obtain ⟨A, hR, hi0, hz, h4⟩ := h
  have T := hi0.1.1
  have X := hi0.1.2.1
  have H := hi0.1.2.2.1
  have Ac := hi0.1.2.2.2.1
  have D := hi0.1.2.2.2.2.1
  have Vr := hi0.1.2.2.2.2.2.2.1
  have V := hi0.1.vrd
  have C := hi0.2.1
  have Qi := hi0.2.2.1
  have Tr := hi0.2.2.2.1
  have Ht := hi0.2.2.2.2
  refine Wq.low (fun lo => ?_)
  have l0 := lo.2.1
  have v : ∀ {k}, k < 7 → vp_in (nI i + nI k) (gN w 1 0) := fun hk => v_in lo hi hL hk
  by_cases c : gI w 20 0 (nI i + nI 2).toNatClampNeg = 0
  · refine Wq.go okL_law_0 18 [226] ?_
    refine And.intro (Or.inl l0) (And.intro (v (k := 1) (by omega)) (And.intro (Or.inl l0) (And.intro (v (k := 2) (by omega)) (And.intro (fun _ => And.intro hR.k2 (And.intro ⟨by show q1 + 6 ≤ 600000; omega, by show q2 + 50 ≤ 7302250; omega⟩ (c11_cls hR T X H Qi hz (Or.inl rfl) (fun A1 w1 hF => ?_)))) (fun z => absurd c z)))))
    have hm : Mq w w1 := hF.2.2.1
    have hi1 := hm.inv hi0
    have T' := hi1.1.1
    have X' := hi1.1.2.1
    have H' := hi1.1.2.2.1
    have Vr' := hi1.1.2.2.2.2.2.2.1
    have V' := hi1.1.vrd
    have V6' := inv_V6 hi1
    have C' := hi1.2.1
    have Qi' := hi1.2.2.1
    have Ht' := hi1.2.2.2.2
    refine Wq.low (fun lo1 => ?_)
    have l1 := lo1.2.1
    have e20 : gI w1 20 0 = gI w 20 0 := lo1.2.2.2.2.2.1.trans lo.2.2.2.2.2.1.symm
    have v1 : ∀ {k}, k < 7 → vp_in (nI i + nI k) (gN w1 1 0) := fun hk => v_in lo1 hi hL hk
    refine Wq.go (tab_app okL_law_0 okL_law_1) 21 [1635] ?_
    refine And.intro (Or.inl l1) (And.intro (v1 (k := 1) (by omega)) (And.intro (Or.inl l1) (And.intro (v1 (k := 2) (by omega)) (And.intro (fun _ => And.intro ⟨hF.2.2.2.trans h4, rfl⟩ (c12_cls T' rfl ?_)) (fun z => absurd (by rw [e20]; exact c) z)))))
    rw [e20]
    have hLI := LwI.of h4 hF (q_cls hm _ _) Sc.rf (i_cls hi0 _ (Or.inl rfl))
    refine And.intro (fun _ => hk _ _ _ hLI (by show q1 + 6 ≤ q1 + 20; omega) (by show q2 + 50 ≤ q2 + 2000; omega)) (fun z => absurd ?_ z)
    exact (q_cls hm _ _).1.symm
  · refine Wq.go okL_law_0 18 [226] ?_
    refine And.intro (Or.inl l0) (And.intro (v (k := 1) (by omega)) (And.intro (Or.inl l0) (And.intro (v (k := 2) (by omega)) (And.intro (fun z => absurd z c) (fun _ => And.intro hR.k2 (And.intro ⟨by show q1 + 6 ≤ 600000; omega, by show q2 + 50 ≤ 7302250; omega⟩ (c11_cls hR T X H Qi hz (Or.inr rfl) (fun A1 w1 hF => ?_))))))))
    have hm : Mq w w1 := hF.2.2.1
    have hi1 := hm.inv hi0
    have T' := hi1.1.1
    have X' := hi1.1.2.1
    have H' := hi1.1.2.2.1
    have Vr' := hi1.1.2.2.2.2.2.2.1
    have V' := hi1.1.vrd
    have V6' := inv_V6 hi1
    have C' := hi1.2.1
    have Qi' := hi1.2.2.1
    have Ht' := hi1.2.2.2.2
    refine Wq.low (fun lo1 => ?_)
    have l1 := lo1.2.1
    have e20 : gI w1 20 0 = gI w 20 0 := lo1.2.2.2.2.2.1.trans lo.2.2.2.2.2.1.symm
    have v1 : ∀ {k}, k < 7 → vp_in (nI i + nI k) (gN w1 1 0) := fun hk => v_in lo1 hi hL hk
    refine Wq.go (tab_app okL_law_0 okL_law_1) 21 [1635] ?_
    refine And.intro (Or.inl l1) (And.intro (v1 (k := 1) (by omega)) (And.intro (Or.inl l1) (And.intro (v1 (k := 2) (by omega)) (And.intro (fun z => absurd (by rw [e20] at z; exact z) c) (fun _ => And.intro ⟨hF.2.2.2.trans h4, rfl⟩ (c12_cls T' rfl ?_))))))
    rw [e20]
    have hLI := LwI.of h4 hF (q_cls hm _ _) Sc.rf (i_cls hi0 _ (Or.inr rfl))
    refine And.intro (fun _ => hk _ _ _ hLI (by show q1 + 6 ≤ q1 + 20; omega) (by show q2 + 50 ≤ q2 + 2000; omega)) (fun z => absurd ?_ z)
    exact (q_cls hm _ _).1.symm
theorem lw_face {i q1 q2 : Nat} (hi : i + 7 ≤ (xS G).2.1) (hL : (xS G).2.1 ≤ 448) (h : LwI w) (hq1 : q1 + 20 ≤ 600000) (hq2 : q2 + 2000 ≤ 7302250) (hk : ∀ w1 r1 r2, LwI w1 → r1 ≤ q1 + 20 → r2 ≤ q2 + 2000 → Wq G ML_law 1635 [some (.ref 0), some (.ref 2), some (.ref 79), some (.int (nI i))] [] (r1, r2) w1 Q) : Wq G ML_law 253 [some (.ref 0), some (.ref 2), some (.ref 79), some (.int (nI i))] [] (q1, q2) w Q := by
  obtain ⟨A, hR, hi0, hz, h4⟩ := h
  have T := hi0.1.1
  have X := hi0.1.2.1
  have H := hi0.1.2.2.1
  have Ac := hi0.1.2.2.2.1
  have D := hi0.1.2.2.2.2.1
  have Vr := hi0.1.2.2.2.2.2.2.1
  have V := hi0.1.vrd
  have C := hi0.2.1
  have Qi := hi0.2.2.1
  have Tr := hi0.2.2.2.1
  have Ht := hi0.2.2.2.2
  refine Wq.low (fun lo => ?_)
  have l0 := lo.2.1
  have v : ∀ {k}, k < 7 → vp_in (nI i + nI k) (gN w 1 0) := fun hk => v_in lo hi hL hk
  refine Wq.go okL_law_1 4 [257] ?_
  refine And.intro hR.k2 (And.intro ⟨by show q1 + 6 ≤ 600000; omega, by show q2 + 50 ≤ 7302250; omega⟩ (c11_face hR T X H Qi hz (fun A1 w1 hF => ?_)))
  have hm : Mq w w1 := hF.2.2.1
  have hi1 := hm.inv hi0
  have T' := hi1.1.1
  have X' := hi1.1.2.1
  have H' := hi1.1.2.2.1
  have Vr' := hi1.1.2.2.2.2.2.2.1
  have V' := hi1.1.vrd
  have V6' := inv_V6 hi1
  have C' := hi1.2.1
  have Qi' := hi1.2.2.1
  have Ht' := hi1.2.2.2.2
  refine Wq.low (fun lo1 => ?_)
  have l1 := lo1.2.1
  have e20 : gI w1 20 0 = gI w 20 0 := lo1.2.2.2.2.2.1.trans lo.2.2.2.2.2.1.symm
  have v1 : ∀ {k}, k < 7 → vp_in (nI i + nI k) (gN w1 1 0) := fun hk => v_in lo1 hi hL hk
  refine Wq.go okL_law_1 7 [1635] ?_
  refine And.intro ⟨hF.2.2.2.trans h4, rfl⟩ (c12_face T' ?_)
  have hLI := LwI.of h4 hF (q_face hm) Sc.rf (i_face hi0)
  refine And.intro (fun _ => hk _ _ _ hLI (by show q1 + 6 ≤ q1 + 20; omega) (by show q2 + 50 ≤ q2 + 2000; omega)) (fun z => absurd ?_ z)
  exact (q_face hm).1.symm
theorem lw_under {i q1 q2 : Nat} (hi : i + 7 ≤ (xS G).2.1) (hL : (xS G).2.1 ≤ 448) (h : LwI w) (hq1 : q1 + 20 ≤ 600000) (hq2 : q2 + 2000 ≤ 7302250) (hk : ∀ w1 r1 r2, LwI w1 → r1 ≤ q1 + 20 → r2 ≤ q2 + 2000 → Wq G ML_law 1635 [some (.ref 0), some (.ref 2), some (.ref 79), some (.int (nI i))] [] (r1, r2) w1 Q) : Wq G ML_law 266 [some (.ref 0), some (.ref 2), some (.ref 79), some (.int (nI i))] [] (q1, q2) w Q := by
  obtain ⟨A, hR, hi0, hz, h4⟩ := h
  have T := hi0.1.1
  have X := hi0.1.2.1
  have H := hi0.1.2.2.1
  have Ac := hi0.1.2.2.2.1
  have D := hi0.1.2.2.2.2.1
  have Vr := hi0.1.2.2.2.2.2.2.1
  have V := hi0.1.vrd
  have C := hi0.2.1
  have Qi := hi0.2.2.1
  have Tr := hi0.2.2.2.1
  have Ht := hi0.2.2.2.2
  refine Wq.low (fun lo => ?_)
  have l0 := lo.2.1
  have v : ∀ {k}, k < 7 → vp_in (nI i + nI k) (gN w 1 0) := fun hk => v_in lo hi hL hk
  refine Wq.go okL_law_1 14 [280] ?_
  refine And.intro (Or.inl l0) (And.intro (v (k := 1) (by omega)) (And.intro (Or.inl l0) (And.intro (v (k := 2) (by omega)) (And.intro hR.k2 (c11_under hR T D hz (fun A1 w1 hF => ?_))))))
  have hm : Mq w w1 := hF.2.2.1
  have hi1 := hm.inv hi0
  have T' := hi1.1.1
  have X' := hi1.1.2.1
  have H' := hi1.1.2.2.1
  have Vr' := hi1.1.2.2.2.2.2.2.1
  have V' := hi1.1.vrd
  have V6' := inv_V6 hi1
  have C' := hi1.2.1
  have Qi' := hi1.2.2.1
  have Ht' := hi1.2.2.2.2
  refine Wq.low (fun lo1 => ?_)
  have l1 := lo1.2.1
  have e20 : gI w1 20 0 = gI w 20 0 := lo1.2.2.2.2.2.1.trans lo.2.2.2.2.2.1.symm
  have v1 : ∀ {k}, k < 7 → vp_in (nI i + nI k) (gN w1 1 0) := fun hk => v_in lo1 hi hL hk
  refine Wq.go (tab_app okL_law_1 okL_law_2) 17 [1635] ?_
  refine And.intro (Or.inl l1) (And.intro (v1 (k := 1) (by omega)) (And.intro (Or.inl l1) (And.intro (v1 (k := 2) (by omega)) (And.intro ⟨hF.2.2.2.trans h4, rfl⟩ (c12_under T' (fun w2 hS => ?_))))))
  rw [e20] at hS
  have hLI := LwI.of h4 hF (q_under hm _ _) hS (i_under hi0 _ _)
  refine And.intro (fun _ => hk _ _ _ hLI (by show q1 ≤ q1 + 20; omega) (by show q2 ≤ q2 + 2000; omega)) (fun z => absurd ?_ z)
  rw [e20]; exact (q_under hm _ _).1.symm
theorem lw_variable {i q1 q2 : Nat} (hi : i + 7 ≤ (xS G).2.1) (hL : (xS G).2.1 ≤ 448) (h : LwI w) (hq1 : q1 + 20 ≤ 600000) (hq2 : q2 + 2000 ≤ 7302250) (hk : ∀ w1 r1 r2, LwI w1 → r1 ≤ q1 + 20 → r2 ≤ q2 + 2000 → Wq G ML_law 1635 [some (.ref 0), some (.ref 2), some (.ref 79), some (.int (nI i))] [] (r1, r2) w1 Q) : Wq G ML_law 299 [some (.ref 0), some (.ref 2), some (.ref 79), some (.int (nI i))] [] (q1, q2) w Q := by
  obtain ⟨A, hR, hi0, hz, h4⟩ := h
  have T := hi0.1.1
  have X := hi0.1.2.1
  have H := hi0.1.2.2.1
  have Ac := hi0.1.2.2.2.1
  have D := hi0.1.2.2.2.2.1
  have Vr := hi0.1.2.2.2.2.2.2.1
  have V := hi0.1.vrd
  have C := hi0.2.1
  have Qi := hi0.2.2.1
  have Tr := hi0.2.2.2.1
  have Ht := hi0.2.2.2.2
  refine Wq.low (fun lo => ?_)
  have l0 := lo.2.1
  have v : ∀ {k}, k < 7 → vp_in (nI i + nI k) (gN w 1 0) := fun hk => v_in lo hi hL hk
  refine Wq.go okL_law_2 14 [313] ?_
  refine And.intro (Or.inl l0) (And.intro (v (k := 1) (by omega)) (And.intro (Or.inl l0) (And.intro (v (k := 2) (by omega)) (And.intro hR.k2 (And.intro ⟨by show q1 + 6 ≤ 600000; omega, by show q2 + 50 ≤ 7302250; omega⟩ (c11_variable hR T X H Qi hz (fun A1 w1 hF => ?_)))))))
  have hm : Mq w w1 := hF.2.2.1
  have hi1 := hm.inv hi0
  have T' := hi1.1.1
  have X' := hi1.1.2.1
  have H' := hi1.1.2.2.1
  have Vr' := hi1.1.2.2.2.2.2.2.1
  have V' := hi1.1.vrd
  have V6' := inv_V6 hi1
  have C' := hi1.2.1
  have Qi' := hi1.2.2.1
  have Ht' := hi1.2.2.2.2
  refine Wq.low (fun lo1 => ?_)
  have l1 := lo1.2.1
  have e20 : gI w1 20 0 = gI w 20 0 := lo1.2.2.2.2.2.1.trans lo.2.2.2.2.2.1.symm
  have v1 : ∀ {k}, k < 7 → vp_in (nI i + nI k) (gN w1 1 0) := fun hk => v_in lo1 hi hL hk
  refine Wq.go okL_law_2 17 [1635] ?_
  refine And.intro (Or.inl l1) (And.intro (v1 (k := 1) (by omega)) (And.intro (Or.inl l1) (And.intro (v1 (k := 2) (by omega)) (And.intro ⟨hF.2.2.2.trans h4, rfl⟩ (c12_variable T' ?_)))))
  rw [e20]
  have hLI := LwI.of h4 hF (q_var hm _ _) Sc.rf (i_var hi0 _ _)
  refine And.intro (fun _ => hk _ _ _ hLI (by show q1 + 6 ≤ q1 + 20; omega) (by show q2 + 50 ≤ q2 + 2000; omega)) (fun z => absurd ?_ z)
  exact (q_var hm _ _).1.symm
theorem lw_row {i q1 q2 : Nat} (hi : i + 7 ≤ (xS G).2.1) (hL : (xS G).2.1 ≤ 448) (h : LwI w) (hq1 : q1 + 20 ≤ 600000) (hq2 : q2 + 2000 ≤ 7302250) (hk : ∀ w1 r1 r2, LwI w1 → r1 ≤ q1 + 20 → r2 ≤ q2 + 2000 → Wq G ML_law 1635 [some (.ref 0), some (.ref 2), some (.ref 79), some (.int (nI i))] [] (r1, r2) w1 Q) : Wq G ML_law 332 [some (.ref 0), some (.ref 2), some (.ref 79), some (.int (nI i))] [] (q1, q2) w Q := by
  obtain ⟨A, hR, hi0, hz, h4⟩ := h
  have T := hi0.1.1
  have X := hi0.1.2.1
  have H := hi0.1.2.2.1
  have Ac := hi0.1.2.2.2.1
  have D := hi0.1.2.2.2.2.1
  have Vr := hi0.1.2.2.2.2.2.2.1
  have V := hi0.1.vrd
  have C := hi0.2.1
  have Qi := hi0.2.2.1
  have Tr := hi0.2.2.2.1
  have Ht := hi0.2.2.2.2
  refine Wq.low (fun lo => ?_)
  have l0 := lo.2.1
  have v : ∀ {k}, k < 7 → vp_in (nI i + nI k) (gN w 1 0) := fun hk => v_in lo hi hL hk
  refine Wq.go (tab_app okL_law_2 okL_law_3) 9 [341] ?_
  refine And.intro (Or.inl l0) (And.intro (v (k := 1) (by omega)) (And.intro hR.k2 (And.intro ⟨by show q1 + 6 ≤ 600000; omega, by show q2 + 50 ≤ 7302250; omega⟩ (c11_row hR T X H Qi hz (fun A1 w1 hF => ?_)))))
  have hm : Mq w w1 := hF.2.2.1
  have hi1 := hm.inv hi0
  have T' := hi1.1.1
  have X' := hi1.1.2.1
  have H' := hi1.1.2.2.1
  have Vr' := hi1.1.2.2.2.2.2.2.1
  have V' := hi1.1.vrd
  have V6' := inv_V6 hi1
  have C' := hi1.2.1
  have Qi' := hi1.2.2.1
  have Ht' := hi1.2.2.2.2
  refine Wq.low (fun lo1 => ?_)
  have l1 := lo1.2.1
  have e20 : gI w1 20 0 = gI w 20 0 := lo1.2.2.2.2.2.1.trans lo.2.2.2.2.2.1.symm
  have v1 : ∀ {k}, k < 7 → vp_in (nI i + nI k) (gN w1 1 0) := fun hk => v_in lo1 hi hL hk
  refine Wq.go okL_law_3 12 [1635] ?_
  refine And.intro (Or.inl l1) (And.intro (v1 (k := 1) (by omega)) (And.intro ⟨hF.2.2.2.trans h4, rfl⟩ (c12_row T' ?_)))
  rw [e20]
  have hLI := LwI.of h4 hF (q_row hm _) Sc.rf (i_row hi0 _)
  refine And.intro (fun _ => hk _ _ _ hLI (by show q1 + 6 ≤ q1 + 20; omega) (by show q2 + 50 ≤ q2 + 2000; omega)) (fun z => absurd ?_ z)
  exact (q_row hm _).1.symm
theorem lw_erased {i q1 q2 : Nat} (hi : i + 7 ≤ (xS G).2.1) (hL : (xS G).2.1 ≤ 448) (h : LwI w) (hq1 : q1 + 20 ≤ 600000) (hq2 : q2 + 2000 ≤ 7302250) (hk : ∀ w1 r1 r2, LwI w1 → r1 ≤ q1 + 20 → r2 ≤ q2 + 2000 → Wq G ML_law 1635 [some (.ref 0), some (.ref 2), some (.ref 79), some (.int (nI i))] [] (r1, r2) w1 Q) : Wq G ML_law 355 [some (.ref 0), some (.ref 2), some (.ref 79), some (.int (nI i))] [] (q1, q2) w Q := by
  obtain ⟨A, hR, hi0, hz, h4⟩ := h
  have T := hi0.1.1
  have X := hi0.1.2.1
  have H := hi0.1.2.2.1
  have Ac := hi0.1.2.2.2.1
  have D := hi0.1.2.2.2.2.1
  have Vr := hi0.1.2.2.2.2.2.2.1
  have V := hi0.1.vrd
  have C := hi0.2.1
  have Qi := hi0.2.2.1
  have Tr := hi0.2.2.2.1
  have Ht := hi0.2.2.2.2
  refine Wq.low (fun lo => ?_)
  have l0 := lo.2.1
  have v : ∀ {k}, k < 7 → vp_in (nI i + nI k) (gN w 1 0) := fun hk => v_in lo hi hL hk
  refine Wq.go okL_law_3 14 [369] ?_
  refine And.intro (Or.inl l0) (And.intro (v (k := 1) (by omega)) (And.intro (Or.inl l0) (And.intro (v (k := 2) (by omega)) (And.intro hR.k2 (c11_erased hR T hz (fun A1 w1 hF => ?_))))))
  have hm : Mq w w1 := hF.2.2.1
  have hi1 := hm.inv hi0
  have T' := hi1.1.1
  have X' := hi1.1.2.1
  have H' := hi1.1.2.2.1
  have Vr' := hi1.1.2.2.2.2.2.2.1
  have V' := hi1.1.vrd
  have V6' := inv_V6 hi1
  have C' := hi1.2.1
  have Qi' := hi1.2.2.1
  have Ht' := hi1.2.2.2.2
  refine Wq.low (fun lo1 => ?_)
  have l1 := lo1.2.1
  have e20 : gI w1 20 0 = gI w 20 0 := lo1.2.2.2.2.2.1.trans lo.2.2.2.2.2.1.symm
  have v1 : ∀ {k}, k < 7 → vp_in (nI i + nI k) (gN w1 1 0) := fun hk => v_in lo1 hi hL hk
  refine Wq.go (tab_app okL_law_3 okL_law_4) 17 [1635] ?_
  refine And.intro (Or.inl l1) (And.intro (v1 (k := 1) (by omega)) (And.intro (Or.inl l1) (And.intro (v1 (k := 2) (by omega)) (And.intro ⟨hF.2.2.2.trans h4, rfl⟩ (c12_erased T' ?_)))))
  rw [e20]
  have hLI := LwI.of h4 hF (q_erased hm _ _) Sc.rf (i_erased hi0 _ _)
  refine And.intro (fun _ => hk _ _ _ hLI (by show q1 ≤ q1 + 20; omega) (by show q2 ≤ q2 + 2000; omega)) (fun z => absurd ?_ z)
  exact (q_erased hm _ _).1.symm
theorem lw_is {i q1 q2 : Nat} (hi : i + 7 ≤ (xS G).2.1) (hL : (xS G).2.1 ≤ 448) (h : LwI w) (hq1 : q1 + 20 ≤ 600000) (hq2 : q2 + 2000 ≤ 7302250) (hk : ∀ w1 r1 r2, LwI w1 → r1 ≤ q1 + 20 → r2 ≤ q2 + 2000 → Wq G ML_law 1635 [some (.ref 0), some (.ref 2), some (.ref 79), some (.int (nI i))] [] (r1, r2) w1 Q) : Wq G ML_law 388 [some (.ref 0), some (.ref 2), some (.ref 79), some (.int (nI i))] [] (q1, q2) w Q := by
  obtain ⟨A, hR, hi0, hz, h4⟩ := h
  have T := hi0.1.1
  have X := hi0.1.2.1
  have H := hi0.1.2.2.1
  have Ac := hi0.1.2.2.2.1
  have D := hi0.1.2.2.2.2.1
  have Vr := hi0.1.2.2.2.2.2.2.1
  have V := hi0.1.vrd
  have C := hi0.2.1
  have Qi := hi0.2.2.1
  have Tr := hi0.2.2.2.1
  have Ht := hi0.2.2.2.2
  refine Wq.low (fun lo => ?_)
  have l0 := lo.2.1
  have v : ∀ {k}, k < 7 → vp_in (nI i + nI k) (gN w 1 0) := fun hk => v_in lo hi hL hk
  refine Wq.go okL_law_4 14 [402] ?_
  refine And.intro (Or.inl l0) (And.intro (v (k := 1) (by omega)) (And.intro (Or.inl l0) (And.intro (v (k := 2) (by omega)) (And.intro hR.k2 (c11_is hR T hz (fun A1 w1 hF => ?_))))))
  have hm : Mq w w1 := hF.2.2.1
  have hi1 := hm.inv hi0
  have T' := hi1.1.1
  have X' := hi1.1.2.1
  have H' := hi1.1.2.2.1
  have Vr' := hi1.1.2.2.2.2.2.2.1
  have V' := hi1.1.vrd
  have V6' := inv_V6 hi1
  have C' := hi1.2.1
  have Qi' := hi1.2.2.1
  have Ht' := hi1.2.2.2.2
  refine Wq.low (fun lo1 => ?_)
  have l1 := lo1.2.1
  have e20 : gI w1 20 0 = gI w 20 0 := lo1.2.2.2.2.2.1.trans lo.2.2.2.2.2.1.symm
  have v1 : ∀ {k}, k < 7 → vp_in (nI i + nI k) (gN w1 1 0) := fun hk => v_in lo1 hi hL hk
  refine Wq.go okL_law_4 17 [1635] ?_
  refine And.intro (Or.inl l1) (And.intro (v1 (k := 1) (by omega)) (And.intro (Or.inl l1) (And.intro (v1 (k := 2) (by omega)) (And.intro ⟨hF.2.2.2.trans h4, rfl⟩ (c12_is T' (fun w2 hS => ?_))))))
  rw [e20] at hS
  have hLI := LwI.of h4 hF (q_is hm _ _) hS (i_is hi0 _ _)
  refine And.intro (fun _ => hk _ _ _ hLI (by show q1 ≤ q1 + 20; omega) (by show q2 ≤ q2 + 2000; omega)) (fun z => absurd ?_ z)
  rw [e20]; exact (q_is hm _ _).1.symm
theorem lw_field {i q1 q2 : Nat} (hi : i + 7 ≤ (xS G).2.1) (hL : (xS G).2.1 ≤ 448) (h : LwI w) (hq1 : q1 + 20 ≤ 600000) (hq2 : q2 + 2000 ≤ 7302250) (hk : ∀ w1 r1 r2, LwI w1 → r1 ≤ q1 + 20 → r2 ≤ q2 + 2000 → Wq G ML_law 1635 [some (.ref 0), some (.ref 2), some (.ref 79), some (.int (nI i))] [] (r1, r2) w1 Q) : Wq G ML_law 421 [some (.ref 0), some (.ref 2), some (.ref 79), some (.int (nI i))] [] (q1, q2) w Q := by
  obtain ⟨A, hR, hi0, hz, h4⟩ := h
  have T := hi0.1.1
  have X := hi0.1.2.1
  have H := hi0.1.2.2.1
  have Ac := hi0.1.2.2.2.1
  have D := hi0.1.2.2.2.2.1
  have Vr := hi0.1.2.2.2.2.2.2.1
  have V := hi0.1.vrd
  have C := hi0.2.1
  have Qi := hi0.2.2.1
  have Tr := hi0.2.2.2.1
  have Ht := hi0.2.2.2.2
  refine Wq.low (fun lo => ?_)
  have l0 := lo.2.1
  have v : ∀ {k}, k < 7 → vp_in (nI i + nI k) (gN w 1 0) := fun hk => v_in lo hi hL hk
  by_cases c : gI w 20 0 (nI i + nI 4).toNatClampNeg = 0
  · refine Wq.go (tab_app okL_law_4 okL_law_5) 28 [453] ?_
    refine And.intro (Or.inl l0) (And.intro (v (k := 1) (by omega)) (And.intro (Or.inl l0) (And.intro (v (k := 2) (by omega)) (And.intro (Or.inl l0) (And.intro (v (k := 3) (by omega)) (And.intro (Or.inl l0) (And.intro (v (k := 4) (by omega)) (And.intro (fun _ => And.intro hR.k2 (And.intro ⟨by show q1 + 1 ≤ 600000; omega, by show q2 + 9 ≤ 7302250; omega⟩ (c11_field hR T H hz (Or.inl rfl) (fun A1 w1 hF => ?_)))) (fun z => absurd c z)))))))))
    have hm : Mq w w1 := hF.2.2.1
    have hi1 := hm.inv hi0
    have T' := hi1.1.1
    have X' := hi1.1.2.1
    have H' := hi1.1.2.2.1
    have Vr' := hi1.1.2.2.2.2.2.2.1
    have V' := hi1.1.vrd
    have V6' := inv_V6 hi1
    have C' := hi1.2.1
    have Qi' := hi1.2.2.1
    have Ht' := hi1.2.2.2.2
    refine Wq.low (fun lo1 => ?_)
    have l1 := lo1.2.1
    have e20 : gI w1 20 0 = gI w 20 0 := lo1.2.2.2.2.2.1.trans lo.2.2.2.2.2.1.symm
    have v1 : ∀ {k}, k < 7 → vp_in (nI i + nI k) (gN w1 1 0) := fun hk => v_in lo1 hi hL hk
    refine Wq.go (tab_app okL_law_5 okL_law_6) 31 [1635] ?_
    refine And.intro (Or.inl l1) (And.intro (v1 (k := 1) (by omega)) (And.intro (Or.inl l1) (And.intro (v1 (k := 2) (by omega)) (And.intro (Or.inl l1) (And.intro (v1 (k := 3) (by omega)) (And.intro (Or.inl l1) (And.intro (v1 (k := 4) (by omega)) (And.intro (fun _ => And.intro ⟨hF.2.2.2.trans h4, rfl⟩ (c12_field T' rfl (fun w2 hS => ?_))) (fun z => absurd (by rw [e20]; exact c) z)))))))))
    rw [e20] at hS
    have hLI := LwI.of h4 hF (q_field hm _ _ _ _) hS (i_field hi0 _ _ _ (Or.inl rfl))
    refine And.intro (fun _ => hk _ _ _ hLI (by show q1 + 1 ≤ q1 + 20; omega) (by show q2 + 9 ≤ q2 + 2000; omega)) (fun z => absurd ?_ z)
    rw [e20]; exact (q_field hm _ _ _ _).1.symm
  · refine Wq.go (tab_app okL_law_4 okL_law_5) 28 [453] ?_
    refine And.intro (Or.inl l0) (And.intro (v (k := 1) (by omega)) (And.intro (Or.inl l0) (And.intro (v (k := 2) (by omega)) (And.intro (Or.inl l0) (And.intro (v (k := 3) (by omega)) (And.intro (Or.inl l0) (And.intro (v (k := 4) (by omega)) (And.intro (fun z => absurd z c) (fun _ => And.intro hR.k2 (And.intro ⟨by show q1 + 1 ≤ 600000; omega, by show q2 + 9 ≤ 7302250; omega⟩ (c11_field hR T H hz (Or.inr rfl) (fun A1 w1 hF => ?_))))))))))))
    have hm : Mq w w1 := hF.2.2.1
    have hi1 := hm.inv hi0
    have T' := hi1.1.1
    have X' := hi1.1.2.1
    have H' := hi1.1.2.2.1
    have Vr' := hi1.1.2.2.2.2.2.2.1
    have V' := hi1.1.vrd
    have V6' := inv_V6 hi1
    have C' := hi1.2.1
    have Qi' := hi1.2.2.1
    have Ht' := hi1.2.2.2.2
    refine Wq.low (fun lo1 => ?_)
    have l1 := lo1.2.1
    have e20 : gI w1 20 0 = gI w 20 0 := lo1.2.2.2.2.2.1.trans lo.2.2.2.2.2.1.symm
    have v1 : ∀ {k}, k < 7 → vp_in (nI i + nI k) (gN w1 1 0) := fun hk => v_in lo1 hi hL hk
    refine Wq.go (tab_app okL_law_5 okL_law_6) 31 [1635] ?_
    refine And.intro (Or.inl l1) (And.intro (v1 (k := 1) (by omega)) (And.intro (Or.inl l1) (And.intro (v1 (k := 2) (by omega)) (And.intro (Or.inl l1) (And.intro (v1 (k := 3) (by omega)) (And.intro (Or.inl l1) (And.intro (v1 (k := 4) (by omega)) (And.intro (fun z => absurd (by rw [e20] at z; exact z) c) (fun _ => And.intro ⟨hF.2.2.2.trans h4, rfl⟩ (c12_field T' rfl (fun w2 hS => ?_)))))))))))
    rw [e20] at hS
    have hLI := LwI.of h4 hF (q_field hm _ _ _ _) hS (i_field hi0 _ _ _ (Or.inr rfl))
    refine And.intro (fun _ => hk _ _ _ hLI (by show q1 + 1 ≤ q1 + 20; omega) (by show q2 + 9 ≤ q2 + 2000; omega)) (fun z => absurd ?_ z)
    rw [e20]; exact (q_field hm _ _ _ _).1.symm
theorem lw_method {i q1 q2 : Nat} (hi : i + 7 ≤ (xS G).2.1) (hL : (xS G).2.1 ≤ 448) (h : LwI w) (hq1 : q1 + 20 ≤ 600000) (hq2 : q2 + 2000 ≤ 7302250) (hk : ∀ w1 r1 r2, LwI w1 → r1 ≤ q1 + 20 → r2 ≤ q2 + 2000 → Wq G ML_law 1635 [some (.ref 0), some (.ref 2), some (.ref 79), some (.int (nI i))] [] (r1, r2) w1 Q) : Wq G ML_law 490 [some (.ref 0), some (.ref 2), some (.ref 79), some (.int (nI i))] [] (q1, q2) w Q := by
  obtain ⟨A, hR, hi0, hz, h4⟩ := h
  have T := hi0.1.1
  have X := hi0.1.2.1
  have H := hi0.1.2.2.1
  have Ac := hi0.1.2.2.2.1
  have D := hi0.1.2.2.2.2.1
  have Vr := hi0.1.2.2.2.2.2.2.1
  have V := hi0.1.vrd
  have C := hi0.2.1
  have Qi := hi0.2.2.1
  have Tr := hi0.2.2.2.1
  have Ht := hi0.2.2.2.2
  refine Wq.low (fun lo => ?_)
  have l0 := lo.2.1
  have v : ∀ {k}, k < 7 → vp_in (nI i + nI k) (gN w 1 0) := fun hk => v_in lo hi hL hk
  refine Wq.go okL_law_6 24 [514] ?_
  refine And.intro (Or.inl l0) (And.intro (v (k := 1) (by omega)) (And.intro (Or.inl l0) (And.intro (v (k := 2) (by omega)) (And.intro (Or.inl l0) (And.intro (v (k := 3) (by omega)) (And.intro (Or.inl l0) (And.intro (v (k := 4) (by omega)) (And.intro hR.k2 (And.intro ⟨by show q1 + 1 ≤ 600000; omega, by show q2 + 9 ≤ 7302250; omega⟩ (c11_method hR T H hz (fun A1 w1 hF => ?_)))))))))))
  have hm : Mq w w1 := hF.2.2.1
  have hi1 := hm.inv hi0
  have T' := hi1.1.1
  have X' := hi1.1.2.1
  have H' := hi1.1.2.2.1
  have Vr' := hi1.1.2.2.2.2.2.2.1
  have V' := hi1.1.vrd
  have V6' := inv_V6 hi1
  have C' := hi1.2.1
  have Qi' := hi1.2.2.1
  have Ht' := hi1.2.2.2.2
  refine Wq.low (fun lo1 => ?_)
  have l1 := lo1.2.1
  have e20 : gI w1 20 0 = gI w 20 0 := lo1.2.2.2.2.2.1.trans lo.2.2.2.2.2.1.symm
  have v1 : ∀ {k}, k < 7 → vp_in (nI i + nI k) (gN w1 1 0) := fun hk => v_in lo1 hi hL hk
  refine Wq.go (tab_app okL_law_6 okL_law_7) 27 [1635] ?_
  refine And.intro (Or.inl l1) (And.intro (v1 (k := 1) (by omega)) (And.intro (Or.inl l1) (And.intro (v1 (k := 2) (by omega)) (And.intro (Or.inl l1) (And.intro (v1 (k := 3) (by omega)) (And.intro (Or.inl l1) (And.intro (v1 (k := 4) (by omega)) (And.intro ⟨hF.2.2.2.trans h4, rfl⟩ (c12_method T' (fun w2 hS => ?_))))))))))
  rw [e20] at hS
  have hLI := LwI.of h4 hF (q_method hm _ _ _ _) hS (i_method hi0 _ _ _ _)
  refine And.intro (fun _ => hk _ _ _ hLI (by show q1 + 1 ≤ q1 + 20; omega) (by show q2 + 9 ≤ q2 + 2000; omega)) (fun z => absurd ?_ z)
  rw [e20]; exact (q_method hm _ _ _ _).1.symm
theorem lw_found {i q1 q2 : Nat} (hi : i + 7 ≤ (xS G).2.1) (hL : (xS G).2.1 ≤ 448) (h : LwI w) (hq1 : q1 + 20 ≤ 600000) (hq2 : q2 + 2000 ≤ 7302250) (hk : ∀ w1 r1 r2, LwI w1 → r1 ≤ q1 + 20 → r2 ≤ q2 + 2000 → Wq G ML_law 1635 [some (.ref 0), some (.ref 2), some (.ref 79), some (.int (nI i))] [] (r1, r2) w1 Q) : Wq G ML_law 543 [some (.ref 0), some (.ref 2), some (.ref 79), some (.int (nI i))] [] (q1, q2) w Q := by
  obtain ⟨A, hR, hi0, hz, h4⟩ := h
  have T := hi0.1.1
  have X := hi0.1.2.1
  have H := hi0.1.2.2.1
  have Ac := hi0.1.2.2.2.1
  have D := hi0.1.2.2.2.2.1
  have Vr := hi0.1.2.2.2.2.2.2.1
  have V := hi0.1.vrd
  have C := hi0.2.1
  have Qi := hi0.2.2.1
  have Tr := hi0.2.2.2.1
  have Ht := hi0.2.2.2.2
  refine Wq.low (fun lo => ?_)
  have l0 := lo.2.1
  have v : ∀ {k}, k < 7 → vp_in (nI i + nI k) (gN w 1 0) := fun hk => v_in lo hi hL hk
  refine Wq.go okL_law_7 14 [557] ?_
  refine And.intro (Or.inl l0) (And.intro (v (k := 1) (by omega)) (And.intro (Or.inl l0) (And.intro (v (k := 2) (by omega)) (And.intro hR.k2 (c11_found hR T Ac hz (fun A1 w1 hF => ?_))))))
  have hm : Mq w w1 := hF.2.2.1
  have hi1 := hm.inv hi0
  have T' := hi1.1.1
  have X' := hi1.1.2.1
  have H' := hi1.1.2.2.1
  have Vr' := hi1.1.2.2.2.2.2.2.1
  have V' := hi1.1.vrd
  have V6' := inv_V6 hi1
  have C' := hi1.2.1
  have Qi' := hi1.2.2.1
  have Ht' := hi1.2.2.2.2
  refine Wq.low (fun lo1 => ?_)
  have l1 := lo1.2.1
  have e20 : gI w1 20 0 = gI w 20 0 := lo1.2.2.2.2.2.1.trans lo.2.2.2.2.2.1.symm
  have v1 : ∀ {k}, k < 7 → vp_in (nI i + nI k) (gN w1 1 0) := fun hk => v_in lo1 hi hL hk
  refine Wq.go okL_law_7 17 [1635] ?_
  refine And.intro (Or.inl l1) (And.intro (v1 (k := 1) (by omega)) (And.intro (Or.inl l1) (And.intro (v1 (k := 2) (by omega)) (And.intro ⟨hF.2.2.2.trans h4, rfl⟩ (c12_found T' (fun w2 hS => ?_))))))
  rw [e20] at hS
  have hLI := LwI.of h4 hF (q_found hm _ _) hS (i_found hi0 _ _)
  refine And.intro (fun _ => hk _ _ _ hLI (by show q1 ≤ q1 + 20; omega) (by show q2 ≤ q2 + 2000; omega)) (fun z => absurd ?_ z)
  rw [e20]; exact (q_found hm _ _).1.symm
theorem lw_seen {i q1 q2 : Nat} (hi : i + 7 ≤ (xS G).2.1) (hL : (xS G).2.1 ≤ 448) (h : LwI w) (hq1 : q1 + 20 ≤ 600000) (hq2 : q2 + 2000 ≤ 7302250) (hk : ∀ w1 r1 r2, LwI w1 → r1 ≤ q1 + 20 → r2 ≤ q2 + 2000 → Wq G ML_law 1635 [some (.ref 0), some (.ref 2), some (.ref 79), some (.int (nI i))] [] (r1, r2) w1 Q) : Wq G ML_law 576 [some (.ref 0), some (.ref 2), some (.ref 79), some (.int (nI i))] [] (q1, q2) w Q := by
  obtain ⟨A, hR, hi0, hz, h4⟩ := h
  have T := hi0.1.1
  have X := hi0.1.2.1
  have H := hi0.1.2.2.1
  have Ac := hi0.1.2.2.2.1
  have D := hi0.1.2.2.2.2.1
  have Vr := hi0.1.2.2.2.2.2.2.1
  have V := hi0.1.vrd
  have C := hi0.2.1
  have Qi := hi0.2.2.1
  have Tr := hi0.2.2.2.1
  have Ht := hi0.2.2.2.2
  refine Wq.low (fun lo => ?_)
  have l0 := lo.2.1
  have v : ∀ {k}, k < 7 → vp_in (nI i + nI k) (gN w 1 0) := fun hk => v_in lo hi hL hk
  refine Wq.go (tab_app okL_law_7 okL_law_8) 14 [590] ?_
  refine And.intro (Or.inl l0) (And.intro (v (k := 1) (by omega)) (And.intro (Or.inl l0) (And.intro (v (k := 2) (by omega)) (And.intro hR.k2 (c11_seen hR T hz (fun A1 w1 hF => ?_))))))
  have hm : Mq w w1 := hF.2.2.1
  have hi1 := hm.inv hi0
  have T' := hi1.1.1
  have X' := hi1.1.2.1
  have H' := hi1.1.2.2.1
  have Vr' := hi1.1.2.2.2.2.2.2.1
  have V' := hi1.1.vrd
  have V6' := inv_V6 hi1
  have C' := hi1.2.1
  have Qi' := hi1.2.2.1
  have Ht' := hi1.2.2.2.2
  refine Wq.low (fun lo1 => ?_)
  have l1 := lo1.2.1
  have e20 : gI w1 20 0 = gI w 20 0 := lo1.2.2.2.2.2.1.trans lo.2.2.2.2.2.1.symm
  have v1 : ∀ {k}, k < 7 → vp_in (nI i + nI k) (gN w1 1 0) := fun hk => v_in lo1 hi hL hk
  refine Wq.go okL_law_8 17 [1635] ?_
  refine And.intro (Or.inl l1) (And.intro (v1 (k := 1) (by omega)) (And.intro (Or.inl l1) (And.intro (v1 (k := 2) (by omega)) (And.intro ⟨hF.2.2.2.trans h4, rfl⟩ (c12_seen T' (fun w2 hS => ?_))))))
  rw [e20] at hS
  have hLI := LwI.of h4 hF (q_seen hm _ _) hS (i_seen hi0 _ _)
  refine And.intro (fun _ => hk _ _ _ hLI (by show q1 ≤ q1 + 20; omega) (by show q2 ≤ q2 + 2000; omega)) (fun z => absurd ?_ z)
  rw [e20]; exact (q_seen hm _ _).1.symm
theorem lw_thing {i q1 q2 : Nat} (hi : i + 7 ≤ (xS G).2.1) (hL : (xS G).2.1 ≤ 448) (h : LwI w) (hq1 : q1 + 20 ≤ 600000) (hq2 : q2 + 2000 ≤ 7302250) (hk : ∀ w1 r1 r2, LwI w1 → r1 ≤ q1 + 20 → r2 ≤ q2 + 2000 → Wq G ML_law 1635 [some (.ref 0), some (.ref 2), some (.ref 79), some (.int (nI i))] [] (r1, r2) w1 Q) : Wq G ML_law 609 [some (.ref 0), some (.ref 2), some (.ref 79), some (.int (nI i))] [] (q1, q2) w Q := by
  obtain ⟨A, hR, hi0, hz, h4⟩ := h
  have T := hi0.1.1
  have X := hi0.1.2.1
  have H := hi0.1.2.2.1
  have Ac := hi0.1.2.2.2.1
  have D := hi0.1.2.2.2.2.1
  have Vr := hi0.1.2.2.2.2.2.2.1
  have V := hi0.1.vrd
  have C := hi0.2.1
  have Qi := hi0.2.2.1
  have Tr := hi0.2.2.2.1
  have Ht := hi0.2.2.2.2
  refine Wq.low (fun lo => ?_)
  have l0 := lo.2.1
  have v : ∀ {k}, k < 7 → vp_in (nI i + nI k) (gN w 1 0) := fun hk => v_in lo hi hL hk
  refine Wq.go okL_law_8 9 [618] ?_
  refine And.intro (Or.inl l0) (And.intro (v (k := 1) (by omega)) (And.intro hR.k2 (And.intro ⟨by show q1 + 2 ≤ 600000; omega, by show q2 + 1004 ≤ 7302250; omega⟩ (c11_thing hR T X hz (fun A1 w1 hF => ?_)))))
  have hm : Mq w w1 := hF.2.2.1
  have hi1 := hm.inv hi0
  have T' := hi1.1.1
  have X' := hi1.1.2.1
  have H' := hi1.1.2.2.1
  have Vr' := hi1.1.2.2.2.2.2.2.1
  have V' := hi1.1.vrd
  have V6' := inv_V6 hi1
  have C' := hi1.2.1
  have Qi' := hi1.2.2.1
  have Ht' := hi1.2.2.2.2
  refine Wq.low (fun lo1 => ?_)
  have l1 := lo1.2.1
  have e20 : gI w1 20 0 = gI w 20 0 := lo1.2.2.2.2.2.1.trans lo.2.2.2.2.2.1.symm
  have v1 : ∀ {k}, k < 7 → vp_in (nI i + nI k) (gN w1 1 0) := fun hk => v_in lo1 hi hL hk
  refine Wq.go (tab_app okL_law_8 okL_law_9) 12 [1635] ?_
  refine And.intro (Or.inl l1) (And.intro (v1 (k := 1) (by omega)) (And.intro ⟨hF.2.2.2.trans h4, rfl⟩ (c12_thing T' X' (fun w2 hS => ?_))))
  rw [e20] at hS
  have hLI := LwI.of h4 hF (q_thing hm _) hS (i_thing hi0 _)
  refine And.intro (fun _ => hk _ _ _ hLI (by show q1 + 2 ≤ q1 + 20; omega) (by show q2 + 1004 ≤ q2 + 2000; omega)) (fun z => absurd ?_ z)
  rw [e20]; exact (q_thing hm _).1.symm
theorem lw_things {i q1 q2 : Nat} (hi : i + 7 ≤ (xS G).2.1) (hL : (xS G).2.1 ≤ 448) (h : LwI w) (hq1 : q1 + 20 ≤ 600000) (hq2 : q2 + 2000 ≤ 7302250) (hk : ∀ w1 r1 r2, LwI w1 → r1 ≤ q1 + 20 → r2 ≤ q2 + 2000 → Wq G ML_law 1635 [some (.ref 0), some (.ref 2), some (.ref 79), some (.int (nI i))] [] (r1, r2) w1 Q) : Wq G ML_law 632 [some (.ref 0), some (.ref 2), some (.ref 79), some (.int (nI i))] [] (q1, q2) w Q := by
  obtain ⟨A, hR, hi0, hz, h4⟩ := h
  have T := hi0.1.1
  have X := hi0.1.2.1
  have H := hi0.1.2.2.1
  have Ac := hi0.1.2.2.2.1
  have D := hi0.1.2.2.2.2.1
  have Vr := hi0.1.2.2.2.2.2.2.1
  have V := hi0.1.vrd
  have C := hi0.2.1
  have Qi := hi0.2.2.1
  have Tr := hi0.2.2.2.1
  have Ht := hi0.2.2.2.2
  refine Wq.low (fun lo => ?_)
  have l0 := lo.2.1
  have v : ∀ {k}, k < 7 → vp_in (nI i + nI k) (gN w 1 0) := fun hk => v_in lo hi hL hk
  refine Wq.go okL_law_9 14 [646] ?_
  refine And.intro (Or.inl l0) (And.intro (v (k := 1) (by omega)) (And.intro (Or.inl l0) (And.intro (v (k := 2) (by omega)) (And.intro hR.k2 (And.intro ⟨by show q1 + 2 ≤ 600000; omega, by show q2 + 1004 ≤ 7302250; omega⟩ (c11_things hR T X hz (fun A1 w1 hF => ?_)))))))
  have hm : Mq w w1 := hF.2.2.1
  have hi1 := hm.inv hi0
  have T' := hi1.1.1
  have X' := hi1.1.2.1
  have H' := hi1.1.2.2.1
  have Vr' := hi1.1.2.2.2.2.2.2.1
  have V' := hi1.1.vrd
  have V6' := inv_V6 hi1
  have C' := hi1.2.1
  have Qi' := hi1.2.2.1
  have Ht' := hi1.2.2.2.2
  refine Wq.low (fun lo1 => ?_)
  have l1 := lo1.2.1
  have e20 : gI w1 20 0 = gI w 20 0 := lo1.2.2.2.2.2.1.trans lo.2.2.2.2.2.1.symm
  have v1 : ∀ {k}, k < 7 → vp_in (nI i + nI k) (gN w1 1 0) := fun hk => v_in lo1 hi hL hk
  refine Wq.go okL_law_9 17 [1635] ?_
  refine And.intro (Or.inl l1) (And.intro (v1 (k := 1) (by omega)) (And.intro (Or.inl l1) (And.intro (v1 (k := 2) (by omega)) (And.intro ⟨hF.2.2.2.trans h4, rfl⟩ (c12_things T' X' (fun w2 hS => ?_))))))
  rw [e20] at hS
  have hLI := LwI.of h4 hF (q_things hm _ _) hS (i_things hi0 _ _)
  refine And.intro (fun _ => hk _ _ _ hLI (by show q1 + 2 ≤ q1 + 20; omega) (by show q2 + 1004 ≤ q2 + 2000; omega)) (fun z => absurd ?_ z)
  rw [e20]; exact (q_things hm _ _).1.symm
end
