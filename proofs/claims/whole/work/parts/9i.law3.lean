/-! ===== the law's calls, printed by a program ===== -/
section
variable {G : qGX} {w : qSt} {Q : Option Value → qSt → Prop}
theorem lw_filled {i q1 q2 : Nat} (hi : i + 7 ≤ (xS G).2.1) (hL : (xS G).2.1 ≤ 448) (h : LwI w) (hq1 : q1 + 20 ≤ 600000) (hq2 : q2 + 2000 ≤ 7302250) (hk : ∀ w1 r1 r2, LwI w1 → r1 ≤ q1 + 20 → r2 ≤ q2 + 2000 → Wq G ML_law 1635 [some (.ref 0), some (.ref 2), some (.ref 79), some (.int (nI i))] [] (r1, r2) w1 Q) : Wq G ML_law 1264 [some (.ref 0), some (.ref 2), some (.ref 79), some (.int (nI i))] [] (q1, q2) w Q := by
  obtain ⟨A, hR, hi0, hz, h4⟩ := h
  have T := hi0.1.1
  have X := hi0.1.2.1
  have H := hi0.1.2.2.1
  have Ac := hi0.1.2.2.2.1
  have D := hi0.1.2.2.2.2.1
  have Vr := hi0.1.2.2.2.2.2.2.1
  have V := hi0.1.vrd
  have C := hi0.2.1
  have Qi := hi0.2.2.1
  have Tr := hi0.2.2.2.1
  have Ht := hi0.2.2.2.2
  refine Wq.low (fun lo => ?_)
  have l0 := lo.2.1
  have v : ∀ {k}, k < 7 → vp_in (nI i + nI k) (gN w 1 0) := fun hk => v_in lo hi hL hk
  refine Wq.go okL_law_22 4 [1268] ?_
  refine And.intro hR.k2 (c11_filled hR  ?_)
  refine Wq.go okL_law_22 7 [1635] ?_
  refine And.intro ⟨h4, rfl⟩ (c12_filled  ?_)
  exact And.intro (fun _ => hk w q1 q2 ⟨A, hR, hi0, hz, h4⟩ (by omega) (by omega)) (fun z => absurd rfl z)
theorem lw_cell {i q1 q2 : Nat} (hi : i + 7 ≤ (xS G).2.1) (hL : (xS G).2.1 ≤ 448) (h : LwI w) (hq1 : q1 + 20 ≤ 600000) (hq2 : q2 + 2000 ≤ 7302250) (hk : ∀ w1 r1 r2, LwI w1 → r1 ≤ q1 + 20 → r2 ≤ q2 + 2000 → Wq G ML_law 1635 [some (.ref 0), some (.ref 2), some (.ref 79), some (.int (nI i))] [] (r1, r2) w1 Q) : Wq G ML_law 1277 [some (.ref 0), some (.ref 2), some (.ref 79), some (.int (nI i))] [] (q1, q2) w Q := by
  obtain ⟨A, hR, hi0, hz, h4⟩ := h
  have T := hi0.1.1
  have X := hi0.1.2.1
  have H := hi0.1.2.2.1
  have Ac := hi0.1.2.2.2.1
  have D := hi0.1.2.2.2.2.1
  have Vr := hi0.1.2.2.2.2.2.2.1
  have V := hi0.1.vrd
  have C := hi0.2.1
  have Qi := hi0.2.2.1
  have Tr := hi0.2.2.2.1
  have Ht := hi0.2.2.2.2
  refine Wq.low (fun lo => ?_)
  have l0 := lo.2.1
  have v : ∀ {k}, k < 7 → vp_in (nI i + nI k) (gN w 1 0) := fun hk => v_in lo hi hL hk
  refine Wq.go okL_law_22 14 [1291] ?_
  refine And.intro (Or.inl l0) (And.intro (v (k := 1) (by omega)) (And.intro (Or.inl l0) (And.intro (v (k := 2) (by omega)) (And.intro hR.k2 (c11_cell hR C hz (fun A1 w1 hF => ?_))))))
  have hm : Mq w w1 := hF.2.2.1
  have hi1 := hm.inv hi0
  have T' := hi1.1.1
  have X' := hi1.1.2.1
  have H' := hi1.1.2.2.1
  have Vr' := hi1.1.2.2.2.2.2.2.1
  have V' := hi1.1.vrd
  have V6' := inv_V6 hi1
  have C' := hi1.2.1
  have Qi' := hi1.2.2.1
  have Ht' := hi1.2.2.2.2
  refine Wq.low (fun lo1 => ?_)
  have l1 := lo1.2.1
  have e20 : gI w1 20 0 = gI w 20 0 := lo1.2.2.2.2.2.1.trans lo.2.2.2.2.2.1.symm
  have v1 : ∀ {k}, k < 7 → vp_in (nI i + nI k) (gN w1 1 0) := fun hk => v_in lo1 hi hL hk
  refine Wq.go okL_law_22 18 [1635] ?_
  refine And.intro (Or.inl l1) (And.intro (v1 (k := 1) (by omega)) (And.intro (Or.inl l1) (And.intro (v1 (k := 2) (by omega)) (And.intro ⟨hF.2.2.2.trans h4, rfl⟩ (c12_cell C' (fun w2 hS => ?_))))))
  rw [e20] at hS
  have hLI := LwI.of h4 hF (q_cell hm _ _) hS (i_cell hi0 _ _)
  refine And.intro (fun _ => hk _ _ _ hLI (by show q1 ≤ q1 + 20; omega) (by show q2 ≤ q2 + 2000; omega)) (fun z => absurd ?_ z)
  rw [e20]; exact lg_eq0.mpr (q_cell hm _ _).1.symm
theorem lw_sum {i q1 q2 : Nat} (hi : i + 7 ≤ (xS G).2.1) (hL : (xS G).2.1 ≤ 448) (h : LwI w) (hq1 : q1 + 20 ≤ 600000) (hq2 : q2 + 2000 ≤ 7302250) (hk : ∀ w1 r1 r2, LwI w1 → r1 ≤ q1 + 20 → r2 ≤ q2 + 2000 → Wq G ML_law 1635 [some (.ref 0), some (.ref 2), some (.ref 79), some (.int (nI i))] [] (r1, r2) w1 Q) : Wq G ML_law 1311 [some (.ref 0), some (.ref 2), some (.ref 79), some (.int (nI i))] [] (q1, q2) w Q := by
  obtain ⟨A, hR, hi0, hz, h4⟩ := h
  have T := hi0.1.1
  have X := hi0.1.2.1
  have H := hi0.1.2.2.1
  have Ac := hi0.1.2.2.2.1
  have D := hi0.1.2.2.2.2.1
  have Vr := hi0.1.2.2.2.2.2.2.1
  have V := hi0.1.vrd
  have C := hi0.2.1
  have Qi := hi0.2.2.1
  have Tr := hi0.2.2.2.1
  have Ht := hi0.2.2.2.2
  refine Wq.low (fun lo => ?_)
  have l0 := lo.2.1
  have v : ∀ {k}, k < 7 → vp_in (nI i + nI k) (gN w 1 0) := fun hk => v_in lo hi hL hk
  refine Wq.go (tab_app okL_law_22 okL_law_23) 9 [1320] ?_
  refine And.intro (Or.inl l0) (And.intro (v (k := 1) (by omega)) (And.intro hR.k2 (c11_sum hR C hz (fun A1 w1 hF => ?_))))
  have hm : Mq w w1 := hF.2.2.1
  have hi1 := hm.inv hi0
  have T' := hi1.1.1
  have X' := hi1.1.2.1
  have H' := hi1.1.2.2.1
  have Vr' := hi1.1.2.2.2.2.2.2.1
  have V' := hi1.1.vrd
  have V6' := inv_V6 hi1
  have C' := hi1.2.1
  have Qi' := hi1.2.2.1
  have Ht' := hi1.2.2.2.2
  refine Wq.low (fun lo1 => ?_)
  have l1 := lo1.2.1
  have e20 : gI w1 20 0 = gI w 20 0 := lo1.2.2.2.2.2.1.trans lo.2.2.2.2.2.1.symm
  have v1 : ∀ {k}, k < 7 → vp_in (nI i + nI k) (gN w1 1 0) := fun hk => v_in lo1 hi hL hk
  refine Wq.go okL_law_23 13 [1635] ?_
  refine And.intro (Or.inl l1) (And.intro (v1 (k := 1) (by omega)) (And.intro ⟨hF.2.2.2.trans h4, rfl⟩ (c12_sum C' (fun w2 hS => ?_))))
  rw [e20] at hS
  have hLI := LwI.of h4 hF (q_sum hm _) hS (i_sum hi0 _)
  refine And.intro (fun _ => hk _ _ _ hLI (by show q1 ≤ q1 + 20; omega) (by show q2 ≤ q2 + 2000; omega)) (fun z => absurd ?_ z)
  rw [e20]; exact lg_eq0.mpr (q_sum hm _).1.symm
theorem lw_query {i q1 q2 : Nat} (hi : i + 7 ≤ (xS G).2.1) (hL : (xS G).2.1 ≤ 448) (h : LwI w) (hq1 : q1 + 20 ≤ 600000) (hq2 : q2 + 2000 ≤ 7302250) (hk : ∀ w1 r1 r2, LwI w1 → r1 ≤ q1 + 20 → r2 ≤ q2 + 2000 → Wq G ML_law 1635 [some (.ref 0), some (.ref 2), some (.ref 79), some (.int (nI i))] [] (r1, r2) w1 Q) : Wq G ML_law 1335 [some (.ref 0), some (.ref 2), some (.ref 79), some (.int (nI i))] [] (q1, q2) w Q := by
  obtain ⟨A, hR, hi0, hz, h4⟩ := h
  have T := hi0.1.1
  have X := hi0.1.2.1
  have H := hi0.1.2.2.1
  have Ac := hi0.1.2.2.2.1
  have D := hi0.1.2.2.2.2.1
  have Vr := hi0.1.2.2.2.2.2.2.1
  have V := hi0.1.vrd
  have C := hi0.2.1
  have Qi := hi0.2.2.1
  have Tr := hi0.2.2.2.1
  have Ht := hi0.2.2.2.2
  refine Wq.low (fun lo => ?_)
  have l0 := lo.2.1
  have v : ∀ {k}, k < 7 → vp_in (nI i + nI k) (gN w 1 0) := fun hk => v_in lo hi hL hk
  refine Wq.go okL_law_23 4 [1339] ?_
  refine And.intro hR.k2 (And.intro ⟨by show q1 + 5 ≤ 600000; omega, by show q2 + 37 ≤ 7302250; omega⟩ (c11_query hR Qi hz (fun A1 w1 hF => ?_)))
  have hm : Mq w w1 := hF.2.2.1
  have hi1 := hm.inv hi0
  have T' := hi1.1.1
  have X' := hi1.1.2.1
  have H' := hi1.1.2.2.1
  have Vr' := hi1.1.2.2.2.2.2.2.1
  have V' := hi1.1.vrd
  have V6' := inv_V6 hi1
  have C' := hi1.2.1
  have Qi' := hi1.2.2.1
  have Ht' := hi1.2.2.2.2
  refine Wq.low (fun lo1 => ?_)
  have l1 := lo1.2.1
  have e20 : gI w1 20 0 = gI w 20 0 := lo1.2.2.2.2.2.1.trans lo.2.2.2.2.2.1.symm
  have v1 : ∀ {k}, k < 7 → vp_in (nI i + nI k) (gN w1 1 0) := fun hk => v_in lo1 hi hL hk
  refine Wq.go okL_law_23 7 [1635] ?_
  refine And.intro ⟨hF.2.2.2.trans h4, rfl⟩ (c12_query Qi' (fun w2 hS => ?_))
  have hLI := LwI.of h4 hF (q_query hm) hS (i_query hi0)
  refine And.intro (fun _ => hk _ _ _ hLI (by show q1 + 5 ≤ q1 + 20; omega) (by show q2 + 37 ≤ q2 + 2000; omega)) (fun z => absurd ?_ z)
  exact (q_query hm).1.symm
theorem lw_test {i q1 q2 : Nat} (hi : i + 7 ≤ (xS G).2.1) (hL : (xS G).2.1 ≤ 448) (h : LwI w) (hq1 : q1 + 20 ≤ 600000) (hq2 : q2 + 2000 ≤ 7302250) (hk : ∀ w1 r1 r2, LwI w1 → r1 ≤ q1 + 20 → r2 ≤ q2 + 2000 → Wq G ML_law 1635 [some (.ref 0), some (.ref 2), some (.ref 79), some (.int (nI i))] [] (r1, r2) w1 Q) : Wq G ML_law 1348 [some (.ref 0), some (.ref 2), some (.ref 79), some (.int (nI i))] [] (q1, q2) w Q := by
  obtain ⟨A, hR, hi0, hz, h4⟩ := h
  have T := hi0.1.1
  have X := hi0.1.2.1
  have H := hi0.1.2.2.1
  have Ac := hi0.1.2.2.2.1
  have D := hi0.1.2.2.2.2.1
  have Vr := hi0.1.2.2.2.2.2.2.1
  have V := hi0.1.vrd
  have C := hi0.2.1
  have Qi := hi0.2.2.1
  have Tr := hi0.2.2.2.1
  have Ht := hi0.2.2.2.2
  refine Wq.low (fun lo => ?_)
  have l0 := lo.2.1
  have v : ∀ {k}, k < 7 → vp_in (nI i + nI k) (gN w 1 0) := fun hk => v_in lo hi hL hk
  by_cases c : gI w 20 0 (nI i + nI 6).toNatClampNeg = 0
  · refine Wq.go (tab_app okL_law_23 okL_law_24) 45 [1401] ?_
    refine And.intro (Or.inl l0) (And.intro (v (k := 1) (by omega)) (And.intro (Or.inl l0) (And.intro (v (k := 2) (by omega)) (And.intro (Or.inl l0) (And.intro (v (k := 3) (by omega)) (And.intro (Or.inl l0) (And.intro (v (k := 4) (by omega)) (And.intro (Or.inl l0) (And.intro (v (k := 5) (by omega)) (And.intro (Or.inl l0) (And.intro (v (k := 6) (by omega)) (And.intro (fun _ => And.intro hR.k2 (c11_test hR Qi H hz rfl (fun A1 w1 hF => ?_))) (fun z => absurd c z)))))))))))))
    have hm : Mq w w1 := hF.2.2.1
    have hi1 := hm.inv hi0
    have T' := hi1.1.1
    have X' := hi1.1.2.1
    have H' := hi1.1.2.2.1
    have Vr' := hi1.1.2.2.2.2.2.2.1
    have V' := hi1.1.vrd
    have V6' := inv_V6 hi1
    have C' := hi1.2.1
    have Qi' := hi1.2.2.1
    have Ht' := hi1.2.2.2.2
    refine Wq.low (fun lo1 => ?_)
    have l1 := lo1.2.1
    have e20 : gI w1 20 0 = gI w 20 0 := lo1.2.2.2.2.2.1.trans lo.2.2.2.2.2.1.symm
    have v1 : ∀ {k}, k < 7 → vp_in (nI i + nI k) (gN w1 1 0) := fun hk => v_in lo1 hi hL hk
    refine Wq.go (tab_app okL_law_24 okL_law_25) 48 [1635] ?_
    refine And.intro (Or.inl l1) (And.intro (v1 (k := 1) (by omega)) (And.intro (Or.inl l1) (And.intro (v1 (k := 2) (by omega)) (And.intro (Or.inl l1) (And.intro (v1 (k := 3) (by omega)) (And.intro (Or.inl l1) (And.intro (v1 (k := 4) (by omega)) (And.intro (Or.inl l1) (And.intro (v1 (k := 5) (by omega)) (And.intro (Or.inl l1) (And.intro (v1 (k := 6) (by omega)) (And.intro (fun _ => And.intro ⟨hF.2.2.2.trans h4, rfl⟩ (c12_test Qi' H' rfl (fun w2 hS => ?_))) (fun z => absurd (by rw [e20]; exact c) z)))))))))))))
    rw [e20] at hS
    have hLI := LwI.of h4 hF (q_test hm _ _ _ _ _) hS (i_test hi0 _ _ _ _ (Or.inl rfl))
    refine And.intro (fun _ => hk _ _ _ hLI (by show q1 ≤ q1 + 20; omega) (by show q2 ≤ q2 + 2000; omega)) (fun z => absurd ?_ z)
    rw [e20]; exact (q_test hm _ _ _ _ _).1.symm
  · refine Wq.go (tab_app okL_law_23 okL_law_24) 45 [1401] ?_
    refine And.intro (Or.inl l0) (And.intro (v (k := 1) (by omega)) (And.intro (Or.inl l0) (And.intro (v (k := 2) (by omega)) (And.intro (Or.inl l0) (And.intro (v (k := 3) (by omega)) (And.intro (Or.inl l0) (And.intro (v (k := 4) (by omega)) (And.intro (Or.inl l0) (And.intro (v (k := 5) (by omega)) (And.intro (Or.inl l0) (And.intro (v (k := 6) (by omega)) (And.intro (fun z => absurd z c) (fun _ => And.intro hR.k2 (c11_test hR Qi H hz rfl (fun A1 w1 hF => ?_)))))))))))))))
    have hm : Mq w w1 := hF.2.2.1
    have hi1 := hm.inv hi0
    have T' := hi1.1.1
    have X' := hi1.1.2.1
    have H' := hi1.1.2.2.1
    have Vr' := hi1.1.2.2.2.2.2.2.1
    have V' := hi1.1.vrd
    have V6' := inv_V6 hi1
    have C' := hi1.2.1
    have Qi' := hi1.2.2.1
    have Ht' := hi1.2.2.2.2
    refine Wq.low (fun lo1 => ?_)
    have l1 := lo1.2.1
    have e20 : gI w1 20 0 = gI w 20 0 := lo1.2.2.2.2.2.1.trans lo.2.2.2.2.2.1.symm
    have v1 : ∀ {k}, k < 7 → vp_in (nI i + nI k) (gN w1 1 0) := fun hk => v_in lo1 hi hL hk
    refine Wq.go (tab_app okL_law_24 okL_law_25) 48 [1635] ?_
    refine And.intro (Or.inl l1) (And.intro (v1 (k := 1) (by omega)) (And.intro (Or.inl l1) (And.intro (v1 (k := 2) (by omega)) (And.intro (Or.inl l1) (And.intro (v1 (k := 3) (by omega)) (And.intro (Or.inl l1) (And.intro (v1 (k := 4) (by omega)) (And.intro (Or.inl l1) (And.intro (v1 (k := 5) (by omega)) (And.intro (Or.inl l1) (And.intro (v1 (k := 6) (by omega)) (And.intro (fun z => absurd (by rw [e20] at z; exact z) c) (fun _ => And.intro ⟨hF.2.2.2.trans h4, rfl⟩ (c12_test Qi' H' rfl (fun w2 hS => ?_)))))))))))))))
    rw [e20] at hS
    have hLI := LwI.of h4 hF (q_test hm _ _ _ _ _) hS (i_test hi0 _ _ _ _ (Or.inr rfl))
    refine And.intro (fun _ => hk _ _ _ hLI (by show q1 ≤ q1 + 20; omega) (by show q2 ≤ q2 + 2000; omega)) (fun z => absurd ?_ z)
    rw [e20]; exact (q_test hm _ _ _ _ _).1.symm
theorem lw_run {i q1 q2 : Nat} (hi : i + 7 ≤ (xS G).2.1) (hL : (xS G).2.1 ≤ 448) (h : LwI w) (hq1 : q1 + 20 ≤ 600000) (hq2 : q2 + 2000 ≤ 7302250) (hk : ∀ w1 r1 r2, LwI w1 → r1 ≤ q1 + 20 → r2 ≤ q2 + 2000 → Wq G ML_law 1635 [some (.ref 0), some (.ref 2), some (.ref 79), some (.int (nI i))] [] (r1, r2) w1 Q) : Wq G ML_law 1459 [some (.ref 0), some (.ref 2), some (.ref 79), some (.int (nI i))] [] (q1, q2) w Q := by
  obtain ⟨A, hR, hi0, hz, h4⟩ := h
  have T := hi0.1.1
  have X := hi0.1.2.1
  have H := hi0.1.2.2.1
  have Ac := hi0.1.2.2.2.1
  have D := hi0.1.2.2.2.2.1
  have Vr := hi0.1.2.2.2.2.2.2.1
  have V := hi0.1.vrd
  have C := hi0.2.1
  have Qi := hi0.2.2.1
  have Tr := hi0.2.2.2.1
  have Ht := hi0.2.2.2.2
  refine Wq.low (fun lo => ?_)
  have l0 := lo.2.1
  have v : ∀ {k}, k < 7 → vp_in (nI i + nI k) (gN w 1 0) := fun hk => v_in lo hi hL hk
  refine Wq.go (tab_app okL_law_25 okL_law_26) 19 [1478] ?_
  refine And.intro (Or.inl l0) (And.intro (v (k := 1) (by omega)) (And.intro (Or.inl l0) (And.intro (v (k := 2) (by omega)) (And.intro (Or.inl l0) (And.intro (v (k := 3) (by omega)) (And.intro hR.k2 (c11_run hR T Ac X H V Qi hz (fun A1 w1 hF => ?_))))))))
  have hm : Mq w w1 := hF.2.2.1
  have hi1 := hm.inv hi0
  have T' := hi1.1.1
  have X' := hi1.1.2.1
  have H' := hi1.1.2.2.1
  have Vr' := hi1.1.2.2.2.2.2.2.1
  have V' := hi1.1.vrd
  have V6' := inv_V6 hi1
  have C' := hi1.2.1
  have Qi' := hi1.2.2.1
  have Ht' := hi1.2.2.2.2
  refine Wq.low (fun lo1 => ?_)
  have l1 := lo1.2.1
  have e20 : gI w1 20 0 = gI w 20 0 := lo1.2.2.2.2.2.1.trans lo.2.2.2.2.2.1.symm
  have v1 : ∀ {k}, k < 7 → vp_in (nI i + nI k) (gN w1 1 0) := fun hk => v_in lo1 hi hL hk
  refine Wq.go okL_law_26 22 [1635] ?_
  refine And.intro (Or.inl l1) (And.intro (v1 (k := 1) (by omega)) (And.intro (Or.inl l1) (And.intro (v1 (k := 2) (by omega)) (And.intro (Or.inl l1) (And.intro (v1 (k := 3) (by omega)) (And.intro ⟨hF.2.2.2.trans h4, rfl⟩ (c12_run T' X' H' V' Qi' (fun w2 hS => ?_))))))))
  rw [e20] at hS
  have hLI := LwI.of h4 hF (q_run hm _ _ _) hS (i_run hi0 _ _ _)
  refine And.intro (fun _ => hk _ _ _ hLI (by show q1 ≤ q1 + 20; omega) (by show q2 ≤ q2 + 2000; omega)) (fun z => absurd ?_ z)
  rw [e20]; exact (q_run hm _ _ _).1.symm
theorem lw_hit {i q1 q2 : Nat} (hi : i + 7 ≤ (xS G).2.1) (hL : (xS G).2.1 ≤ 448) (h : LwI w) (hq1 : q1 + 20 ≤ 600000) (hq2 : q2 + 2000 ≤ 7302250) (hk : ∀ w1 r1 r2, LwI w1 → r1 ≤ q1 + 20 → r2 ≤ q2 + 2000 → Wq G ML_law 1635 [some (.ref 0), some (.ref 2), some (.ref 79), some (.int (nI i))] [] (r1, r2) w1 Q) : Wq G ML_law 1502 [some (.ref 0), some (.ref 2), some (.ref 79), some (.int (nI i))] [] (q1, q2) w Q := by
  obtain ⟨A, hR, hi0, hz, h4⟩ := h
  have T := hi0.1.1
  have X := hi0.1.2.1
  have H := hi0.1.2.2.1
  have Ac := hi0.1.2.2.2.1
  have D := hi0.1.2.2.2.2.1
  have Vr := hi0.1.2.2.2.2.2.2.1
  have V := hi0.1.vrd
  have C := hi0.2.1
  have Qi := hi0.2.2.1
  have Tr := hi0.2.2.2.1
  have Ht := hi0.2.2.2.2
  refine Wq.low (fun lo => ?_)
  have l0 := lo.2.1
  have v : ∀ {k}, k < 7 → vp_in (nI i + nI k) (gN w 1 0) := fun hk => v_in lo hi hL hk
  refine Wq.go okL_law_26 9 [1511] ?_
  refine And.intro (Or.inl l0) (And.intro (v (k := 1) (by omega)) (And.intro hR.k2 (c11_hit hR Ht ?_)))
  refine Wq.go (tab_app okL_law_26 okL_law_27) 12 [1635] ?_
  refine And.intro (Or.inl l0) (And.intro (v (k := 1) (by omega)) (And.intro ⟨h4, rfl⟩ (c12_hit Ht ?_)))
  exact And.intro (fun _ => hk w q1 q2 ⟨A, hR, hi0, hz, h4⟩ (by omega) (by omega)) (fun z => absurd rfl z)
theorem lw_failed {i q1 q2 : Nat} (hi : i + 7 ≤ (xS G).2.1) (hL : (xS G).2.1 ≤ 448) (h : LwI w) (hq1 : q1 + 20 ≤ 600000) (hq2 : q2 + 2000 ≤ 7302250) (hk : ∀ w1 r1 r2, LwI w1 → r1 ≤ q1 + 20 → r2 ≤ q2 + 2000 → Wq G ML_law 1635 [some (.ref 0), some (.ref 2), some (.ref 79), some (.int (nI i))] [] (r1, r2) w1 Q) : Wq G ML_law 1525 [some (.ref 0), some (.ref 2), some (.ref 79), some (.int (nI i))] [] (q1, q2) w Q := by
  obtain ⟨A, hR, hi0, hz, h4⟩ := h
  have T := hi0.1.1
  have X := hi0.1.2.1
  have H := hi0.1.2.2.1
  have Ac := hi0.1.2.2.2.1
  have D := hi0.1.2.2.2.2.1
  have Vr := hi0.1.2.2.2.2.2.2.1
  have V := hi0.1.vrd
  have C := hi0.2.1
  have Qi := hi0.2.2.1
  have Tr := hi0.2.2.2.1
  have Ht := hi0.2.2.2.2
  refine Wq.low (fun lo => ?_)
  have l0 := lo.2.1
  have v : ∀ {k}, k < 7 → vp_in (nI i + nI k) (gN w 1 0) := fun hk => v_in lo hi hL hk
  refine Wq.go okL_law_27 4 [1529] ?_
  refine And.intro hR.k2 (c11_failed hR  ?_)
  refine Wq.go okL_law_27 7 [1635] ?_
  refine And.intro ⟨h4, rfl⟩ (c12_failed  ?_)
  exact And.intro (fun _ => hk w q1 q2 ⟨A, hR, hi0, hz, h4⟩ (by omega) (by omega)) (fun z => absurd rfl z)
theorem lw_total {i q1 q2 : Nat} (hi : i + 7 ≤ (xS G).2.1) (hL : (xS G).2.1 ≤ 448) (h : LwI w) (hq1 : q1 + 20 ≤ 600000) (hq2 : q2 + 2000 ≤ 7302250) (hk : ∀ w1 r1 r2, LwI w1 → r1 ≤ q1 + 20 → r2 ≤ q2 + 2000 → Wq G ML_law 1635 [some (.ref 0), some (.ref 2), some (.ref 79), some (.int (nI i))] [] (r1, r2) w1 Q) : Wq G ML_law 1538 [some (.ref 0), some (.ref 2), some (.ref 79), some (.int (nI i))] [] (q1, q2) w Q := by
  obtain ⟨A, hR, hi0, hz, h4⟩ := h
  have T := hi0.1.1
  have X := hi0.1.2.1
  have H := hi0.1.2.2.1
  have Ac := hi0.1.2.2.2.1
  have D := hi0.1.2.2.2.2.1
  have Vr := hi0.1.2.2.2.2.2.2.1
  have V := hi0.1.vrd
  have C := hi0.2.1
  have Qi := hi0.2.2.1
  have Tr := hi0.2.2.2.1
  have Ht := hi0.2.2.2.2
  refine Wq.low (fun lo => ?_)
  have l0 := lo.2.1
  have v : ∀ {k}, k < 7 → vp_in (nI i + nI k) (gN w 1 0) := fun hk => v_in lo hi hL hk
  refine Wq.go okL_law_27 9 [1547] ?_
  refine And.intro (Or.inl l0) (And.intro (v (k := 1) (by omega)) (And.intro hR.k2 (c11_total hR T Ac X H Ht hz (fun A1 w1 hF => ?_))))
  have hm : Mq w w1 := hF.2.2.1
  have hi1 := hm.inv hi0
  have T' := hi1.1.1
  have X' := hi1.1.2.1
  have H' := hi1.1.2.2.1
  have Vr' := hi1.1.2.2.2.2.2.2.1
  have V' := hi1.1.vrd
  have V6' := inv_V6 hi1
  have C' := hi1.2.1
  have Qi' := hi1.2.2.1
  have Ht' := hi1.2.2.2.2
  refine Wq.low (fun lo1 => ?_)
  have l1 := lo1.2.1
  have e20 : gI w1 20 0 = gI w 20 0 := lo1.2.2.2.2.2.1.trans lo.2.2.2.2.2.1.symm
  have v1 : ∀ {k}, k < 7 → vp_in (nI i + nI k) (gN w1 1 0) := fun hk => v_in lo1 hi hL hk
  refine Wq.go okL_law_27 13 [1635] ?_
  refine And.intro (Or.inl l1) (And.intro (v1 (k := 1) (by omega)) (And.intro ⟨hF.2.2.2.trans h4, rfl⟩ (c12_total T' X' H' Ht' (fun w2 hS => ?_))))
  rw [e20] at hS
  have hLI := LwI.of h4 hF (q_total hm _) hS (i_total hi0 _)
  refine And.intro (fun _ => hk _ _ _ hLI (by show q1 ≤ q1 + 20; omega) (by show q2 ≤ q2 + 2000; omega)) (fun z => absurd ?_ z)
  rw [e20]; exact lg_eq0.mpr (q_total hm _).1.symm
theorem lw_trace {i q1 q2 : Nat} (hi : i + 7 ≤ (xS G).2.1) (hL : (xS G).2.1 ≤ 448) (h : LwI w) (hq1 : q1 + 20 ≤ 600000) (hq2 : q2 + 2000 ≤ 7302250) (hk : ∀ w1 r1 r2, LwI w1 → r1 ≤ q1 + 20 → r2 ≤ q2 + 2000 → Wq G ML_law 1635 [some (.ref 0), some (.ref 2), some (.ref 79), some (.int (nI i))] [] (r1, r2) w1 Q) : Wq G ML_law 1562 [some (.ref 0), some (.ref 2), some (.ref 79), some (.int (nI i))] [] (q1, q2) w Q := by
  obtain ⟨A, hR, hi0, hz, h4⟩ := h
  have T := hi0.1.1
  have X := hi0.1.2.1
  have H := hi0.1.2.2.1
  have Ac := hi0.1.2.2.2.1
  have D := hi0.1.2.2.2.2.1
  have Vr := hi0.1.2.2.2.2.2.2.1
  have V := hi0.1.vrd
  have C := hi0.2.1
  have Qi := hi0.2.2.1
  have Tr := hi0.2.2.2.1
  have Ht := hi0.2.2.2.2
  refine Wq.low (fun lo => ?_)
  have l0 := lo.2.1
  have v : ∀ {k}, k < 7 → vp_in (nI i + nI k) (gN w 1 0) := fun hk => v_in lo hi hL hk
  refine Wq.go okL_law_27 9 [1571] ?_
  refine And.intro (Or.inl l0) (And.intro (v (k := 1) (by omega)) (And.intro hR.k2 (c11_trace hR Tr ?_)))
  refine Wq.go (tab_app okL_law_27 okL_law_28) 12 [1635] ?_
  refine And.intro (Or.inl l0) (And.intro (v (k := 1) (by omega)) (And.intro ⟨h4, rfl⟩ (c12_trace Tr ?_)))
  exact And.intro (fun _ => hk w q1 q2 ⟨A, hR, hi0, hz, h4⟩ (by omega) (by omega)) (fun z => absurd rfl z)
theorem lw_told {i q1 q2 : Nat} (hi : i + 7 ≤ (xS G).2.1) (hL : (xS G).2.1 ≤ 448) (h : LwI w) (hq1 : q1 + 20 ≤ 600000) (hq2 : q2 + 2000 ≤ 7302250) (hk : ∀ w1 r1 r2, LwI w1 → r1 ≤ q1 + 20 → r2 ≤ q2 + 2000 → Wq G ML_law 1635 [some (.ref 0), some (.ref 2), some (.ref 79), some (.int (nI i))] [] (r1, r2) w1 Q) : Wq G ML_law 1585 [some (.ref 0), some (.ref 2), some (.ref 79), some (.int (nI i))] [] (q1, q2) w Q := by
  obtain ⟨A, hR, hi0, hz, h4⟩ := h
  have T := hi0.1.1
  have X := hi0.1.2.1
  have H := hi0.1.2.2.1
  have Ac := hi0.1.2.2.2.1
  have D := hi0.1.2.2.2.2.1
  have Vr := hi0.1.2.2.2.2.2.2.1
  have V := hi0.1.vrd
  have C := hi0.2.1
  have Qi := hi0.2.2.1
  have Tr := hi0.2.2.2.1
  have Ht := hi0.2.2.2.2
  refine Wq.low (fun lo => ?_)
  have l0 := lo.2.1
  have v : ∀ {k}, k < 7 → vp_in (nI i + nI k) (gN w 1 0) := fun hk => v_in lo hi hL hk
  refine Wq.go okL_law_28 9 [1594] ?_
  refine And.intro (Or.inl l0) (And.intro (v (k := 1) (by omega)) (And.intro hR.k2 (c11_told hR T X H Qi Tr Ht ?_)))
  refine Wq.go okL_law_28 12 [1635] ?_
  refine And.intro (Or.inl l0) (And.intro (v (k := 1) (by omega)) (And.intro ⟨h4, rfl⟩ (c12_told T X H Qi Tr Ht ?_)))
  exact And.intro (fun _ => hk w q1 q2 ⟨A, hR, hi0, hz, h4⟩ (by omega) (by omega)) (fun z => absurd rfl z)
theorem lw_status {i q1 q2 : Nat} (hi : i + 7 ≤ (xS G).2.1) (hL : (xS G).2.1 ≤ 448) (h : LwI w) (hq1 : q1 + 20 ≤ 600000) (hq2 : q2 + 2000 ≤ 7302250) (hk : ∀ w1 r1 r2, LwI w1 → r1 ≤ q1 + 20 → r2 ≤ q2 + 2000 → Wq G ML_law 1635 [some (.ref 0), some (.ref 2), some (.ref 79), some (.int (nI i))] [] (r1, r2) w1 Q) : Wq G ML_law 1608 [some (.ref 0), some (.ref 2), some (.ref 79), some (.int (nI i))] [] (q1, q2) w Q := by
  obtain ⟨A, hR, hi0, hz, h4⟩ := h
  have T := hi0.1.1
  have X := hi0.1.2.1
  have H := hi0.1.2.2.1
  have Ac := hi0.1.2.2.2.1
  have D := hi0.1.2.2.2.2.1
  have Vr := hi0.1.2.2.2.2.2.2.1
  have V := hi0.1.vrd
  have C := hi0.2.1
  have Qi := hi0.2.2.1
  have Tr := hi0.2.2.2.1
  have Ht := hi0.2.2.2.2
  refine Wq.low (fun lo => ?_)
  have l0 := lo.2.1
  have v : ∀ {k}, k < 7 → vp_in (nI i + nI k) (gN w 1 0) := fun hk => v_in lo hi hL hk
  refine Wq.go okL_law_28 4 [1612] ?_
  refine And.intro hR.k2 (c11_status hR  ?_)
  refine Wq.go okL_law_28 7 [1635] ?_
  refine And.intro ⟨h4, rfl⟩ (c12_status  ?_)
  exact And.intro (fun _ => hk w q1 q2 ⟨A, hR, hi0, hz, h4⟩ (by omega) (by omega)) (fun z => absurd rfl z)
theorem lw_digest {i q1 q2 : Nat} (hi : i + 7 ≤ (xS G).2.1) (hL : (xS G).2.1 ≤ 448) (h : LwI w) (hq1 : q1 + 20 ≤ 600000) (hq2 : q2 + 2000 ≤ 7302250) (hk : ∀ w1 r1 r2, LwI w1 → r1 ≤ q1 + 20 → r2 ≤ q2 + 2000 → Wq G ML_law 1635 [some (.ref 0), some (.ref 2), some (.ref 79), some (.int (nI i))] [] (r1, r2) w1 Q) : Wq G ML_law 1621 [some (.ref 0), some (.ref 2), some (.ref 79), some (.int (nI i))] [] (q1, q2) w Q := by
  obtain ⟨A, hR, hi0, hz, h4⟩ := h
  have T := hi0.1.1
  have X := hi0.1.2.1
  have H := hi0.1.2.2.1
  have Ac := hi0.1.2.2.2.1
  have D := hi0.1.2.2.2.2.1
  have Vr := hi0.1.2.2.2.2.2.2.1
  have V := hi0.1.vrd
  have C := hi0.2.1
  have Qi := hi0.2.2.1
  have Tr := hi0.2.2.2.1
  have Ht := hi0.2.2.2.2
  refine Wq.low (fun lo => ?_)
  have l0 := lo.2.1
  have v : ∀ {k}, k < 7 → vp_in (nI i + nI k) (gN w 1 0) := fun hk => v_in lo hi hL hk
  refine Wq.go okL_law_28 4 [1625] ?_
  refine And.intro hR.k2 (c11_digest hR T X C hz (fun A1 w1 hF => ?_))
  have hm : Mq w w1 := hF.2.2.1
  have hi1 := hm.inv hi0
  have T' := hi1.1.1
  have X' := hi1.1.2.1
  have H' := hi1.1.2.2.1
  have Vr' := hi1.1.2.2.2.2.2.2.1
  have V' := hi1.1.vrd
  have V6' := inv_V6 hi1
  have C' := hi1.2.1
  have Qi' := hi1.2.2.1
  have Ht' := hi1.2.2.2.2
  refine Wq.low (fun lo1 => ?_)
  have l1 := lo1.2.1
  have e20 : gI w1 20 0 = gI w 20 0 := lo1.2.2.2.2.2.1.trans lo.2.2.2.2.2.1.symm
  have v1 : ∀ {k}, k < 7 → vp_in (nI i + nI k) (gN w1 1 0) := fun hk => v_in lo1 hi hL hk
  refine Wq.go (tab_app okL_law_28 okL_law_29) 8 [1635] ?_
  refine And.intro ⟨hF.2.2.2.trans h4, rfl⟩ (c12_digest T' X' C' (fun w2 hS => ?_))
  have hLI := LwI.of h4 hF (q_digest hm) hS (i_digest hi0)
  refine And.intro (fun _ => hk _ _ _ hLI (by show q1 ≤ q1 + 20; omega) (by show q2 ≤ q2 + 2000; omega)) (fun z => absurd ?_ z)
  exact lg_eq0.mpr (q_digest hm).1.symm
end
