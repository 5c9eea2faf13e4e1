/-! ===== the law's calls, printed by a program ===== -/
section
variable {G : qGX} {w : qSt} {Q : Option Value → qSt → Prop}
theorem lw_kind {i q1 q2 : Nat} (hi : i + 7 ≤ (xS G).2.1) (hL : (xS G).2.1 ≤ 448) (h : LwI w) (hq1 : q1 + 20 ≤ 600000) (hq2 : q2 + 2000 ≤ 7302250) (hk : ∀ w1 r1 r2, LwI w1 → r1 ≤ q1 + 20 → r2 ≤ q2 + 2000 → Wq G ML_law 1635 [some (.ref 0), some (.ref 2), some (.ref 79), some (.int (nI i))] [] (r1, r2) w1 Q) : Wq G ML_law 665 [some (.ref 0), some (.ref 2), some (.ref 79), some (.int (nI i))] [] (q1, q2) w Q := by
  obtain ⟨A, hR, hi0, hz, h4⟩ := h
  have T := hi0.1.1
  have X := hi0.1.2.1
  have H := hi0.1.2.2.1
  have Ac := hi0.1.2.2.2.1
  have D := hi0.1.2.2.2.2.1
  have Vr := hi0.1.2.2.2.2.2.2.1
  have V := hi0.1.vrd
  have C := hi0.2.1
  have Qi := hi0.2.2.1
  have Tr := hi0.2.2.2.1
  have Ht := hi0.2.2.2.2
  refine Wq.low (fun lo => ?_)
  have l0 := lo.2.1
  have v : ∀ {k}, k < 7 → vp_in (nI i + nI k) (gN w 1 0) := fun hk => v_in lo hi hL hk
  refine Wq.go (tab_app okL_law_9 okL_law_10) 14 [679] ?_
  refine And.intro (Or.inl l0) (And.intro (v (k := 1) (by omega)) (And.intro (Or.inl l0) (And.intro (v (k := 2) (by omega)) (And.intro hR.k2 (c11_kind hR X T.le.2 hz (fun A1 w1 hF => ?_))))))
  have hm : Mq w w1 := hF.2.2.1
  have hi1 := hm.inv hi0
  have T' := hi1.1.1
  have X' := hi1.1.2.1
  have H' := hi1.1.2.2.1
  have Vr' := hi1.1.2.2.2.2.2.2.1
  have V' := hi1.1.vrd
  have V6' := inv_V6 hi1
  have C' := hi1.2.1
  have Qi' := hi1.2.2.1
  have Ht' := hi1.2.2.2.2
  refine Wq.low (fun lo1 => ?_)
  have l1 := lo1.2.1
  have e20 : gI w1 20 0 = gI w 20 0 := lo1.2.2.2.2.2.1.trans lo.2.2.2.2.2.1.symm
  have v1 : ∀ {k}, k < 7 → vp_in (nI i + nI k) (gN w1 1 0) := fun hk => v_in lo1 hi hL hk
  refine Wq.go okL_law_10 17 [1635] ?_
  refine And.intro (Or.inl l1) (And.intro (v1 (k := 1) (by omega)) (And.intro (Or.inl l1) (And.intro (v1 (k := 2) (by omega)) (And.intro ⟨hF.2.2.2.trans h4, rfl⟩ (c12_kind X' (fun w2 hS => ?_))))))
  rw [e20] at hS
  have hLI := LwI.of h4 hF (q_kind hm _ _) hS (i_kind hi0 _ _)
  refine And.intro (fun _ => hk _ _ _ hLI (by show q1 ≤ q1 + 20; omega) (by show q2 ≤ q2 + 2000; omega)) (fun z => absurd ?_ z)
  rw [e20]; exact (q_kind hm _ _).1.symm
theorem lw_isA {i q1 q2 : Nat} (hi : i + 7 ≤ (xS G).2.1) (hL : (xS G).2.1 ≤ 448) (h : LwI w) (hq1 : q1 + 20 ≤ 600000) (hq2 : q2 + 2000 ≤ 7302250) (hk : ∀ w1 r1 r2, LwI w1 → r1 ≤ q1 + 20 → r2 ≤ q2 + 2000 → Wq G ML_law 1635 [some (.ref 0), some (.ref 2), some (.ref 79), some (.int (nI i))] [] (r1, r2) w1 Q) : Wq G ML_law 698 [some (.ref 0), some (.ref 2), some (.ref 79), some (.int (nI i))] [] (q1, q2) w Q := by
  obtain ⟨A, hR, hi0, hz, h4⟩ := h
  have T := hi0.1.1
  have X := hi0.1.2.1
  have H := hi0.1.2.2.1
  have Ac := hi0.1.2.2.2.1
  have D := hi0.1.2.2.2.2.1
  have Vr := hi0.1.2.2.2.2.2.2.1
  have V := hi0.1.vrd
  have C := hi0.2.1
  have Qi := hi0.2.2.1
  have Tr := hi0.2.2.2.1
  have Ht := hi0.2.2.2.2
  refine Wq.low (fun lo => ?_)
  have l0 := lo.2.1
  have v : ∀ {k}, k < 7 → vp_in (nI i + nI k) (gN w 1 0) := fun hk => v_in lo hi hL hk
  refine Wq.go okL_law_10 14 [712] ?_
  refine And.intro (Or.inl l0) (And.intro (v (k := 1) (by omega)) (And.intro (Or.inl l0) (And.intro (v (k := 2) (by omega)) (And.intro hR.k2 (c11_isA hR T X hz (fun A1 w1 hF => ?_))))))
  have hm : Mq w w1 := hF.2.2.1
  have hi1 := hm.inv hi0
  have T' := hi1.1.1
  have X' := hi1.1.2.1
  have H' := hi1.1.2.2.1
  have Vr' := hi1.1.2.2.2.2.2.2.1
  have V' := hi1.1.vrd
  have V6' := inv_V6 hi1
  have C' := hi1.2.1
  have Qi' := hi1.2.2.1
  have Ht' := hi1.2.2.2.2
  refine Wq.low (fun lo1 => ?_)
  have l1 := lo1.2.1
  have e20 : gI w1 20 0 = gI w 20 0 := lo1.2.2.2.2.2.1.trans lo.2.2.2.2.2.1.symm
  have v1 : ∀ {k}, k < 7 → vp_in (nI i + nI k) (gN w1 1 0) := fun hk => v_in lo1 hi hL hk
  refine Wq.go (tab_app okL_law_10 okL_law_11) 17 [1635] ?_
  refine And.intro (Or.inl l1) (And.intro (v1 (k := 1) (by omega)) (And.intro (Or.inl l1) (And.intro (v1 (k := 2) (by omega)) (And.intro ⟨hF.2.2.2.trans h4, rfl⟩ (c12_isA T' X' (fun w2 hS => ?_))))))
  rw [e20] at hS
  have hLI := LwI.of h4 hF (q_isA hm _ _) hS (i_isA hi0 _ _)
  refine And.intro (fun _ => hk _ _ _ hLI (by show q1 ≤ q1 + 20; omega) (by show q2 ≤ q2 + 2000; omega)) (fun z => absurd ?_ z)
  rw [e20]; exact (q_isA hm _ _).1.symm
theorem lw_read {i q1 q2 : Nat} (hi : i + 7 ≤ (xS G).2.1) (hL : (xS G).2.1 ≤ 448) (h : LwI w) (hq1 : q1 + 20 ≤ 600000) (hq2 : q2 + 2000 ≤ 7302250) (hk : ∀ w1 r1 r2, LwI w1 → r1 ≤ q1 + 20 → r2 ≤ q2 + 2000 → Wq G ML_law 1635 [some (.ref 0), some (.ref 2), some (.ref 79), some (.int (nI i))] [] (r1, r2) w1 Q) : Wq G ML_law 731 [some (.ref 0), some (.ref 2), some (.ref 79), some (.int (nI i))] [] (q1, q2) w Q := by
  obtain ⟨A, hR, hi0, hz, h4⟩ := h
  have T := hi0.1.1
  have X := hi0.1.2.1
  have H := hi0.1.2.2.1
  have Ac := hi0.1.2.2.2.1
  have D := hi0.1.2.2.2.2.1
  have Vr := hi0.1.2.2.2.2.2.2.1
  have V := hi0.1.vrd
  have C := hi0.2.1
  have Qi := hi0.2.2.1
  have Tr := hi0.2.2.2.1
  have Ht := hi0.2.2.2.2
  refine Wq.low (fun lo => ?_)
  have l0 := lo.2.1
  have v : ∀ {k}, k < 7 → vp_in (nI i + nI k) (gN w 1 0) := fun hk => v_in lo hi hL hk
  refine Wq.go okL_law_11 14 [745] ?_
  refine And.intro (Or.inl l0) (And.intro (v (k := 1) (by omega)) (And.intro (Or.inl l0) (And.intro (v (k := 2) (by omega)) (And.intro hR.k2 (c11_read hR X hz (fun A1 w1 hF => ?_))))))
  have hm : Mq w w1 := hF.2.2.1
  have hi1 := hm.inv hi0
  have T' := hi1.1.1
  have X' := hi1.1.2.1
  have H' := hi1.1.2.2.1
  have Vr' := hi1.1.2.2.2.2.2.2.1
  have V' := hi1.1.vrd
  have V6' := inv_V6 hi1
  have C' := hi1.2.1
  have Qi' := hi1.2.2.1
  have Ht' := hi1.2.2.2.2
  refine Wq.low (fun lo1 => ?_)
  have l1 := lo1.2.1
  have e20 : gI w1 20 0 = gI w 20 0 := lo1.2.2.2.2.2.1.trans lo.2.2.2.2.2.1.symm
  have v1 : ∀ {k}, k < 7 → vp_in (nI i + nI k) (gN w1 1 0) := fun hk => v_in lo1 hi hL hk
  refine Wq.go okL_law_11 18 [1635] ?_
  refine And.intro (Or.inl l1) (And.intro (v1 (k := 1) (by omega)) (And.intro (Or.inl l1) (And.intro (v1 (k := 2) (by omega)) (And.intro ⟨hF.2.2.2.trans h4, rfl⟩ (c12_read X' (fun w2 hS => ?_))))))
  rw [e20] at hS
  have hLI := LwI.of h4 hF (q_read hm _ _) hS (i_read hi0 _ _)
  refine And.intro (fun _ => hk _ _ _ hLI (by show q1 ≤ q1 + 20; omega) (by show q2 ≤ q2 + 2000; omega)) (fun z => absurd ?_ z)
  rw [e20]; exact lg_eq0.mpr (q_read hm _ _).1.symm
theorem lw_write {i q1 q2 : Nat} (hi : i + 7 ≤ (xS G).2.1) (hL : (xS G).2.1 ≤ 448) (h : LwI w) (hq1 : q1 + 20 ≤ 600000) (hq2 : q2 + 2000 ≤ 7302250) (hk : ∀ w1 r1 r2, LwI w1 → r1 ≤ q1 + 20 → r2 ≤ q2 + 2000 → Wq G ML_law 1635 [some (.ref 0), some (.ref 2), some (.ref 79), some (.int (nI i))] [] (r1, r2) w1 Q) : Wq G ML_law 765 [some (.ref 0), some (.ref 2), some (.ref 79), some (.int (nI i))] [] (q1, q2) w Q := by
  obtain ⟨A, hR, hi0, hz, h4⟩ := h
  have T := hi0.1.1
  have X := hi0.1.2.1
  have H := hi0.1.2.2.1
  have Ac := hi0.1.2.2.2.1
  have D := hi0.1.2.2.2.2.1
  have Vr := hi0.1.2.2.2.2.2.2.1
  have V := hi0.1.vrd
  have C := hi0.2.1
  have Qi := hi0.2.2.1
  have Tr := hi0.2.2.2.1
  have Ht := hi0.2.2.2.2
  refine Wq.low (fun lo => ?_)
  have l0 := lo.2.1
  have v : ∀ {k}, k < 7 → vp_in (nI i + nI k) (gN w 1 0) := fun hk => v_in lo hi hL hk
  refine Wq.go (tab_app okL_law_11 okL_law_12) 31 [799] ?_
  refine And.intro (Or.inl l0) (And.intro (v (k := 1) (by omega)) (And.intro (Or.inl l0) (And.intro (v (k := 2) (by omega)) (And.intro (Or.inl l0) (And.intro (v (k := 3) (by omega)) (And.intro (Or.inl l0) (And.intro (v (k := 4) (by omega)) (And.intro hR.k2 (c11_write hR T X hz (fun A1 w1 hF => ?_))))))))))
  have hm : Mq w w1 := hF.2.2.1
  have hi1 := hm.inv hi0
  have T' := hi1.1.1
  have X' := hi1.1.2.1
  have H' := hi1.1.2.2.1
  have Vr' := hi1.1.2.2.2.2.2.2.1
  have V' := hi1.1.vrd
  have V6' := inv_V6 hi1
  have C' := hi1.2.1
  have Qi' := hi1.2.2.1
  have Ht' := hi1.2.2.2.2
  refine Wq.low (fun lo1 => ?_)
  have l1 := lo1.2.1
  have e20 : gI w1 20 0 = gI w 20 0 := lo1.2.2.2.2.2.1.trans lo.2.2.2.2.2.1.symm
  have v1 : ∀ {k}, k < 7 → vp_in (nI i + nI k) (gN w1 1 0) := fun hk => v_in lo1 hi hL hk
  refine Wq.go (tab_app okL_law_12 okL_law_13) 34 [1635] ?_
  refine And.intro (Or.inl l1) (And.intro (v1 (k := 1) (by omega)) (And.intro (Or.inl l1) (And.intro (v1 (k := 2) (by omega)) (And.intro (Or.inl l1) (And.intro (v1 (k := 3) (by omega)) (And.intro (Or.inl l1) (And.intro (v1 (k := 4) (by omega)) (And.intro ⟨hF.2.2.2.trans h4, rfl⟩ (c12_write T' X' (fun w2 hS => ?_))))))))))
  rw [e20] at hS
  have hLI := LwI.of h4 hF (q_write hm _ _ _) hS (i_write hi0 _ _ _)
  refine And.intro (fun _ => hk _ _ _ hLI (by show q1 ≤ q1 + 20; omega) (by show q2 ≤ q2 + 2000; omega)) (fun z => absurd ?_ z)
  rw [e20]; exact (q_write hm _ _ _).1.symm
theorem lw_readAs {i q1 q2 : Nat} (hi : i + 7 ≤ (xS G).2.1) (hL : (xS G).2.1 ≤ 448) (h : LwI w) (hq1 : q1 + 20 ≤ 600000) (hq2 : q2 + 2000 ≤ 7302250) (hk : ∀ w1 r1 r2, LwI w1 → r1 ≤ q1 + 20 → r2 ≤ q2 + 2000 → Wq G ML_law 1635 [some (.ref 0), some (.ref 2), some (.ref 79), some (.int (nI i))] [] (r1, r2) w1 Q) : Wq G ML_law 838 [some (.ref 0), some (.ref 2), some (.ref 79), some (.int (nI i))] [] (q1, q2) w Q := by
  obtain ⟨A, hR, hi0, hz, h4⟩ := h
  have T := hi0.1.1
  have X := hi0.1.2.1
  have H := hi0.1.2.2.1
  have Ac := hi0.1.2.2.2.1
  have D := hi0.1.2.2.2.2.1
  have Vr := hi0.1.2.2.2.2.2.2.1
  have V := hi0.1.vrd
  have C := hi0.2.1
  have Qi := hi0.2.2.1
  have Tr := hi0.2.2.2.1
  have Ht := hi0.2.2.2.2
  refine Wq.low (fun lo => ?_)
  have l0 := lo.2.1
  have v : ∀ {k}, k < 7 → vp_in (nI i + nI k) (gN w 1 0) := fun hk => v_in lo hi hL hk
  refine Wq.go okL_law_13 19 [857] ?_
  refine And.intro (Or.inl l0) (And.intro (v (k := 1) (by omega)) (And.intro (Or.inl l0) (And.intro (v (k := 2) (by omega)) (And.intro (Or.inl l0) (And.intro (v (k := 3) (by omega)) (And.intro hR.k2 (c11_readAs hR T X hz Vr (fun A1 w1 hF => ?_))))))))
  have hm : Mq w w1 := hF.2.2.1
  have hi1 := hm.inv hi0
  have T' := hi1.1.1
  have X' := hi1.1.2.1
  have H' := hi1.1.2.2.1
  have Vr' := hi1.1.2.2.2.2.2.2.1
  have V' := hi1.1.vrd
  have V6' := inv_V6 hi1
  have C' := hi1.2.1
  have Qi' := hi1.2.2.1
  have Ht' := hi1.2.2.2.2
  refine Wq.low (fun lo1 => ?_)
  have l1 := lo1.2.1
  have e20 : gI w1 20 0 = gI w 20 0 := lo1.2.2.2.2.2.1.trans lo.2.2.2.2.2.1.symm
  have v1 : ∀ {k}, k < 7 → vp_in (nI i + nI k) (gN w1 1 0) := fun hk => v_in lo1 hi hL hk
  refine Wq.go (tab_app okL_law_13 okL_law_14) 23 [1635] ?_
  refine And.intro (Or.inl l1) (And.intro (v1 (k := 1) (by omega)) (And.intro (Or.inl l1) (And.intro (v1 (k := 2) (by omega)) (And.intro (Or.inl l1) (And.intro (v1 (k := 3) (by omega)) (And.intro ⟨hF.2.2.2.trans h4, rfl⟩ (c12_readAs X' T'.le.2 Vr' (fun w2 hS => ?_))))))))
  rw [e20] at hS
  have hLI := LwI.of h4 hF (q_readAs hm _ _ _) hS (i_readAs hi0 _ _ _)
  refine And.intro (fun _ => hk _ _ _ hLI (by show q1 ≤ q1 + 20; omega) (by show q2 ≤ q2 + 2000; omega)) (fun z => absurd ?_ z)
  rw [e20]; exact lg_eq0.mpr (q_readAs hm _ _ _).1.symm
theorem lw_writeAs {i q1 q2 : Nat} (hi : i + 7 ≤ (xS G).2.1) (hL : (xS G).2.1 ≤ 448) (h : LwI w) (hq1 : q1 + 20 ≤ 600000) (hq2 : q2 + 2000 ≤ 7302250) (hk : ∀ w1 r1 r2, LwI w1 → r1 ≤ q1 + 20 → r2 ≤ q2 + 2000 → Wq G ML_law 1635 [some (.ref 0), some (.ref 2), some (.ref 79), some (.int (nI i))] [] (r1, r2) w1 Q) : Wq G ML_law 882 [some (.ref 0), some (.ref 2), some (.ref 79), some (.int (nI i))] [] (q1, q2) w Q := by
  obtain ⟨A, hR, hi0, hz, h4⟩ := h
  have T := hi0.1.1
  have X := hi0.1.2.1
  have H := hi0.1.2.2.1
  have Ac := hi0.1.2.2.2.1
  have D := hi0.1.2.2.2.2.1
  have Vr := hi0.1.2.2.2.2.2.2.1
  have V := hi0.1.vrd
  have C := hi0.2.1
  have Qi := hi0.2.2.1
  have Tr := hi0.2.2.2.1
  have Ht := hi0.2.2.2.2
  refine Wq.low (fun lo => ?_)
  have l0 := lo.2.1
  have v : ∀ {k}, k < 7 → vp_in (nI i + nI k) (gN w 1 0) := fun hk => v_in lo hi hL hk
  refine Wq.go (tab_app okL_law_14 okL_law_15) 36 [921] ?_
  refine And.intro (Or.inl l0) (And.intro (v (k := 1) (by omega)) (And.intro (Or.inl l0) (And.intro (v (k := 2) (by omega)) (And.intro (Or.inl l0) (And.intro (v (k := 3) (by omega)) (And.intro (Or.inl l0) (And.intro (v (k := 4) (by omega)) (And.intro (Or.inl l0) (And.intro (v (k := 5) (by omega)) (And.intro hR.k2 (c11_writeAs hR T X hz kp_kp (fun A1 w1 hF => ?_))))))))))))
  have hm : Mq w w1 := hF.2.2.1
  have hi1 := hm.inv hi0
  have T' := hi1.1.1
  have X' := hi1.1.2.1
  have H' := hi1.1.2.2.1
  have Vr' := hi1.1.2.2.2.2.2.2.1
  have V' := hi1.1.vrd
  have V6' := inv_V6 hi1
  have C' := hi1.2.1
  have Qi' := hi1.2.2.1
  have Ht' := hi1.2.2.2.2
  refine Wq.low (fun lo1 => ?_)
  have l1 := lo1.2.1
  have e20 : gI w1 20 0 = gI w 20 0 := lo1.2.2.2.2.2.1.trans lo.2.2.2.2.2.1.symm
  have v1 : ∀ {k}, k < 7 → vp_in (nI i + nI k) (gN w1 1 0) := fun hk => v_in lo1 hi hL hk
  refine Wq.go (tab_app okL_law_15 okL_law_16) 39 [1635] ?_
  refine And.intro (Or.inl l1) (And.intro (v1 (k := 1) (by omega)) (And.intro (Or.inl l1) (And.intro (v1 (k := 2) (by omega)) (And.intro (Or.inl l1) (And.intro (v1 (k := 3) (by omega)) (And.intro (Or.inl l1) (And.intro (v1 (k := 4) (by omega)) (And.intro (Or.inl l1) (And.intro (v1 (k := 5) (by omega)) (And.intro ⟨hF.2.2.2.trans h4, rfl⟩ (c12_writeAs X' T'.le.2 kp_kp (fun w2 hS => ?_))))))))))))
  rw [e20] at hS
  have hLI := LwI.of h4 hF (q_writeAs hm _ _ _ _) hS (i_writeAs hi0 _ _ _ _)
  refine And.intro (fun _ => hk _ _ _ hLI (by show q1 ≤ q1 + 20; omega) (by show q2 ≤ q2 + 2000; omega)) (fun z => absurd ?_ z)
  rw [e20]; exact (q_writeAs hm _ _ _ _).1.symm
theorem lw_handle {i q1 q2 : Nat} (hi : i + 7 ≤ (xS G).2.1) (hL : (xS G).2.1 ≤ 448) (h : LwI w) (hq1 : q1 + 20 ≤ 600000) (hq2 : q2 + 2000 ≤ 7302250) (hk : ∀ w1 r1 r2, LwI w1 → r1 ≤ q1 + 20 → r2 ≤ q2 + 2000 → Wq G ML_law 1635 [some (.ref 0), some (.ref 2), some (.ref 79), some (.int (nI i))] [] (r1, r2) w1 Q) : Wq G ML_law 965 [some (.ref 0), some (.ref 2), some (.ref 79), some (.int (nI i))] [] (q1, q2) w Q := by
  obtain ⟨A, hR, hi0, hz, h4⟩ := h
  have T := hi0.1.1
  have X := hi0.1.2.1
  have H := hi0.1.2.2.1
  have Ac := hi0.1.2.2.2.1
  have D := hi0.1.2.2.2.2.1
  have Vr := hi0.1.2.2.2.2.2.2.1
  have V := hi0.1.vrd
  have C := hi0.2.1
  have Qi := hi0.2.2.1
  have Tr := hi0.2.2.2.1
  have Ht := hi0.2.2.2.2
  refine Wq.low (fun lo => ?_)
  have l0 := lo.2.1
  have v : ∀ {k}, k < 7 → vp_in (nI i + nI k) (gN w 1 0) := fun hk => v_in lo hi hL hk
  by_cases c : gI w 20 0 (nI i + nI 3).toNatClampNeg = 0
  · refine Wq.go okL_law_16 23 [992] ?_
    refine And.intro (Or.inl l0) (And.intro (v (k := 1) (by omega)) (And.intro (Or.inl l0) (And.intro (v (k := 2) (by omega)) (And.intro (Or.inl l0) (And.intro (v (k := 3) (by omega)) (And.intro (fun _ => And.intro hR.k2 (And.intro ⟨by show q1 + 1 ≤ 600000; omega, by show q2 + 3 ≤ 7302250; omega⟩ (c11_handle hR T H Qi hz (Or.inl rfl) (fun A1 w1 hF => ?_)))) (fun z => absurd c z)))))))
    have hm : Mq w w1 := hF.2.2.1
    have hi1 := hm.inv hi0
    have T' := hi1.1.1
    have X' := hi1.1.2.1
    have H' := hi1.1.2.2.1
    have Vr' := hi1.1.2.2.2.2.2.2.1
    have V' := hi1.1.vrd
    have V6' := inv_V6 hi1
    have C' := hi1.2.1
    have Qi' := hi1.2.2.1
    have Ht' := hi1.2.2.2.2
    refine Wq.low (fun lo1 => ?_)
    have l1 := lo1.2.1
    have e20 : gI w1 20 0 = gI w 20 0 := lo1.2.2.2.2.2.1.trans lo.2.2.2.2.2.1.symm
    have v1 : ∀ {k}, k < 7 → vp_in (nI i + nI k) (gN w1 1 0) := fun hk => v_in lo1 hi hL hk
    refine Wq.go (tab_app okL_law_16 okL_law_17) 26 [1635] ?_
    refine And.intro (Or.inl l1) (And.intro (v1 (k := 1) (by omega)) (And.intro (Or.inl l1) (And.intro (v1 (k := 2) (by omega)) (And.intro (Or.inl l1) (And.intro (v1 (k := 3) (by omega)) (And.intro (fun _ => And.intro ⟨hF.2.2.2.trans h4, rfl⟩ (c12_handle T' H'.1 H'.2.1 rfl (fun w2 hS => ?_))) (fun z => absurd (by rw [e20]; exact c) z)))))))
    rw [e20] at hS
    have hLI := LwI.of h4 hF (q_handle hm _ _ _) hS (i_handle hi0 _ _ (Or.inl rfl))
    refine And.intro (fun _ => hk _ _ _ hLI (by show q1 + 1 ≤ q1 + 20; omega) (by show q2 + 3 ≤ q2 + 2000; omega)) (fun z => absurd ?_ z)
    rw [e20]; exact (q_handle hm _ _ _).1.symm
  · refine Wq.go okL_law_16 23 [992] ?_
    refine And.intro (Or.inl l0) (And.intro (v (k := 1) (by omega)) (And.intro (Or.inl l0) (And.intro (v (k := 2) (by omega)) (And.intro (Or.inl l0) (And.intro (v (k := 3) (by omega)) (And.intro (fun z => absurd z c) (fun _ => And.intro hR.k2 (And.intro ⟨by show q1 + 1 ≤ 600000; omega, by show q2 + 3 ≤ 7302250; omega⟩ (c11_handle hR T H Qi hz (Or.inr rfl) (fun A1 w1 hF => ?_))))))))))
    have hm : Mq w w1 := hF.2.2.1
    have hi1 := hm.inv hi0
    have T' := hi1.1.1
    have X' := hi1.1.2.1
    have H' := hi1.1.2.2.1
    have Vr' := hi1.1.2.2.2.2.2.2.1
    have V' := hi1.1.vrd
    have V6' := inv_V6 hi1
    have C' := hi1.2.1
    have Qi' := hi1.2.2.1
    have Ht' := hi1.2.2.2.2
    refine Wq.low (fun lo1 => ?_)
    have l1 := lo1.2.1
    have e20 : gI w1 20 0 = gI w 20 0 := lo1.2.2.2.2.2.1.trans lo.2.2.2.2.2.1.symm
    have v1 : ∀ {k}, k < 7 → vp_in (nI i + nI k) (gN w1 1 0) := fun hk => v_in lo1 hi hL hk
    refine Wq.go (tab_app okL_law_16 okL_law_17) 26 [1635] ?_
    refine And.intro (Or.inl l1) (And.intro (v1 (k := 1) (by omega)) (And.intro (Or.inl l1) (And.intro (v1 (k := 2) (by omega)) (And.intro (Or.inl l1) (And.intro (v1 (k := 3) (by omega)) (And.intro (fun z => absurd (by rw [e20] at z; exact z) c) (fun _ => And.intro ⟨hF.2.2.2.trans h4, rfl⟩ (c12_handle T' H'.1 H'.2.1 rfl (fun w2 hS => ?_)))))))))
    rw [e20] at hS
    have hLI := LwI.of h4 hF (q_handle hm _ _ _) hS (i_handle hi0 _ _ (Or.inr rfl))
    refine And.intro (fun _ => hk _ _ _ hLI (by show q1 + 1 ≤ q1 + 20; omega) (by show q2 + 3 ≤ q2 + 2000; omega)) (fun z => absurd ?_ z)
    rw [e20]; exact (q_handle hm _ _ _).1.symm
theorem lw_get {i q1 q2 : Nat} (hi : i + 7 ≤ (xS G).2.1) (hL : (xS G).2.1 ≤ 448) (h : LwI w) (hq1 : q1 + 20 ≤ 600000) (hq2 : q2 + 2000 ≤ 7302250) (hk : ∀ w1 r1 r2, LwI w1 → r1 ≤ q1 + 20 → r2 ≤ q2 + 2000 → Wq G ML_law 1635 [some (.ref 0), some (.ref 2), some (.ref 79), some (.int (nI i))] [] (r1, r2) w1 Q) : Wq G ML_law 1024 [some (.ref 0), some (.ref 2), some (.ref 79), some (.int (nI i))] [] (q1, q2) w Q := by
  obtain ⟨A, hR, hi0, hz, h4⟩ := h
  have T := hi0.1.1
  have X := hi0.1.2.1
  have H := hi0.1.2.2.1
  have Ac := hi0.1.2.2.2.1
  have D := hi0.1.2.2.2.2.1
  have Vr := hi0.1.2.2.2.2.2.2.1
  have V := hi0.1.vrd
  have C := hi0.2.1
  have Qi := hi0.2.2.1
  have Tr := hi0.2.2.2.1
  have Ht := hi0.2.2.2.2
  refine Wq.low (fun lo => ?_)
  have l0 := lo.2.1
  have v : ∀ {k}, k < 7 → vp_in (nI i + nI k) (gN w 1 0) := fun hk => v_in lo hi hL hk
  refine Wq.go okL_law_17 14 [1038] ?_
  refine And.intro (Or.inl l0) (And.intro (v (k := 1) (by omega)) (And.intro (Or.inl l0) (And.intro (v (k := 2) (by omega)) (And.intro hR.k2 (c11_get hR T Ac X H hz (fun A1 w1 hF => ?_))))))
  have hm : Mq w w1 := hF.2.2.1
  have hi1 := hm.inv hi0
  have T' := hi1.1.1
  have X' := hi1.1.2.1
  have H' := hi1.1.2.2.1
  have Vr' := hi1.1.2.2.2.2.2.2.1
  have V' := hi1.1.vrd
  have V6' := inv_V6 hi1
  have C' := hi1.2.1
  have Qi' := hi1.2.2.1
  have Ht' := hi1.2.2.2.2
  refine Wq.low (fun lo1 => ?_)
  have l1 := lo1.2.1
  have e20 : gI w1 20 0 = gI w 20 0 := lo1.2.2.2.2.2.1.trans lo.2.2.2.2.2.1.symm
  have v1 : ∀ {k}, k < 7 → vp_in (nI i + nI k) (gN w1 1 0) := fun hk => v_in lo1 hi hL hk
  refine Wq.go okL_law_17 18 [1635] ?_
  refine And.intro (Or.inl l1) (And.intro (v1 (k := 1) (by omega)) (And.intro (Or.inl l1) (And.intro (v1 (k := 2) (by omega)) (And.intro ⟨hF.2.2.2.trans h4, rfl⟩ (c12_get T' X' H' (fun w2 hS => ?_))))))
  rw [e20] at hS
  have hLI := LwI.of h4 hF (q_get hm _ _) hS (i_get hi0 _ _)
  refine And.intro (fun _ => hk _ _ _ hLI (by show q1 ≤ q1 + 20; omega) (by show q2 ≤ q2 + 2000; omega)) (fun z => absurd ?_ z)
  rw [e20]; exact lg_eq0.mpr (q_get hm _ _).1.symm
theorem lw_lane {i q1 q2 : Nat} (hi : i + 7 ≤ (xS G).2.1) (hL : (xS G).2.1 ≤ 448) (h : LwI w) (hq1 : q1 + 20 ≤ 600000) (hq2 : q2 + 2000 ≤ 7302250) (hk : ∀ w1 r1 r2, LwI w1 → r1 ≤ q1 + 20 → r2 ≤ q2 + 2000 → Wq G ML_law 1635 [some (.ref 0), some (.ref 2), some (.ref 79), some (.int (nI i))] [] (r1, r2) w1 Q) : Wq G ML_law 1058 [some (.ref 0), some (.ref 2), some (.ref 79), some (.int (nI i))] [] (q1, q2) w Q := by
  obtain ⟨A, hR, hi0, hz, h4⟩ := h
  have T := hi0.1.1
  have X := hi0.1.2.1
  have H := hi0.1.2.2.1
  have Ac := hi0.1.2.2.2.1
  have D := hi0.1.2.2.2.2.1
  have Vr := hi0.1.2.2.2.2.2.2.1
  have V := hi0.1.vrd
  have C := hi0.2.1
  have Qi := hi0.2.2.1
  have Tr := hi0.2.2.2.1
  have Ht := hi0.2.2.2.2
  refine Wq.low (fun lo => ?_)
  have l0 := lo.2.1
  have v : ∀ {k}, k < 7 → vp_in (nI i + nI k) (gN w 1 0) := fun hk => v_in lo hi hL hk
  refine Wq.go okL_law_17 4 [1062] ?_
  refine And.intro hR.k2 (c11_lane hR  ?_)
  refine Wq.go (tab_app okL_law_17 okL_law_18) 7 [1635] ?_
  refine And.intro ⟨h4, rfl⟩ (c12_lane  ?_)
  exact And.intro (fun _ => hk w q1 q2 ⟨A, hR, hi0, hz, h4⟩ (by omega) (by omega)) (fun z => absurd rfl z)
theorem lw_getAs {i q1 q2 : Nat} (hi : i + 7 ≤ (xS G).2.1) (hL : (xS G).2.1 ≤ 448) (h : LwI w) (hq1 : q1 + 20 ≤ 600000) (hq2 : q2 + 2000 ≤ 7302250) (hk : ∀ w1 r1 r2, LwI w1 → r1 ≤ q1 + 20 → r2 ≤ q2 + 2000 → Wq G ML_law 1635 [some (.ref 0), some (.ref 2), some (.ref 79), some (.int (nI i))] [] (r1, r2) w1 Q) : Wq G ML_law 1071 [some (.ref 0), some (.ref 2), some (.ref 79), some (.int (nI i))] [] (q1, q2) w Q := by
  obtain ⟨A, hR, hi0, hz, h4⟩ := h
  have T := hi0.1.1
  have X := hi0.1.2.1
  have H := hi0.1.2.2.1
  have Ac := hi0.1.2.2.2.1
  have D := hi0.1.2.2.2.2.1
  have Vr := hi0.1.2.2.2.2.2.2.1
  have V := hi0.1.vrd
  have C := hi0.2.1
  have Qi := hi0.2.2.1
  have Tr := hi0.2.2.2.1
  have Ht := hi0.2.2.2.2
  refine Wq.low (fun lo => ?_)
  have l0 := lo.2.1
  have v : ∀ {k}, k < 7 → vp_in (nI i + nI k) (gN w 1 0) := fun hk => v_in lo hi hL hk
  refine Wq.go okL_law_18 19 [1090] ?_
  refine And.intro (Or.inl l0) (And.intro (v (k := 1) (by omega)) (And.intro (Or.inl l0) (And.intro (v (k := 2) (by omega)) (And.intro (Or.inl l0) (And.intro (v (k := 3) (by omega)) (And.intro hR.k2 (c11_getAs hR T Ac X H V hz (fun A1 w1 hF => ?_))))))))
  have hm : Mq w w1 := hF.2.2.1
  have hi1 := hm.inv hi0
  have T' := hi1.1.1
  have X' := hi1.1.2.1
  have H' := hi1.1.2.2.1
  have Vr' := hi1.1.2.2.2.2.2.2.1
  have V' := hi1.1.vrd
  have V6' := inv_V6 hi1
  have C' := hi1.2.1
  have Qi' := hi1.2.2.1
  have Ht' := hi1.2.2.2.2
  refine Wq.low (fun lo1 => ?_)
  have l1 := lo1.2.1
  have e20 : gI w1 20 0 = gI w 20 0 := lo1.2.2.2.2.2.1.trans lo.2.2.2.2.2.1.symm
  have v1 : ∀ {k}, k < 7 → vp_in (nI i + nI k) (gN w1 1 0) := fun hk => v_in lo1 hi hL hk
  refine Wq.go okL_law_18 23 [1635] ?_
  refine And.intro (Or.inl l1) (And.intro (v1 (k := 1) (by omega)) (And.intro (Or.inl l1) (And.intro (v1 (k := 2) (by omega)) (And.intro (Or.inl l1) (And.intro (v1 (k := 3) (by omega)) (And.intro ⟨hF.2.2.2.trans h4, rfl⟩ (c12_getAs T' X' H' V6' (fun w2 hS => ?_))))))))
  rw [e20] at hS
  have hLI := LwI.of h4 hF (q_getAs hm _ _ _) hS (i_getAs hi0 _ _ _)
  refine And.intro (fun _ => hk _ _ _ hLI (by show q1 ≤ q1 + 20; omega) (by show q2 ≤ q2 + 2000; omega)) (fun z => absurd ?_ z)
  rw [e20]; exact lg_eq0.mpr (q_getAs hm _ _ _).1.symm
theorem lw_set {i q1 q2 : Nat} (hi : i + 7 ≤ (xS G).2.1) (hL : (xS G).2.1 ≤ 448) (h : LwI w) (hq1 : q1 + 20 ≤ 600000) (hq2 : q2 + 2000 ≤ 7302250) (hk : ∀ w1 r1 r2, LwI w1 → r1 ≤ q1 + 20 → r2 ≤ q2 + 2000 → Wq G ML_law 1635 [some (.ref 0), some (.ref 2), some (.ref 79), some (.int (nI i))] [] (r1, r2) w1 Q) : Wq G ML_law 1115 [some (.ref 0), some (.ref 2), some (.ref 79), some (.int (nI i))] [] (q1, q2) w Q := by
  obtain ⟨A, hR, hi0, hz, h4⟩ := h
  have T := hi0.1.1
  have X := hi0.1.2.1
  have H := hi0.1.2.2.1
  have Ac := hi0.1.2.2.2.1
  have D := hi0.1.2.2.2.2.1
  have Vr := hi0.1.2.2.2.2.2.2.1
  have V := hi0.1.vrd
  have C := hi0.2.1
  have Qi := hi0.2.2.1
  have Tr := hi0.2.2.2.1
  have Ht := hi0.2.2.2.2
  refine Wq.low (fun lo => ?_)
  have l0 := lo.2.1
  have v : ∀ {k}, k < 7 → vp_in (nI i + nI k) (gN w 1 0) := fun hk => v_in lo hi hL hk
  refine Wq.go (tab_app okL_law_18 okL_law_19) 31 [1149] ?_
  refine And.intro (Or.inl l0) (And.intro (v (k := 1) (by omega)) (And.intro (Or.inl l0) (And.intro (v (k := 2) (by omega)) (And.intro (Or.inl l0) (And.intro (v (k := 3) (by omega)) (And.intro (Or.inl l0) (And.intro (v (k := 4) (by omega)) (And.intro hR.k2 (c11_set hR T X H hz (fun A1 w1 hF => ?_))))))))))
  have hm : Mq w w1 := hF.2.2.1
  have hi1 := hm.inv hi0
  have T' := hi1.1.1
  have X' := hi1.1.2.1
  have H' := hi1.1.2.2.1
  have Vr' := hi1.1.2.2.2.2.2.2.1
  have V' := hi1.1.vrd
  have V6' := inv_V6 hi1
  have C' := hi1.2.1
  have Qi' := hi1.2.2.1
  have Ht' := hi1.2.2.2.2
  refine Wq.low (fun lo1 => ?_)
  have l1 := lo1.2.1
  have e20 : gI w1 20 0 = gI w 20 0 := lo1.2.2.2.2.2.1.trans lo.2.2.2.2.2.1.symm
  have v1 : ∀ {k}, k < 7 → vp_in (nI i + nI k) (gN w1 1 0) := fun hk => v_in lo1 hi hL hk
  refine Wq.go (tab_app okL_law_19 okL_law_20) 34 [1635] ?_
  refine And.intro (Or.inl l1) (And.intro (v1 (k := 1) (by omega)) (And.intro (Or.inl l1) (And.intro (v1 (k := 2) (by omega)) (And.intro (Or.inl l1) (And.intro (v1 (k := 3) (by omega)) (And.intro (Or.inl l1) (And.intro (v1 (k := 4) (by omega)) (And.intro ⟨hF.2.2.2.trans h4, rfl⟩ (c12_set T' X' H' (fun w2 hS => ?_))))))))))
  rw [e20] at hS
  have hLI := LwI.of h4 hF (q_set hm _ _ _) hS (i_set hi0 _ _ _)
  refine And.intro (fun _ => hk _ _ _ hLI (by show q1 ≤ q1 + 20; omega) (by show q2 ≤ q2 + 2000; omega)) (fun z => absurd ?_ z)
  rw [e20]; exact (q_set hm _ _ _).1.symm
theorem lw_column {i q1 q2 : Nat} (hi : i + 7 ≤ (xS G).2.1) (hL : (xS G).2.1 ≤ 448) (h : LwI w) (hq1 : q1 + 20 ≤ 600000) (hq2 : q2 + 2000 ≤ 7302250) (hk : ∀ w1 r1 r2, LwI w1 → r1 ≤ q1 + 20 → r2 ≤ q2 + 2000 → Wq G ML_law 1635 [some (.ref 0), some (.ref 2), some (.ref 79), some (.int (nI i))] [] (r1, r2) w1 Q) : Wq G ML_law 1188 [some (.ref 0), some (.ref 2), some (.ref 79), some (.int (nI i))] [] (q1, q2) w Q := by
  obtain ⟨A, hR, hi0, hz, h4⟩ := h
  have T := hi0.1.1
  have X := hi0.1.2.1
  have H := hi0.1.2.2.1
  have Ac := hi0.1.2.2.2.1
  have D := hi0.1.2.2.2.2.1
  have Vr := hi0.1.2.2.2.2.2.2.1
  have V := hi0.1.vrd
  have C := hi0.2.1
  have Qi := hi0.2.2.1
  have Tr := hi0.2.2.2.1
  have Ht := hi0.2.2.2.2
  refine Wq.low (fun lo => ?_)
  have l0 := lo.2.1
  have v : ∀ {k}, k < 7 → vp_in (nI i + nI k) (gN w 1 0) := fun hk => v_in lo hi hL hk
  refine Wq.go okL_law_20 19 [1207] ?_
  refine And.intro (Or.inl l0) (And.intro (v (k := 1) (by omega)) (And.intro (Or.inl l0) (And.intro (v (k := 2) (by omega)) (And.intro (Or.inl l0) (And.intro (v (k := 3) (by omega)) (And.intro hR.k2 (And.intro ⟨by show q1 + 2 ≤ 600000; omega, by show q2 + 62 ≤ 7302250; omega⟩ (c11_column hR C hz (fun A1 w1 hF => ?_)))))))))
  have hm : Mq w w1 := hF.2.2.1
  have hi1 := hm.inv hi0
  have T' := hi1.1.1
  have X' := hi1.1.2.1
  have H' := hi1.1.2.2.1
  have Vr' := hi1.1.2.2.2.2.2.2.1
  have V' := hi1.1.vrd
  have V6' := inv_V6 hi1
  have C' := hi1.2.1
  have Qi' := hi1.2.2.1
  have Ht' := hi1.2.2.2.2
  refine Wq.low (fun lo1 => ?_)
  have l1 := lo1.2.1
  have e20 : gI w1 20 0 = gI w 20 0 := lo1.2.2.2.2.2.1.trans lo.2.2.2.2.2.1.symm
  have v1 : ∀ {k}, k < 7 → vp_in (nI i + nI k) (gN w1 1 0) := fun hk => v_in lo1 hi hL hk
  refine Wq.go (tab_app okL_law_20 okL_law_21) 22 [1635] ?_
  refine And.intro (Or.inl l1) (And.intro (v1 (k := 1) (by omega)) (And.intro (Or.inl l1) (And.intro (v1 (k := 2) (by omega)) (And.intro (Or.inl l1) (And.intro (v1 (k := 3) (by omega)) (And.intro ⟨hF.2.2.2.trans h4, rfl⟩ (c12_column  (fun w2 hS => ?_))))))))
  rw [e20] at hS
  have hLI := LwI.of h4 hF (q_column hm _ _ _) hS (i_column hi0 _ _ _)
  refine And.intro (fun _ => hk _ _ _ hLI (by show q1 + 2 ≤ q1 + 20; omega) (by show q2 + 62 ≤ q2 + 2000; omega)) (fun z => absurd ?_ z)
  rw [e20]; exact (q_column hm _ _ _).1.symm
theorem lw_fill {i q1 q2 : Nat} (hi : i + 7 ≤ (xS G).2.1) (hL : (xS G).2.1 ≤ 448) (h : LwI w) (hq1 : q1 + 20 ≤ 600000) (hq2 : q2 + 2000 ≤ 7302250) (hk : ∀ w1 r1 r2, LwI w1 → r1 ≤ q1 + 20 → r2 ≤ q2 + 2000 → Wq G ML_law 1635 [some (.ref 0), some (.ref 2), some (.ref 79), some (.int (nI i))] [] (r1, r2) w1 Q) : Wq G ML_law 1231 [some (.ref 0), some (.ref 2), some (.ref 79), some (.int (nI i))] [] (q1, q2) w Q := by
  obtain ⟨A, hR, hi0, hz, h4⟩ := h
  have T := hi0.1.1
  have X := hi0.1.2.1
  have H := hi0.1.2.2.1
  have Ac := hi0.1.2.2.2.1
  have D := hi0.1.2.2.2.2.1
  have Vr := hi0.1.2.2.2.2.2.2.1
  have V := hi0.1.vrd
  have C := hi0.2.1
  have Qi := hi0.2.2.1
  have Tr := hi0.2.2.2.1
  have Ht := hi0.2.2.2.2
  refine Wq.low (fun lo => ?_)
  have l0 := lo.2.1
  have v : ∀ {k}, k < 7 → vp_in (nI i + nI k) (gN w 1 0) := fun hk => v_in lo hi hL hk
  refine Wq.go okL_law_21 14 [1245] ?_
  refine And.intro (Or.inl l0) (And.intro (v (k := 1) (by omega)) (And.intro (Or.inl l0) (And.intro (v (k := 2) (by omega)) (And.intro hR.k2 (c11_fill hR T Ac X H C V hz (fun A1 w1 hF => ?_))))))
  have hm : Mq w w1 := hF.2.2.1
  have hi1 := hm.inv hi0
  have T' := hi1.1.1
  have X' := hi1.1.2.1
  have H' := hi1.1.2.2.1
  have Vr' := hi1.1.2.2.2.2.2.2.1
  have V' := hi1.1.vrd
  have V6' := inv_V6 hi1
  have C' := hi1.2.1
  have Qi' := hi1.2.2.1
  have Ht' := hi1.2.2.2.2
  refine Wq.low (fun lo1 => ?_)
  have l1 := lo1.2.1
  have e20 : gI w1 20 0 = gI w 20 0 := lo1.2.2.2.2.2.1.trans lo.2.2.2.2.2.1.symm
  have v1 : ∀ {k}, k < 7 → vp_in (nI i + nI k) (gN w1 1 0) := fun hk => v_in lo1 hi hL hk
  refine Wq.go (tab_app okL_law_21 okL_law_22) 17 [1635] ?_
  refine And.intro (Or.inl l1) (And.intro (v1 (k := 1) (by omega)) (And.intro (Or.inl l1) (And.intro (v1 (k := 2) (by omega)) (And.intro ⟨hF.2.2.2.trans h4, rfl⟩ (c12_fill T' X' H' C' V6' (fun w2 hS => ?_))))))
  rw [e20] at hS
  have hLI := LwI.of h4 hF (q_fill hm _ _) hS (i_fill hi0 _ _)
  refine And.intro (fun _ => hk _ _ _ hLI (by show q1 ≤ q1 + 20; omega) (by show q2 ≤ q2 + 2000; omega)) (fun z => absurd ?_ z)
  rw [e20]; exact (q_fill hm _ _).1.symm
end
