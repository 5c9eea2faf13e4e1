/-! ===== fields and methods told ===== -/
theorem mby_neg {m : qSt} (hI : TInv m) {t : Nat} (ht : t < 100) (name fld : Int32) : (0 ≤ mby m t name fld ↔ ¬ mby m t name fld = -1) := by
  rcases mby_cases m t name fld with e | ⟨j, hj, e, -, -⟩
  · rw [e]; exact ⟨fun q => absurd q (by decide), fun q => absurd rfl q⟩
  · have := (hI.mbs ht).2.1
    rw [e, i32_le, nI_t (by omega), i32_eq, nI_t (by omega)]
    show ((0 : Int) ≤ j ↔ ¬ (j : Int) = -1)
    omega
theorem sAdd_nM (w : qSt) (t : Nat) (n f : Int32) : mi (sAdd w t n f) 1 = mi w 1 := rfl
section
variable {G : qGX} {w : qSt} {Q : Option Value → qSt → Prop}
theorem c12_field {c n t s : Int32} (hI : TInv w) (hs : s &&& 1 = s) (h : ∀ w', Sc (S_field w c n t s).2 w' → Q (some (.int (S_field w c n t s).1)) w') : Con G M12_field [.ref 79, .int c, .int n, .int t, .int s] w Q := by
  have h100 := hI.le
  unfold S_field at h
  have bad : (c = 8 ∨ ¬ isC w c ∨ ¬ isN n ∨ ¬ isT w t) → Wq G M12_field 29 [some (.ref 79), some (.int c), some (.int n), some (.int t), some (.int s), none] [] (0, 0) w Q := by
    intro hb
    rw [cIf_t hb] at h
    exact Wq.go ok12_field 20 [] (c12_fail (h _ Sc.rf))
  refine Con.go hw12_field ok12_field 40 [29, 35] rfl ?_
  refine And.intro (fun c1 => bad (Or.inl c1)) (fun c1 => c12_isClass hI.ty (And.intro (fun c2 => ?_) (fun c2 => c12_isName (And.intro (fun c3 => ?_) (fun c3 => c12_isType hI.ty (And.intro (fun c4 => ?_) (fun c4 => ?_)))))))
  · rw [bI_0] at c2
    exact bad (Or.inr (Or.inl c2))
  · rw [bI_0] at c3
    exact bad (Or.inr (Or.inr (Or.inl c3)))
  · rw [bI_n0] at c2 c3 c4
    rw [cIf_f (fun q => q.elim c1 (fun q => q.elim (fun q => q c2) (fun q => q.elim (fun q => q c3) (fun q => q c4))))] at h
    obtain ⟨i, rfl, hi, hsi⟩ := c2
    obtain ⟨j, rfl, hj⟩ := c4
    rw [tn_nI (by omega), tn_nI (by omega)] at h
    have hin : vp_in (nI i) 100 := in_nI (by omega) (by decide)
    have e2 : (nI i).toNatClampNeg = i := nI_clamp (by omega)
    obtain ⟨m1, m2, m3, m4⟩ := hI.mbs (i := i) (by omega)
    refine Wq.go ok12_field 30 [81, 88] ?_
    refine And.intro hin (And.intro (fun (c5 : ¬ ma w 7 (nI i).toNatClampNeg = 10) => ?_) (fun (c5 : ma w 7 (nI i).toNatClampNeg = 10) => ?_)) <;> rw [e2, m1, c_10, nI_eqI (by omega) (by omega)] at c5
    · rw [cIf_f c5] at h
      have no : (ma w 4 i ≠ 0 ∨ ¬ mby w i n 1 = -1 ∨ (ma w 0 (sqN w j) = 3 ∧ ¬ ma w 1 (sqN w j) = nI i)) → Wq G M12_field 81 [some (.ref 79), some (.int (nI i)), some (.int n), some (.int (nI j)), some (.int s), none] [] (0, 0) w Q := by
        intro hb
        rw [cIf_t hb] at h
        exact Wq.go ok12_field 20 [] (c12_fail (h _ Sc.rf))
      refine And.intro hin (And.intro (fun (c6 : ¬ ma w 4 (nI i).toNatClampNeg = 0) => no (Or.inl (by rw [e2] at c6; exact c6))) (fun (c6 : ma w 4 (nI i).toNatClampNeg = 0) => ?_))
      rw [e2] at c6
      refine c12_memberBy hI (by omega) (And.intro (fun (c7 : 0 ≤ mby w i n 1) => no (Or.inr (Or.inl ((mby_neg hI (by omega) _ _).mp c7)))) (fun (c7 : ¬ 0 ≤ mby w i n 1) => ?_))
      rw [mby_neg hI (by omega)] at c7
      refine c12_isForeign hI hj (And.intro (fun c8 => ?_) (fun c8 => no (Or.inr (Or.inr (bI_n0.mp c8)))))
      rw [bI_0] at c8
      rw [cIf_f (fun q => q.elim (fun q => q c6) (fun q => q.elim c7 c8))] at h
      refine Wq.go ok12_field 60 [] ?_
      refine c12_addMember hI (by omega) (by omega) rfl ?_
      have hina : vp_in (nI (10 * i + nM w i)) 1000 := in_nI (by omega) (by decide)
      have ea : (nI (10 * i + nM w i)).toNatClampNeg = 10 * i + nM w i := nI_clamp (by omega)
      refine And.intro hina (And.intro hs (And.intro hina (c12_isLane (And.intro (fun c9 => ?_) (fun c9 => ?_)))))
      · rw [bI_0] at c9
        refine And.intro hina (And.intro (by decide) (c12_good ?_))
        show Q (some (.int (nI (10 * i + nM w i) - nI (10 * i + nM w i) / 10 * 10))) (sI (sJ (sI (sI (sAdd w i n 1) 40 10 (nI (10 * i + nM w i)).toNatClampNeg (nI j)) 40 11 (nI (10 * i + nM w i)).toNatClampNeg s) 40 14 (nI (10 * i + nM w i)).toNatClampNeg (-1)) 12 0 0 0)
        rw [rem10 (by omega), ea, show (10 * i + nM w i) % 10 = nM w i by omega, show (-1 : Int64) = laneV (nI j) from (cIf_f c9).symm]
        exact h _ Sc.rf
      · rw [bI_n0] at c9
        refine And.intro hina (And.intro (by decide) (c12_good ?_))
        show Q (some (.int (nI (10 * i + nM w i) - nI (10 * i + nM w i) / 10 * 10))) (sI (sJ (sI (sI (sAdd w i n 1) 40 10 (nI (10 * i + nM w i)).toNatClampNeg (nI j)) 40 11 (nI (10 * i + nM w i)).toNatClampNeg s) 40 14 (nI (10 * i + nM w i)).toNatClampNeg (0)) 12 0 0 0)
        rw [rem10 (by omega), ea, show (10 * i + nM w i) % 10 = nM w i by omega, show (0 : Int64) = laneV (nI j) from (cIf_t c9).symm]
        exact h _ Sc.rf
    · rw [cIf_t c5] at h
      exact c12_fail (h _ Sc.rf)
  · rw [bI_0] at c4
    exact bad (Or.inr (Or.inr (Or.inr c4)))
theorem c12_method {t n b a : Int32} (hI : TInv w) (h : ∀ w', Sc (S_method w t n b a).2 w' → Q (some (.int (S_method w t n b a).1)) w') : Con G M12_method [.ref 79, .int t, .int n, .int b, .int a] w Q := by
  have h100 := hI.le
  unfold S_method at h
  -- the third part: whether it is refused
  have main : ¬ badM w t n b a → Wq G M12_method 77 [some (.ref 79), some (.int t), some (.int n), some (.int b), some (.int a), none, none, none] [] (0, 0) w Q := by
    intro hnb
    rw [cIf_f hnb] at h
    obtain ⟨i, rfl, hi⟩ : ∃ i, t = nI i ∧ i < nT w := by
      refine Classical.byContradiction (fun q => hnb (Or.inr (Or.inl ⟨fun ⟨i, e, hi, _⟩ => q ⟨i, e, hi⟩, fun ⟨i, e, hi, _⟩ => q ⟨i, e, hi⟩⟩)))
    rw [tn_nI (by omega)] at h
    have hin : vp_in (nI i) 100 := in_nI (by omega) (by decide)
    have e2 : (nI i).toNatClampNeg = i := nI_clamp (by omega)
    obtain ⟨m1, m2, m3, m4⟩ := hI.mbs (i := i) (by omega)
    refine Wq.go ok12_method 30 [95] ?_
    refine And.intro hin (And.intro (fun (c5 : ¬ ma w 7 (nI i).toNatClampNeg = 10) => ?_) (fun (c5 : ma w 7 (nI i).toNatClampNeg = 10) => ?_)) <;> rw [e2, m1, c_10, nI_eqI (by omega) (by omega)] at c5
    · rw [cIf_f c5] at h
      have last : ∀ (p : Prop), (p ↔ noM w i n b a) → Wq G M12_method 227 [some (.ref 79), some (.int (nI i)), some (.int n), some (.int b), some (.int a), none, some (.int (bI p)), none] [] (0, 0) w Q := by
        intro p hp
        refine Wq.go ok12_method 60 [] ?_
        refine And.intro (fun c6 => ?_) (fun c6 => ?_)
        · rw [bI_0, hp] at c6
          rw [cIf_f c6] at h
          have hina : vp_in (nI (10 * i + nM w i)) 1000 := in_nI (by omega) (by decide)
          have ea : (nI (10 * i + nM w i)).toNatClampNeg = 10 * i + nM w i := nI_clamp (by omega)
          refine c12_addMember hI (by omega) (by omega) rfl ?_
          refine And.intro hina (And.intro hina (And.intro (by decide) (c12_good ?_)))
          show Q (some (.int (nI (10 * i + nM w i) - nI (10 * i + nM w i) / 10 * 10))) (sI (sI (sI (sAdd w i n 0) 40 12 (nI (10 * i + nM w i)).toNatClampNeg b) 40 13 (nI (10 * i + nM w i)).toNatClampNeg a) 12 0 0 0)
          rw [rem10 (by omega), ea, show (10 * i + nM w i) % 10 = nM w i by omega]
          exact h _ Sc.rf
        · rw [bI_n0, hp] at c6
          rw [cIf_t c6] at h
          exact c12_fail (h _ Sc.rf)
      have third : ∀ (p : Prop), (p ↔ ((ma w 4 i ≠ 0 ∨ ¬ mby w i n 0 = -1 ∨ (ma w 0 i = 2 ∧ (b = 1 ∨ b = 2))) ∨ (ma w 0 i = 1 ∧ ma w 3 i = 0 ∧ b = 0))) → Wq G M12_method 176 [some (.ref 79), some (.int (nI i)), some (.int n), some (.int b), some (.int a), none, some (.int (bI p)), none] [] (0, 0) w Q := by
        intro p hp
        have put : ∀ (v : Int32) (p' : Prop), v = bI p' → (p' ↔ (p ∨ (b = 1 ∧ ¬ ∃ j, a = nI j ∧ j < nM w i ∧ ¬ ma w 8 (10 * i + j) = 0))) → Wq G M12_method 225 [some (.ref 79), some (.int (nI i)), some (.int n), some (.int b), some (.int a), none, some (.int (bI p)), none] [.int v] (0, 0) w Q := by
          intro v p' hv hp'
          rw [hv]
          refine Wq.go ok12_method 20 [227] ?_
          refine last p' ?_
          rw [hp', hp, or_assoc]; exact Iff.rfl
        refine Wq.go ok12_method 40 [225] ?_
        refine And.intro (fun c6 => ?_) (fun c6 => And.intro (fun (c7 : ¬ b = 1) => ?_) (fun (c7 : b = 1) => And.intro hin ?_))
        · rw [bI_n0] at c6
          exact put 1 True (bI_t trivial).symm ⟨fun _ => Or.inl c6, fun _ => trivial⟩
        · rw [bI_0] at c6
          exact put 0 False (bI_f id).symm ⟨False.elim, fun q => q.elim c6 (fun q => c7 q.1)⟩
        · rw [bI_0] at c6
          refine c12_inI (x := a.toInt) (y := 0) (z := (nM w i : Int) - 1) (i32_wide a) rfl ?_ ?_
          · show ((ma w 7 (nI i).toNatClampNeg - 1 : Int32).toInt64).toInt = _
            rw [i32_wide, e2, m1, sub1 (by omega)]
          · rw [← ex_iff (by omega)]
            refine And.intro (fun c8 => ?_) (fun c8 => ?_)
            · rw [bI_0] at c8
              exact put 1 True (bI_t trivial).symm ⟨fun _ => Or.inr ⟨c7, fun ⟨j, e, hj, _⟩ => c8 ⟨j, e, hj⟩⟩, fun _ => trivial⟩
            · rw [bI_n0] at c8
              obtain ⟨j, rfl, hj⟩ := c8
              have ea : (10 : Int32) * nI i + nI j = nI (10 * i + j) := ix10 i j
              have hin3 : vp_in ((10 : Int32) * nI i + nI j) 1000 := by rw [ea]; exact in_nI (by omega) (by decide)
              refine And.intro hin3 (And.intro (fun (c9 : ¬ ma w 8 ((10 : Int32) * nI i + nI j).toNatClampNeg = 0) => ?_) (fun (c9 : ma w 8 ((10 : Int32) * nI i + nI j).toNatClampNeg = 0) => ?_)) <;> rw [ea, nI_clamp (by omega)] at c9
              · exact put 0 False (bI_f id).symm ⟨False.elim, fun q => q.elim c6 (fun q => q.2 ⟨j, rfl, hj, c9⟩)⟩
              · refine put 1 True (bI_t trivial).symm ⟨fun _ => Or.inr ⟨c7, fun ⟨j', e, hj', q⟩ => ?_⟩, fun _ => trivial⟩
                rw [nI_eqI (by omega) (by omega)] at e
                rw [← e] at q
                exact q c9
      have second : ∀ (p : Prop), (p ↔ (ma w 4 i ≠ 0 ∨ ¬ mby w i n 0 = -1 ∨ (ma w 0 i = 2 ∧ (b = 1 ∨ b = 2)))) → Wq G M12_method 141 [some (.ref 79), some (.int (nI i)), some (.int n), some (.int b), some (.int a), none, some (.int (bI p)), none] [] (0, 0) w Q := by
        intro p hp
        have put : ∀ (v : Int32) (p' : Prop), v = bI p' → (p' ↔ (p ∨ (ma w 0 i = 1 ∧ ma w 3 i = 0 ∧ b = 0))) → Wq G M12_method 174 [some (.ref 79), some (.int (nI i)), some (.int n), some (.int b), some (.int a), none, some (.int (bI p)), none] [.int v] (0, 0) w Q := by
          intro v p' hv hp'
          rw [hv]
          refine Wq.go ok12_method 20 [176] ?_
          refine third p' ?_
          rw [hp', hp]
        refine Wq.go ok12_method 40 [174] ?_
        refine And.intro (fun c6 => ?_) (fun c6 => And.intro hin (And.intro (fun (c7 : ¬ ma w 0 (nI i).toNatClampNeg = 1) => ?_) (fun (c7 : ma w 0 (nI i).toNatClampNeg = 1) => And.intro hin (And.intro (fun (c8 : ¬ ma w 3 (nI i).toNatClampNeg = 0) => ?_) (fun (c8 : ma w 3 (nI i).toNatClampNeg = 0) => And.intro (fun (c9 : ¬ b = 0) => ?_) (fun (c9 : b = 0) => ?_))))))
        · rw [bI_n0] at c6
          exact put 1 True (bI_t trivial).symm ⟨fun _ => Or.inl c6, fun _ => trivial⟩
        · rw [e2] at c7
          rw [bI_0] at c6
          exact put 0 False (bI_f id).symm ⟨False.elim, fun q => q.elim c6 (fun q => c7 q.1)⟩
        · rw [e2] at c8
          rw [bI_0] at c6
          exact put 0 False (bI_f id).symm ⟨False.elim, fun q => q.elim c6 (fun q => c8 q.2.1)⟩
        · rw [bI_0] at c6
          exact put 0 False (bI_f id).symm ⟨False.elim, fun q => q.elim c6 (fun q => c9 q.2.2)⟩
        · rw [e2] at c7 c8
          exact put 1 True (bI_t trivial).symm ⟨fun _ => Or.inr ⟨c7, c8, c9⟩, fun _ => trivial⟩
      have put : ∀ (v : Int32) (p' : Prop), v = bI p' → (p' ↔ (ma w 4 i ≠ 0 ∨ ¬ mby w i n 0 = -1 ∨ (ma w 0 i = 2 ∧ (b = 1 ∨ b = 2)))) → Wq G M12_method 139 [some (.ref 79), some (.int (nI i)), some (.int n), some (.int b), some (.int a), none, none, none] [.int v] (0, 0) w Q := by
        intro v p' hv hp'
        rw [hv]
        refine Wq.go ok12_method 20 [141] ?_
        exact second p' hp'
      refine Wq.go ok12_method 40 [139] ?_
      refine And.intro hin (And.intro (fun (c6 : ¬ ma w 4 (nI i).toNatClampNeg = 0) => ?_) (fun (c6 : ma w 4 (nI i).toNatClampNeg = 0) => ?_)) <;> rw [e2] at c6
      · exact put 1 True (bI_t trivial).symm ⟨fun _ => Or.inl c6, fun _ => trivial⟩
      · refine c12_memberBy hI (by omega) (And.intro (fun (c7 : 0 ≤ mby w i n 0) => ?_) (fun (c7 : ¬ 0 ≤ mby w i n 0) => And.intro hin (And.intro (fun (c8 : ¬ ma w 0 (nI i).toNatClampNeg = 2) => ?_) (fun (c8 : ma w 0 (nI i).toNatClampNeg = 2) => And.intro (fun (c9 : b = 1) => ?_) (fun (c9 : ¬ b = 1) => And.intro (fun (c10 : ¬ b = 2) => ?_) (fun (c10 : b = 2) => ?_)))))) <;> rw [mby_neg hI (by omega)] at c7
        · exact put 1 True (bI_t trivial).symm ⟨fun _ => Or.inr (Or.inl c7), fun _ => trivial⟩
        · rw [e2] at c8
          exact put 0 False (bI_f id).symm ⟨False.elim, fun q => q.elim (fun q => q c6) (fun q => q.elim c7 (fun q => c8 q.1))⟩
        · rw [e2] at c8
          exact put 1 True (bI_t trivial).symm ⟨fun _ => Or.inr (Or.inr ⟨c8, Or.inl c9⟩), fun _ => trivial⟩
        · exact put 0 False (bI_f id).symm ⟨False.elim, fun q => q.elim (fun q => q c6) (fun q => q.elim c7 (fun q => q.2.elim c9 c10))⟩
        · rw [e2] at c8
          exact put 1 True (bI_t trivial).symm ⟨fun _ => Or.inr (Or.inr ⟨c8, Or.inr c10⟩), fun _ => trivial⟩
    · rw [cIf_t c5] at h
      exact c12_fail (h _ Sc.rf)
  have first : ∀ (v : Int32) (p : Prop), v = bI p → (p ↔ badM w t n b a) → Wq G M12_method 64 [some (.ref 79), some (.int t), some (.int n), some (.int b), some (.int a), none, none, none] [.int v] (0, 0) w Q := by
    intro v p hv hp
    rw [hv]
    refine Wq.go ok12_method 20 [77] ?_
    refine And.intro (fun c => ?_) (fun c => ?_)
    · rw [bI_0, hp] at c
      refine Wq.ls (ls' := [some (.ref 79), some (.int t), some (.int n), some (.int b), some (.int a), none, none, none]) ⟨rfl, rfl, rfl, rfl, rfl, trivial⟩ ?_
      exact main c
    · rw [bI_n0, hp] at c
      rw [cIf_t c] at h
      exact c12_fail (h _ Sc.rf)
  have yes : badM w t n b a → Wq G M12_method 59 [some (.ref 79), some (.int t), some (.int n), some (.int b), some (.int a), none, none, none] [] (0, 0) w Q := by
    intro hb
    refine Wq.go ok12_method 20 [64] ?_
    exact first 1 True (bI_t trivial).symm ⟨fun _ => hb, fun _ => trivial⟩
  have mid : ¬ t = 8 → (isC w t ∨ isF w t) → Wq G M12_method 22 [some (.ref 79), some (.int t), some (.int n), some (.int b), some (.int a), none, none, none] [] (0, 0) w Q := by
    intro h8 hk
    refine Wq.go ok12_method 40 [59, 63, 51] ?_
    have no : isN n → (0 ≤ b.toInt ∧ b.toInt ≤ 5) → ¬ ((b = 3 ∨ b = 5) ∧ ¬ isN a) → Wq G M12_method 63 [some (.ref 79), some (.int t), some (.int n), some (.int b), some (.int a), none, none, none] [] (0, 0) w Q := by
      intro q1 q2 q3
      refine Wq.go ok12_method 20 [64] ?_
      refine first 0 False (bI_f id).symm ⟨False.elim, fun q => ?_⟩
      rcases q with q | q | q | q | q
      · exact h8 q
      · exact hk.elim q.1 q.2
      · exact q q1
      · exact q q2
      · exact q3 q
    refine c12_isName (And.intro (fun c => ?_) (fun c => ?_))
    · rw [bI_0] at c
      exact yes (Or.inr (Or.inr (Or.inl c)))
    · rw [bI_n0] at c
      refine c12_inI (x := b.toInt) (y := 0) (z := 5) (i32_wide b) rfl rfl (And.intro (fun c2 => ?_) (fun c2 => ?_))
      · rw [bI_0] at c2
        exact yes (Or.inr (Or.inr (Or.inr (Or.inl c2))))
      · rw [bI_n0] at c2
        have nm : (b = 3 ∨ b = 5) → Wq G M12_method 51 [some (.ref 79), some (.int t), some (.int n), some (.int b), some (.int a), none, none, none] [] (0, 0) w Q := by
          intro hb
          refine Wq.go ok12_method 20 [59, 63] ?_
          refine c12_isName (And.intro (fun c3 => ?_) (fun c3 => ?_))
          · rw [bI_n0] at c3
            exact no c c2 (fun q => q.2 c3)
          · rw [bI_0] at c3
            exact yes (Or.inr (Or.inr (Or.inr (Or.inr ⟨hb, c3⟩))))
        refine And.intro (fun (c3 : b = 3) => ?_) (fun (c3 : ¬ b = 3) => And.intro (fun (c4 : ¬ b = 5) => ?_) (fun (c4 : b = 5) => ?_))
        · exact nm (Or.inl c3)
        · exact no c c2 (fun q => q.1.elim c3 c4)
        · exact nm (Or.inr c4)
  refine Con.go hw12_method ok12_method 40 [59, 22] rfl ?_
  refine And.intro (fun c => yes (Or.inl c)) (fun c => c12_isClass hI.ty (And.intro (fun c2 => ?_) (fun c2 => ?_)))
  · rw [bI_n0] at c2
    exact mid c (Or.inl c2)
  · rw [bI_0] at c2
    refine c12_isFace hI.ty (And.intro (fun c3 => ?_) (fun c3 => ?_))
    · rw [bI_0] at c3
      exact yes (Or.inr (Or.inl ⟨c2, c3⟩))
    · rw [bI_n0] at c3
      exact mid c (Or.inr c3)
end
