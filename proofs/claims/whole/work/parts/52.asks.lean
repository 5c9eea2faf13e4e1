/-! ===== calls of the class that only ask ===== -/
theorem Fin.cw {A : qA} {m w w1 w' : qSt} (h : Fin A m w1 w') (hc : CW w w1) : Fin A m w w' := ⟨h.1, h.2.1, hc.tr h.2.2⟩
section
variable {G : qGX} {A : qA} {m w : qSt} {Q : Option Value → qSt → Prop}
theorem ans_n {v : Int32} (hR : Rep A m w) (hz : qZero w) (hv : v < 0) (h : ∀ A' w', Fin A' (stt m v) w w' → Q (some (.int v)) w') : Con G M11_answered [.ref 2, .int v] w Q := by
  refine c11_answered hR.k2 ?_
  rw [cIf_t hv]
  exact h A _ (hR.fin hz v)
theorem ans_p {v : Int32} (hR : Rep A m w) (hz : qZero w) (hv : ¬ v < 0) (h : ∀ A' w', Fin A' (stt m 0) w w' → Q (some (.int v)) w') : Con G M11_answered [.ref 2, .int v] w Q := by
  refine c11_answered hR.k2 ?_
  rw [cIf_f hv]
  exact h A _ (hR.fin hz 0)
theorem los_n {v : Int32} {x : Int64} (hR : Rep A m w) (hz : qZero w) (hv : ¬ v = 0) (h : ∀ A' w', Fin A' (stt m v) w w' → Q (some (.long (-9223372036854775808))) w') : Con G M11_lostOr [.ref 2, .int v, .long x] w Q := by
  refine c11_lostOr hR.k2 ?_
  rw [cIf_f hv]
  exact h A _ (hR.fin hz v)
theorem los_p {x : Int64} (hR : Rep A m w) (hz : qZero w) (h : ∀ A' w', Fin A' (stt m 0) w w' → Q (some (.long x)) w') : Con G M11_lostOr [.ref 2, .int 0, .long x] w Q := by
  refine c11_lostOr hR.k2 ?_
  rw [cIf_t rfl]
  exact h A _ (hR.fin hz 0)
theorem Rep.r1 (h : Rep A m w) : gR w 10 0 2 = some 3 := h.fr.1
theorem Rep.r2 (h : Rep A m w) : gR w 10 1 2 = some 71 := h.fr.2.1
theorem Rep.r3 (h : Rep A m w) : gR w 10 2 2 = some 73 := h.fr.2.2.1
theorem Rep.r4 (h : Rep A m w) : gR w 10 3 2 = some 76 := h.fr.2.2.2.1
theorem Rep.r5 (h : Rep A m w) : gR w 10 4 2 = some 77 := h.fr.2.2.2.2.1
theorem Rep.r6 (h : Rep A m w) : gR w 10 5 2 = some 78 := h.fr.2.2.2.2.2.1
theorem Rep.k3 (h : Rep A m w) : gN w 0 3 = 9 := h.fk.2.1
theorem Rep.k71 (h : Rep A m w) : gN w 0 71 = 6 := h.fk.2.2.2.2.2.1
theorem Rep.k73 (h : Rep A m w) : gN w 0 73 = 4 := h.fk.2.2.2.2.2.2.2.1
theorem neg1 : (-1 : Int32) < 0 := by decide
theorem i01 {k : Int32} (h1 : ¬ k < 0) (h2 : k ≤ 1) : k = 0 ∨ k = 1 := by
  rw [i32_lt, c0i] at h1
  rw [i32_le] at h2
  have h2 : k.toInt ≤ 1 := h2
  rcases (show k.toInt = 0 ∨ k.toInt = 1 by omega) with q | q
  · exact Or.inl ((i32_eq _ _).mpr q)
  · exact Or.inr ((i32_eq _ _).mpr q)
theorem c11_erased {t k : Int32} (hR : Rep A m w) (hI : TInv m) (hz : qZero w) (h : ∀ A' w', Fin A' (S_erased m t k).2 w w' → Q (some (.int (S_erased m t k).1)) w') : Con G M11_erased [.ref 2, .int t, .int k] w Q := by
  have h100 := hI.le
  unfold S_erased at h
  have bad : (¬ isT m t ∨ ¬ (k = 0 ∨ k = 1)) → ∀ l3, Wq G M11_erased 22 [some (.ref 2), some (.int t), some (.int k), l3] [] (0, 0) w Q := by
    intro hb l3
    rw [cIf_t hb] at h
    refine Wq.ls (ls' := [some (.ref 2), some (.int t), some (.int k), none]) ⟨rfl, rfl, rfl, by cases l3 <;> trivial⟩ ?_
    exact Wq.go ok11_erased 20 [] (And.intro hR.k2 (ans_n hR hz neg1 h))
  refine Con.go hw11_erased ok11_erased 40 [22, 28] rfl ?_
  refine And.intro hR.k2 (refS hR.r1 (And.intro hR.k3 (c10_at hR hI (fun z => bad (Or.inl z) _) (fun j e hj => ?_))))
  refine And.intro (fun c => bad (Or.inr (fun z => ?_)) _) (fun c => And.intro (fun (c2 : k ≤ 1) => ?_) (fun (c2 : ¬ k ≤ 1) => bad (Or.inr (fun z => ?_)) _))
  · rcases z with z | z <;> (rw [z] at c; exact absurd c (by decide))
  · have hk := i01 c c2
    rw [cIf_f (fun z => z.elim (fun z => z ⟨j, e, hj⟩) (fun z => z hk))] at h
    subst e
    rw [tn_nI (by omega)] at h
    have hb := baN_le hI j hj
    obtain ⟨u1, u2, u3, u4, u5, u6, u7, -⟩ := hR.ts j hj
    have tk := (hR.tk j hj).2.1
    refine Wq.go ok11_erased 20 [] ?_
    refine And.intro (fun c3 => And.intro tk (And.intro hR.k2 ?_)) (fun c3 => And.intro tk (And.intro hR.k2 ?_))
    · rw [cIf_f c3] at h
      show Con G M11_answered [.ref 2, .int (gI w 7 6 (aT A j))] w _
      rw [u7]
      exact ans_p hR hz (nI_pos (by omega)) h
    · rw [cIf_t c3] at h
      show Con G M11_answered [.ref 2, .int (gI w 7 5 (aT A j))] w _
      rw [u6]
      exact ans_p hR hz (nI_pos (by omega)) h
  · rcases z with z | z <;> (rw [z] at c2; exact absurd (by decide) c2)
theorem bI_nn (p : Prop) : ¬ bI p < 0 := by
  by_cases h : p
  · rw [bI_t h]; decide
  · rw [bI_f h]; decide
theorem c11_is {s t : Int32} (hR : Rep A m w) (hI : TInv m) (hz : qZero w) (h : ∀ A' w', Fin A' (S_is m s t).2 w w' → Q (some (.int (S_is m s t).1)) w') : Con G M11_is [.ref 2, .int s, .int t] w Q := by
  have h100 := hI.le
  unfold S_is at h
  have bad : (¬ isT m s ∨ ¬ isT m t) → ∀ l3 l4, Wq G M11_is 28 [some (.ref 2), some (.int s), some (.int t), l3, l4, none] [] (0, 0) w Q := by
    intro hb l3 l4
    rw [cIf_t hb] at h
    refine Wq.ls (ls' := [some (.ref 2), some (.int s), some (.int t), none, none, none]) ⟨rfl, rfl, rfl, by cases l3 <;> cases l4 <;> trivial⟩ ?_
    exact Wq.go ok11_is 20 [] (And.intro hR.k2 (ans_n hR hz neg1 h))
  refine Con.go hw11_is ok11_is 40 [28, 34] rfl ?_
  refine And.intro hR.k2 (refS hR.r1 (And.intro hR.k3 (c10_at hR hI (fun z => ?_) (fun i ei hi => ?_))))
  · refine And.intro hR.k2 (refS hR.r1 (And.intro hR.k3 (c10_at hR hI (fun _ => bad (Or.inl z) _ _) (fun _ _ _ => bad (Or.inl z) _ _))))
  · refine And.intro hR.k2 (refS hR.r1 (And.intro hR.k3 (c10_at hR hI (fun z => bad (Or.inr z) _ _) (fun j ej hj => ?_))))
    rw [cIf_f (fun z => z.elim (fun z => z ⟨i, ei, hi⟩) (fun z => z ⟨j, ej, hj⟩))] at h
    subst ei ej
    rw [tn_nI (by omega), tn_nI (by omega)] at h
    have b1 := baN_le hI i hi
    have b2 := baN_le hI j hj
    obtain ⟨u1, u2, u3, u4, u5, u6, u7, -⟩ := hR.ts i hi
    obtain ⟨v1, v2, v3, v4, v5, v6, v7, -⟩ := hR.ts j hj
    have tk := (hR.tk i hi).2.1
    have tj := (hR.tk j hj).2.1
    refine Wq.go ok11_is 40 [61] ?_
    refine And.intro hR.k2 (refS hR.r1 (And.intro tk (And.intro tk (And.intro tj (And.intro tj (And.intro hR.k3 ?_))))))
    show Con G M10_isUnder [.ref 3, .int (gI w 7 5 (aT A i)), .int (gI w 7 6 (aT A i)), .int (gI w 7 5 (aT A j)), .int (gI w 7 6 (aT A j))] w _
    rw [u6, u7, v6, v7]
    refine c10_isUnder hR hI (by omega) (by omega) (by omega) (by omega) ?_
    refine Wq.go ok11_is 20 [] ?_
    refine And.intro (fun c => And.intro hR.k2 ?_) (fun c => And.intro hR.k2 ?_)
    · rw [bI_0] at c
      rw [bI_f c] at h
      exact ans_p hR hz (by decide) h
    · rw [bI_n0] at c
      rw [bI_t c] at h
      exact ans_p hR hz (by decide) h
theorem c11_seen {c n : Int32} (hR : Rep A m w) (hI : TInv m) (hz : qZero w) (h : ∀ A' w', Fin A' (S_seen m c n).2 w w' → Q (some (.int (S_seen m c n).1)) w') : Con G M11_seen [.ref 2, .int c, .int n] w Q := by
  have h100 := hI.le
  unfold S_seen at h
  have bad : (¬ isC m c ∨ ¬ isN n) → ∀ l3, Wq G M11_seen 20 [some (.ref 2), some (.int c), some (.int n), l3, none] [] (0, 0) w Q := by
    intro hb l3
    rw [cIf_t hb] at h
    refine Wq.ls (ls' := [some (.ref 2), some (.int c), some (.int n), none, none]) ⟨rfl, rfl, rfl, by cases l3 <;> trivial⟩ ?_
    exact Wq.go ok11_seen 20 [] (And.intro hR.k2 (ans_n hR hz neg1 h))
  refine Con.go hw11_seen ok11_seen 40 [20, 26] rfl ?_
  refine And.intro hR.k2 (refS hR.r1 (And.intro hR.k3 (c10_classAt hR hI (fun z => bad (Or.inl z) _) (fun i ei hi hs => ?_))))
  refine c11_isName (And.intro (fun z => ?_) (fun z => bad (Or.inr (bI_0.mp z)) _))
  rw [bI_n0] at z
  rw [cIf_f (fun y => y.elim (fun y => y ⟨i, ei, hi, hs⟩) (fun y => y z))] at h
  obtain ⟨N, rfl, hN⟩ := z
  subst ei
  rw [tn_nI (by omega)] at h
  refine Wq.go ok11_seen 40 [] ?_
  refine And.intro hR.k2 (refS hR.r1 (And.intro hR.k3 (c10_fieldFrom hR hI hi hs hN (fun e => ?_) (fun d j e hd hj _ => ?_))))
  · rw [e] at h
    exact And.intro hR.k2 (ans_n hR hz (by decide) h)
  · rw [e] at h
    have h10 := (hI.mbs (i := d) (by omega)).2.1
    refine And.intro (hR.bk d j hd hj).2 (c3_code hR hI hd hj (And.intro hR.k2 ?_))
    have e2 : tld2 (10 * d + j) = 100 * d + j := by unfold tld2; omega
    have h : ∀ A' w', Fin A' (stt m 0) w w' → Q (some (.int (nI (tld2 (10 * d + j))))) w' := h
    rw [e2] at h
    exact ans_p hR hz (nI_pos (by omega)) h
theorem c11_found {c n : Int32} (hR : Rep A m w) (hI : TInv m) (hA : AInv m) (hz : qZero w) (h : ∀ A' w', Fin A' (S_found m c n).2 w w' → Q (some (.int (S_found m c n).1)) w') : Con G M11_found [.ref 2, .int c, .int n] w Q := by
  have h100 := hI.le
  unfold S_found at h
  have bad : (¬ isC m c ∨ ¬ isN n) → ∀ l3, Wq G M11_found 21 [some (.ref 2), some (.int c), some (.int n), l3] [.ref 2] (0, 0) w Q := by
    intro hb l3
    rw [cIf_t hb] at h
    refine Wq.ls (ls' := [some (.ref 2), some (.int c), some (.int n), none]) ⟨rfl, rfl, rfl, by cases l3 <;> trivial⟩ ?_
    exact Wq.go ok11_found 20 [] (And.intro hR.k2 (ans_n hR hz neg1 h))
  refine Con.go hw11_found ok11_found 40 [21, 25] rfl ?_
  refine And.intro hR.k2 (refS hR.r1 (And.intro hR.k3 (c10_classAt hR hI (fun z => bad (Or.inl z) _) (fun i ei hi hs => ?_))))
  refine c11_isName (And.intro (fun z => ?_) (fun z => bad (Or.inr (bI_0.mp z)) _))
  rw [bI_n0] at z
  rw [cIf_f (fun y => y.elim (fun y => y ⟨i, ei, hi, hs⟩) (fun y => y z))] at h
  obtain ⟨N, rfl, hN⟩ := z
  subst ei
  rw [tn_nI (by omega)] at h
  refine Wq.go ok11_found 40 [] ?_
  refine And.intro hR.k2 (refS hR.r1 (And.intro hR.k3 (c10_bodyFor hR hI hA hi hs hN (fun w1 hc => And.intro ?_ ?_))))
  · exact (hR.cd hc).k2
  · have hR1 := hR.cd hc
    have hz1 := hz.cd hc (hR.fk.2.2.2.2.1 10 (by omega))
    by_cases c1 : fdN m i (nI N) < 0
    · rw [cIf_t c1] at h
      rw [show cdI (fdN m i (nI N)) = fdN m i (nI N) from cIf_t c1]
      exact ans_n hR1 hz1 c1 (fun A' w' hF => h A' w' (hF.cw ((CW.rf w).cd hc)))
    · rw [cIf_f c1] at h
      rw [show cdI (fdN m i (nI N)) = nI (tld2 (tn (fdN m i (nI N)))) from cIf_f c1]
      refine ans_p hR1 hz1 ?_ (fun A' w' hF => h A' w' (hF.cw ((CW.rf w).cd hc)))
      rcases fd_cases hI hi hs (nI N) with e | e | ⟨d, j, e, g1, g2, -⟩
      · rw [e] at c1; exact absurd (by decide) c1
      · rw [e] at c1; exact absurd (by decide) c1
      · have h10 := (hI.mbs (i := d) (by omega)).2.1
        rw [e, tn_nI (by omega)]
        unfold tld2
        exact nI_pos (by omega)
theorem c11_kind {x k : Int32} (hR : Rep A m w) (hX : XInv m) (hT : nT m ≤ 100) (hz : qZero w) (h : ∀ A' w', Fin A' (S_kind m x k).2 w w' → Q (some (.int (S_kind m x k).1)) w') : Con G M11_kind [.ref 2, .int x, .int k] w Q := by
  have h60 := hX.2.1
  unfold S_kind at h
  have bad : (noX m x ∨ ¬ (0 ≤ k.toInt ∧ k.toInt ≤ 2)) → ∀ l3, Wq G M11_kind 26 [some (.ref 2), some (.int x), some (.int k), l3] [] (0, 0) w Q := by
    intro hb l3
    rw [cIf_t hb] at h
    refine Wq.ls (ls' := [some (.ref 2), some (.int x), some (.int k), none]) ⟨rfl, rfl, rfl, by cases l3 <;> trivial⟩ ?_
    exact Wq.go ok11_kind 20 [] (And.intro hR.k2 (ans_n hR hz neg1 h))
  have rng : ∀ (hx : ¬ noX m x) (l3 : Option Value), ((0 ≤ k.toInt ∧ k.toInt ≤ 2) → Wq G M11_kind 32 [some (.ref 2), some (.int x), some (.int k), l3] [] (0, 0) w Q) → Wq G M11_kind 17 [some (.ref 2), some (.int x), some (.int k), l3] [] (0, 0) w Q := by
    intro hx l3 hk
    refine Wq.go ok11_kind 20 [26, 32] ?_
    refine And.intro (fun c => bad (Or.inr (fun z => ?_)) _) (fun c => And.intro (fun (c2 : k ≤ 2) => hk ?_) (fun (c2 : ¬ k ≤ 2) => bad (Or.inr (fun z => ?_)) _))
    · rw [i32_lt, c0i] at c; omega
    · rw [i32_lt, c0i] at c
      rw [i32_le] at c2
      have c2 : k.toInt ≤ 2 := c2
      exact ⟨by omega, c2⟩
    · rw [i32_le] at c2
      have c2 : ¬ k.toInt ≤ 2 := c2
      omega
  refine Con.go hw11_kind ok11_kind 40 [17, 26] rfl ?_
  refine And.intro hR.k2 (refS hR.r2 (And.intro hR.k71 (c7_at hR hX (fun z => ?_) (fun j e hj => ?_))))
  · refine c11_isNoThing0 (And.intro (fun c => bad (Or.inl ⟨bI_n0.mp c, z⟩) _) (fun c => ?_))
    rw [bI_0, Classical.not_not] at c
    refine rng (fun y => y.1 c) _ (fun hk => ?_)
    rw [cIf_f (fun y => y.elim (fun y => y.1 c) (fun y => y hk)), cIf_t c] at h
    exact Wq.go ok11_kind 20 [] (And.intro hR.k2 (ans_n hR hz (by decide) h))
  · refine c11_isNoThing1 (And.intro (fun c => absurd rfl c) (fun _ => ?_))
    have hx1 : ¬ x = -1 := by
      rw [e]; intro z
      rw [i32_eq, nI_t (by omega)] at z
      have : ((-1 : Int32)).toInt = -1 := rfl
      omega
    refine rng (fun y => y.2 ⟨j, e, hj⟩) _ (fun hk => ?_)
    rw [cIf_f (fun y => y.elim (fun y => y.2 ⟨j, e, hj⟩) (fun y => y hk)), cIf_f hx1] at h
    subst e
    rw [tn_nI (by omega)] at h
    obtain ⟨x1, x2, x3⟩ := hR.xk.1 j hj
    obtain ⟨y1, y2, y3, y4, y5⟩ := hR.xs j hj
    obtain ⟨z1, z2, z3, z4, z5, z6, -⟩ := hX.2.2.2 j hj
    have hsz := hX.sz hj
    refine Wq.go ok11_kind 30 [] ?_
    refine And.intro (fun (c : ¬ k = 2) => And.intro (fun (c2 : ¬ k = 0) => And.intro x2 (And.intro hR.k2 ?_)) (fun (c2 : k = 0) => And.intro x2 (And.intro hR.k2 ?_))) (fun (c : k = 2) => And.intro x2 (refS y4 (And.intro (Or.inr (Or.inl x3)) (And.intro hR.k2 ?_))))
    · rw [cIf_f c2, cIf_t (by
        rw [i32_eq] at c c2 ⊢
        have c : ¬ k.toInt = 2 := c
        have c2 : ¬ k.toInt = 0 := c2
        show k.toInt = 1; omega), z4] at h
      show Con G M11_answered [.ref 2, .int (gI w 5 2 (aX A j))] w _
      rw [y3, z4]
      exact ans_p hR hz (nI_pos (by omega)) h
    · rw [cIf_t c2, z1] at h
      show Con G M11_answered [.ref 2, .int (gI w 5 1 (aX A j))] w _
      rw [y2, z1]
      exact ans_p hR hz (nI_pos (by omega)) h
    · subst c
      rw [cIf_f (by decide), cIf_f (by decide), z6] at h
      show Con G M11_answered [.ref 2, .int (nI (gN w 1 (aX A j + 1)))] w _
      rw [y5]
      exact ans_p hR hz (nI_pos (by omega)) h
theorem c11_isA {x t : Int32} (hR : Rep A m w) (hI : TInv m) (hX : XInv m) (hz : qZero w) (h : ∀ A' w', Fin A' (S_isA m x t).2 w w' → Q (some (.int (S_isA m x t).1)) w') : Con G M11_isA [.ref 2, .int x, .int t] w Q := by
  have h60 := hX.2.1
  have h100 := hI.le
  unfold S_isA at h
  have bad : (noX m x ∨ ¬ isT m t) → ∀ l3 l4, Wq G M11_isA 32 [some (.ref 2), some (.int x), some (.int t), l3, l4] [] (0, 0) w Q := by
    intro hb l3 l4
    rw [cIf_t hb] at h
    refine Wq.ls (ls' := [some (.ref 2), some (.int x), some (.int t), none, none]) ⟨rfl, rfl, rfl, by cases l3 <;> cases l4 <;> trivial⟩ ?_
    exact Wq.go ok11_isA 20 [] (And.intro hR.k2 (ans_n hR hz neg1 h))
  refine Con.go hw11_isA ok11_isA 40 [32, 38] rfl ?_
  refine And.intro hR.k2 (refS hR.r2 (And.intro hR.k71 (c7_at hR hX (fun z => ?_) (fun j e hj => ?_))))
  · refine And.intro hR.k2 (refS hR.r1 (And.intro hR.k3 (c10_at hR hI (fun z2 => c11_isNoThing0 (And.intro (fun _ => bad (Or.inr z2) _ _) (fun _ => bad (Or.inr z2) _ _))) (fun i ei hi => c11_isNoThing0 (And.intro (fun c => bad (Or.inl ⟨bI_n0.mp c, z⟩) _ _) (fun c => ?_))))))
    rw [bI_0, Classical.not_not] at c
    rw [cIf_f (fun y => y.elim (fun y => y.1 c) (fun y => y ⟨i, ei, hi⟩)), cIf_t c] at h
    exact Wq.go ok11_isA 20 [] (And.intro hR.k2 (ans_n hR hz (by decide) h))
  · refine And.intro hR.k2 (refS hR.r1 (And.intro hR.k3 (c10_at hR hI (fun z2 => c11_isNoThing1 (And.intro (fun _ => bad (Or.inr z2) _ _) (fun _ => bad (Or.inr z2) _ _))) (fun i ei hi => c11_isNoThing1 (And.intro (fun c => absurd rfl c) (fun _ => ?_))))))
    have hx1 : ¬ x = -1 := by
      rw [e]; intro z
      rw [i32_eq, nI_t (by omega)] at z
      have : ((-1 : Int32)).toInt = -1 := rfl
      omega
    rw [cIf_f (fun y => y.elim (fun y => y.2 ⟨j, e, hj⟩) (fun y => y ⟨i, ei, hi⟩)), cIf_f hx1] at h
    subst e ei
    rw [tn_nI (by omega), tn_nI (by omega)] at h
    refine Wq.go ok11_isA 30 [] ?_
    refine And.intro hR.k2 (refS hR.r1 (And.intro hR.k3 (c10_isThingUnder hR hI hX hj hi (And.intro (fun c => And.intro hR.k2 ?_) (fun c => And.intro hR.k2 ?_)))))
    · rw [bI_0] at c
      rw [bI_f c] at h
      exact ans_p hR hz (by decide) h
    · rw [bI_n0] at c
      rw [bI_t c] at h
      exact ans_p hR hz (by decide) h
theorem c11_whyNoItem {j : Nat} {i : Int32} (hR : Rep A m w) (hX : XInv m) (hj : j < nX m) (h : Q (some (.int (cIf (dX m j = 0) (-13) (cIf (∃ k, i = nI k ∧ k < sX m j) 0 (-12))))) w) : Con G M11_whyNoItem [.ref (aX A j), .int i] w Q := by
  obtain ⟨x1, x2, x3⟩ := hR.xk.1 j hj
  obtain ⟨y1, y2, y3, y4, y5⟩ := hR.xs j hj
  obtain ⟨z1, z2, z3, z4, z5, z6, -⟩ := hX.2.2.2 j hj
  have hsz := hX.sz hj
  refine Con.go hw11_whyNoItem ok11_whyNoItem 30 [] rfl ?_
  refine And.intro x2 (And.intro (fun c => And.intro (fun c2 => ?_) (fun c2 => And.intro x2 (refS y4 (And.intro (Or.inr (Or.inl x3)) (And.intro (fun c3 => ?_) (fun c3 => ?_)))))) (fun c => ?_)) <;> rw [y3, z4, c_0', nI_eqI (by omega) (by omega)] at c
  · rw [cIf_f c, cIf_f (nNot (by omega) (Or.inl c2))] at h; exact h
  · have c3 : i < nI (gN w 1 (aX A j + 1)) := c3
    rw [y5] at c3
    rw [cIf_f c, cIf_t (nIn (by omega) c2 c3)] at h; exact h
  · have c3 : ¬ i < nI (gN w 1 (aX A j + 1)) := c3
    rw [y5] at c3
    rw [cIf_f c, cIf_f (nNot (by omega) (Or.inr c3))] at h; exact h
  · rw [cIf_t c] at h; exact h
theorem c11_read {x i : Int32} (hR : Rep A m w) (hX : XInv m) (hz : qZero w) (h : ∀ A' w', Fin A' (S_read m x i).2 w w' → Q (some (.long (S_read m x i).1)) w') : Con G M11_read [.ref 2, .int x, .int i] w Q := by
  have h60 := hX.2.1
  unfold S_read at h
  refine Con.go hw11_read ok11_read 40 [] rfl ?_
  refine And.intro hR.k2 (refS hR.r2 (And.intro hR.k71 (c7_at hR hX (fun z => ?_) (fun j e hj => ?_))))
  · refine c11_isNoThing0 (And.intro (fun c => ?_) (fun c => And.intro hR.k2 ?_))
    · rw [bI_0, Classical.not_not] at c
      have e1 : hdN m x i (-13) = -11 := by unfold hdN; rw [cIf_f (fun y => y.1 c), cIf_t c]
      rw [e1, cIf_t (by decide)] at h
      refine Con.go hw11_whyNoItem ok11_whyNoItem 30 [] rfl ?_
      exact And.intro (fun _ => And.intro hR.k2 (los_n hR hz (by decide) h)) (fun y => absurd y (by decide))
    · rw [bI_n0] at c
      have e1 : hdN m x i (-13) = -1 := by unfold hdN; rw [cIf_t ⟨c, z⟩]
      rw [e1, cIf_t (by decide)] at h
      exact los_n hR hz (by decide) h
  · refine c11_isNoThing1 (And.intro (fun _ => ?_) (fun c => absurd rfl c))
    have hx1 : ¬ x = -1 := by
      rw [e]; intro z
      rw [i32_eq, nI_t (by omega)] at z
      have : ((-1 : Int32)).toInt = -1 := rfl
      omega
    have e1 : hdN m x i (-13) = cIf (dX m j = 0) (-13) (cIf (∃ k, i = nI k ∧ k < sX m j) 0 (-12)) := by
      unfold hdN; rw [cIf_f (fun y => y.2 ⟨j, e, hj⟩), cIf_f hx1, e, tn_nI (by omega)]
    refine c11_whyNoItem hR hX hj ?_
    rw [← e1]
    obtain ⟨x1, x2, x3⟩ := hR.xk.1 j hj
    obtain ⟨y1, y2, y3, y4, y5⟩ := hR.xs j hj
    have hsz := hX.sz hj
    refine And.intro (fun c => And.intro hR.k2 ?_) (fun c => And.intro x2 (refS y4 ?_))
    · have hn : hdN m x i (-13) < 0 := by
        rw [e1] at c ⊢
        by_cases q : dX m j = 0
        · rw [cIf_t q]; decide
        · rw [cIf_f q] at c ⊢
          by_cases q2 : ∃ k, i = nI k ∧ k < sX m j
          · rw [cIf_t q2] at c; exact absurd rfl c
          · rw [cIf_f q2]; decide
      rw [cIf_t hn] at h
      exact los_n hR hz c h
    · have hn : ¬ hdN m x i (-13) < 0 := by rw [c]; decide
      rw [cIf_f hn] at h
      obtain ⟨j', k, ex, hj', rfl, hk, hd⟩ := hd_get hX (by decide) hn
      have : j' = j := by rw [e, nI_eqI (by omega) (by omega)] at ex; exact ex.symm
      subst this
      subst e
      rw [tn_nI (by omega), tn_nI (by omega)] at h
      refine And.intro x3 (And.intro (by rw [y5]; exact in_nI hk (by omega)) (And.intro hR.k2 ?_))
      show Con G M11_lostOr [.ref 2, .int 0, .long (gJ w 21 (aX A j' + 1) (nI k).toNatClampNeg)] w _
      rw [nI_clamp (by omega), hR.xj j' k hj hk]
      exact los_p hR hz h
end
