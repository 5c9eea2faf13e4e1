/-! ===== calls of the class that tell numbers; columns, queries ===== -/
section
variable {G : qGX} {A : qA} {m w : qSt} {Q : Option Value → qSt → Prop}
theorem c11_failed (hR : Rep A m w) (h : Q (some (.int (mi m 51))) w) : Con G M11_failed [.ref 2] w Q := by
  refine Con.go hw11_failed ok11_failed 20 [] rfl (And.intro hR.k2 ?_)
  show Q (some (.int (gI w 10 8 2))) w
  rw [hR.mq.2.2.1]; exact h
theorem c11_lane (hR : Rep A m w) (h : Q (some (.int (mi m 35))) w) : Con G M11_lane [.ref 2] w Q := by
  refine Con.go hw11_lane ok11_lane 20 [] rfl (And.intro hR.k2 ?_)
  show Q (some (.int (gI w 10 10 2))) w
  rw [hR.mq.2.2.2.2.1]; exact h
theorem c11_filled (hR : Rep A m w) (h : Q (some (.int (mi m 42))) w) : Con G M11_filled [.ref 2] w Q := by
  refine Con.go hw11_filled ok11_filled 20 [] rfl (And.intro hR.k2 ?_)
  show Q (some (.int (gI w 10 9 2))) w
  rw [hR.mq.2.2.2.1]; exact h
theorem c11_status (hR : Rep A m w) (h : Q (some (.int (mi m 0))) w) : Con G M11_status [.ref 2] w Q := by
  refine Con.go hw11_status ok11_status 20 [] rfl (And.intro hR.k2 ?_)
  show Q (some (.int (gI w 10 11 2))) w
  rw [hR.mq.2.2.2.2.2.1]; exact h
theorem c11_hit {k : Int32} (hR : Rep A m w) (hH : HtInv m) (h : Q (some (.int (S_hit m k))) w) : Con G M11_hit [.ref 2, .int k] w Q := by
  obtain ⟨h1, h2, h3⟩ := hH
  have hc : gI w 10 7 2 = nI (nHt m) := hR.mq.2.1.trans h1
  have k78 := hR.fk.2.2.2.2.2.2.2.2.2.2.2.2.1
  unfold S_hit at h
  refine Con.go hw11_hit ok11_hit 20 [] rfl ?_
  refine And.intro (fun c => ?_) (fun c => And.intro hR.k2 (And.intro (fun c2 => ?_) (fun c2 => ?_)))
  · rw [cIf_f (nNot (by omega) (Or.inl c))] at h; exact h
  · rw [hc] at c2
    obtain ⟨j, rfl, hj⟩ := nIn (by omega) c c2
    rw [cIf_t ⟨j, rfl, hj⟩, tn_nI (by omega)] at h
    refine And.intro hR.k2 (refS hR.r6 (And.intro (Or.inr k78.1) (And.intro (by rw [k78.2]; exact in_nI (by omega) (by decide)) ?_)))
    show Q (some (.int (gI w 20 78 (nI j).toNatClampNeg))) w
    rw [nI_clamp (by omega), hR.mq.2.2.2.2.2.2 j hj]
    exact h
  · rw [hc] at c2
    rw [cIf_f (nNot (by omega) (Or.inr c2))] at h; exact h
theorem c11_trace {k : Int32} (hR : Rep A m w) (hT : TrOK m) (h : Q (some (.int (S_trace m k))) w) : Con G M11_trace [.ref 2, .int k] w Q := by
  obtain ⟨h1, h2⟩ := hT
  have hc : gI w 4 5 73 = nI (nTr m) := hR.mr.1.trans h1
  have k75 := hR.fk.2.2.2.2.2.2.2.2.2.1
  unfold S_trace at h
  refine Con.go hw11_trace ok11_trace 20 [] rfl ?_
  refine And.intro (fun c => ?_) (fun c => And.intro hR.k2 (refS hR.r3 (And.intro hR.k73 (And.intro (fun c2 => ?_) (fun c2 => ?_)))))
  · rw [cIf_f (nNot (by omega) (Or.inl c))] at h; exact h
  · rw [hc] at c2
    obtain ⟨j, rfl, hj⟩ := nIn (by omega) c c2
    rw [cIf_t ⟨j, rfl, hj⟩, tn_nI (by omega)] at h
    refine And.intro hR.k2 (refS hR.r3 (And.intro hR.k73 (refS hR.fr.2.2.2.2.2.2.2.2.2.2.2.2.2.2.2.1 (And.intro (Or.inr k75.1) (And.intro (by rw [k75.2]; exact in_nI (by omega) (by decide)) ?_)))))
    show Q (some (.int (gI w 20 75 (nI j).toNatClampNeg))) w
    rw [nI_clamp (by omega), hR.mr.2 j hj]
    exact h
  · rw [hc] at c2
    rw [cIf_f (nNot (by omega) (Or.inr c2))] at h; exact h
theorem c11_told {k : Int32} (hR : Rep A m w) (hI : TInv m) (hX : XInv m) (hH : HInv m) (hQ : QInv m) (hT : TrOK m) (hHt : HtInv m) (h : Q (some (.int (S_told m k))) w) : Con G M11_told [.ref 2, .int k] w Q := by
  have h100 := hI.le
  unfold S_told at h
  obtain ⟨t1, t2, t3, t4, t5⟩ := hR.mt
  refine Con.go hw11_told ok11_told 40 [] rfl ?_
  refine And.intro (And.intro (fun (c : k = 0) => ?_) (And.intro (fun (c : k = 1) => ?_) (And.intro (fun (c : k = 2) => ?_) (And.intro (fun (c : k = 3) => ?_) (And.intro (fun (c : k = 4) => ?_) (And.intro (fun (c : k = 5) => ?_) (And.intro (fun (c : k = 6) => ?_) (And.intro (fun (c : k = 7) => ?_) trivial)))))))) (fun c => ?_)
  · subst c
    rw [cIf_t rfl] at h
    refine And.intro hR.k2 (refS hR.r1 (And.intro hR.k3 ?_))
    show Q (some (.int (gI w 9 3 3 - 9))) w
    rw [hR.cnt hI]
    have : nI (nT m) - 9 = nI (nT m - 9) := by
      obtain ⟨z, hz⟩ : ∃ z, nT m = z + 9 := ⟨nT m - 9, by omega⟩
      rw [hz, i32_eq, i32_sub, nI_t (by omega), nI_t (by omega)]
      · show ((z + 9 : Nat) : Int) - 9 = _; omega
      · rw [nI_t (by omega)]; show _ ≤ ((z + 9 : Nat) : Int) - 9; omega
      · rw [nI_t (by omega)]; show ((z + 9 : Nat) : Int) - 9 < _; omega
    rw [this]; exact h
  · subst c
    rw [cIf_f (by decide), cIf_t rfl] at h
    refine And.intro hR.k2 (refS hR.r2 (And.intro hR.k71 ?_))
    show Q (some (.int (gI w 6 2 71))) w
    rw [t4, hX.1]; exact h
  · subst c
    rw [cIf_f (by decide), cIf_f (by decide), cIf_t rfl] at h
    refine And.intro hR.k2 (refS hR.r3 (And.intro hR.k73 ?_))
    show Q (some (.int (gI w 4 4 73))) w
    rw [t5, hH.1]; exact h
  · subst c
    rw [cIf_f (by decide), cIf_f (by decide), cIf_f (by decide), cIf_t rfl] at h
    refine And.intro hR.k2 ?_
    show Q (some (.int (gI w 10 6 2))) w
    rw [hR.mq.1, hQ.1]; exact h
  · subst c
    rw [cIf_f (by decide), cIf_f (by decide), cIf_f (by decide), cIf_f (by decide), cIf_t rfl] at h
    refine And.intro hR.k2 (refS hR.r3 (And.intro hR.k73 ?_))
    show Q (some (.int (gI w 4 5 73))) w
    rw [hR.mr.1, hT.1]; exact h
  · subst c
    rw [cIf_f (by decide), cIf_f (by decide), cIf_f (by decide), cIf_f (by decide), cIf_f (by decide), cIf_t rfl] at h
    refine And.intro hR.k2 ?_
    show Q (some (.int (gI w 10 7 2))) w
    rw [hR.mq.2.1, hHt.1]; exact h
  · subst c
    rw [cIf_f (by decide), cIf_f (by decide), cIf_f (by decide), cIf_f (by decide), cIf_f (by decide), cIf_f (by decide), cIf_t rfl] at h
    refine And.intro hR.k2 (refS hR.r1 (And.intro hR.k3 ?_))
    show Q (some (.int (gI w 9 5 3))) w
    rw [t3]; exact h
  · subst c
    rw [cIf_f (by decide), cIf_f (by decide), cIf_f (by decide), cIf_f (by decide), cIf_f (by decide), cIf_f (by decide), cIf_f (by decide), cIf_t rfl] at h
    refine And.intro hR.k2 (refS hR.r1 (And.intro hR.k3 ?_))
    show Q (some (.int (gI w 9 4 3))) w
    rw [t2]; exact h
  · have c : k.toInt < 0 ∨ (7 : Int) < k.toInt := c
    have ne : ∀ z : Nat, z ≤ 7 → ¬ k = nI z := by
      intro z hz q
      rw [q, nI_t (by omega)] at c
      omega
    rw [cIf_f (show ¬ k = 0 from ne 0 (by omega)), cIf_f (show ¬ k = 1 from ne 1 (by omega)), cIf_f (show ¬ k = 2 from ne 2 (by omega)), cIf_f (show ¬ k = 3 from ne 3 (by omega)), cIf_f (show ¬ k = 4 from ne 4 (by omega)), cIf_f (show ¬ k = 5 from ne 5 (by omega)), cIf_f (show ¬ k = 6 from ne 6 (by omega)), cIf_f (show ¬ k = 7 from ne 7 (by omega))] at h
    exact h
/-- column k, as the class keeps it -/
theorem Rep.col (hR : Rep A m w) {K : Nat} (hK : K < 6) : (ma m 28 K = 0 ∧ gR w 23 76 K = none) ∨ (¬ ma m 28 K = 0 ∧ gR w 23 76 K = some (aK A K) ∧ gN w 0 (aK A K) = 0 ∧ gN w 0 (aK A K + 1) = 21 ∧ gI w 0 0 (aK A K) = ma m 29 K ∧ gR w 0 1 (aK A K) = some (aK A K + 1) ∧ gN w 1 (aK A K + 1) = cN m K) := by
  by_cases c : ma m 28 K = 0
  · exact Or.inl ⟨c, (hR.ck.1 K hK).1 c⟩
  · exact Or.inr ⟨c, (hR.ck.1 K hK).2 c⟩
theorem Rep.k76 (hR : Rep A m w) : gN w 0 76 = 23 ∧ gN w 1 76 = 6 := hR.fk.2.2.2.2.2.2.2.2.2.2.1
theorem c11_cell {k i : Int32} (hR : Rep A m w) (hC : CInv m) (hz : qZero w) (h : ∀ A' w', Fin A' (S_cell m k i).2 w w' → Q (some (.long (S_cell m k i).1)) w') : Con G M11_cell [.ref 2, .int k, .int i] w Q := by
  unfold S_cell at h
  have k76 := hR.k76
  refine Con.go hw11_cell ok11_cell 40 [] rfl ?_
  refine c11_isColumn (And.intro (fun c => ?_) (fun c => ?_))
  · rw [bI_n0] at c
    rw [cIf_f (fun z => z c)] at h
    obtain ⟨K, rfl, hK⟩ := c
    rw [tn_nI (by omega)] at h
    refine And.intro hR.k2 (refS hR.r4 (And.intro (And.intro (by rw [k76.1]; rfl) (by rw [k76.2]; exact in_nI hK (by decide))) ?_))
    rw [nI_clamp (by omega)]
    rcases hR.col hK with ⟨c0, e⟩ | ⟨c0, e, e1, e2, e3, e4, e5⟩
    · rw [cIf_t c0] at h
      exact refN e (And.intro hR.k2 (los_n hR hz (by decide) h))
    · rw [cIf_f c0] at h
      obtain ⟨o1, o2, o3, o4, o5⟩ := (hC K hK).2 c0
      refine refS e (And.intro (fun c2 => And.intro hR.k2 ?_) (fun c2 => And.intro e1 (refS e4 (And.intro (Or.inr (Or.inl e2)) (And.intro (fun c3 => ?_) (fun c3 => And.intro hR.k2 ?_))))))
      · rw [cIf_f (nNot (by omega) (Or.inl c2))] at h
        exact los_n hR hz (by decide) h
      · have c3 : i < nI (gN w 1 (aK A K + 1)) := c3
        rw [e5] at c3
        obtain ⟨j, rfl, hj⟩ := nIn (by omega) c2 c3
        rw [cIf_t ⟨j, rfl, hj⟩, tn_nI (by omega)] at h
        refine And.intro e1 (refS e4 (And.intro e2 (And.intro (by rw [e5]; exact in_nI hj (by omega)) (And.intro hR.k2 ?_))))
        show Con G M11_lostOr [.ref 2, .int 0, .long (gJ w 21 (aK A K + 1) (nI j).toNatClampNeg)] w _
        rw [nI_clamp (by omega), hR.cj K j hK c0 hj]
        exact los_p hR hz h
      · have c3 : ¬ i < nI (gN w 1 (aK A K + 1)) := c3
        rw [e5] at c3
        rw [cIf_f (nNot (by omega) (Or.inr c3))] at h
        exact los_n hR hz (by decide) h
  · rw [bI_0] at c
    rw [cIf_t c] at h
    exact And.intro hR.k2 (los_n hR hz (by decide) h)
theorem c0_sumAsLong {K : Nat} (hR : Rep A m w) (hC : CInv m) (hK : K < 6) (c0 : ¬ ma m 28 K = 0) (h : Q (some (.long (alF m K (cN m K)))) w) : Con G M0_sumAsLong [.ref (aK A K)] w Q := by
  obtain ⟨e, e1, e2, e3, e4, e5⟩ := (hR.ck.1 K hK).2 c0
  obtain ⟨o1, o2, o3, o4, o5⟩ := (hC K hK).2 c0
  have loop : ∀ (n i : Nat), i + n = cN m K → Wq G M0_sumAsLong 4 [some (.ref (aK A K)), some (.long (alF m K i)), none, some (.int (nI i))] [] (0, 0) w Q := by
    intro n
    induction n with
    | zero =>
      intro i hi
      have : i = cN m K := by omega
      subst this
      refine Wq.go ok0_sumAsLong 20 [] ?_
      refine And.intro e1 (refS e4 (And.intro (Or.inr (Or.inl e2)) (And.intro (fun _ => h) (fun z => absurd (show nI (gN w 1 (aK A K + 1)) ≤ nI (cN m K) by rw [e5, i32_le]; omega) z))))
    | succ n ih =>
      intro i hi
      refine Wq.go ok0_sumAsLong 20 [4] ?_
      refine And.intro e1 (refS e4 (And.intro (Or.inr (Or.inl e2)) (And.intro (fun z => ?_) (fun z => And.intro e1 (refS e4 (And.intro e2 (And.intro (by rw [e5]; exact in_nI (by omega) (by omega)) ?_)))))))
      · have z : nI (gN w 1 (aK A K + 1)) ≤ nI i := z
        rw [e5, nI_leI (by omega) (by omega)] at z; omega
      · show Wq G M0_sumAsLong 4 [some (.ref (aK A K)), some (.long (alF m K i + gJ w 21 (aK A K + 1) (nI i).toNatClampNeg)), none, some (.int (nI i + 1))] [] (0, 0) w Q
        rw [nI_clamp (by omega), hR.cj K i hK c0 (by omega), nI_1]
        exact ih (i + 1) (by omega)
  refine Con.go hw0_sumAsLong ok0_sumAsLong 20 [4] rfl ?_
  exact loop (cN m K) 0 (Nat.zero_add _)
/-! new columns -/
/-- the state with one of the arrays of references changed; the rest of Rep -/
theorem c0_init {n : Nat} {l : Int32} {N : Nat} (hz : qZero w) (hn : gN w 0 n = 0) (hN : N ≤ 60) (h : Q none (sR (nwA (sI w 0 0 n l) 21 N) 0 1 n (some (gN w 2 0)))) : Con G M0_init [.ref n, .int l, .int (nI N)] w Q := by
  refine Con.go hw0_init ok0_init 20 [] rfl ?_
  refine And.intro hn (cJ_max ?_)
  have e : cIf (nI N < 0) 0 (nI N) = nI N := cIf_f (nI_pos (by omega))
  rw [e]
  have e2 : (nI N).toNatClampNeg = N := nI_clamp (by omega)
  refine And.intro ⟨nI_pos (by omega), by omega⟩ (And.intro ⟨by show 0 + 1 ≤ 1; omega, by show 0 + (nI N).toNatClampNeg ≤ 60; omega⟩ (fun k hk => ?_))
  rw [e2]
  have hk : gN w 2 0 = k := hk
  subst hk
  refine And.intro ?_ h
  show gN (nwA (sI w 0 0 n l) 21 N) 0 n = 0
  rw [nwA_ne]
  · exact hn
  · intro z
    have z : n = gN w 2 0 := z
    have := hz.k (Nat.le_of_eq z.symm)
    omega
end
