/-! ===== sum, readAs, writeAs, getAs of the class ===== -/
theorem wd7 {L : Nat} {V : Int64} (hL : L = 6 ∨ L = 7) : (finB (wd L 7 V).toUInt64 ↔ finB (dbV L V)) ∧ (finB (dbV L V) → wd L 7 V = (dbV L V).toInt64) := by
  rcases hL with e | e <;> subst e
  · have e : wd 6 7 V = dB (FP.f2d V.toInt32.toUInt32) := by unfold wd; rw [cIf_f (by omega), cIf_f (by omega), cIf_t rfl]
    have e2 : dbV 6 V = FP.f2d V.toInt32.toUInt32 := if_pos rfl
    rw [e, e2]
    generalize FP.f2d V.toInt32.toUInt32 = u
    by_cases c : FP.Core.dIsNaN u = true
    · have e3 : dB u = 9221120237041090560 := by unfold dB; rw [cIf_t c]
      rw [nan64] at c
      have h1 : ¬ finB u := by unfold finB; omega
      have h2 : ¬ finB (9221120237041090560 : Int64).toUInt64 := by unfold finB; decide
      rw [e3]
      exact ⟨⟨fun z => absurd z h2, fun z => absurd z h1⟩, fun z => absurd z h1⟩
    · rw [dB_n c]
      exact ⟨Iff.rfl, fun _ => rfl⟩
  · have e : wd 7 7 V = V := by unfold wd; rw [cIf_t (Or.inl rfl)]
    have e2 : dbV 7 V = V.toUInt64 := if_neg (by omega)
    rw [e, e2]
    exact ⟨Iff.rfl, fun _ => rfl⟩
section
variable {G : qGX} {A : qA} {m w : qSt} {Q : Option Value → qSt → Prop}
theorem c0_sumAsDouble {K : Nat} (hR : Rep A m w) (hC : CInv m) (hK : K < 6) (c0 : ¬ ma m 28 K = 0) (hL : 6 ≤ cL m K) (h : Q (some (.long (dB (dsF m K (cN m K))))) w) : Con G M0_sumAsDouble [.ref (aK A K)] w Q := by
  obtain ⟨e, e1, e2, e3, e4, e5⟩ := (hR.ck.1 K hK).2 c0
  obtain ⟨o1, o2, o3, o4, o5⟩ := (hC K hK).2 c0
  rw [dB_n (ds_nn m K _)] at h
  have loop : ∀ (n i : Nat) (l4 : Option Value), i + n = cN m K → Wq G M0_sumAsDouble 4 [some (.ref (aK A K)), some (.long (dsF m K i).toInt64), none, some (.int (nI i)), l4, none] [] (0, 0) w Q := by
    intro n
    induction n with
    | zero =>
      intro i l4 hi
      have : i = cN m K := by omega
      subst this
      refine Wq.ls (ls' := [some (.ref (aK A K)), some (.long (dsF m K (cN m K)).toInt64), none, some (.int (nI (cN m K))), none, none]) ⟨rfl, rfl, rfl, by cases l4 <;> trivial⟩ ?_
      refine Wq.go ok0_sumAsDouble 20 [] ?_
      refine And.intro e1 (refS e4 (And.intro (Or.inr (Or.inl e2)) (And.intro (fun _ => h) (fun z => absurd (show nI (gN w 1 (aK A K + 1)) ≤ nI (cN m K) by rw [e5, i32_le]; omega) z))))
    | succ n ih =>
      intro i l4 hi
      refine Wq.ls (ls' := [some (.ref (aK A K)), some (.long (dsF m K i).toInt64), none, some (.int (nI i)), none, none]) ⟨rfl, rfl, rfl, by cases l4 <;> trivial⟩ ?_
      refine Wq.go ok0_sumAsDouble 40 [4] ?_
      refine And.intro e1 (refS e4 (And.intro (Or.inr (Or.inl e2)) (And.intro (fun z => ?_) (fun z => And.intro e1 (refS e4 (And.intro e2 (And.intro (by rw [e5]; exact in_nI (by omega) (by omega)) (And.intro e1 ?_))))))))
      · have z : nI (gN w 1 (aK A K + 1)) ≤ nI i := z
        rw [e5, nI_leI (by omega) (by omega)] at z; omega
      · show Con G M2_widened [.long (gJ w 21 (aK A K + 1) (nI i).toNatClampNeg), .int (gI w 0 0 (aK A K)), .int (nI 7)] w _
        rw [nI_clamp (by omega), hR.cj K i hK c0 (by omega), e3, o1]
        have hkp := o5 i (by omega)
        obtain ⟨w1, w2⟩ := wd7 (L := cL m K) (V := ml m 31 (60 * K + i)) (by omega)
        have hs : dsF m K (i + 1) = cIf (finB (dbV (cL m K) (ml m 31 (60 * K + i)))) (FP.dadd (dsF m K i) (dbV (cL m K) (ml m 31 (60 * K + i)))) (dsF m K i) := rfl
        refine c2_widened (f := cL m K) (t := 7) o2 (by omega) (fun z => by rw [z] at hkp; exact hkp) (by unfold wdP; omega) ?_
        refine c2_hasEnd (And.intro (fun c => ?_) (fun c => ?_))
        · rw [bI_0, w1] at c
          rw [cIf_f c] at hs
          have := ih (i + 1) (some (.long (wd (cL m K) 7 (ml m 31 (60 * K + i))))) (by omega)
          rw [hs, ← nI_1] at this
          exact this
        · rw [bI_n0, w1] at c
          rw [cIf_t c] at hs
          rw [w2 c]
          refine c2_added (ds_nn m K i) c ?_
          have := ih (i + 1) (some (.long (dbV (cL m K) (ml m 31 (60 * K + i))).toInt64)) (by omega)
          rw [hs, ← nI_1] at this
          exact this
  refine Con.go hw0_sumAsDouble ok0_sumAsDouble 20 [4] rfl ?_
  exact loop (cN m K) 0 none (Nat.zero_add _)
theorem c11_sum {k : Int32} (hR : Rep A m w) (hC : CInv m) (hz : qZero w) (h : ∀ A' w', Fin A' (S_sum m k).2 w w' → Q (some (.long (S_sum m k).1)) w') : Con G M11_sum [.ref 2, .int k] w Q := by
  unfold S_sum at h
  have k76 := hR.k76
  refine Con.go hw11_sum ok11_sum 40 [] rfl ?_
  refine c11_isColumn (And.intro (fun c => ?_) (fun c => ?_))
  · rw [bI_n0] at c
    rw [cIf_f (fun z => z c)] at h
    obtain ⟨K, rfl, hK⟩ := c
    rw [tn_nI (by omega)] at h
    refine And.intro hR.k2 (refS hR.r4 (And.intro (And.intro (by rw [k76.1]; rfl) (by rw [k76.2]; exact in_nI hK (by decide))) ?_))
    rw [nI_clamp (by omega)]
    rcases hR.col hK with ⟨c0, e⟩ | ⟨c0, e, e1, e2, e3, e4, e5⟩
    · rw [cIf_t c0] at h
      exact refN e (And.intro hR.k2 (los_n hR hz (by decide) h))
    · rw [cIf_f c0] at h
      obtain ⟨o1, o2, o3, o4, o5⟩ := (hC K hK).2 c0
      refine refS e (And.intro e1 (And.intro (fun c2 => ?_) (fun c2 => ?_)))
      · have c2 : gI w 0 0 (aK A K) < nI 6 := c2
        rw [e3, o1, nI_ltI (by omega) (by omega)] at c2
        rw [cIf_t (by omega)] at h
        refine And.intro e1 (c0_sumAsLong hR hC hK c0 ?_)
        exact And.intro hR.k2 (los_p hR hz h)
      · have c2 : ¬ gI w 0 0 (aK A K) < nI 6 := c2
        rw [e3, o1, nI_ltI (by omega) (by omega)] at c2
        rw [cIf_f (by omega)] at h
        refine And.intro e1 (c0_sumAsDouble hR hC hK c0 (by omega) ?_)
        exact And.intro hR.k2 (los_p hR hz h)
  · rw [bI_0] at c
    rw [cIf_t c] at h
    exact And.intro hR.k2 (los_n hR hz (by decide) h)
theorem c11_whyNoLaneItem {j : Nat} {i : Int32} (hR : Rep A m w) (hI : TInv m) (hX : XInv m) (hj : j < nX m) (h : Q (some (.int (cIf (dX m j = 1 ∧ bX m j < 8) (cIf (∃ k, i = nI k ∧ k < sX m j) 0 (-12)) (-16)))) w) : Con G M11_whyNoLaneItem [.ref (aX A j), .int i] w Q := by
  have h100 := hI.le
  obtain ⟨x1, x2, x3⟩ := hR.xk.1 j hj
  obtain ⟨y1, y2, y3, y4, y5⟩ := hR.xs j hj
  obtain ⟨z1, z2, z3, z4, z5, z6, -⟩ := hX.2.2.2 j hj
  have hsz := hX.sz hj
  have hd1 : (nI (dX m j) - 1 = 0 ∧ nI (bX m j) < 8) ↔ (dX m j = 1 ∧ bX m j < 8) := by
    have e : nI (dX m j) - 1 = 0 ↔ dX m j = 1 := by
      rw [i32_eq, i32_sub (by rw [nI_t (by omega)]; show _ ≤ ((dX m j : Nat) : Int) - 1; omega) (by rw [nI_t (by omega)]; show ((dX m j : Nat) : Int) - 1 < _; omega), nI_t (by omega)]
      show ((dX m j : Nat) : Int) - 1 = 0 ↔ _
      omega
    rw [e, c_8, nI_ltI (by omega) (by omega)]
  refine Con.go hw11_whyNoLaneItem ok11_whyNoLaneItem 30 [] rfl ?_
  refine And.intro x2 (And.intro x2 ?_)
  rw [y2, y3, z1, z4]
  refine c11_holdsValue ?_
  refine And.intro (fun c => And.intro (fun c2 => ?_) (fun c2 => And.intro x2 (refS y4 (And.intro (Or.inr (Or.inl x3)) (And.intro (fun c3 => ?_) (fun c3 => ?_)))))) (fun c => ?_)
  · rw [bI_n0, hd1] at c
    rw [cIf_t c, cIf_f (nNot (by omega) (Or.inl c2))] at h; exact h
  · rw [bI_n0, hd1] at c
    have c3 : i < nI (gN w 1 (aX A j + 1)) := c3
    rw [y5] at c3
    rw [cIf_t c, cIf_t (nIn (by omega) c2 c3)] at h; exact h
  · rw [bI_n0, hd1] at c
    have c3 : ¬ i < nI (gN w 1 (aX A j + 1)) := c3
    rw [y5] at c3
    rw [cIf_t c, cIf_f (nNot (by omega) (Or.inr c3))] at h; exact h
  · rw [bI_0, hd1] at c
    rw [cIf_f c] at h; exact h
/-- hlN of a thing that stands -/
theorem hl_X {x i l : Int32} {j : Nat} (hX : XInv m) (e : x = nI j) (hj : j < nX m) (hl : isL l) : hlN m x i l = cIf (dX m j = 1 ∧ bX m j < 8) (cIf (∃ k, i = nI k ∧ k < sX m j) 0 (-12)) (-16) := by
  have h60 := hX.2.1
  unfold hlN
  rw [cIf_t hl]
  subst e
  rw [tn_nI (by omega)]
  by_cases c : dX m j = 1 ∧ bX m j < 8
  · rw [cIf_t c, cIf_f (fun z => z.2 c)]
    unfold hdN
    rw [cIf_f (fun z => z.2 ⟨j, rfl, hj⟩), cIf_f (neX rfl (by omega)), tn_nI (by omega), cIf_f (by omega)]
  · rw [cIf_f c, cIf_t ⟨⟨j, rfl, hj⟩, c⟩]
theorem c11_readAs {x i l : Int32} (hR : Rep A m w) (hI : TInv m) (hX : XInv m) (hz : qZero w) (hV : ∀ j k, j < nX m → k < sX m j → dX m j = 1 → bX m j < 8 → kp (bX m j) (ml m 23 (pX m j + k)) = ml m 23 (pX m j + k)) (h : ∀ A' w', Fin A' (S_readAs m x i l).2 w w' → Q (some (.long (S_readAs m x i l).1)) w') : Con G M11_readAs [.ref 2, .int x, .int i, .int l] w Q := by
  have h60 := hX.2.1
  have h100 := hI.le
  unfold S_readAs at h
  have bad : hlN m x i l = -1 → ∀ l4, Wq G M11_readAs 26 [some (.ref 2), some (.int x), some (.int i), some (.int l), l4, none] [] (0, 0) w Q := by
    intro hb l4
    rw [hb, cIf_t (by decide)] at h
    refine Wq.ls (ls' := [some (.ref 2), some (.int x), some (.int i), some (.int l), none, none]) ⟨rfl, rfl, rfl, rfl, by cases l4 <;> trivial⟩ ?_
    exact Wq.go ok11_readAs 20 [] (And.intro hR.k2 (los_n hR hz (by decide) h))
  refine Con.go hw11_readAs ok11_readAs 40 [26, 35] rfl ?_
  refine And.intro hR.k2 (refS hR.r2 (And.intro hR.k71 (c7_at hR hX (fun z => ?_) (fun j e hj => ?_))))
  · refine c11_isNoThing0 (And.intro (fun c => ?_) (fun c => ?_))
    · rw [bI_n0] at c
      refine bad ?_ _
      unfold hlN hdN
      by_cases c2 : isL l
      · rw [cIf_t c2, cIf_f (fun y => z y.1), cIf_t ⟨c, z⟩]
      · rw [cIf_f c2]
    · rw [bI_0, Classical.not_not] at c
      refine c11_isLane ?_
      refine And.intro (fun c2 => ?_) (fun c2 => ?_)
      · rw [bI_n0] at c2
        have e1 : hlN m x i l = -11 := by
          unfold hlN hdN
          rw [cIf_t c2, cIf_f (fun y => z y.1), cIf_f (fun y => y.1 c), cIf_t c]
        rw [e1, cIf_t (by decide)] at h
        refine Wq.go ok11_readAs 30 [] ?_
        refine Con.go hw11_whyNoLaneItem ok11_whyNoLaneItem 30 [] rfl ?_
        exact And.intro (fun _ => And.intro hR.k2 (los_n hR hz (by decide) h)) (fun y => absurd y (by decide))
      · rw [bI_0] at c2
        exact bad (by unfold hlN; rw [cIf_f c2]) _
  · refine c11_isNoThing1 (And.intro (fun c => absurd rfl c) (fun _ => ?_))
    refine c11_isLane ?_
    refine And.intro (fun c2 => ?_) (fun c2 => ?_)
    · rw [bI_n0] at c2
      have e1 := hl_X (i := i) hX e hj c2
      obtain ⟨x1, x2, x3⟩ := hR.xk.1 j hj
      obtain ⟨y1, y2, y3, y4, y5⟩ := hR.xs j hj
      obtain ⟨z1, z2, z3, z4, z5, -⟩ := hX.2.2.2 j hj
      have hsz := hX.sz hj
      refine Wq.go ok11_readAs 40 [63] ?_
      refine c11_whyNoLaneItem hR hI hX hj ?_
      rw [← e1]
      refine And.intro (fun c => And.intro hR.k2 ?_) (fun c => ?_)
      · have hn : hlN m x i l < 0 := by
          rw [e1] at c ⊢
          by_cases q : dX m j = 1 ∧ bX m j < 8
          · rw [cIf_t q] at c ⊢
            by_cases q2 : ∃ k, i = nI k ∧ k < sX m j
            · rw [cIf_t q2] at c; exact absurd rfl c
            · rw [cIf_f q2]; decide
          · rw [cIf_f q]; decide
        rw [cIf_t hn] at h
        exact los_n hR hz c h
      · have hn : ¬ hlN m x i l < 0 := by rw [c]; decide
        rw [cIf_f hn] at h
        obtain ⟨j', k, L, ex, hj', rfl, hk, hd, hb, rfl, hL⟩ := hl_get hX hn
        have : j' = j := by rw [e, nI_eqI (by omega) (by omega)] at ex; exact ex.symm
        subst this
        subst e
        rw [tn_nI (by omega), tn_nI (by omega), tn_nI (by omega)] at h
        rw [c]
        refine Wq.go ok11_readAs 40 [] ?_
        refine And.intro x2 ?_
        rw [y2, z1]
        refine c2_widens hR (by omega) (by omega) (And.intro (fun c3 => ?_) (fun c3 => And.intro hR.k2 ?_))
        · rw [bI_n0] at c3
          rw [cIf_t c3.2.2] at h
          refine And.intro x2 (refS y4 (And.intro x3 (And.intro (by rw [y5]; exact in_nI hk (by omega)) (And.intro x2 ?_))))
          show Con G M2_widened [.long (gJ w 21 (aX A j' + 1) (nI k).toNatClampNeg), .int (gI w 5 1 (aX A j')), .int (nI L)] w _
          rw [nI_clamp (by omega), y2, z1, hR.xj j' k hj hk]
          exact c2_widened hb hL (fun q => by have := hV j' k hj hk hd hb; rw [q] at this; exact this) c3.2.2 (And.intro hR.k2 (los_p hR hz h))
        · rw [bI_0] at c3
          rw [cIf_f (fun q => c3 ⟨hb, hL, q⟩)] at h
          exact los_n hR hz (by decide) h
    · rw [bI_0] at c2
      exact bad (by unfold hlN; rw [cIf_f c2]) _
theorem c11_writeAs {x i l : Int32} {v : Int64} (hR : Rep A m w) (hI : TInv m) (hX : XInv m) (hz : qZero w) (hV : ∀ L u, kp L (kp L u) = kp L u) (h : ∀ A' w', Fin A' (S_writeAs m x i l v).2 w w' → Q (some (.int (S_writeAs m x i l v).1)) w') : Con G M11_writeAs [.ref 2, .int x, .int i, .int l, .long v] w Q := by
  have h60 := hX.2.1
  have h100 := hI.le
  unfold S_writeAs at h
  have bad : hlN m x i l = -1 → ∀ l4, Wq G M11_writeAs 26 [some (.ref 2), some (.int x), some (.int i), some (.int l), some (.long v), none, l4, none] [] (0, 0) w Q := by
    intro hb l4
    rw [hb, cIf_t (by decide)] at h
    refine Wq.ls (ls' := [some (.ref 2), some (.int x), some (.int i), some (.int l), some (.long v), none, none, none]) ⟨rfl, rfl, rfl, rfl, rfl, by cases l4 <;> trivial⟩ ?_
    exact Wq.go ok11_writeAs 20 [] (And.intro hR.k2 (ans_n hR hz (by decide) h))
  refine Con.go hw11_writeAs ok11_writeAs 40 [26, 32] rfl ?_
  refine And.intro hR.k2 (refS hR.r2 (And.intro hR.k71 (c7_at hR hX (fun z => ?_) (fun j e hj => ?_))))
  · refine c11_isNoThing0 (And.intro (fun c => ?_) (fun c => ?_))
    · rw [bI_n0] at c
      refine bad ?_ _
      unfold hlN hdN
      by_cases c2 : isL l
      · rw [cIf_t c2, cIf_f (fun y => z y.1), cIf_t ⟨c, z⟩]
      · rw [cIf_f c2]
    · rw [bI_0, Classical.not_not] at c
      refine c11_isLane ?_
      refine And.intro (fun c2 => ?_) (fun c2 => ?_)
      · rw [bI_n0] at c2
        have e1 : hlN m x i l = -11 := by
          unfold hlN hdN
          rw [cIf_t c2, cIf_f (fun y => z y.1), cIf_f (fun y => y.1 c), cIf_t c]
        rw [e1, cIf_t (by decide)] at h
        refine Wq.go ok11_writeAs 30 [] ?_
        refine Con.go hw11_whyNoLaneItem ok11_whyNoLaneItem 30 [] rfl ?_
        exact And.intro (fun _ => And.intro hR.k2 (ans_n hR hz (by decide) h)) (fun y => absurd y (by decide))
      · rw [bI_0] at c2
        exact bad (by unfold hlN; rw [cIf_f c2]) _
  · refine c11_isNoThing1 (And.intro (fun c => absurd rfl c) (fun _ => ?_))
    refine c11_isLane ?_
    refine And.intro (fun c2 => ?_) (fun c2 => ?_)
    · rw [bI_n0] at c2
      have e1 := hl_X (i := i) hX e hj c2
      obtain ⟨x1, x2, x3⟩ := hR.xk.1 j hj
      obtain ⟨y1, y2, y3, y4, y5⟩ := hR.xs j hj
      obtain ⟨z1, z2, z3, z4, z5, -⟩ := hX.2.2.2 j hj
      have hsz := hX.sz hj
      refine Wq.go ok11_writeAs 40 [57] ?_
      refine c11_whyNoLaneItem hR hI hX hj ?_
      rw [← e1]
      refine And.intro (fun c => And.intro hR.k2 ?_) (fun c => ?_)
      · have hn : hlN m x i l < 0 := by
          rw [e1] at c ⊢
          by_cases q : dX m j = 1 ∧ bX m j < 8
          · rw [cIf_t q] at c ⊢
            by_cases q2 : ∃ k, i = nI k ∧ k < sX m j
            · rw [cIf_t q2] at c; exact absurd rfl c
            · rw [cIf_f q2]; decide
          · rw [cIf_f q]; decide
        rw [cIf_t hn] at h
        exact ans_n hR hz hn h
      · have hn : ¬ hlN m x i l < 0 := by rw [c]; decide
        rw [cIf_f hn] at h
        obtain ⟨j', k, L, ex, hj', rfl, hk, hd, hb, rfl, hL⟩ := hl_get hX hn
        have : j' = j := by rw [e, nI_eqI (by omega) (by omega)] at ex; exact ex.symm
        subst this
        subst e
        rw [tn_nI (by omega), tn_nI (by omega), tn_nI (by omega)] at h
        rw [c]
        refine Wq.go ok11_writeAs 40 [] ?_
        refine And.intro x2 ?_
        rw [y2, z1]
        refine c2_widens hR (by omega) (by omega) (And.intro (fun c3 => ?_) (fun c3 => And.intro hR.k2 ?_))
        · rw [bI_n0] at c3
          rw [cIf_t c3.2.2] at h
          refine And.intro x2 (refS y4 (c2_fit hL (And.intro x2 ?_)))
          rw [y2, z1]
          refine c2_widened hL hb (fun q => by rw [q]; exact hV 6 v) c3.2.2 (And.intro x3 (And.intro (by rw [y5]; exact in_nI hk (by omega)) ?_))
          rw [nI_clamp (by omega)]
          have hR' := rep_item (v := wd L (bX m j') (kp L v)) hR hX hj hk
          exact And.intro hR'.k2 (ans_p hR' (hz.AJ (hz.lt x3 (by omega))) (by decide) (fun A' w' hF => h A' w' (hF.cw ((CW.rf w).J rfl))))
        · rw [bI_0] at c3
          rw [cIf_f (fun q => c3 ⟨hL, hb, q⟩)] at h
          exact ans_n hR hz (by decide) h
    · rw [bI_0] at c2
      exact bad (by unfold hlN; rw [cIf_f c2]) _
/-- the lane of what was read -/
theorem c11_getAs {h x l : Int32} (hR : Rep A m w) (hI : TInv m) (hAc : AInv m) (hX : XInv m) (hH : HInv m) (hV : VRd m) (hz : qZero w) (hq : ∀ A' w', Fin A' (S_getAs m h x l).2 w w' → Q (some (.long (S_getAs m h x l).1)) w') : Con G M11_getAs [.ref 2, .int h, .int x, .int l] w Q := by
  have h40 := hH.2.1
  have h60 := hX.2.1
  unfold S_getAs at hq
  have bad : (¬ isH m h ∨ noX m x ∨ ¬ isL l) → ∀ l3, Wq G M11_getAs 37 [some (.ref 2), some (.int h), some (.int x), some (.int l), l3, none] [] (0, 0) w Q := by
    intro hb l3
    rw [cIf_t hb] at hq
    refine Wq.ls (ls' := [some (.ref 2), some (.int h), some (.int x), some (.int l), none, none]) ⟨rfl, rfl, rfl, rfl, by cases l3 <;> trivial⟩ ?_
    exact Wq.go ok11_getAs 20 [] (And.intro hR.k2 (los_n hR hz (by decide) hq))
  refine Con.go hw11_getAs ok11_getAs 40 [37, 46] rfl ?_
  refine And.intro hR.k2 (refS hR.r3 (And.intro hR.k73 (c5_handleAt hR hH (fun z => bad (Or.inl z) _) (fun H eH hHH => ?_))))
  have main : ∀ (t : Value) (L : Nat), l = nI L → L < 8 → tV A m x t → Wq G M11_getAs 46 [some (.ref 2), some (.int h), some (.int x), some (.int l), some (.ref (aH A H)), none] [] (0, 0) w Q := by
    intro t L eL hL ht
    have hx : ¬ noX m x := by
      rcases ht with ⟨e, -⟩ | ⟨X, e, hX1, -⟩
      · exact fun y => y.1 e
      · exact fun y => y.2 ⟨X, e, hX1⟩
    rw [cIf_f (fun y => y.elim (fun y => y ⟨H, eH, hHH⟩) (fun y => y.elim hx (fun y => y ⟨L, eL, hL⟩)))] at hq
    subst eH
    subst eL
    rw [tn_nI (by omega), tn_nI (by omega)] at hq
    obtain ⟨hR1, hRd1⟩ := hR.tr0
    have hRE : RE m (sI m 12 36 0 0) := RE.rf.I rfl
    have hz1 := hRd1.2.2.2.2 hz
    have fin : ∀ (u : Value), tV A (sI m 12 36 0 0) x u → Con G M5_readBy [.ref 73, .ref (aH A H), u] (sI w 4 5 73 0) (fun o w' => Wq G M11_getAs 71 [some (.ref 2), some (.int (nI H)), some (.int x), some (.int (nI L)), some (.ref (aH A H)), none] (psh o []) (0, 0) w' Q) := by
      intro u hu
      refine c5_readBy hR1 (hRE.tinv hI) (by unfold AInv; rw [hRE.te.eF1]; exact hAc) (hRE.xinv hX) (hRE.hinv hH) tr0 (by rw [hRE.enH]; exact hHH) hu (fun w2 hRd2 hM2 hv => ?_)
      rw [hRE.erd] at hM2 hv ⊢
      have hR2 := hR1.rd hRd2 _ hM2
      have hz2 := hRd2.2.2.2.2 hz1
      have hcw : CW w w2 := hRd1.2.2.2.1.tr hRd2.2.2.2.1
      refine Wq.go ok11_getAs 30 [88] ?_
      refine And.intro (fun (c : (rdR m H x).1 = 0) => ?_) (fun (c : ¬ (rdR m H x).1 = 0) => And.intro hR2.k2 ?_)
      · obtain ⟨v1, v2⟩ := hv c
        obtain ⟨k, ek, hk⟩ := rd_lane m H x
        have has : asN (rdR m H x) (nI L) = cIf (k = 8 ∨ ¬ wdP k L) (-16) 0 := by
          unfold asN
          rw [cIf_f (by rw [c]; decide), ek, tn_nI (by omega), tn_nI (by omega)]
          by_cases q : k = 8
          · rw [cIf_t (Or.inl (by rw [q]; rfl)), cIf_t (Or.inl q)]
          · have q2 : ¬ nI k = 8 := by rw [c_8, nI_eqI (by omega) (by omega)]; exact q
            by_cases q3 : wdP k L
            · rw [cIf_f (fun z => z.elim q2 (fun z => z q3)), cIf_f (fun z => z.elim q (fun z => z q3))]
            · rw [cIf_t (Or.inr q3), cIf_t (Or.inr q3)]
        have hkp := hV H x hHH hx c
        rw [has] at hq
        rw [ek] at v1
        rw [ek, tn_nI (by omega)] at hq
        refine Wq.go ok11_getAs 30 [] ?_
        refine And.intro hR2.k2 (refS hR2.r3 (And.intro hR2.k73 ?_))
        rw [v1]
        refine c2_widens hR2 (by omega) (by omega) (And.intro (fun c3 => And.intro hR2.k2 (refS hR2.r3 (And.intro hR2.k73 (And.intro hR2.k2 (refS hR2.r3 (And.intro hR2.k73 ?_)))))) (fun c3 => And.intro hR2.k2 ?_))
        · rw [bI_n0] at c3
          rw [cIf_f (a := (-16 : Int32)) (fun z => z.elim (fun z => by omega) (fun z => z c3.2.2)), cIf_f (by decide)] at hq
          rw [v1, v2]
          exact c2_widened c3.1 hL (fun q => by subst q; exact hkp 6 (by omega) ek) c3.2.2 (And.intro hR2.k2 (los_p hR2 hz2 (fun A' w' hF => hq A' w' (hF.cw hcw))))
        · rw [bI_0] at c3
          rw [cIf_t (a := (-16 : Int32)) (Classical.byContradiction fun z => c3 ⟨by omega, hL, Classical.byContradiction fun y => z (Or.inr y)⟩), cIf_t (by decide)] at hq
          exact los_n hR2 hz2 (by decide) (fun A' w' hF => hq A' w' (hF.cw hcw))
      · have hlt := (rd_le m H x).resolve_right c
        have has : asN (rdR m H x) (nI L) = (rdR m H x).1 := by unfold asN; rw [cIf_t hlt]
        rw [has, cIf_t hlt] at hq
        exact los_n hR2 hz2 c (fun A' w' hF => hq A' w' (hF.cw hcw))
    refine Wq.go ok11_getAs 30 [71] ?_
    refine And.intro hR.k2 (refS hR.r3 (And.intro hR.k73 ?_))
    show gN (sI w 4 5 73 0) 0 2 = 10 ∧ _
    refine And.intro hR1.k2 (refS hR1.r3 (And.intro hR1.k2 (refS hR1.r2 (And.intro hR1.k71 ?_))))
    refine c7_at (w := sI w 4 5 73 0) hR1 (hRE.xinv hX) (fun z => And.intro hR1.k73 ?_) (fun X eX hXX => And.intro hR1.k73 ?_)
    · refine (fin .null (Or.inl ⟨?_, rfl⟩)).mono (fun o w' hw' => hw')
      rcases ht with ⟨e, -⟩ | ⟨X, e, hX1, -⟩
      · exact e
      · exact absurd ⟨X, e, hX1⟩ z
    · exact (fin (.ref (aX A X)) (Or.inr ⟨X, eX, hXX, rfl⟩)).mono (fun o w' hw' => hw')
  refine And.intro hR.k2 (refS hR.r2 (And.intro hR.k71 (c7_at hR hX (fun z => c11_isNoThing0 (And.intro (fun c => bad (Or.inr (Or.inl ⟨bI_n0.mp c, z⟩)) _) (fun c => ?_))) (fun X eX hXX => c11_isNoThing1 (And.intro (fun c => absurd rfl c) (fun _ => ?_))))))
  · rw [bI_0, Classical.not_not] at c
    refine c11_isLane ?_
    refine And.intro (fun c2 => ?_) (fun c2 => ?_)
    · rw [bI_n0] at c2
      obtain ⟨L, eL, hL⟩ := c2
      exact main .null L eL hL (Or.inl ⟨c, rfl⟩)
    · rw [bI_0] at c2
      exact bad (Or.inr (Or.inr c2)) _
  · refine c11_isLane ?_
    refine And.intro (fun c2 => ?_) (fun c2 => ?_)
    · rw [bI_n0] at c2
      obtain ⟨L, eL, hL⟩ := c2
      exact main (.ref (aX A X)) L eL hL (Or.inr ⟨X, eX, hXX, rfl⟩)
    · rw [bI_0] at c2
      exact bad (Or.inr (Or.inr c2)) _
end
