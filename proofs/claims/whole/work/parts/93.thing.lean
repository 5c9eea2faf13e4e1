/-! ===== a thing of a class ===== -/
theorem putL_app (f : Nat → Int64) (e : Nat) (l l' : List Int64) : putL (putL f e l) (e + l.length) l' = putL f e (l ++ l') := by
  funext p
  unfold putL
  rw [List.length_append]
  by_cases h1 : e + l.length ≤ p ∧ p < e + l.length + l'.length
  · rw [if_pos h1, if_pos (by omega)]
    simp only [List.getD]
    rw [List.getElem?_append_right (by omega), show p - e - l.length = p - (e + l.length) by omega]
  · rw [if_neg h1]
    by_cases h2 : e ≤ p ∧ p < e + l.length
    · rw [if_pos h2, if_pos (by omega)]
      simp only [List.getD]
      rw [List.getElem?_append_left (by omega)]
    · rw [if_neg h2, if_neg (by omega)]
section
variable {G : qGX} {A : qA} {m w : qSt} {Q : Option Value → qSt → Prop}
theorem c7_placeFields {u : qSt} {a c S N : Nat} {cl : Option Nat} {b d : Int32} (hR : Rep A m w) (hI : TInv m) (hc : c < nT m) (ha : gN w 2 0 = a) (mk : Mkg w u (a + 2)) (nw : XoNw u a cl b d N) (hS : S + pcN m c ≤ N) (hN : N ≤ 1000)
    (h : ∀ u', Mkg w u' (a + 2) → XoNw u' a cl b d N → gJ u' 21 (a + 1) = putL (gJ u 21 (a + 1)) S (ivC m c) → Q none u') : Con G M7_placeFields [.ref a, .ref (aT A c), .int (nI S)] u Q := by
  have h100 := hI.le
  have hM10 := (hI.mbs (i := c) (by omega)).2.1
  have loop : ∀ (r k : Nat) (u1 : qSt), k + r = nM m c → Mkg w u1 (a + 2) → XoNw u1 a cl b d N → gJ u1 21 (a + 1) = putL (gJ u 21 (a + 1)) S (ivF m c k) →
      Wq G M7_placeFields 2 [some (.ref a), some (.ref (aT A c)), some (.int (nI S)), some (.int (nI k)), none, none] [] (0, 0) u1 Q := by
    intro r
    induction r with
    | zero =>
      intro k u1 hk mk1 nw1 hj
      have hR1 := hR.agree mk1.1
      refine Wq.go ok7_placeFields 20 [] ?_
      refine And.intro (hR1.tk c hc).2.1 (And.intro (fun _ => ?_) (fun (z : ¬ gI u1 7 12 (aT A c) ≤ nI k) => ?_))
      · refine h u1 mk1 nw1 ?_
        rw [hj, show k = nM m c by omega]; rfl
      · rw [hR1.mcnt hI hc, nI_leI (by omega) (by omega)] at z; omega
    | succ r ih =>
      intro k u1 hk mk1 nw1 hj
      have hR1 := hR.agree mk1.1
      have hk2 : k < nM m c := by omega
      obtain ⟨k0, k1, n1, -, -, -, r3⟩ := id nw1
      obtain ⟨t1, t2, t3, t4, t5, -⟩ := hR1.tk c hc
      have r9 := (hR1.ts c hc).2.2.2.2.2.2.2.2.2.1
      have l9 : gN u1 1 (aT A c + 3) = 10 := ((hR1.ts c hc).2.2.2.2.2.2.2.2.2.2.2.2.1).trans (cIf_t (has_mb hI hc (by omega)))
      obtain ⟨b1, b2⟩ := hR1.bk c k hc hk2
      have s6 := (hR1.bs c k hc hk2).2.2.2.2.2.1
      have nx : ∀ (u2 : qSt) (x y : Value), Mkg w u2 (a + 2) → XoNw u2 a cl b d N → gJ u2 21 (a + 1) = putL (gJ u 21 (a + 1)) S (ivF m c (k + 1)) →
          Wq G M7_placeFields 62 [some (.ref a), some (.ref (aT A c)), some (.int (nI S)), some (.int (nI k)), some x, some y] [] (0, 0) u2 Q := by
        intro u2 x y mk2 nw2 hj2
        refine Wq.ls (ls' := [some (.ref a), some (.ref (aT A c)), some (.int (nI S)), some (.int (nI k)), none, none]) ⟨rfl, rfl, rfl, rfl, trivial⟩ ?_
        refine Wq.go ok7_placeFields 20 [2] ?_
        show Wq G M7_placeFields 2 [some (.ref a), some (.ref (aT A c)), some (.int (nI S)), some (.int (nI k + 1)), none, none] [] (0, 0) u2 Q
        rw [nI_1]
        exact ih (k + 1) u2 (by omega) mk2 nw2 hj2
      refine Wq.go ok7_placeFields 60 [62] ?_
      refine And.intro t2 (And.intro (fun (z : gI u1 7 12 (aT A c) ≤ nI k) => ?_) (fun _ => ?_))
      · rw [hR1.mcnt hI hc, nI_leI (by omega) (by omega)] at z; omega
      refine And.intro t2 (refS r9 (And.intro (And.intro (by rw [t5]; rfl) (by rw [l9]; exact in_nI (by omega) (by decide))) ?_))
      rw [nI_clamp (by omega)]
      refine refS b1 (And.intro b2 (And.intro b2 (c3_isPlaced hR1 hc hk2 (And.intro (fun c5 => ?_) (fun c5 => ?_)))))
      · rw [bI_0] at c5
        refine nx u1 _ _ mk1 nw1 ?_
        rw [hj]
        show _ = putL _ S (ivF m c k ++ cIf (isP m (10 * c + k)) _ [])
        rw [cIf_f c5, List.append_nil]
      · rw [bI_n0] at c5
        rw [cIf_f c5.1] at s6
        have hlt := pcF_lt hk2 c5
        rw [s6, nI_add]
        refine And.intro (fun z => absurd z (nI_pos (by omega))) (fun _ => And.intro k0 (refS r3 (And.intro (Or.inr (Or.inl k1)) (And.intro (fun (z : nI (gN u1 1 (a + 1)) ≤ nI (S + pcF m c k)) => ?_) (fun _ => ?_)))))
        · rw [n1, nI_leI (by omega) (by omega)] at z; omega
        refine And.intro k0 (refS r3 (And.intro b2 (c3_firstHeld hR1 hI hc hk2 (And.intro k1 (And.intro (by rw [n1]; exact in_nI (by omega) (by omega)) ?_)))))
        rw [nI_clamp (by omega), cIf_f c5.1]
        refine nx _ _ _ (mk1.AJ (by omega) (by omega)) nw1.AJ ?_
        funext j
        show gJ (sJ u1 21 (a + 1) (S + pcF m c k) (laneV (ma m 10 (10 * c + k)))) 21 (a + 1) j = putL (gJ u 21 (a + 1)) S (ivF m c k ++ cIf (isP m (10 * c + k)) [laneV (ma m 10 (10 * c + k))] []) j
        rw [cIf_t c5, ← putL_snoc, ← hj]
        show _ = if j = S + (ivF m c k).length then laneV (ma m 10 (10 * c + k)) else gJ u1 21 (a + 1) j
        by_cases e : j = S + (ivF m c k).length
        · rw [if_pos e, e]; exact gJ_at _ _ _ _ _
        · rw [if_neg e]; exact gJ_ne (fun z => e z.2.2)
  refine Con.go hw7_placeFields ok7_placeFields 20 [2] rfl ?_
  refine loop (nM m c) 0 u (Nat.zero_add _) mk nw ?_
  show _ = putL _ S []
  rw [putL_nil]
theorem XInv.r4 {m : qSt} (hX : XInv m) {f : Nat → Int32} (hf : ∀ i, ma m 4 i = 1 → f i = 1) : XInv (rI m 4 f) := by
  have te := te_r4 m f
  obtain ⟨x1, x2, x3, x4⟩ := hX
  refine ⟨x1, x2, x3, fun x hx => ?_⟩
  obtain ⟨y1, y2, y3, y4, y5, y6, y7, y8⟩ := x4 x hx
  refine ⟨y1, y2, y3, y4, y5, y6, y7, y8.imp (fun z => ⟨z.1, z.2.1, ?_, ?_⟩) id⟩
  · show sX m x = (ivL (rI m 4 f) (abvs (rI m 4 f) (bX m x))).length
    rw [te.eiv, te.eab]; exact z.2.2.1
  · show ∀ d ∈ abvs (rI m 4 f) (bX m x), f d = 1
    rw [te.eab]
    exact fun d hd => hf d (z.2.2.2 d hd)
theorem c7_addOfClass {c : Int32} (hR : Rep A m w) (hI : TInv m) (hX : XInv m) (hz : qZero w) (h : OpQ (S_thing m c) m w Q) : Con G M7_addOfClass [.ref 71, .int c] w Q := by
  have h100 := hI.le
  have h60 := hX.2.1
  obtain ⟨hneg, hpos⟩ := h
  unfold S_thing at hneg hpos
  have r0 : gR w 6 0 71 = some 3 := hR.fr.2.2.2.2.2.2.2.2.2.2.1
  have hc : gI w 6 2 71 = nI (nX m) := hR.mt.2.2.2.1.trans hX.1
  refine Con.go hw7_addOfClass ok7_addOfClass 40 [15] rfl ?_
  refine And.intro hR.k71 (refS r0 (And.intro hR.k3 (c10_classAt hR hI (fun z => hneg _ (by decide) (cIf_t z)) (fun C eC hC hs => ?_))))
  rw [cIf_f (fun y => y ⟨C, eC, hC, hs⟩)] at hneg hpos
  subst eC
  rw [tn_nI (by omega)] at hneg hpos
  obtain ⟨t1, t2, -⟩ := hR.tk C hC
  have u5 := (hR.ts C hC).2.2.2.2.1
  refine Wq.go ok7_addOfClass 40 [27] ?_
  refine And.intro hR.k71 (And.intro (fun (c1 : gI w 6 2 71 < nI 60) => ?_) (fun (c1 : ¬ gI w 6 2 71 < nI 60) => ?_)) <;> rw [hc, nI_ltI (by omega) (by omega)] at c1
  rotate_left
  · exact hneg _ (by decide) (cIf_t (by omega))
  rw [cIf_f (by omega)] at hneg hpos
  refine Wq.go ok7_addOfClass 40 [37] ?_
  refine And.intro t2 (And.intro (fun (c2 : gI w 7 4 (aT A C) = 0) => ?_) (fun (c2 : ¬ gI w 7 4 (aT A C) = 0) => ?_)) <;> rw [u5] at c2
  rotate_left
  · exact hneg _ (by decide) (cIf_t c2)
  rw [cIf_f (fun z => z c2)] at hpos
  have hlen := ivL_len hI C hC hs
  -- the end: closed and kept
  have fin : ∀ (a : Nat) (u : qSt), gN w 2 0 = a → Mkg w u (a + 2) → XoNw u a (some (aT A C)) (nI C) 0 (ivL m (abvs m C)).length → gJ u 21 (a + 1) = putL (fun _ => 0) 0 (ivL m (abvs m C)) →
      Wq G M7_addOfClass 118 [some (.ref 71), some (.int (nI C)), some (.ref (aT A C)), none, some (.ref a), none, none] [] (2, 1004) u Q := by
    intro a u ha mk nw hj
    have hR1 := hR.agree mk.1
    have f99 : gN w 0 a = 99 := hz.k (by omega)
    refine Wq.go ok7_addOfClass 20 [] ?_
    refine And.intro hR1.k71 (refS hR1.fr.2.2.2.2.2.2.2.2.2.2.1 (And.intro hR1.k3 (c10_closeFor hR1 hI hC hs (fun u2 hR2 hW => ?_))))
    have hX2 : XInv (rI m 4 (clsF m C)) := hX.r4 (fun i hi => by
      unfold clsF
      by_cases q : i ∈ abvs m C ∨ FOf m C i
      · exact cIf_t q
      · exact (cIf_f q).trans hi)
    obtain ⟨g1, g2, g3, g4, g5, g6⟩ := hW
    obtain ⟨k0, k1, n1, s0, i1, i2, r3⟩ := nw
    have nw2 : XoNw u2 a (cIf (0 = 0) (some (aT A C)) none) (nI C) (nI 0) (ivL m (abvs m C)).length := by
      rw [cIf_t rfl]
      refine ⟨by rw [g1]; exact k0, by rw [g1]; exact k1, by rw [g1]; exact n1, by rw [g2]; exact s0, ?_, ?_, by rw [g2]; exact r3⟩
      · rw [g4 _ _ _ (by omega) (by omega)]; exact i1
      · rw [g4 _ _ _ (by omega) (by omega)]; exact i2
    have hrep := rep_thing (A := A) (m := rI m 4 (clsF m C)) (w := u2) (a := a) (B := C) (D := 0) (l := ivL m (abvs m C)) hR2 hX2 c1 nw2 (by omega) (by omega) (by omega) (fun i hi => by
        rw [g3, hj]
        unfold putL
        rw [if_pos (by omega)]; rfl) (fun x hx z => by
        have := (hR.xk.1 x hx).2.1
        rw [z, f99] at this; omega)
    refine And.intro hR2.k71 (c7_keep hR2 hX2 c1 nw2.1 ?_)
    have hzu := g6 mk.2.1
    have l72 := hzu.lt hR2.fk.2.2.2.2.2.2.1.1 (by omega)
    have l71 := hzu.lt hR2.k71 (by omega)
    show Q (some (.int (nI (nX m)))) _
    exact hpos _ _ _ _ (nI_pos (by omega)) rfl ⟨hrep, (hzu.AR l72).I l71 (by omega), ((mk.2.2.1.tr g5).R).I rfl⟩
  -- the fields of the classes above
  have place : ∀ (a : Nat), gN w 2 0 = a → ∀ (n c : Nat) (u : qSt) (vs : List Int64), c < n → c < nT m → ma m 0 c = 1 → ivL m (abvs m C) = vs ++ ivL m (abvs m c) → Mkg w u (a + 2) → XoNw u a (some (aT A C)) (nI C) 0 (ivL m (abvs m C)).length → gJ u 21 (a + 1) = putL (fun _ => 0) 0 vs →
      Wq G M7_addOfClass 84 [some (.ref 71), some (.int (nI C)), some (.ref (aT A C)), none, some (.ref a), some (.int (nI vs.length)), some (.ref (aT A c))] [] (2, 1004) u Q := by
    intro a ha n
    induction n with
    | zero => intro c u vs h0; omega
    | succ n ih =>
      intro c u vs hn hc2 hs2 hvs mk nw hj
      have ht : ∀ u', Mkg w u' (a + 2) → gN u' 0 (aT A c) = 7 ∧ gI u' 7 13 (aT A c) = nI (pcN m c) ∧ gR u' 7 2 (aT A c) = frA A m c := fun u' mk' => by
        have hR1 := hR.agree mk'.1
        exact ⟨(hR1.tk c hc2).2.1, (hR1.tm c hc2).2.1, (hR1.ts c hc2).2.2.1⟩
      have hL : (ivL m (abvs m C)).length = vs.length + (ivL m (abvs m c)).length := by rw [hvs, List.length_append]
      have hin : pcN m c ≤ (ivL m (abvs m c)).length := by
        by_cases h8 : c = 8
        · subst h8
          rw [abvs_8]
          show _ ≤ (ivC m 8 ++ []).length
          rw [List.append_nil]; exact Nat.le_refl _
        · rw [abvs_c hI hc2 hs2 h8]
          show _ ≤ (ivC m c ++ _).length
          rw [List.length_append]; unfold pcN; omega
      refine Wq.go ok7_addOfClass 40 [84, 118] ?_
      refine c7_placeFields hR hI hc2 ha mk nw (by omega) (by omega) (fun u2 mk2 nw2 hj2 => ?_)
      rw [hj, ← Nat.zero_add vs.length, putL_app] at hj2
      obtain ⟨y1, y2, y3⟩ := ht u2 mk2
      refine And.intro y1 (And.intro y1 ?_)
      rw [y3]
      unfold frA
      rw [cIf_t hs2]
      by_cases h8 : c = 8
      · subst h8
        rw [cIf_t rfl]
        refine refN rfl ?_
        refine Wq.go ok7_addOfClass 20 [118] ?_
        refine Wq.ls (ls' := [some (.ref 71), some (.int (nI C)), some (.ref (aT A C)), none, some (.ref a), none, none]) ⟨rfl, rfl, rfl, rfl, trivial⟩ ?_
        refine fin a u2 ha mk2 nw2 ?_
        rw [hj2, hvs, abvs_8]
        show _ = putL _ 0 (vs ++ (ivC m 8 ++ []))
        rw [List.append_nil]
      · rw [cIf_f h8]
        obtain ⟨u1, u2', u3, u4⟩ := hI.up hc2 hs2 h8
        refine refS rfl ?_
        show Wq G M7_addOfClass 84 [some (.ref 71), some (.int (nI C)), some (.ref (aT A C)), none, some (.ref a), some (.int (nI vs.length + gI u2 7 13 (aT A c))), some (.ref (aT A (upN m c)))] [] (2, 1004) u2 Q
        rw [y2, nI_add, show vs.length + pcN m c = (vs ++ ivC m c).length by rw [List.length_append]; rfl]
        refine ih (upN m c) u2 (vs ++ ivC m c) (by omega) (by omega) u4 ?_ mk2 nw2 hj2
        rw [hvs, abvs_c hI hc2 hs2 h8, List.append_assoc]; rfl
  have make : Wq G M7_addOfClass 65 [some (.ref 71), some (.int (nI C)), some (.ref (aT A C)), some (.int (nI (ivL m (abvs m C)).length)), none, none, none] [] (0, 0) w Q := by
    refine Wq.go ok7_addOfClass 40 [84] ?_
    refine And.intro ⟨by decide, by decide⟩ (fun a ha => ?_)
    have hap : gN w 2 0 = a := ha
    refine And.intro ⟨by decide, by decide⟩ ?_
    show Con G M6_init [.ref a, .ref (aT A C), .int (nI C), .int 0, .int (nI (ivL m (abvs m C)).length)] (nwO w 5) _
    refine c6_init (cl := some (aT A C)) hz hap (by omega) (fun u mk nw h0 => ?_)
    refine Wq.ls (ls' := [some (.ref 71), some (.int (nI C)), some (.ref (aT A C)), none, some (.ref a), some (.int (nI 0)), some (.ref (aT A C))]) ⟨rfl, rfl, rfl, rfl, rfl, rfl, trivial⟩ ?_
    refine place a hap (C + 1) C u [] (by omega) hC hs rfl mk nw ?_
    rw [putL_nil]
    funext j; exact h0 j
  have count : ∀ (n c P : Nat), c < n → c < nT m → ma m 0 c = 1 → (ivL m (abvs m C)).length = P + (ivL m (abvs m c)).length →
      Wq G M7_addOfClass 42 [some (.ref 71), some (.int (nI C)), some (.ref (aT A C)), some (.int (nI P)), some (.ref (aT A c)), none, none] [] (0, 0) w Q := by
    intro n
    induction n with
    | zero => intro c P h0; omega
    | succ n ih =>
      intro c P hn hc2 hs2 hP
      have tk := (hR.tk c hc2).2.1
      have y2 := (hR.tm c hc2).2.1
      refine Wq.go ok7_addOfClass 40 [42, 65] ?_
      refine And.intro tk (And.intro tk ?_)
      rw [(hR.ts c hc2).2.2.1, y2, nI_add]
      unfold frA
      rw [cIf_t hs2]
      by_cases h8 : c = 8
      · subst h8
        rw [cIf_t rfl]
        refine refN rfl ?_
        rw [abvs_8] at hP
        have hP : (ivL m (abvs m C)).length = P + (ivC m 8 ++ []).length := hP
        rw [List.append_nil] at hP
        refine Wq.go ok7_addOfClass 20 [65] ?_
        refine Wq.ls (ls' := [some (.ref 71), some (.int (nI C)), some (.ref (aT A C)), some (.int (nI (P + pcN m 8))), none, none, none]) ⟨rfl, rfl, rfl, rfl, trivial⟩ ?_
        have e : P + pcN m 8 = (ivL m (abvs m C)).length := hP.symm
        rw [e]
        exact make
      · rw [cIf_f h8]
        obtain ⟨u1, u2, u3, u4⟩ := hI.up hc2 hs2 h8
        refine refS rfl ?_
        refine ih (upN m c) (P + pcN m c) (by omega) (by omega) u4 ?_
        rw [abvs_c hI hc2 hs2 h8] at hP
        have hP : (ivL m (abvs m C)).length = P + (ivC m c ++ ivL m (abvs m (upN m c))).length := hP
        rw [List.length_append] at hP
        have e : (ivC m c).length = pcN m c := rfl
        omega
  refine Wq.go ok7_addOfClass 20 [42] ?_
  exact count (C + 1) C 0 (by omega) hC hs (Nat.zero_add _).symm
theorem c11_thing {c : Int32} (hR : Rep A m w) (hI : TInv m) (hX : XInv m) (hz : qZero w) (h : ∀ A' w', Fin A' (S_thing m c).2 w w' → Q (some (.int (S_thing m c).1)) w') : Con G M11_thing [.ref 2, .int c] w Q := by
  refine Con.go hw11_thing ok11_thing 40 [] rfl ?_
  refine And.intro hR.k2 (refS hR.r2 (And.intro hR.k71 (And.intro ⟨by decide, by decide⟩ ?_)))
  exact c7_addOfClass hR hI hX hz (OpQ.ans hR hz h (fun v w' q => q _ (fun _ z => z)))
end
