/-! ===== things (rows) of the class ===== -/
section
variable {G : qGX} {A : qA} {m w : qSt} {Q : Option Value → qSt → Prop}
theorem XoNw.AJ {u : qSt} {a N j : Nat} {cl : Option Nat} {b d : Int32} {v : Int64} (h : XoNw u a cl b d N) : XoNw (sJ u 21 (a + 1) j v) a cl b d N := h
theorem getD_rep {n i : Nat} {v : Int64} (h : i < n) : (List.replicate n v).getD i 0 = v := by
  simp only [List.getD]
  rw [List.getElem?_replicate, if_pos h]; rfl
theorem c7_addRow {t n : Int32} (hR : Rep A m w) (hI : TInv m) (hX : XInv m) (hz : qZero w) (h : OpQ (S_things m t n) m w Q) : Con G M7_addRow [.ref 71, .int t, .int n] w Q := by
  have h100 := hI.le
  have h60 := hX.2.1
  obtain ⟨hneg, hpos⟩ := h
  unfold S_things at hneg hpos
  have r0 : gR w 6 0 71 = some 3 := hR.fr.2.2.2.2.2.2.2.2.2.2.1
  have hc : gI w 6 2 71 = nI (nX m) := hR.mt.2.2.2.1.trans hX.1
  have bad : (¬ isT m t ∨ 12 < n) → ∀ l3 : Value, Wq G M7_addRow 19 [some (.ref 71), some (.int t), some (.int n), some l3, none, none] [] (0, 0) w Q := by
    intro hb l3
    refine Wq.ls (ls' := [some (.ref 71), some (.int t), some (.int n), none, none, none]) ⟨rfl, rfl, rfl, trivial⟩ ?_
    exact Wq.go ok7_addRow 20 [] (hneg _ (by decide) (cIf_t hb))
  refine Con.go hw7_addRow ok7_addRow 40 [19, 21] rfl ?_
  refine And.intro hR.k71 (refS r0 (And.intro hR.k3 (c10_at hR hI (fun z => bad (Or.inl z) .null) (fun T eT hT => ?_))))
  refine And.intro (fun (c : n ≤ 12) => ?_) (fun (c : ¬ n ≤ 12) => bad (Or.inr (by rw [i32_lt]; rw [i32_le] at c; omega)) (.ref (aT A T)))
  rw [cIf_f (fun y => y.elim (fun y => y ⟨T, eT, hT⟩) (fun y => by rw [i32_lt] at y; rw [i32_le] at c; omega))] at hneg hpos
  subst eT
  obtain ⟨t1, t2, -⟩ := hR.tk T hT
  obtain ⟨x1, x2, x3, x4, x5, x6, x7, -⟩ := hR.ts T hT
  have hb := baN_le hI T hT
  rw [tn_nI (by omega)] at hpos
  refine Wq.go ok7_addRow 40 [33] ?_
  refine And.intro hR.k71 (And.intro (fun (c1 : gI w 6 2 71 < nI 60) => ?_) (fun (c1 : ¬ gI w 6 2 71 < nI 60) => ?_)) <;> rw [hc, nI_ltI (by omega) (by omega)] at c1
  rotate_left
  · exact hneg _ (by decide) (cIf_t (by omega))
  rw [cIf_f (by omega)] at hneg hpos
  refine Wq.go ok7_addRow 40 [40] ?_
  refine And.intro (fun (c2 : 0 ≤ n) => ?_) (fun (c2 : ¬ 0 ≤ n) => ?_)
  rotate_left
  · exact hneg _ (by decide) (cIf_t (lt0 c2))
  rw [cIf_f (nlt0 c2)] at hpos
  obtain ⟨N, rfl, hN⟩ : ∃ N, n = nI N ∧ N ≤ 12 := by
    have i12 : ((12 : Int32)).toInt = 12 := rfl
    rw [i32_le, i12] at c
    rw [i32_le, c0i] at c2
    refine ⟨n.toInt.toNat, ?_, by omega⟩
    rw [i32_eq, nI_t (by omega)]; omega
  rw [tn_nI (by omega)] at hpos
  -- the end: the row is kept
  have fin : ∀ (a : Nat) (u : qSt) (l5 : Option Value), gN w 2 0 = a → Mkg w u (a + 2) → XoNw u a none (nI (baN m T)) (nI (dpN m T + 1)) N → (∀ i, i < N → gJ u 21 (a + 1) i = cIf (baN m T < 8 ∧ dpN m T = 0) 0 (-1)) →
      Wq G M7_addRow 106 [some (.ref 71), some (.int (nI T)), some (.int (nI N)), some (.ref (aT A T)), some (.ref a), l5] [] (2, 1004) u Q := by
    intro a u l5 ha mk nw hv
    have hR1 := hR.agree mk.1
    have f99 : gN w 0 a = 99 := hz.k (by omega)
    refine Wq.ls (ls' := [some (.ref 71), some (.int (nI T)), some (.int (nI N)), some (.ref (aT A T)), some (.ref a), none]) ⟨rfl, rfl, rfl, rfl, rfl, by cases l5 <;> trivial⟩ ?_
    refine Wq.go ok7_addRow 20 [] ?_
    have hl : (List.replicate N (cIf (baN m T < 8 ∧ dpN m T = 0) (0 : Int64) (-1))).length = N := List.length_replicate
    have hrep := rep_thing (A := A) (m := m) (w := u) (a := a) (B := baN m T) (D := dpN m T + 1) (l := List.replicate N (cIf (baN m T < 8 ∧ dpN m T = 0) (0 : Int64) (-1))) hR1 hX c1 (by rw [cIf_f (by omega), hl]; exact nw) (by omega) (by omega) (by rw [hl]; omega) (fun i hi => by
        rw [hl] at hi
        rw [getD_rep hi]; exact hv i hi) (fun x hx z => by
        have := (hR.xk.1 x hx).2.1
        rw [z, f99] at this; omega)
    rw [hl] at hrep
    refine And.intro hR1.k71 (c7_keep hR1 hX c1 nw.1 ?_)
    have hzu := mk.2.1
    have l72 := hzu.lt hR1.fk.2.2.2.2.2.2.1.1 (by omega)
    have l71 := hzu.lt hR1.k71 (by omega)
    exact hpos _ _ _ _ (nI_pos (by omega)) rfl ⟨hrep, (hzu.AR l72).I l71 (by omega), (mk.2.2.1.R).I rfl⟩
  have loop : ∀ (a : Nat), gN w 2 0 = a → ¬ (baN m T < 8 ∧ dpN m T = 0) → ∀ (k i : Nat) (u : qSt), i + k = N → Mkg w u (a + 2) → XoNw u a none (nI (baN m T)) (nI (dpN m T + 1)) N → (∀ j, j < i → gJ u 21 (a + 1) j = -1) →
      Wq G M7_addRow 78 [some (.ref 71), some (.int (nI T)), some (.int (nI N)), some (.ref (aT A T)), some (.ref a), some (.int (nI i))] [] (2, 1004) u Q := by
    intro a ha hno k
    induction k with
    | zero =>
      intro i u hi mk nw hv
      obtain ⟨k0, k1, n1, -, -, -, r3⟩ := id nw
      refine Wq.go ok7_addRow 20 [106] ?_
      refine And.intro k0 (refS r3 (And.intro (Or.inr (Or.inl k1)) (And.intro (fun _ => ?_) (fun (z : ¬ nI (gN u 1 (a + 1)) ≤ nI i) => ?_))))
      · refine fin a u _ ha mk nw (fun j hj => ?_)
        rw [cIf_f hno]; exact hv j (by omega)
      · rw [n1, nI_leI (by omega) (by omega)] at z; omega
    | succ k ih =>
      intro i u hi mk nw hv
      obtain ⟨k0, k1, n1, -, -, -, r3⟩ := id nw
      refine Wq.go ok7_addRow 30 [78] ?_
      refine And.intro k0 (refS r3 (And.intro (Or.inr (Or.inl k1)) (And.intro (fun (z : nI (gN u 1 (a + 1)) ≤ nI i) => ?_) (fun _ => And.intro k0 (refS r3 (And.intro k1 (And.intro (by rw [n1]; exact in_nI (by omega) (by omega)) ?_)))))))
      · rw [n1, nI_leI (by omega) (by omega)] at z; omega
      · rw [nI_clamp (by omega)]
        show Wq G M7_addRow 78 [some (.ref 71), some (.int (nI T)), some (.int (nI N)), some (.ref (aT A T)), some (.ref a), some (.int (nI i + 1))] [] (2, 1004) (sJ u 21 (a + 1) i (-1)) Q
        rw [nI_1]
        refine ih (i + 1) _ (by omega) (mk.AJ (by omega) (by omega)) nw.AJ (fun j hj => ?_)
        by_cases e : j = i
        · rw [e]; exact gJ_at _ _ _ _ _
        · rw [gJ_ne (by omega)]; exact hv j (by omega)
  refine Wq.go ok7_addRow 40 [59] ?_
  refine And.intro ⟨by decide, by decide⟩ (fun a ha => ?_)
  have hap : gN w 2 0 = a := ha
  have t2a : gN (nwO w 5) 0 (aT A T) = 7 := (nwO_ne w 5 (fun z => by have := hz.lt t2 (by omega); omega)).trans t2
  refine And.intro t2a (And.intro t2a (And.intro ⟨by decide, by decide⟩ ?_))
  show Con G M6_init [.ref a, .null, .int (gI w 7 5 (aT A T)), .int (gI w 7 6 (aT A T) + 1), .int (nI N)] (nwO w 5) _
  rw [x6, x7, nI_1]
  refine c6_init (cl := none) hz hap (by omega) (fun u mk nw h0 => ?_)
  have hR1 := hR.agree mk.1
  obtain ⟨y1, y2, y3, y4, y5, y6, y7, -⟩ := hR1.ts T hT
  have t2u := (hR1.tk T hT).2.1
  refine Wq.go ok7_addRow 40 [78, 106] ?_
  refine And.intro t2u (And.intro t2u ?_)
  rw [y6, y7]
  refine c11_holdsValue ?_
  rw [show (nI (dpN m T) = 0 ∧ nI (baN m T) < 8) = (baN m T < 8 ∧ dpN m T = 0) from propext (hv_n (by omega) (by omega))]
  refine And.intro (fun c3 => ?_) (fun c3 => ?_)
  · rw [bI_n0] at c3
    exact fin a u _ hap mk nw (fun i _ => by rw [cIf_t c3]; exact h0 i)
  · rw [bI_0] at c3
    exact loop a hap c3 N 0 u (Nat.zero_add _) mk nw (fun j hj => by omega)
theorem c11_things {t n : Int32} (hR : Rep A m w) (hI : TInv m) (hX : XInv m) (hz : qZero w) (h : ∀ A' w', Fin A' (S_things m t n).2 w w' → Q (some (.int (S_things m t n).1)) w') : Con G M11_things [.ref 2, .int t, .int n] w Q := by
  refine Con.go hw11_things ok11_things 40 [] rfl ?_
  refine And.intro hR.k2 (refS hR.r2 (And.intro hR.k71 (And.intro ⟨by decide, by decide⟩ ?_)))
  exact c7_addRow hR hI hX hz (OpQ.ans hR hz h (fun v w' q => q _ (fun _ z => z)))
end
