/-! ===== field of the class ===== -/
section
variable {G : qGX} {A : qA} {m w : qSt} {Q : Option Value → qSt → Prop}
theorem add_rows {C : Nat} {n fl : Int32} : (∀ r, r ≠ 7 → r ≠ 8 → r ≠ 9 → ma (sAdd m C n fl) r = ma m r) ∧ ma (sAdd m C n fl) 7 C = nI (nM m C + 1) ∧ (∀ i, i ≠ C → ma (sAdd m C n fl) 7 i = ma m 7 i) ∧ (∀ r a, r ≠ 7 → a ≠ 10 * C + nM m C → ma (sAdd m C n fl) r a = ma m r a) ∧ ma (sAdd m C n fl) 8 (10 * C + nM m C) = fl ∧ ma (sAdd m C n fl) 9 (10 * C + nM m C) = n := by
  refine ⟨fun r h7 h8 h9 => ?_, gI_at _ _ _ _ _, fun i hi => ?_, fun r a h7 ha => ?_, ?_, ?_⟩
  · funext i
    show gI (sI (sI (sI m 40 8 (10 * C + nM m C) fl) 40 9 (10 * C + nM m C) n) 40 7 C (nI (nM m C + 1))) 40 r i = _
    rw [gI_ne (by omega), gI_ne (by omega), gI_ne (by omega)]
  · show gI (sI (sI (sI m 40 8 (10 * C + nM m C) fl) 40 9 (10 * C + nM m C) n) 40 7 C (nI (nM m C + 1))) 40 7 i = _
    rw [gI_ne (by omega), gI_ne (by omega), gI_ne (by omega)]
  · show gI (sI (sI (sI m 40 8 (10 * C + nM m C) fl) 40 9 (10 * C + nM m C) n) 40 7 C (nI (nM m C + 1))) 40 r a = _
    rw [gI_ne (by omega), gI_ne (by omega), gI_ne (by omega)]
  · show gI (sI (sI (sI m 40 8 (10 * C + nM m C) fl) 40 9 (10 * C + nM m C) n) 40 7 C (nI (nM m C + 1))) 40 8 (10 * C + nM m C) = _
    rw [gI_ne (by omega), gI_ne (by omega)]; exact gI_at _ _ _ _ _
  · show gI (sI (sI (sI m 40 8 (10 * C + nM m C) fl) 40 9 (10 * C + nM m C) n) 40 7 C (nI (nM m C + 1))) 40 9 (10 * C + nM m C) = _
    rw [gI_ne (by omega)]; exact gI_at _ _ _ _ _
theorem fld_nw {C : Nat} {n t s : Int32} (h10 : nM m C < 10) : NwM m (sFld m C n t s) C ∧ ma (sFld m C n t s) 8 (10 * C + nM m C) = 1 ∧ ma (sFld m C n t s) 9 (10 * C + nM m C) = n ∧ ma (sFld m C n t s) 10 (10 * C + nM m C) = t ∧ ma (sFld m C n t s) 11 (10 * C + nM m C) = s ∧ ml (sFld m C n t s) 14 (10 * C + nM m C) = laneV t := by
  obtain ⟨a1, a2, a3, a4, a5, a6⟩ := add_rows (m := m) (C := C) (n := n) (fl := 1)
  have e : ∀ r i, ma (sFld m C n t s) r i = gI (sI (sI (sAdd m C n 1) 40 10 (10 * C + nM m C) t) 40 11 (10 * C + nM m C) s) 40 r i := fun _ _ => rfl
  refine ⟨⟨?_, fun i hi => ?_, fun r a h8 h13 ha => ?_, fun r hr => ?_, fun a ha => gJ_ne (by omega), fun r hr => ?_, fun _ => rfl, h10⟩, ?_, ?_, ?_, ?_, ?_⟩
  · rw [e, gI_ne (by omega), gI_ne (by omega)]; exact a2
  · rw [e, gI_ne (by omega), gI_ne (by omega)]; exact a3 i hi
  · rw [e, gI_ne (by omega), gI_ne (by omega)]; exact a4 r a (by omega) ha
  · funext i
    rw [e, gI_ne (by omega), gI_ne (by omega)]; exact congrFun (a1 r (by omega) (by omega) (by omega)) i
  · funext x; exact gJ_ne (by omega)
  · rw [e, gI_ne (by omega), gI_ne (by omega)]; exact a5
  · rw [e, gI_ne (by omega), gI_ne (by omega)]; exact a6
  · rw [e, gI_ne (by omega)]; exact gI_at _ _ _ _ _
  · rw [e]; exact gI_at _ _ _ _ _
  · exact gJ_at _ _ _ _ _
theorem c10_addField {c n t s : Int32} (hR : Rep A m w) (hI : TInv m) (hH : HInv m) (hz : qZero w) (hs : s = 0 ∨ s = 1) (h : OpQ (S_field m c n t s) m w Q) : Con G M10_addField [.ref 3, .int c, .int n, .int t, .int s] w Q := by
  have h100 := hI.le
  obtain ⟨hneg, hpos⟩ := h
  unfold S_field at hneg hpos
  have hs1 : s &&& 1 = s := by rcases hs with e | e <;> rw [e] <;> rfl
  have bad : (c = 8 ∨ ¬ isC m c ∨ ¬ isN n ∨ ¬ isT m t) → ∀ l5 l6 : Value, Wq G M10_addField 31 [some (.ref 3), some (.int c), some (.int n), some (.int t), some (.int s), some l5, some l6, none] [] (0, 0) w Q := by
    intro hb l5 l6
    refine Wq.ls (ls' := [some (.ref 3), some (.int c), some (.int n), some (.int t), some (.int s), none, none, none]) ⟨rfl, rfl, rfl, rfl, rfl, trivial⟩ ?_
    exact Wq.go ok10_addField 20 [] (hneg _ (by decide) (cIf_t hb))
  refine Con.go hw10_addField ok10_addField 40 [31, 33] rfl ?_
  refine And.intro hR.k3 (c10_ownClassAt hR hI (fun z => And.intro hR.k3 (c10_at hR hI (fun z2 => bad (z.elim Or.inl (fun z => Or.inr (Or.inl z))) .null .null) (fun j e hj => bad (z.elim Or.inl (fun z => Or.inr (Or.inl z))) .null (.ref (aT A j))))) (fun C eC hC1 hCs hC8 => And.intro hR.k3 (c10_at hR hI (fun z2 => bad (Or.inr (Or.inr (Or.inr z2))) (.ref (aT A C)) .null) (fun T eT hT => ?_))))
  refine c11_isName ?_
  refine And.intro (fun c1 => ?_) (fun c1 => bad (Or.inr (Or.inr (Or.inl (bI_0.mp c1)))) (.ref (aT A C)) (.ref (aT A T)))
  rw [bI_n0] at c1
  have n8 : ¬ c = 8 := fun q => hC8 (by rw [eC] at q; exact (nI_eqI (b := 8) (by omega) (by omega)).mp q)
  rw [cIf_f (fun y => y.elim n8 (fun y => y.elim (fun y => y ⟨C, eC, hC1, hCs⟩) (fun y => y.elim (fun y => y c1) (fun y => y ⟨T, eT, hT⟩))))] at hneg hpos
  obtain ⟨N, rfl, hN⟩ := c1
  subst eC eT
  rw [tn_nI (by omega), tn_nI (by omega)] at hneg hpos
  obtain ⟨t1, t2, t3, t4, t5, t6, t7⟩ := hR.tk C hC1
  obtain ⟨v1, v2, v3, v4⟩ := hR.tm C hC1
  have k2T := (hR.tk T hT).2.1
  obtain ⟨x1, x2, x3, x4, x5, x6, x7, -⟩ := hR.ts T hT
  obtain ⟨p1, p2, -, -⟩ := hI.mbs (i := C) (by omega)
  rw [p1] at v1
  have c9 : 9 ≤ C := by have := hI.c8 hC1 hCs; omega
  have htk : hasMb m C := Or.inr ⟨hCs, hC8⟩
  refine Wq.go ok10_addField 40 [46] ?_
  refine And.intro t2 (And.intro (fun (z : gI w 7 12 (aT A C) < nI 10) => ?_) (fun (z : ¬ gI w 7 12 (aT A C) < nI 10) => ?_)) <;> rw [v1, nI_ltI (by omega) (by omega)] at z
  rotate_left
  · exact hneg _ (by decide) (cIf_t (by omega))
  rw [cIf_f (by omega)] at hneg hpos
  -- is the type another class's
  have hsq := sqN_le hI T hT
  have hfor : (ma m 0 (sqN m T) = 3 ∧ ¬ ma m 1 (sqN m T) = nI C) ↔ ∃ b, owA A m T = some b ∧ b ≠ aT A C := by
    unfold owA
    by_cases c3 : ma m 0 (sqN m T) = 3
    · have h9 : 9 ≤ sqN m T := by
        refine Classical.byContradiction fun z => ?_
        rcases Nat.lt_or_ge (sqN m T) 8 with q | q
        · rw [hI.lane q] at c3; exact absurd c3 (by decide)
        · rw [show sqN m T = 8 by omega, hI.any] at c3; exact absurd c3 (by decide)
      have hup : ma m 1 (sqN m T) = nI (upN m (sqN m T)) ∧ upN m (sqN m T) < nT m := by
        rcases hI.kind h9 (by omega) with q | q | q | q
        · rw [q.1] at c3; exact absurd c3 (by decide)
        · rw [q] at c3; exact absurd c3 (by decide)
        · exact ⟨q.2.1, by omega⟩
        · rw [q.1] at c3; exact absurd c3 (by decide)
      rw [cIf_t c3, hup.1, nI_eqI (by omega) (by omega)]
      constructor
      · intro q
        exact ⟨_, rfl, fun e => q.2 (hR.tinj hI hup.2 hC1 e)⟩
      · rintro ⟨b, e, hb⟩
        cases e
        exact ⟨c3, fun e => hb (by rw [e])⟩
    · rw [cIf_f c3]
      exact ⟨fun q => absurd q.1 c3, fun ⟨b, e, _⟩ => by cases e⟩
  have no : (ma m 4 C ≠ 0 ∨ ¬ mby m C (nI N) 1 = -1 ∨ (ma m 0 (sqN m T) = 3 ∧ ¬ ma m 1 (sqN m T) = nI C)) → ∀ y : Int32, Wq G M10_addField 93 [some (.ref 3), some (.int (nI C)), some (.int (nI N)), some (.int (nI T)), some (.int s), some (.ref (aT A C)), some (.ref (aT A T)), some (.int y)] [] (0, 0) w Q :=
    fun hb y => Wq.go ok10_addField 20 [] (hneg _ (by decide) (cIf_t hb))
  have k71 : ∀ y : Int32, ((y = 1 ∧ (ma m 0 (sqN m T) = 3 ∧ ¬ ma m 1 (sqN m T) = nI C)) ∨ (y = 0 ∧ ¬ (ma m 0 (sqN m T) = 3 ∧ ¬ ma m 1 (sqN m T) = nI C))) → Wq G M10_addField 71 [some (.ref 3), some (.int (nI C)), some (.int (nI N)), some (.int (nI T)), some (.int s), some (.ref (aT A C)), some (.ref (aT A T)), some (.int y)] [] (0, 0) w Q := by
    intro y hy
    refine Wq.go ok10_addField 40 [93, 96] ?_
    refine And.intro t2 (And.intro (fun (c1 : ¬ gI w 7 14 (aT A C) = 0) => no (Or.inl (by rw [v3] at c1; exact c1)) y) (fun (c1 : gI w 7 14 (aT A C) = 0) => And.intro t2 (c8_fieldNamed hR hI hC1 hN (fun e1 => And.intro (fun (c2 : y = 0) => ?_) (fun (c2 : ¬ y = 0) => ?_)) (fun j e1 hj => no (Or.inr (Or.inl (by rw [e1]; exact neX rfl (by omega)))) y))))
    rotate_left
    · rcases hy with ⟨-, q⟩ | ⟨q, -⟩
      · exact no (Or.inr (Or.inr q)) y
      · exact absurd q c2
    have hnf : ¬ (ma m 0 (sqN m T) = 3 ∧ ¬ ma m 1 (sqN m T) = nI C) := by
      rcases hy with ⟨q, -⟩ | ⟨-, q⟩
      · rw [q] at c2; exact absurd c2 (by decide)
      · exact q
    rw [v3] at c1
    rw [cIf_f (fun q => q.elim (fun q => q c1) (fun q => q.elim (fun q => q e1) hnf))] at hpos
    obtain ⟨hNw, f8, f9, f10, f11, f14⟩ := fld_nw (m := m) (C := C) (n := nI N) (t := nI T) (s := s) z
    generalize sFld m C (nI N) (nI T) s = m' at hpos hNw f8 f9 f10 f11 f14
    have ety : tyN m' (10 * C + nM m C) = T := by unfold tyN; rw [f10]; exact tn_nI (by omega)
    have h80 : ¬ ma m' 8 (10 * C + nM m C) = 0 := by rw [f8]; decide
    refine Wq.go ok10_addField 40 [] ?_
    refine And.intro ⟨by decide, by decide⟩ (fun a ha => ?_)
    have hap : gN w 2 0 = a := ha
    refine c3_init (num := nI (nM m C)) (pn := nI (pcN m C)) (b := nI (baN m T)) (d := nI (dpN m T)) hz hap t2 k2T hs1 v1 v2 x6 x7 (fun u nw => ?_)
    obtain ⟨mk, k0, o0, o1, o2, o3, o4, o5, o6, o7, o8⟩ := nw
    have hR1 := hR.agree mk.1
    have f99 : gN w 0 a = 99 := hz.k (by omega)
    have hpc : nI (pcN m' C) = nI (pcN m C + (if (4 : Nat) = 4 ∧ gI u 2 4 a = 0 then 1 else 0)) := by
      rw [hNw.epct, o4]
      unfold isP
      by_cases e : s = 0
      · rw [if_pos ⟨rfl, e⟩, cIf_t ⟨h80, by rw [f11]; exact e⟩]
      · rw [if_neg (fun q => e q.2), cIf_f (fun q => e (by rw [← f11]; exact q.2))]
    have hLe : ∀ n, n < 10 → ∀ f, f < 128 → (tS u (60 + n) f = true ↔ LnP m' f n) := by
      intro n hn f hf
      rw [hR1.le n hn f hf]
      unfold LnP
      rw [hNw.te.eT, hNw.te.2.1]
      by_cases e : f = C
      · rw [e, hCs]
        exact ⟨fun q => absurd q.2.1 (by decide), fun q => absurd q.2.1 (by decide)⟩
      · have n10 : f < nT m → nM m f ≤ 10 := fun q => (hI.mbs (i := f) (by omega)).2.1
        constructor
        · rintro ⟨q1, q2, q3, q4⟩
          have hm := hNw.emb e (n10 q1) (nI n) 0
          rcases mby_cases m f (nI n) 0 with y | ⟨j, hj, y, -⟩
          · exact absurd y q3
          · refine ⟨q1, q2, by rw [hm]; exact q3, ?_⟩
            have := n10 q1
            rw [hm, y, tn_nI (by omega), hNw.at (by omega) (by omega) (by omega) (Or.inl e)]
            rw [y, tn_nI (by omega)] at q4; exact q4
        · rintro ⟨q1, q2, q3, q4⟩
          have hm := hNw.emb e (n10 q1) (nI n) 0
          rw [hm] at q3 q4
          rcases mby_cases m f (nI n) 0 with y | ⟨j, hj, y, -⟩
          · exact absurd y q3
          · refine ⟨q1, q2, q3, ?_⟩
            have := n10 q1
            rw [y, tn_nI (by omega), hNw.at (by omega) (by omega) (by omega) (Or.inl e)] at q4
            rw [y, tn_nI (by omega)]; exact q4
    have hrep := rep_member (u := u) (u0 := u) (a := a) (nm := N) (row := 4) hR1 hI hH hNw hC1 htk rfl rfl rfl (fun _ _ _ _ => rfl) hN f9 (Or.inl ⟨rfl, f8⟩) rfl (fun i j hi hj q => by
        have := (hR.bk i j hi hj).2
        rw [q, f99] at this; omega) k0 o0 o1 o2 (by rw [cIf_f h80, ety]; exact o3) (by rw [cIf_f h80, f11]; exact o4) (by rw [cIf_f h80]; exact o5) (by rw [cIf_f h80]; exact o6) (by rw [cIf_f h80]; exact o7) (fun _ => by
        rw [f14, o8]
        unfold laneV
        by_cases e : T < 8
        · rw [cIf_t ((ty_hv hI hT).mpr e), cIf_t ((isL_nI (by omega)).mpr e)]
        · rw [cIf_f (fun q => e ((ty_hv hI hT).mp q)), cIf_f (fun q => e ((isL_nI (by omega)).mp q))]) hLe
    have t2u : gN u 0 (aT A C) = 7 := (hR1.tk C hC1).2.1
    refine And.intro t2u (c8_keepMember (u := u) (u0 := u) (row := 4) (nm := N) (pc := nI (pcN m' C)) hR1 hI hC1 htk z rfl rfl rfl hN k0 o1 o2 (Or.inl ⟨rfl, _, o3⟩) hpc ?_)
    have hzu := mk.2.1
    have l7 := hzu.lt t2u (by omega)
    have l25 := hzu.lt (hR1.tk C hC1).2.2.2.2.1 (by omega)
    have l26 := hzu.lt (hR1.tk C hC1).2.2.2.2.2.1 (by omega)
    exact hpos _ _ _ _ (nI_pos (by omega)) rfl ⟨hrep, (((hzu.AR l25).I l7 (by omega)).AR l26).I l7 (by omega), ((((mk.2.2.1.R).I rfl).R).I rfl)⟩
  refine Wq.go ok10_addField 40 [71] ?_
  cases eow : owA A m T with
  | none =>
    rw [eow] at x4
    refine And.intro k2T (refN x4 ?_)
    exact k71 0 (Or.inr ⟨rfl, fun q => by obtain ⟨b, e, _⟩ := hfor.mp q; rw [eow] at e; cases e⟩)
  | some b =>
    rw [eow] at x4
    have hb2 : 2 ≤ b := by
      unfold owA at eow
      by_cases c3 : ma m 0 (sqN m T) = 3
      · rw [cIf_t c3] at eow
        cases eow
        have h9 : 9 ≤ sqN m T := by
          refine Classical.byContradiction fun z => ?_
          rcases Nat.lt_or_ge (sqN m T) 8 with q | q
          · rw [hI.lane q] at c3; exact absurd c3 (by decide)
          · rw [show sqN m T = 8 by omega, hI.any] at c3; exact absurd c3 (by decide)
        rcases hI.kind h9 (by omega) with q | q | q | q
        · rw [q.1] at c3; exact absurd c3 (by decide)
        · rw [q] at c3; exact absurd c3 (by decide)
        · exact hR.t2 (by omega)
        · rw [q.1] at c3; exact absurd c3 (by decide)
      · rw [cIf_f c3] at eow; cases eow
    refine And.intro k2T (refS x4 (And.intro k2T (refS x4 (And.intro ⟨hb2, hR.t2 hC1⟩ (And.intro (fun (q : b = aT A C) => ?_) (fun (q : ¬ b = aT A C) => ?_))))))
    · exact k71 0 (Or.inr ⟨rfl, fun y => by obtain ⟨b', e, hb'⟩ := hfor.mp y; rw [eow] at e; cases e; exact hb' q⟩)
    · exact k71 1 (Or.inl ⟨rfl, hfor.mpr ⟨b, eow, q⟩⟩)
theorem c11_field {c n t s : Int32} (hR : Rep A m w) (hI : TInv m) (hH : HInv m) (hz : qZero w) (hs : s = 0 ∨ s = 1) (h : ∀ A' w', Fin A' (S_field m c n t s).2 w w' → Q (some (.int (S_field m c n t s).1)) w') : Con G M11_field [.ref 2, .int c, .int n, .int t, .int s] w Q := by
  refine Con.go hw11_field ok11_field 40 [] rfl ?_
  refine And.intro hR.k2 (refS hR.r1 (And.intro hR.k3 (And.intro ⟨by decide, by decide⟩ ?_)))
  exact c10_addField hR hI hH hz hs (OpQ.ans hR hz h (fun v w' q => q _ (fun _ z => z)))
end
