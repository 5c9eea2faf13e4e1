/-! ===== method of the class ===== -/
def mhN (m : qSt) (T : Nat) (b a : Int32) : Prop := (ma m 0 T = 2 ∧ (b = 1 ∨ b = 2)) ∨ (ma m 0 T = 1 ∧ ma m 3 T = 0 ∧ b = 0) ∨ (b = 1 ∧ ¬ ∃ j, a = nI j ∧ j < nM m T ∧ ¬ ma m 8 (10 * T + j) = 0)
theorem Agree.back {w u : qSt} {c : Nat} {lo hi : Int64} (h : Agree (sS w c lo hi) u) : Agree w (sS u c (gJ w 8 0 c) (gJ w 8 1 c)) := by
  intro x hx
  obtain ⟨h1, h2, h3, h4⟩ := h x hx
  refine ⟨h1, h2, fun r k hr => ⟨(h3 r k hr).1, ?_, (h3 r k hr).2.2⟩, fun j => ⟨(h4 j).1, ?_, (h4 j).2.2⟩⟩
  · have e := (h3 r k hr).2.1
    unfold sS at e ⊢
    by_cases c1 : r = 8 ∧ k = 1 ∧ x = c
    · obtain ⟨rfl, rfl, rfl⟩ := c1
      exact gJ_at _ _ _ _ _
    · rw [gJ_ne c1]
      by_cases c0 : r = 8 ∧ k = 0 ∧ x = c
      · obtain ⟨rfl, rfl, rfl⟩ := c0
        exact gJ_at _ _ _ _ _
      · rw [gJ_ne c0, e, gJ_ne c1, gJ_ne c0]
  · have e := (h4 j).2.1
    unfold sS at e ⊢
    rw [gJ_ne (by omega), gJ_ne (by omega)] at e ⊢
    exact e
section
variable {G : qGX} {A : qA} {m w : qSt} {Q : Option Value → qSt → Prop}
theorem c10_mayHaveBody {T : Nat} {b a : Int32} (hR : Rep A m w) (hI : TInv m) (hT : T < nT m) (hTk : hasMb m T) (h0 : mhN m T b a → Q (some (.int 0)) w) (h1 : ¬ mhN m T b a → Q (some (.int 1)) w) : Con G M10_mayHaveBody [.ref 3, .ref (aT A T), .int b, .int a] w Q := by
  have h100 := hI.le
  obtain ⟨t1, t2, -⟩ := hR.tk T hT
  obtain ⟨x1, x2, x3, x4, x5, -⟩ := hR.ts T hT
  have hfl := (hI.flg (i := T) (by omega)).1
  have n10 := (hI.mbs (i := T) (by omega)).2.1
  have k33 : ¬ ma m 0 T = 2 → ¬ b = 0 → Wq G M10_mayHaveBody 33 [some (.ref 3), some (.ref (aT A T)), some (.int b), some (.int a), none] [] (0, 0) w Q := by
    intro n2 nb
    have s1 : ma m 0 T = 1 := by
      rcases hTk with q | q
      · exact absurd q n2
      · exact q.1
    refine Wq.go ok10_mayHaveBody 40 [58, 62] ?_
    have yes : ¬ mhN m T b a → ∀ l : Value, Wq G M10_mayHaveBody 58 [some (.ref 3), some (.ref (aT A T)), some (.int b), some (.int a), some l] [] (0, 0) w Q := fun hy l => by
      refine Wq.ls (ls' := [some (.ref 3), some (.ref (aT A T)), some (.int b), some (.int a), none]) ⟨rfl, rfl, rfl, rfl, trivial⟩ ?_
      exact Wq.go ok10_mayHaveBody 20 [] (And.intro rfl (h1 hy))
    have nay : mhN m T b a → ∀ l : Value, Wq G M10_mayHaveBody 62 [some (.ref 3), some (.ref (aT A T)), some (.int b), some (.int a), some l] [] (0, 0) w Q := fun hy l => by
      refine Wq.ls (ls' := [some (.ref 3), some (.ref (aT A T)), some (.int b), some (.int a), none]) ⟨rfl, rfl, rfl, rfl, trivial⟩ ?_
      exact Wq.go ok10_mayHaveBody 20 [] (And.intro rfl (h0 hy))
    refine And.intro t2 (c8_memberAt hR hI hT (fun z => And.intro (fun (c : ¬ b = 1) => yes (fun q => ?_) .null) (fun (c : b = 1) => nay (Or.inr (Or.inr ⟨c, fun ⟨j, e, hj, _⟩ => z ⟨j, e, hj⟩⟩)) .null)) (fun j ej hj => And.intro (fun (c : ¬ b = 1) => yes (fun q => ?_) (.ref (aB A (10 * T + j)))) (fun (c : b = 1) => ?_)))
    · rcases q with q | q | q
      · exact n2 q.1
      · exact nb q.2.2
      · exact c q.1
    · rcases q with q | q | q
      · exact n2 q.1
      · exact nb q.2.2
      · exact c q.1
    · obtain ⟨b1, b2⟩ := hR.bk T j hT hj
      obtain ⟨q1, q2, q3, q4, -⟩ := hR.bs T j hT hj
      refine And.intro b2 (Con.go hw3_isField ok3_isField 20 [] rfl ?_)
      by_cases c8 : ma m 8 (10 * T + j) = 0
      · rw [cIf_t c8] at q4
        refine And.intro b2 (refN q4 (And.intro rfl (And.intro (fun _ => nay (Or.inr (Or.inr ⟨c, fun ⟨j', e, hj', h8⟩ => ?_⟩)) _) (fun y => absurd rfl y))))
        rw [ej, nI_eqI (by omega) (by omega)] at e
        subst e; exact h8 c8
      · rw [cIf_f c8] at q4
        refine And.intro b2 (refS q4 (And.intro rfl (And.intro (fun y => absurd y (by decide)) (fun _ => yes (fun q => ?_) _))))
        rcases q with q | q | q
        · exact n2 q.1
        · exact nb q.2.2
        · exact q.2 ⟨j, ej, hj, c8⟩
  refine Con.go hw10_mayHaveBody ok10_mayHaveBody 40 [33] rfl ?_
  refine And.intro t2 (And.intro (fun (c : ¬ gI w 7 1 (aT A T) = nI 2) => ?_) (fun (c : gI w 7 1 (aT A T) = nI 2) => ?_)) <;> rw [x2] at c
  · have s1 : ma m 0 T = 1 := by
      rcases hTk with q | q
      · exact absurd q c
      · exact q.1
    refine And.intro (fun (c2 : ¬ b = 0) => k33 c c2) (fun (c2 : b = 0) => And.intro t2 ?_)
    show (gI w 7 4 (aT A T)) &&& 1 = gI w 7 4 (aT A T) ∧ Q (some (.int (gI w 7 4 (aT A T)))) w
    rw [x5]
    rcases hfl with e | e
    · rw [e]
      exact ⟨rfl, h0 (Or.inr (Or.inl ⟨s1, e, c2⟩))⟩
    · rw [e]
      refine ⟨rfl, h1 (fun q => ?_)⟩
      rcases q with q | q | q
      · exact c q.1
      · rw [e] at q; exact absurd q.2.1 (by decide)
      · rw [c2] at q; exact absurd q.1 (by decide)
  · refine And.intro (fun (c2 : b = 1) => And.intro rfl (h0 (Or.inl ⟨c, Or.inl c2⟩))) (fun (c2 : ¬ b = 1) => And.intro (fun (c3 : b = 2) => And.intro rfl (h0 (Or.inl ⟨c, Or.inr c3⟩))) (fun (c3 : ¬ b = 2) => And.intro rfl (h1 (fun q => ?_))))
    rcases q with q | q | q
    · exact q.2.elim c2 c3
    · have := q.1; rw [show ma m 0 T = 2 from c] at this; exact absurd this (by decide)
    · exact c2 q.1
theorem met_nw {T : Nat} {n b a : Int32} (h10 : nM m T < 10) : NwM m (sMet m T n b a) T ∧ ma (sMet m T n b a) 8 (10 * T + nM m T) = 0 ∧ ma (sMet m T n b a) 9 (10 * T + nM m T) = n ∧ ma (sMet m T n b a) 12 (10 * T + nM m T) = b ∧ ma (sMet m T n b a) 13 (10 * T + nM m T) = a := by
  obtain ⟨a1, a2, a3, a4, a5, a6⟩ := add_rows (m := m) (C := T) (n := n) (fl := 0)
  have e : ∀ r i, ma (sMet m T n b a) r i = gI (sI (sI (sAdd m T n 0) 40 12 (10 * T + nM m T) b) 40 13 (10 * T + nM m T) a) 40 r i := fun _ _ => rfl
  refine ⟨⟨?_, fun i hi => ?_, fun r x h8 h13 hx => ?_, fun r hr => ?_, fun _ _ => rfl, fun r hr => rfl, fun _ => rfl, h10⟩, ?_, ?_, ?_, ?_⟩
  · rw [e, gI_ne (by omega), gI_ne (by omega)]; exact a2
  · rw [e, gI_ne (by omega), gI_ne (by omega)]; exact a3 i hi
  · rw [e, gI_ne (by omega), gI_ne (by omega)]; exact a4 r x (by omega) hx
  · funext i
    rw [e, gI_ne (by omega), gI_ne (by omega)]; exact congrFun (a1 r (by omega) (by omega) (by omega)) i
  · rw [e, gI_ne (by omega), gI_ne (by omega)]; exact a5
  · rw [e, gI_ne (by omega), gI_ne (by omega)]; exact a6
  · rw [e, gI_ne (by omega)]; exact gI_at _ _ _ _ _
  · rw [e]; exact gI_at _ _ _ _ _
theorem c10_addMethod {t n b a : Int32} (hR : Rep A m w) (hI : TInv m) (hH : HInv m) (hz : qZero w) (h : OpQ (S_method m t n b a) m w Q) : Con G M10_addMethod [.ref 3, .int t, .int n, .int b, .int a] w Q := by
  have h100 := hI.le
  obtain ⟨hneg, hpos⟩ := h
  unfold S_method at hneg hpos
  have bad : badM m t n b a → ∀ l5 : Value, Wq G M10_addMethod 28 [some (.ref 3), some (.int t), some (.int n), some (.int b), some (.int a), some l5] [] (0, 0) w Q := by
    intro hb l5
    refine Wq.ls (ls' := [some (.ref 3), some (.int t), some (.int n), some (.int b), some (.int a), none]) ⟨rfl, rfl, rfl, rfl, rfl, trivial⟩ ?_
    exact Wq.go ok10_addMethod 20 [] (hneg _ (by decide) (cIf_t hb))
  have i5 : (nI 5).toInt = 5 := rfl
  refine Con.go hw10_addMethod ok10_addMethod 40 [28, 30] rfl ?_
  refine And.intro hR.k3 (c10_memberedAt hR hI (fun z => bad (z.elim Or.inl (fun z => Or.inr (Or.inl z))) .null) (fun T eT hT hTk => ?_))
  refine c11_isName ?_
  refine And.intro (fun c1 => bad (Or.inr (Or.inr (Or.inl (bI_0.mp c1)))) (.ref (aT A T))) (fun c1 => And.intro (fun (c2 : b < 0) => bad (Or.inr (Or.inr (Or.inr (Or.inl (fun q => by rw [i32_lt, c0i] at c2; omega))))) (.ref (aT A T))) (fun (c2 : ¬ b < 0) => And.intro (fun (c3 : b ≤ nI 5) => ?_) (fun (c3 : ¬ b ≤ nI 5) => bad (Or.inr (Or.inr (Or.inr (Or.inl (fun q => by rw [i32_le, i5] at c3; omega))))) (.ref (aT A T)))))
  rw [bI_n0] at c1
  rw [i32_lt, c0i] at c2
  rw [i32_le, i5] at c3
  have n8 : ¬ t = 8 := fun q => by
    rw [eT] at q
    have : T = 8 := (nI_eqI (b := 8) (by omega) (by omega)).mp q
    rcases hTk with z | z
    · rw [this, hI.any] at z; exact absurd z (by decide)
    · exact z.2 this
  have hcf : ¬ (¬ isC m t ∧ ¬ isF m t) := fun q => by
    rcases hTk with z | z
    · exact q.2 ⟨T, eT, hT, z⟩
    · exact q.1 ⟨T, eT, hT, z.1⟩
  have T9 : 9 ≤ T := by
    refine Classical.byContradiction fun z => ?_
    rcases hTk with q | q
    · rcases Nat.lt_or_ge T 8 with y | y
      · rw [hI.lane y] at q; exact absurd q (by decide)
      · rw [show T = 8 by omega, hI.any] at q; exact absurd q (by decide)
    · have := hI.c8 hT q.1; omega
  obtain ⟨t1, t2, t3, t4, t5, t6, t7⟩ := hR.tk T hT
  obtain ⟨x1, x2, -⟩ := hR.ts T hT
  obtain ⟨v1, v2, v3, v4⟩ := hR.tm T hT
  obtain ⟨p1, p2, -, -⟩ := hI.mbs (i := T) (by omega)
  rw [p1] at v1
  have k50 : ¬ badM m t n b a → Wq G M10_addMethod 50 [some (.ref 3), some (.int t), some (.int n), some (.int b), some (.int a), some (.ref (aT A T))] [] (0, 0) w Q := by
    intro hnb
    rw [cIf_f hnb] at hneg hpos
    obtain ⟨N, rfl, hN⟩ := c1
    subst eT
    rw [tn_nI (by omega)] at hneg hpos
    refine Wq.go ok10_addMethod 40 [63] ?_
    refine And.intro t2 (And.intro (fun (z : gI w 7 12 (aT A T) < nI 10) => ?_) (fun (z : ¬ gI w 7 12 (aT A T) < nI 10) => ?_)) <;> rw [v1, nI_ltI (by omega) (by omega)] at z
    rotate_left
    · exact hneg _ (by decide) (cIf_t (by omega))
    rw [cIf_f (by omega)] at hneg hpos
    have no : noM m T (nI N) b a → Wq G M10_addMethod 92 [some (.ref 3), some (.int (nI T)), some (.int (nI N)), some (.int b), some (.int a), some (.ref (aT A T))] [] (0, 0) w Q :=
      fun hb => Wq.go ok10_addMethod 20 [] (hneg _ (by decide) (cIf_t hb))
    have hno : noM m T (nI N) b a ↔ (ma m 4 T ≠ 0 ∨ ¬ mby m T (nI N) 0 = -1 ∨ mhN m T b a) := by
      unfold noM mhN
      constructor
      · rintro ((q | q | q) | q | q)
        · exact Or.inl q
        · exact Or.inr (Or.inl q)
        · exact Or.inr (Or.inr (Or.inl q))
        · exact Or.inr (Or.inr (Or.inr (Or.inl q)))
        · exact Or.inr (Or.inr (Or.inr (Or.inr q)))
      · rintro (q | q | q | q | q)
        · exact Or.inl (Or.inl q)
        · exact Or.inl (Or.inr (Or.inl q))
        · exact Or.inl (Or.inr (Or.inr q))
        · exact Or.inr (Or.inl q)
        · exact Or.inr (Or.inr q)
    refine Wq.go ok10_addMethod 40 [92, 95] ?_
    refine And.intro t2 (And.intro (fun (c1 : ¬ gI w 7 14 (aT A T) = 0) => no (hno.mpr (Or.inl (by rw [v3] at c1; exact c1)))) (fun (c1 : gI w 7 14 (aT A T) = 0) => And.intro t2 (c8_methodNamed hR hI hT hN (fun e1 => And.intro hR.k3 (c10_mayHaveBody hR hI hT hTk (fun q => ?_) (fun hmh => ?_))) (fun j e1 hj => no (hno.mpr (Or.inr (Or.inl (by rw [e1]; exact neX rfl (by omega)))))))))
    · exact And.intro (fun y => absurd rfl y) (fun _ => no (hno.mpr (Or.inr (Or.inr q))))
    refine And.intro (fun _ => ?_) (fun y => absurd y (by decide))
    rw [v3] at c1
    rw [cIf_f (fun q => (hno.mp q).elim (fun q => q c1) (fun q => q.elim (fun q => q e1) hmh))] at hpos
    obtain ⟨hNw, f8, f9, f12, f13⟩ := met_nw (m := m) (T := T) (n := nI N) (b := b) (a := a) z
    generalize sMet m T (nI N) b a = m' at hpos hNw f8 f9 f12 f13
    -- what lends
    have hLn : ∀ f n, n < 10 → (LnP m' f n ↔ (LnP m f n ∨ (f = T ∧ n = N ∧ ma m 0 T = 2 ∧ ¬ b = 0))) := by
      intro f n hn
      unfold LnP
      rw [hNw.te.eT, hNw.te.2.1]
      by_cases e : f = T
      · subst e
        rw [hNw.embt, f8]
        by_cases en : n = N
        · subst en
          rw [cIf_t ⟨rfl, f9⟩, tn_nI (by omega), f12]
          constructor
          · rintro ⟨q1, q2, q3, q4⟩; exact Or.inr ⟨rfl, rfl, q2, q4⟩
          · rintro (⟨q1, q2, q3, q4⟩ | ⟨-, -, q2, q4⟩)
            · exact absurd e1 q3
            · exact ⟨hT, q2, neX rfl (by omega), q4⟩
        · have hnn : ¬ ((0 : Int32) = 0 ∧ ma m' 9 (10 * f + nM m f) = nI n) := fun q => by
            have := q.2
            rw [f9, nI_eqI (by omega) (by omega)] at this
            exact en this.symm
          rw [cIf_f hnn]
          have h12 : ¬ mby m f (nI n) 0 = -1 → ma m' 12 (10 * f + tn (mby m f (nI n) 0)) = ma m 12 (10 * f + tn (mby m f (nI n) 0)) := by
            intro q3
            rcases mby_cases m f (nI n) 0 with y | ⟨j, hj, y, -⟩
            · exact absurd y q3
            · rw [y, tn_nI (by omega), hNw.at (by omega) (by omega) (by omega) (Or.inr hj)]
          constructor
          · rintro ⟨q1, q2, q3, q4⟩
            rw [h12 q3] at q4; exact Or.inl ⟨q1, q2, q3, q4⟩
          · rintro (⟨q1, q2, q3, q4⟩ | ⟨-, q, -⟩)
            · exact ⟨q1, q2, q3, by rw [h12 q3]; exact q4⟩
            · exact absurd q en
      · have n10 : f < nT m → nM m f ≤ 10 := fun q => (hI.mbs (i := f) (by omega)).2.1
        have h12 : f < nT m → ¬ mby m f (nI n) 0 = -1 → ma m' 12 (10 * f + tn (mby m f (nI n) 0)) = ma m 12 (10 * f + tn (mby m f (nI n) 0)) := by
          intro q1 q3
          have := n10 q1
          rcases mby_cases m f (nI n) 0 with y | ⟨j, hj, y, -⟩
          · exact absurd y q3
          · rw [y, tn_nI (by omega), hNw.at (by omega) (by omega) (by omega) (Or.inl e)]
        constructor
        · rintro ⟨q1, q2, q3, q4⟩
          rw [hNw.emb e (n10 q1)] at q3 q4
          rw [h12 q1 q3] at q4
          exact Or.inl ⟨q1, q2, q3, q4⟩
        · rintro (⟨q1, q2, q3, q4⟩ | ⟨q, -⟩)
          · rw [hNw.emb e (n10 q1), h12 q1 q3]; exact ⟨q1, q2, q3, q4⟩
          · exact absurd q e
    have k118 : ∀ w1, gN w1 = gN w → gR w1 = gR w → gI w1 = gI w → (∀ u, Agree w1 u → ∃ u0, Rep A m u0 ∧ gN u = gN u0 ∧ gR u = gR u0 ∧ gI u = gI u0 ∧ (∀ r k x, ¬ (r = 8 ∧ 60 ≤ x ∧ x < 70) → gJ u r k x = gJ u0 r k x)) → (∀ n, n < 10 → ∀ f, f < 128 → (tS w1 (60 + n) f = true ↔ LnP m' f n)) → qZero w1 → CW w w1 →
        Wq G M10_addMethod 118 [some (.ref 3), some (.int (nI T)), some (.int (nI N)), some (.int b), some (.int a), some (.ref (aT A T))] [] (0, 0) w1 Q := by
      intro w1 eN eR eI hAg hLe hz1 hcw1
      have t2w : gN w1 0 (aT A T) = 7 := by rw [eN]; exact t2
      refine Wq.go ok10_addMethod 40 [] ?_
      refine And.intro ⟨by decide, by decide⟩ (fun x hx => ?_)
      have hxp : gN w1 2 0 = x := hx
      refine c3_init_ (num := nI (nM m T)) hz1 hxp t2w (by rw [eI]; exact v1) (fun u nw => ?_)
      obtain ⟨mk, k0, o0, o1, o2, o3, o4, o5, o6, o7, o8⟩ := nw
      obtain ⟨u0, hR0, aN, aR, aI, aJ⟩ := hAg u mk.1
      have f99 : gN w 0 x = 99 := by rw [← eN]; exact hz1.k (by omega)
      have hpc : nI (pcN m' T) = nI (pcN m T + (if (5 : Nat) = 4 ∧ gI u 2 4 x = 0 then 1 else 0)) := by
        rw [hNw.epct, cIf_f (fun q => q.1 f8), if_neg (fun q => by omega)]
      have hLe2 : ∀ n, n < 10 → ∀ f, f < 128 → (tS u (60 + n) f = true ↔ LnP m' f n) := by
        intro n hn f hf
        have k60 : gN w1 0 (60 + n) = 8 := by rw [eN]; exact hR.fk.2.2.2.2.1 n (by omega)
        rw [(mk.1 (60 + n) (by rw [k60]; omega)).tS]
        exact hLe n hn f hf
      have hrep := rep_member (u := u) (u0 := u0) (a := x) (nm := N) (row := 5) hR0 hI hH hNw hT hTk aN aR aI aJ hN f9 (Or.inr ⟨rfl, f8⟩) rfl (fun i j hi hj q => by
          have := (hR.bk i j hi hj).2
          rw [q, f99] at this; omega) k0 o0 o1 o2 (by rw [cIf_t f8]; exact o3) (by rw [cIf_t f8]; exact o4) (by rw [cIf_t f8]; exact o5) (by rw [cIf_t f8, f12]; exact o6) (by rw [cIf_t f8, f13]; exact o7) (fun q => absurd f8 q) hLe2
      have t2u : gN u 0 (aT A T) = 7 := by rw [aN]; exact (hR0.tk T hT).2.1
      refine And.intro t2u (c8_keepMember (u := u) (u0 := u0) (row := 5) (nm := N) (pc := nI (pcN m' T)) hR0 hI hT hTk z aN aR aI hN k0 o1 o2 (Or.inr ⟨rfl, o3⟩) hpc ?_)
      have hzu := mk.2.1
      have l7 := hzu.lt t2u (by omega)
      have l25 := hzu.lt (show gN u 0 (aT A T + 3) = 25 by rw [aN]; exact (hR0.tk T hT).2.2.2.2.1) (by omega)
      have l27 := hzu.lt (show gN u 0 (aT A T + 5) = 25 by rw [aN]; exact (hR0.tk T hT).2.2.2.2.2.2) (by omega)
      exact hpos _ _ _ _ (nI_pos (by omega)) rfl ⟨hrep, (((hzu.AR l25).I l7 (by omega)).AR l27).I l7 (by omega), ((((hcw1.tr mk.2.2.1).R.I rfl).R).I rfl)⟩
    have plain : ¬ (ma m 0 T = 2 ∧ ¬ b = 0) → Wq G M10_addMethod 118 [some (.ref 3), some (.int (nI T)), some (.int (nI N)), some (.int b), some (.int a), some (.ref (aT A T))] [] (0, 0) w Q := by
      intro hn
      refine k118 w rfl rfl rfl (fun u hu => ⟨u, hR.agree hu, rfl, rfl, rfl, fun _ _ _ _ => rfl⟩) (fun n hn2 f hf => ?_) hz (CW.rf w)
      rw [hLn f n hn2, hR.le n hn2 f hf]
      exact ⟨Or.inl, fun q => q.elim id (fun q => absurd ⟨q.2.2.1, q.2.2.2⟩ hn)⟩
    refine Wq.go ok10_addMethod 40 [118] ?_
    refine And.intro t2 (And.intro (fun (c4 : ¬ gI w 7 1 (aT A T) = nI 2) => plain (fun q => c4 (by rw [x2]; exact q.1))) (fun (c4 : gI w 7 1 (aT A T) = nI 2) => And.intro (fun (c5 : b = 0) => plain (fun q => q.2 c5)) (fun (c5 : ¬ b = 0) => ?_)))
    rw [x2] at c4
    have k59 := hR.fk.2.2.2.1
    have k60 := hR.fk.2.2.2.2.1 N (by omega)
    refine And.intro hR.k3 (refS hR.fr.2.2.2.2.2.2.2.1 (And.intro (And.intro (by rw [k59.1]; rfl) (by rw [k59.2]; exact in_nI hN (by decide))) ?_))
    rw [nI_clamp (by omega)]
    refine refS (hR.fr.2.2.2.2.2.2.2.2.2.1 N hN) (And.intro k60 (c9_add k60 (by omega) (fun lo hi hbt => ?_)))
    have lz := hz.lt k60 (by omega)
    refine k118 (sS w (60 + N) lo hi) rfl rfl rfl (fun u hu => ⟨_, hR.agree hu.back, rfl, rfl, rfl, fun r k x q => ?_⟩) (fun n hn2 f hf => ?_) ((hz.J lz (by omega)).J lz (by omega)) (((CW.rf w).J rfl).J rfl)
    · unfold sS
      rw [gJ_ne (by omega), gJ_ne (by omega)]
    · rw [hLn f n hn2]
      by_cases en : n = N
      · subst en
        rw [tS_at, hbt f hf, Bool.or_eq_true, decide_eq_true_iff, hR.le n hn2 f hf]
        exact ⟨fun q => q.elim Or.inl (fun q => Or.inr ⟨q, rfl, c4, c5⟩), fun q => q.elim Or.inl (fun q => Or.inr q.1)⟩
      · rw [tS_ne _ _ _ (by omega), hR.le n hn2 f hf]
        exact ⟨Or.inl, fun q => q.elim id (fun q => absurd q.2.1 en)⟩
  have hnb : ¬ ((b = 3 ∨ b = 5) ∧ ¬ isN a) → ¬ badM m t n b a := by
    intro q hb
    rcases hb with y | y | y | y | y
    · exact n8 y
    · exact hcf y
    · exact y c1
    · exact y ⟨by omega, by omega⟩
    · exact q y
  have k40 : (b = 3 ∨ b = 5) → Wq G M10_addMethod 40 [some (.ref 3), some (.int t), some (.int n), some (.int b), some (.int a), some (.ref (aT A T))] [] (0, 0) w Q := by
    intro hb
    refine Wq.go ok10_addMethod 20 [50] ?_
    refine c11_isName ?_
    refine And.intro (fun c4 => ?_) (fun c4 => ?_)
    · rw [bI_n0] at c4
      exact k50 (hnb (fun q => q.2 c4))
    · rw [bI_0] at c4
      exact hneg _ (by decide) (cIf_t (Or.inr (Or.inr (Or.inr (Or.inr ⟨hb, c4⟩)))))
  refine Wq.go ok10_addMethod 20 [40, 50] ?_
  refine And.intro (fun (c4 : b = 3) => k40 (Or.inl c4)) (fun (c4 : ¬ b = 3) => And.intro (fun (c5 : ¬ b = 5) => k50 (hnb (fun q => q.1.elim c4 c5))) (fun (c5 : b = 5) => k40 (Or.inr c5)))
theorem c11_method {t n b a : Int32} (hR : Rep A m w) (hI : TInv m) (hH : HInv m) (hz : qZero w) (h : ∀ A' w', Fin A' (S_method m t n b a).2 w w' → Q (some (.int (S_method m t n b a).1)) w') : Con G M11_method [.ref 2, .int t, .int n, .int b, .int a] w Q := by
  refine Con.go hw11_method ok11_method 40 [] rfl ?_
  refine And.intro hR.k2 (refS hR.r1 (And.intro hR.k3 (And.intro ⟨by decide, by decide⟩ ?_)))
  exact c10_addMethod hR hI hH hz (OpQ.ans hR hz h (fun v w' q => q _ (fun _ z => z)))
end
