/-! ===== get, getAs, set ===== -/
/-- the lane of what was read is a lane or 8 -/
def laneOK (L : Int32) : Prop := ∃ k, L = nI k ∧ k ≤ 8
noncomputable def S_get (w : qSt) (h x : Int32) : Int64 × qSt :=
  cIf (¬ isH w h ∨ noX w x) (-9223372036854775808, stt w (-1))
    (cIf ((rdR w (tn h) x).1 < 0) (-9223372036854775808, stt (sTr (sI w 12 36 0 0) (rdR w (tn h) x).2.2.2) (rdR w (tn h) x).1)
      ((rdR w (tn h) x).2.2.1, stt (sI (sTr (sI w 12 36 0 0) (rdR w (tn h) x).2.2.2) 12 35 0 (rdR w (tn h) x).2.1) 0))
noncomputable def asN (r : rdT) (to : Int32) : Int32 := cIf (r.1 < 0) r.1 (cIf (r.2.1 = 8 ∨ ¬ wdP (tn r.2.1) (tn to)) (-16) 0)
noncomputable def S_getAs (w : qSt) (h x l : Int32) : Int64 × qSt :=
  cIf (¬ isH w h ∨ noX w x ∨ ¬ isL l) (-9223372036854775808, stt w (-1))
    (cIf (asN (rdR w (tn h) x) l < 0) (-9223372036854775808, stt (sTr (sI w 12 36 0 0) (rdR w (tn h) x).2.2.2) (asN (rdR w (tn h) x) l))
      (wd (tn (rdR w (tn h) x).2.1) (tn l) (rdR w (tn h) x).2.2.1, stt (sTr (sI w 12 36 0 0) (rdR w (tn h) x).2.2.2) 0))
noncomputable def S_set (w : qSt) (h x : Int32) (v : Int64) : Int32 × qSt :=
  cIf (¬ isH w h ∨ noX w x) (-1, stt w (-1)) (cIf (¬ ma w 25 (tn h) = 0) (-3, stt w (-3)) (cIf (rcN w (tn h) x < 0) (rcN w (tn h) x, stt w (rcN w (tn h) x))
    (cIf (¬ mbP w (baN w (tyN w (hA w (tn h)))) (dpN w (tyN w (hA w (tn h)))) v) (-14, stt w (-14))
      (1, stt (cIf (ma w 11 (hA w (tn h)) = 0) (sJ w 40 23 (pX w (tn x) + offN w (bX w (tn x)) (hA w (tn h))) (rdV (baN w (tyN w (hA w (tn h)))) (dpN w (tyN w (hA w (tn h)))) v)) (sJ w 40 14 (hA w (tn h)) (rdV (baN w (tyN w (hA w (tn h)))) (dpN w (tyN w (hA w (tn h)))) v))) 0))))
theorem rc_cases {w : qSt} {h : Nat} {x : Int32} : rcN w h x < 0 ∨ rcN w h x = 0 := by
  unfold rcN
  by_cases c : ma w 25 h = 0 ∧ ¬ ma w 11 (hA w h) = 0
  · rw [cIf_t c]; exact Or.inr rfl
  · rw [cIf_f c]
    by_cases c2 : x = -1
    · rw [cIf_t c2]; exact Or.inl (by decide)
    · rw [cIf_f c2]
      by_cases c3 : soP w (bX w (tn x)) (dX w (tn x)) (hC w h) 0
      · rw [cIf_t c3]; exact Or.inr rfl
      · rw [cIf_f c3]; exact Or.inl (by decide)
/-- what a handle that reaches a thing says -/
theorem rc_ok {w : qSt} (hI : TInv w) (hX : XInv w) (hH : HInv w) {h : Nat} {x : Int32} (hh : h < nH w) (hx : ¬ noX w x) (hr : ¬ rcN w h x < 0) :
    (ma w 25 h = 0 ∧ ¬ ma w 11 (hA w h) = 0) ∨ ∃ X, x = nI X ∧ X < nX w ∧ dX w X = 0 ∧ ma w 0 (bX w X) = 1 ∧ hC w h ∈ abvs w (bX w X) := by
  by_cases c : ma w 25 h = 0 ∧ ¬ ma w 11 (hA w h) = 0
  · exact Or.inl c
  · unfold rcN at hr
    rw [cIf_f c] at hr
    by_cases c2 : x = -1
    · rw [cIf_t c2] at hr; exact absurd (by decide) hr
    · rw [cIf_f c2] at hr
      obtain ⟨X, rfl, hX1⟩ := isX_lt hX hx c2
      have h60 := hX.2.1
      rw [tn_nI (by omega)] at hr
      by_cases c3 : soP w (bX w X) (dX w X) (hC w h) 0
      · obtain ⟨z1, z2, z3, z4, z5, z6⟩ := hH.2.2 h hh
        obtain ⟨s1, s2, s3⟩ := so_cls hI (hX.2.2.2 X hX1).2.1 z2 z3 z4 c3
        exact Or.inr ⟨X, rfl, hX1, s1, s2, s3⟩
      · rw [cIf_f c3] at hr; exact absurd (by decide) hr
theorem rc_fld {w : qSt} (hI : TInv w) (hX : XInv w) (hH : HInv w) {h : Nat} {x : Int32} (hh : h < nH w) (hx : ¬ noX w x) (hr : ¬ rcN w h x < 0) (h0 : ma w 25 h = 0) : FdOK w (hA w h) ∧ (ma w 11 (hA w h) = 0 → ∃ X, x = nI X ∧ HasF w X (hA w h)) := by
  obtain ⟨z1, z2, z3, z4, z5, z6⟩ := hH.2.2 h hh
  have hF : FdOK w (hA w h) ∧ hA w h / 10 ∈ abvs w (hC w h) := by
    rcases z6 with q | q
    · exact q.2
    · rw [h0] at q; exact absurd q.1 (by decide)
  refine ⟨hF.1, fun hs => ?_⟩
  rcases rc_ok hI hX hH hh hx hr with q | ⟨X, e, q1, q2, q3, q4⟩
  · exact absurd hs q.2
  · exact ⟨X, e, q1, q2, abvs_tr hI _ (hX.cls q1 q2).1 q3 _ q4 _ hF.2⟩
theorem ty_OK {w : qSt} (hI : TInv w) {a : Nat} (h : FdOK w a) : ma w 10 a = nI (tyN w a) ∧ tyN w a < nT w := by
  obtain ⟨d, j, rfl, f1, f2, f3, f4, f5, f6⟩ := h
  have h100 := hI.le
  have hm := (hI.mbs (i := d) (by omega)).2.2.2 j f3
  rcases hm.2.2.2 with q | q
  · exact ⟨q.2.2.1, q.2.2.2⟩
  · rw [f5] at q; exact absurd q.1 (by decide)
theorem tfL_ok {w : qSt} (a : Nat) : laneOK (tfL w a) := by
  unfold tfL
  by_cases c : isL (ma w 10 a)
  · rw [cIf_t c]
    obtain ⟨k, e, hk⟩ := c
    exact ⟨k, e, by omega⟩
  · rw [cIf_f c]; exact ⟨8, rfl, Nat.le_refl _⟩
theorem en_lane {w : qSt} {X a more : Nat} : laneOK (enF w X a more).2.1 := by
  unfold enF
  by_cases c : (0 < more ∧ ¬ (1 ≤ (cIf (ma w 12 a = 1) (tfL w (10 * (a / 10) + nuN w a)) 4).toInt ∧ (cIf (ma w 12 a = 1) (tfL w (10 * (a / 10) + nuN w a)) 4).toInt ≤ 5))
  · rw [cIf_t c]; exact ⟨0, rfl, by omega⟩
  · rw [cIf_f c]
    show laneOK (cIf (0 < more) 5 (cIf (ma w 12 a = 1) (tfL w (10 * (a / 10) + nuN w a)) 4))
    by_cases c2 : 0 < more
    · rw [cIf_t c2]; exact ⟨5, rfl, by omega⟩
    · rw [cIf_f c2]
      by_cases c3 : ma w 12 a = 1
      · rw [cIf_t c3]; exact tfL_ok _
      · rw [cIf_f c3]; exact ⟨4, rfl, by omega⟩
theorem wk_lane {w : qSt} {X : Nat} : ∀ (n : Nat) (at_ : Int32) (more : Nat), laneOK (wkF w X n at_ more).2.1
  | 0, at_, more => by
    unfold wkF
    by_cases c : at_ < 0
    · rw [cIf_t c]; exact ⟨0, rfl, by omega⟩
    · rw [cIf_f c]; exact ⟨0, rfl, by omega⟩
  | n + 1, at_, more => by
    unfold wkF
    by_cases c : at_ < 0
    · rw [cIf_t c]; exact ⟨0, rfl, by omega⟩
    · rw [cIf_f c]
      by_cases c2 : ma w 12 (tn at_) = 1 ∨ ma w 12 (tn at_) = 4
      · rw [cIf_t c2]; exact en_lane
      · rw [cIf_f c2]; exact wk_lane n _ _
theorem rd_lane (w : qSt) (h : Nat) (x : Int32) : laneOK (rdR w h x).2.1 := by
  unfold rdR
  by_cases c : rcN w h x < 0
  · rw [cIf_t c]; exact ⟨0, rfl, by omega⟩
  · rw [cIf_f c]
    by_cases c2 : ma w 25 h = 0
    · rw [cIf_t c2]; exact tfL_ok _
    · rw [cIf_f c2]; exact wk_lane _ _ _
section
variable {G : qGX} {w : qSt} {Q : Option Value → qSt → Prop}
theorem c12_readBy {h : Nat} {x : Int32} (hI : TInv w) (hX : XInv w) (hH : HInv w) (hT : TrOK w) (hh : h < nH w) (hx : ¬ noX w x)
    (hq : ∀ w', Sc (sTr w (rdR w h x).2.2.2) w' → ((rdR w h x).1 = 0 → mi w' 33 = (rdR w h x).2.1 ∧ mj w' 34 = (rdR w h x).2.2.1) → Q (some (.int (rdR w h x).1)) w') : Con G M12_readBy [.ref 79, .int (nI h), .int x] w Q := by
  have h40 := hH.2.1
  have h100 := hI.le
  obtain ⟨z1, z2, z3, z4, z5, z6⟩ := hH.2.2 h hh
  have hin : vp_in (nI h) 40 := in_nI (by omega) (by decide)
  have e2 : (nI h).toNatClampNeg = h := nI_clamp (by omega)
  unfold rdR at hq
  refine Con.go hw12_readBy ok12_readBy 40 [] rfl ?_
  refine c12_reach hI hX hH hx hh (fun w1 hS1 => And.intro (fun (c : 0 ≤ rcN w h x) => And.intro hin ?_) (fun (c : ¬ 0 ≤ rcN w h x) => ?_))
  · have hR := hS1.re
    have e25 : ma w1 25 = ma w 25 := hR.row rfl
    have e26 : ma w1 26 = ma w 26 := hR.row rfl
    rw [cIf_f (nlt0 c)] at hq
    refine And.intro (fun (c2 : ma w1 25 (nI h).toNatClampNeg = 0) => And.intro hin ?_) (fun (c2 : ¬ ma w1 25 (nI h).toNatClampNeg = 0) => And.intro hin ?_) <;> rw [e2, e25] at c2
    · rw [cIf_t c2] at hq
      obtain ⟨r1, r2⟩ := rc_fld hI hX hH hh hx (nlt0 c) c2
      show Con G M12_takeField [.ref 79, .int x, .int (ma w1 26 (nI h).toNatClampNeg)] w1 _
      rw [e2, e26, z5]
      refine c12_takeField (hR.tinv hI) (hR.xinv hX) (by rw [hR.te.eFd]; exact r1) (fun hs => ?_) ?_
      · rw [hR.row (r := 11) rfl] at hs
        obtain ⟨X, e, g1, g2, g3⟩ := r2 hs
        exact ⟨X, e, by rw [hR.enX]; exact g1, by rw [hR.edX]; exact g2, by rw [hR.te.eab, hR.ebX]; exact g3⟩
      · rw [hR.etV, hR.etL]
        exact hq _ ((hS1.toSc.J rfl rfl).I rfl rfl) (fun _ => ⟨gI_at _ _ _ _ _, gJ_at _ _ _ _ _⟩)
    · rw [cIf_f c2] at hq
      rcases rc_ok hI hX hH hh hx (nlt0 c) with q | ⟨X, rfl, q1, q2, q3, q4⟩
      · exact absurd q.1 c2
      · have h60 := hX.2.1
        rw [tn_nI (by omega)] at hq
        show Con G M12_work [.ref 79, .int (nI X), .int (ma w1 26 (nI h).toNatClampNeg)] w1 _
        rw [e2, e26]
        refine c12_work (hR.tinv hI) (hR.xinv hX) (hT.sc hS1.toSc) (by rw [hR.enX]; exact q1) (by rw [hR.edX]; exact q2) (fun w2 hS2 h2 => ?_)
        rw [hR.ewk, hR.te.efd, hR.ebX] at hS2 h2 ⊢
        exact hq w2 ((hS1.toSc.Tr _).tr hS2) h2
  · rw [cIf_t (lt0 c)] at hq
    exact hq w1 hS1.toSc (fun q => absurd (lt0 c) (by rw [show rcN w h x = 0 from q]; decide))
theorem tr0 : TrOK (sI w 12 36 0 0) := by
  have e : gI (sI w 12 36 0 0) 12 36 0 = 0 := gI_at _ _ _ _ _
  have e2 : nTr (sI w 12 36 0 0) = 0 := by show tn (gI (sI w 12 36 0 0) 12 36 0) = 0; rw [e]; rfl
  exact ⟨by rw [e2]; exact e, by rw [e2]; omega⟩
theorem c12_get {h x : Int32} (hI : TInv w) (hX : XInv w) (hH : HInv w) (hq : ∀ w', Sc (S_get w h x).2 w' → Q (some (.long (S_get w h x).1)) w') : Con G M12_get [.ref 79, .int h, .int x] w Q := by
  obtain ⟨x1, x2, x3, x4⟩ := id hX
  obtain ⟨k1, k2, k3⟩ := id hH
  unfold S_get at hq
  have bad : (¬ isH w h ∨ noX w x) → Wq G M12_get 16 [some (.ref 79), some (.int h), some (.int x), none] [] (0, 0) w Q := by
    intro hb
    rw [cIf_t hb] at hq
    exact Wq.go ok12_get 20 [] (c12_lost (hq _ Sc.rf))
  refine Con.go hw12_get ok12_get 40 [16, 22] rfl ?_
  refine c12_isHandle k1 k2 (And.intro (fun c1 => bad (Or.inl (bI_0.mp c1))) (fun c1 => ?_))
  rw [bI_n0] at c1
  refine c12_isNoThing x1 x2 (And.intro (fun c2 => ?_) (fun c2 => bad (Or.inr (bI_n0.mp c2))))
  rw [bI_0] at c2
  have c2 : ¬ noX w x := c2
  rw [cIf_f (fun q => q.elim (fun q => q c1) c2)] at hq
  obtain ⟨H, rfl, hh⟩ := c1
  rw [tn_nI (by omega)] at hq
  have hR : RE w (sI w 12 36 0 0) := RE.rf.I rfl
  refine Wq.go ok12_get 40 [] ?_
  refine c12_readBy (w := sI w 12 36 0 0) (hR.tinv hI) (hR.xinv hX) (hR.hinv hH) tr0 (by rw [hR.enH]; exact hh) (by rw [hR.enoX]; exact c2) (fun w1 hS1 h1 => ?_)
  rw [hR.erd] at hS1 h1 ⊢
  refine And.intro (fun (c : 0 ≤ (rdR w H x).1) => ?_) (fun (c : ¬ 0 ≤ (rdR w H x).1) => ?_)
  · rw [cIf_f (nlt0 c)] at hq
    obtain ⟨g1, g2⟩ := h1 ((rd_le w H x).resolve_left (nlt0 c))
    refine c12_told0 ?_
    show Q (some (.long (mj w1 34))) (sI (sI w1 12 35 0 (mi w1 33)) 12 0 0 0)
    rw [g1, g2]
    exact hq _ ((hS1.I2 rfl).I2 rfl)
  · rw [cIf_t (lt0 c)] at hq
    exact c12_lost (hq _ (hS1.I2 rfl))
theorem c12_lane (hq : Q (some (.int (mi w 35))) w) : Con G M12_lane [.ref 79] w Q := Con.go hw12_lane ok12_lane 20 [] rfl hq
theorem c12_getAs {h x l : Int32} (hI : TInv w) (hX : XInv w) (hH : HInv w) (hV : ∀ h x, h < nH w → ¬ noX w x → (rdR w h x).1 = 0 → (rdR w h x).2.1 = 6 → vn_sni2f (rdR w h x).2.2.1.toInt32 = false) (hq : ∀ w', Sc (S_getAs w h x l).2 w' → Q (some (.long (S_getAs w h x l).1)) w') : Con G M12_getAs [.ref 79, .int h, .int x, .int l] w Q := by
  obtain ⟨x1, x2, x3, x4⟩ := id hX
  obtain ⟨k1, k2, k3⟩ := id hH
  unfold S_getAs at hq
  have bad : (¬ isH w h ∨ noX w x ∨ ¬ isL l) → Wq G M12_getAs 23 [some (.ref 79), some (.int h), some (.int x), some (.int l), none] [] (0, 0) w Q := by
    intro hb
    rw [cIf_t hb] at hq
    exact Wq.go ok12_getAs 20 [] (c12_lost (hq _ Sc.rf))
  refine Con.go hw12_getAs ok12_getAs 40 [23, 29] rfl ?_
  refine c12_isHandle k1 k2 (And.intro (fun c1 => bad (Or.inl (bI_0.mp c1))) (fun c1 => ?_))
  rw [bI_n0] at c1
  refine c12_isNoThing x1 x2 (And.intro (fun c2 => bad (Or.inr (Or.inl (bI_n0.mp c2)))) (fun c2 => ?_))
  rw [bI_0] at c2
  have c2 : ¬ noX w x := c2
  refine c12_isLane (And.intro (fun c3 => ?_) (fun c3 => bad (Or.inr (Or.inr (bI_0.mp c3)))))
  rw [bI_n0] at c3
  rw [cIf_f (fun q => q.elim (fun q => q c1) (fun q => q.elim c2 (fun q => q c3)))] at hq
  obtain ⟨H, rfl, hh⟩ := c1
  obtain ⟨L, rfl, hL⟩ := c3
  rw [tn_nI (by omega), tn_nI (by omega)] at hq
  have hR : RE w (sI w 12 36 0 0) := RE.rf.I rfl
  refine Wq.go ok12_getAs 40 [52, 78] ?_
  refine c12_readBy (w := sI w 12 36 0 0) (hR.tinv hI) (hR.xinv hX) (hR.hinv hH) tr0 (by rw [hR.enH]; exact hh) (by rw [hR.enoX]; exact c2) (fun w1 hS1 h1 => ?_)
  rw [hR.erd] at hS1 h1 ⊢
  have fail : ∀ (y v : Int32), v = asN (rdR w H x) (nI L) → v < 0 → Wq G M12_getAs 78 [some (.ref 79), some (.int (nI H)), some (.int x), some (.int (nI L)), some (.int y)] [.int v] (0, 0) w1 Q := by
    intro y v ev hv
    refine Wq.go ok12_getAs 20 [] ?_
    refine And.intro (fun c => absurd hv (nlt0 c)) (fun c => ?_)
    rw [← ev, cIf_t hv] at hq
    exact c12_lost (hq _ (hS1.I2 rfl))
  refine And.intro (fun (c : 0 ≤ (rdR w H x).1) => ?_) (fun (c : ¬ 0 ≤ (rdR w H x).1) => fail _ _ (cIf_t (lt0 c)).symm (lt0 c))
  have r0 := (rd_le w H x).resolve_left (nlt0 c)
  obtain ⟨g1, g2⟩ := h1 r0
  obtain ⟨K, eK, hK⟩ := rd_lane w H x
  have eas : asN (rdR w H x) (nI L) = cIf ((rdR w H x).2.1 = 8 ∨ ¬ wdP (tn (rdR w H x).2.1) (tn (nI L))) (-16) 0 := cIf_f (nlt0 c)
  rw [eK, tn_nI (n := K) (by omega), tn_nI (n := L) (by omega)] at eas
  refine Wq.go ok12_getAs 40 [72, 78] ?_
  refine And.intro (fun (c3 : mi w1 33 = 8) => ?_) (fun (c3 : ¬ mi w1 33 = 8) => ?_) <;> rw [g1, eK] at c3
  · refine Wq.go ok12_getAs 20 [78] ?_
    exact fail _ _ (by rw [eas, cIf_t (Or.inl c3)]) (by decide)
  · show Con G M12_widens [.int (mi w1 33), .int (nI L)] w1 _
    rw [g1, eK]
    refine c12_widens (by omega) (by omega) (And.intro (fun c4 => ?_) (fun c4 => ?_))
    · rw [bI_n0] at c4
      rw [cIf_f (fun q => q.elim c3 (fun q => q c4))] at eas
      rw [eas, cIf_f (by decide), eK, tn_nI (by omega)] at hq
      refine Wq.go ok12_getAs 40 [] ?_
      refine And.intro (fun _ => ?_) (fun q => absurd (by decide) q)
      show Con G M12_widened [.int (mi w1 33), .int (nI L), .long (mj w1 34)] w1 _
      rw [g1, g2, eK]
      refine c12_widened (by omega) (by omega) (fun q => ?_) (c12_told0 (hq _ (hS1.I2 rfl)))
      subst q
      exact hV H x hh c2 r0 eK
    · rw [bI_0] at c4
      refine Wq.go ok12_getAs 20 [78] ?_
      exact fail _ _ (by rw [eas, cIf_t (Or.inr c4)]) (by decide)
theorem c12_set {h x : Int32} {v : Int64} (hI : TInv w) (hX : XInv w) (hH : HInv w) (hq : ∀ w', Sc (S_set w h x v).2 w' → Q (some (.int (S_set w h x v).1)) w') : Con G M12_set [.ref 79, .int h, .int x, .long v] w Q := by
  obtain ⟨x1, x2, x3, x4⟩ := id hX
  obtain ⟨k1, k2, k3⟩ := id hH
  have h100 := hI.le
  unfold S_set at hq
  have bad : (¬ isH w h ∨ noX w x) → Wq G M12_set 16 [some (.ref 79), some (.int h), some (.int x), some (.long v), none, none, none] [] (0, 0) w Q := by
    intro hb
    rw [cIf_t hb] at hq
    exact Wq.go ok12_set 20 [] (c12_fail (hq _ Sc.rf))
  refine Con.go hw12_set ok12_set 40 [16, 22] rfl ?_
  refine c12_isHandle k1 k2 (And.intro (fun c1 => bad (Or.inl (bI_0.mp c1))) (fun c1 => ?_))
  rw [bI_n0] at c1
  refine c12_isNoThing x1 x2 (And.intro (fun c2 => ?_) (fun c2 => bad (Or.inr (bI_n0.mp c2))))
  rw [bI_0] at c2
  have c2 : ¬ noX w x := c2
  rw [cIf_f (fun q => q.elim (fun q => q c1) c2)] at hq
  obtain ⟨H, rfl, hh⟩ := c1
  rw [tn_nI (by omega)] at hq
  obtain ⟨z1, z2, z3, z4, z5, z6⟩ := k3 H hh
  have hin : vp_in (nI H) 40 := in_nI (by omega) (by decide)
  have e2 : (nI H).toNatClampNeg = H := nI_clamp (by omega)
  refine Wq.go ok12_set 40 [38] ?_
  refine And.intro hin (And.intro (fun (c3 : ma w 25 (nI H).toNatClampNeg = 0) => ?_) (fun (c3 : ¬ ma w 25 (nI H).toNatClampNeg = 0) => ?_)) <;> rw [e2] at c3
  · rw [cIf_f (fun q => q c3)] at hq
    refine Wq.go ok12_set 40 [58] ?_
    refine c12_reach hI hX hH c2 hh (fun w1 hS1 => And.intro (fun (c : 0 ≤ rcN w H x) => ?_) (fun (c : ¬ 0 ≤ rcN w H x) => ?_))
    · rw [cIf_f (nlt0 c)] at hq
      obtain ⟨r1, r2⟩ := rc_fld hI hX hH hh c2 (nlt0 c) c3
      obtain ⟨t1, t2⟩ := ty_OK hI r1
      have hR := hS1.re
      have hI1 := hR.tinv hI
      have hX1 := hR.xinv hX
      have ha : hA w H < 1000 := by obtain ⟨d, j, e, f1, f2, f3, f4, -⟩ := r1; omega
      have hia : vp_in (nI (hA w H)) 1000 := in_nI ha (by decide)
      have eA : (nI (hA w H)).toNatClampNeg = hA w H := nI_clamp (by omega)
      have e26 : ma w1 26 (nI H).toNatClampNeg = nI (hA w H) := by rw [e2, hR.row (r := 26) rfl]; exact z5
      have e10 : ma w1 10 = ma w 10 := hR.row rfl
      have b1 := baN_le hI _ t2
      have main : Wq G M12_set 66 [some (.ref 79), some (.int (nI H)), some (.int x), some (.long v), none, some (.int (rcN w H x)), some (.int (nI (hA w H)))] [] (0, 0) w1 Q := by
        refine Wq.go ok12_set 60 [103] ?_
        refine And.intro hia ?_
        show Con G M12_base [.ref 79, .int (ma w1 10 (nI (hA w H)).toNatClampNeg)] w1 _
        rw [eA, e10, t1]
        refine c12_base hI1 (by rw [hR.te.eT]; exact t2) (And.intro hia ?_)
        show Con G M12_depth [.ref 79, .int (ma w1 10 (nI (hA w H)).toNatClampNeg)] w1 _
        rw [eA, e10, t1]
        refine c12_depth hI1 (by rw [hR.te.eT]; exact t2) ?_
        rw [hR.te.eba, hR.te.edp]
        have emb : mbP w1 = mbP w := by
          funext b d v
          unfold mbP
          rw [hR.enX, hR.te.eSo, hR.ebX, hR.edX]
        refine c12_mayBePut (b := baN w (tyN w (hA w H))) (d := dpN w (tyN w (hA w H))) hI1 hX1 rfl rfl (by rw [hR.te.eT]; omega) (by omega) (fun w2 hS2 => ?_)
        rw [emb]
        have hR2 : RE w w2 := (hR.J (r := 12) (k := 28) rfl).tr hS2.re
        have hS12 : Sc w w2 := (hS1.toSc.J (r := 12) (k := 28) (i := 0) (v := rdV (baN w (tyN w (hA w H))) (dpN w (tyN w (hA w H))) v) rfl rfl).tr hS2.toSc
        have e28 : mj w2 28 = rdV (baN w (tyN w (hA w H))) (dpN w (tyN w (hA w H))) v := (hS2.c (fun w => mj w 28) (fun _ => rfl)).trans (gJ_at w1 12 28 0 _)
        refine And.intro (fun c4 => ?_) (fun c4 => ?_)
        · rw [bI_n0] at c4
          rw [cIf_f (fun q => q c4)] at hq
          refine Wq.go ok12_set 60 [] ?_
          have e11 : ma w2 11 = ma w 11 := hR2.row rfl
          refine And.intro hia (And.intro (fun (c5 : ma w2 11 (nI (hA w H)).toNatClampNeg = 0) => ?_) (fun (c5 : ¬ ma w2 11 (nI (hA w H)).toNatClampNeg = 0) => And.intro hia (c12_good ?_))) <;> rw [eA, e11] at c5
          · rw [cIf_t c5] at hq
            obtain ⟨X, rfl, g1, g2, g3⟩ := r2 c5
            have h60 := hX.2.1
            have ho := off_in hX r1 ⟨g1, g2, g3⟩ c5
            have hsz := hX.sz g1
            rw [tn_nI (by omega)] at hq
            refine c12_placeIn (hR2.tinv hI) (hR2.xinv hX) (by rw [hR2.te.eFd]; exact r1) ⟨by rw [hR2.enX]; exact g1, by rw [hR2.edX]; exact g2, by rw [hR2.te.eab, hR2.ebX]; exact g3⟩ ?_
            rw [hR2.epX, hR2.te.eof2, hR2.ebX]
            refine And.intro (in_nI (N := 60000) (by omega) (by decide)) (c12_good ?_)
            show Q _ (stt (sJ w2 40 23 (nI (pX w X + offN w (bX w X) (hA w H))).toNatClampNeg (mj w2 28)) 0)
            rw [nI_clamp (by omega), e28]
            exact hq _ ((hS12.J2 rfl).I2 rfl)
          · rw [cIf_f c5] at hq
            show Q _ (stt (sJ w2 40 14 (nI (hA w H)).toNatClampNeg (mj w2 28)) 0)
            rw [eA, e28]
            exact hq _ ((hS12.J2 rfl).I2 rfl)
        · rw [bI_0] at c4
          rw [cIf_t c4] at hq
          exact c12_fail (hq _ (hS12.I2 rfl))
      refine Wq.go ok12_set 40 [66] ?_
      refine And.intro hin ?_
      show Wq G M12_set 66 [some (.ref 79), some (.int (nI H)), some (.int x), some (.long v), none, some (.int (rcN w H x)), some (.int (ma w1 26 (nI H).toNatClampNeg))] [] (0, 0) w1 Q
      rw [e26]
      exact main
    · rw [cIf_t (lt0 c)] at hq
      exact c12_fail (hq _ (hS1.toSc.I2 rfl))
  · rw [cIf_t c3] at hq
    exact c12_fail (hq _ Sc.rf)
end
