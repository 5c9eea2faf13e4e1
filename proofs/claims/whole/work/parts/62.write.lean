/-! ===== write, set of the class ===== -/
section
variable {G : qGX} {A : qA} {m w : qSt} {Q : Option Value → qSt → Prop}
theorem neX {x : Int32} {j : Nat} (e : x = nI j) (hj : j < 1000) : ¬ x = -1 := by
  rw [e]; intro z
  rw [i32_eq, nI_t (by omega)] at z
  have : ((-1 : Int32)).toInt = -1 := rfl
  omega
theorem c11_write {x i : Int32} {v : Int64} (hR : Rep A m w) (hI : TInv m) (hX : XInv m) (hz : qZero w) (h : ∀ A' w', Fin A' (S_write m x i v).2 w w' → Q (some (.int (S_write m x i v).1)) w') : Con G M11_write [.ref 2, .int x, .int i, .long v] w Q := by
  have h60 := hX.2.1
  have h100 := hI.le
  unfold S_write at h
  refine Con.go hw11_write ok11_write 40 [50] rfl ?_
  refine And.intro hR.k2 (refS hR.r2 (And.intro hR.k71 (c7_at hR hX (fun z => ?_) (fun j e hj => ?_))))
  · refine c11_isNoThing0 (And.intro (fun c => ?_) (fun c => And.intro hR.k2 ?_))
    · rw [bI_0, Classical.not_not] at c
      have e1 : hdN m x i (-13) = -11 := by unfold hdN; rw [cIf_f (fun y => y.1 c), cIf_t c]
      rw [e1, cIf_t (by decide)] at h
      refine Con.go hw11_whyNoItem ok11_whyNoItem 30 [] rfl ?_
      exact And.intro (fun _ => And.intro hR.k2 (ans_n hR hz (by decide) h)) (fun y => absurd y (by decide))
    · rw [bI_n0] at c
      have e1 : hdN m x i (-13) = -1 := by unfold hdN; rw [cIf_t ⟨c, z⟩]
      rw [e1, cIf_t (by decide)] at h
      exact ans_n hR hz (by decide) h
  · refine c11_isNoThing1 (And.intro (fun _ => ?_) (fun c => absurd rfl c))
    have hx1 := neX e (by omega)
    have e1 : hdN m x i (-13) = cIf (dX m j = 0) (-13) (cIf (∃ k, i = nI k ∧ k < sX m j) 0 (-12)) := by
      unfold hdN; rw [cIf_f (fun y => y.2 ⟨j, e, hj⟩), cIf_f hx1, e, tn_nI (by omega)]
    refine c11_whyNoItem hR hX hj ?_
    rw [← e1]
    obtain ⟨x1, x2, x3⟩ := hR.xk.1 j hj
    obtain ⟨y1, y2, y3, y4, y5⟩ := hR.xs j hj
    obtain ⟨z1, z2, z3, z4, z5, -⟩ := hX.2.2.2 j hj
    have hsz := hX.sz hj
    refine And.intro (fun c => And.intro hR.k2 ?_) (fun c => ?_)
    · have hn : hdN m x i (-13) < 0 := by
        rw [e1] at c ⊢
        by_cases q : dX m j = 0
        · rw [cIf_t q]; decide
        · rw [cIf_f q] at c ⊢
          by_cases q2 : ∃ k, i = nI k ∧ k < sX m j
          · rw [cIf_t q2] at c; exact absurd rfl c
          · rw [cIf_f q2]; decide
      rw [cIf_t hn] at h
      exact ans_n hR hz hn h
    · have hn : ¬ hdN m x i (-13) < 0 := by rw [c]; decide
      rw [cIf_f hn] at h
      obtain ⟨j', k, ex, hj', rfl, hk, hd⟩ := hd_get hX (by decide) hn
      have : j' = j := by rw [e, nI_eqI (by omega) (by omega)] at ex; exact ex.symm
      subst this
      subst e
      rw [tn_nI (by omega), tn_nI (by omega)] at h
      have ed : gI w 5 2 (aX A j') - 1 = nI (dX m j' - 1) := by
        rw [y3, z4]
        obtain ⟨D, hD⟩ : ∃ D, dX m j' = D + 1 := ⟨dX m j' - 1, by omega⟩
        rw [hD]; exact nI_m1 D
      refine Wq.go ok11_write 40 [80] ?_
      refine And.intro hR.k2 (refS hR.r2 (And.intro x2 (And.intro x2 (And.intro hR.k71 ?_))))
      show Con G M7_mayHold [.ref 71, .int (gI w 5 1 (aX A j')), .int (gI w 5 2 (aX A j') - 1), .long v] w _
      rw [ed, y2, z1]
      refine c7_mayHold hR hI hX z2 (by omega) (And.intro (fun c2 => ?_) (fun c2 => And.intro hR.k2 ?_))
      · rw [bI_n0] at c2
        rw [cIf_t c2] at h
        refine Wq.go ok11_write 40 [] ?_
        refine And.intro x2 (refS y4 (And.intro x2 (And.intro x2 ?_)))
        show Con G M11_held [.int (gI w 5 1 (aX A j')), .int (gI w 5 2 (aX A j') - 1), .long v] w _
        rw [ed, y2, z1]
        refine c11_held (by omega) (by omega) (And.intro x3 (And.intro (by rw [y5]; exact in_nI hk (by omega)) ?_))
        rw [nI_clamp (by omega)]
        have hR' := rep_item (v := rdV (bX m j') (dX m j' - 1) v) hR hX hj hk
        exact And.intro hR'.k2 (ans_p hR' (hz.AJ (hz.lt x3 (by omega))) (by decide) (fun A' w' hF => h A' w' (hF.cw ((CW.rf w).J rfl))))
      · rw [bI_0] at c2
        rw [cIf_f c2] at h
        exact ans_n hR hz (by decide) h
theorem c5_writeField {h : Nat} {x : Int32} {t : Value} {v : Int64} (hR : Rep A m w) (hI : TInv m) (hX : XInv m) (hH : HInv m) (hz : qZero w) (hh : h < nH m) (hm : ma m 25 h = 0) (ht : tV A m x t) (hq : OpQ (S_set m (nI h) x v) m w Q) : Con G M5_writeField [.ref 73, .ref (aH A h), t, .long v] w Q := by
  have h100 := hI.le
  have h60 := hX.2.1
  have h40 := hH.2.1
  obtain ⟨a1, a2, a3, a4, a5⟩ := hR.hd h hh
  obtain ⟨z1, z2, z3, z4, z5, z6⟩ := hH.2.2 h hh
  have hx : ¬ noX m x := by
    rcases ht with ⟨e, -⟩ | ⟨X, e, hX1, -⟩
    · exact fun y => y.1 e
    · exact fun y => y.2 ⟨X, e, hX1⟩
  obtain ⟨hneg, hpos⟩ := hq
  unfold S_set at hneg hpos
  rw [cIf_f (fun y => y.elim (fun y => y ⟨h, rfl, hh⟩) hx), tn_nI (by omega), cIf_f (fun y => y hm)] at hneg hpos
  rw [cIf_t hm] at a4
  obtain ⟨-, hF, hin⟩ := z6.resolve_right (fun y => by rw [hm] at y; exact absurd y.1 (by decide))
  obtain ⟨t1, t2⟩ := ty_OK hI hF
  obtain ⟨d, j, e, f1, f2, f3, f4, f5, f6⟩ := id hF
  have h8 : ¬ ma m 8 (hA m h) = 0 := by rw [f5]; decide
  obtain ⟨b1, b2⟩ := hR.bk d j f1 f3
  obtain ⟨s1, s2, s3, s4, s5, -⟩ := hR.bs d j f1 f3
  rw [← e] at b2 s4 s5
  rw [cIf_f h8] at s4 s5
  have tk := (hR.tk _ t2).2.1
  obtain ⟨u1, u2, u3, u4, u5, u6, u7, -⟩ := hR.ts _ t2
  have hb := baN_le hI _ t2
  have hr1 : gR w 4 1 73 = some 71 := hR.fr.2.2.2.2.2.2.2.2.2.2.2.2.2.1
  -- the value is put
  have put : ¬ rcN m h x < 0 → ∀ y, Wq G M5_writeField 50 [some (.ref 73), some (.ref (aH A h)), some t, some (.long v), none, some (.ref (aB A (hA m h))), some (.int y), none, none, none, none] [] (0, 0) w Q := by
    intro hr y
    rw [cIf_f hr] at hneg hpos
    obtain ⟨r1, r2⟩ := rc_fld hI hX hH hh hx hr hm
    have hsn : t = .null ∨ ∃ b, t = .ref b := by
      rcases ht with ⟨-, et⟩ | ⟨X, -, -, et⟩
      · exact Or.inl et
      · exact Or.inr ⟨_, et⟩
    have m81 : mbP m (baN m (tyN m (hA m h))) (dpN m (tyN m (hA m h))) v → ∀ (l7 : Option Value), Wq G M5_writeField 97 [some (.ref 73), some (.ref (aH A h)), some t, some (.long v), none, some (.ref (aB A (hA m h))), some (.int y), l7, some (.long (rdV (baN m (tyN m (hA m h))) (dpN m (tyN m (hA m h))) v)), none, none] [] (0, 0) w Q := by
      intro c2 l7
      rw [cIf_f (fun y => y c2)] at hpos
      refine Wq.ls (ls' := [some (.ref 73), some (.ref (aH A h)), some t, some (.long v), none, some (.ref (aB A (hA m h))), some (.int y), none, some (.long (rdV (baN m (tyN m (hA m h))) (dpN m (tyN m (hA m h))) v)), none, none]) ⟨rfl, rfl, rfl, rfl, rfl, rfl, by cases l7 <;> exact ⟨rfl, trivial⟩⟩ ?_
      by_cases hs : ma m 11 (hA m h) = 0
      · rw [cIf_t hs] at hpos
        obtain ⟨X, ex, hHF⟩ := r2 hs
        have hXX := hHF.1
        have et : t = .ref (aX A X) := by
          rcases ht with ⟨e', -⟩ | ⟨X', e', hX', et⟩
          · exact absurd e' (neX ex (by omega))
          · have : X' = X := by rw [ex, nI_eqI (by omega) (by omega)] at e'; exact e'.symm
            subst this; exact et
        subst et
        rw [ex, tn_nI (by omega)] at hpos
        obtain ⟨x1, x2, x3⟩ := hR.xk.1 X hXX
        obtain ⟨y1, y2, y3, y4, y5⟩ := hR.xs X hXX
        have ho := off_in hX hF hHF hs
        have hsz := hX.sz hXX
        refine Wq.go ok5_writeField 40 [] ?_
        refine And.intro b2 (And.intro (fun _ => And.intro x2 ?_) (fun z => absurd (by rw [s5]; exact hs) z))
        have hcp : Con G M6_placeOf [.ref (aX A X), .ref (aB A (hA m h))] w (fun o w' => o = some (.int (nI (offN m (bX m X) (hA m h)))) ∧ w' = w) := by
          rw [e] at hF hHF hs ⊢
          exact c6_placeOf hR hI hX hF f4 hHF hs ⟨rfl, rfl⟩
        refine hcp.mono (fun o w' hw' => ?_)
        obtain ⟨rfl, rfl⟩ := hw'
        refine And.intro (fun _ => And.intro x2 (refS y4 (And.intro x3 (And.intro (by rw [y5]; exact in_nI ho (by omega)) ?_)))) (fun z => ?_)
        · rw [nI_clamp (by omega)]
          exact hpos 1 A _ _ (by decide) rfl ⟨rep_item hR hX hXX ho, hz.AJ (hz.lt x3 (by omega)), (CW.rf w').J rfl⟩
        · exact absurd z (neX (x := nI (offN m (bX m X) (hA m h))) rfl (by
            have h1 := hX.sz hXX
            have h2 := ivL_len hI (bX m X) (hX.cls hXX hHF.2.1).1 (hX.cls hXX hHF.2.1).2.1
            have h3 := (hX.cls hXX hHF.2.1).2.2.1
            have h4 := (hX.cls hXX hHF.2.1).1
            omega))
      · rw [cIf_f hs] at hpos
        have fin : Q (some (.int 1)) (sJ w 2 8 (aB A (hA m h)) (rdV (baN m (tyN m (hA m h))) (dpN m (tyN m (hA m h))) v)) := by
          refine hpos 1 A _ _ (by decide) rfl ⟨?_, hz.J (hz.lt b2 (by omega)) (by omega), (CW.rf w).J rfl⟩
          have := rep_shared (v := rdV (baN m (tyN m (hA m h))) (dpN m (tyN m (hA m h))) v) hR hI f1 f3
          rw [← e] at this
          exact this
        rcases hsn with et | ⟨b, et⟩ <;> subst et
        all_goals
          refine Wq.go ok5_writeField 40 [] ?_
          exact And.intro b2 (And.intro (fun z => absurd (by rw [s5] at z; exact z) hs) (fun _ => And.intro b2 fin))
    rcases hsn with et | ⟨b, et⟩ <;> subst et
    all_goals
      refine Wq.go ok5_writeField 40 [97] ?_
      refine And.intro b2 (refS s4 (And.intro hR.k73 (refS hr1 (And.intro tk (And.intro tk (And.intro hR.k71 ?_))))))
      rw [u6, u7]
      refine c7_mayHold hR hI hX (by omega) (by omega) (And.intro (fun c2 => ?_) (fun c2 => ?_))
      · rw [bI_n0] at c2
        refine And.intro tk (And.intro tk ?_)
        rw [u6, u7]
        exact c11_held (by omega) (by omega) (m81 c2 _)
      · rw [bI_0] at c2
        rw [cIf_t c2] at hneg
        exact hneg _ (by decide) rfl
  by_cases hs : ma m 11 (hA m h) = 0
  · rcases ht with ⟨ex, et⟩ | ⟨X, ex, hX1, et⟩
    · subst et
      have hrc : rcN m h x = -11 := by unfold rcN; rw [cIf_f (fun y => y.2 hs), cIf_t ex]
      rw [hrc, cIf_t (by decide)] at hneg
      refine Con.go hw5_writeField ok5_writeField 40 [] rfl ?_
      refine And.intro a2 (refS a4 (And.intro b2 (refS s4 (And.intro b2 (And.intro (fun _ => And.intro hR.k73 (Con.go hw5_whyNotOf ok5_whyNotOf 20 [] rfl ?_)) (fun z => absurd (by rw [s5]; exact hs) z))))))
      exact And.intro (fun y => absurd y (by decide)) (fun _ => hneg _ (by decide) rfl)
    · subst et
      have hrc : rcN m h x = cIf (soP m (bX m X) (dX m X) (hC m h) 0) 0 (-13) := by
        unfold rcN; rw [cIf_f (fun y => y.2 hs), cIf_f (neX ex (by omega)), ex, tn_nI (by omega)]
      refine Con.go hw5_writeField ok5_writeField 40 [50] rfl ?_
      refine And.intro a2 (refS a4 (And.intro b2 (refS s4 (And.intro b2 (And.intro (fun _ => And.intro hR.k73 (c5_whyNotOf hR hI hX hH hh hX1 ?_)) (fun z => absurd (by rw [s5]; exact hs) z))))))
      rw [← hrc]
      refine And.intro (fun y => ?_) (fun y => ?_)
      · exact put (by rw [y]; decide) _
      · have hlt := (rc_cases (w := m) (h := h) (x := x)).resolve_right y
        rw [cIf_t hlt] at hneg
        exact hneg _ hlt rfl
  · have hrc : rcN m h x = 0 := cIf_t ⟨hm, hs⟩
    have hsn : t = .null ∨ ∃ b, t = .ref b := by
      rcases ht with ⟨-, et⟩ | ⟨X, -, -, et⟩
      · exact Or.inl et
      · exact Or.inr ⟨_, et⟩
    rcases hsn with et | ⟨b, et⟩ <;> subst et
    all_goals
      refine Con.go hw5_writeField ok5_writeField 40 [50] rfl ?_
      refine And.intro a2 (refS a4 (And.intro b2 (refS s4 (And.intro b2 (And.intro (fun y => absurd (by rw [s5] at y; exact y) hs) (fun _ => And.intro (fun _ => ?_) (fun y => absurd rfl y)))))))
      exact put (by rw [hrc]; decide) _
theorem c11_set {h x : Int32} {v : Int64} (hR : Rep A m w) (hI : TInv m) (hX : XInv m) (hH : HInv m) (hz : qZero w) (hq : ∀ A' w', Fin A' (S_set m h x v).2 w w' → Q (some (.int (S_set m h x v).1)) w') : Con G M11_set [.ref 2, .int h, .int x, .long v] w Q := by
  have h40 := hH.2.1
  have h60 := hX.2.1
  have bad : (¬ isH m h ∨ noX m x) → ∀ l5, Wq G M11_set 30 [some (.ref 2), some (.int h), some (.int x), some (.long v), none, l5] [] (0, 0) w Q := by
    intro hb l5
    unfold S_set at hq
    rw [cIf_t hb] at hq
    refine Wq.ls (ls' := [some (.ref 2), some (.int h), some (.int x), some (.long v), none, none]) ⟨rfl, rfl, rfl, rfl, by cases l5 <;> trivial⟩ ?_
    exact Wq.go ok11_set 20 [] (And.intro hR.k2 (ans_n hR hz neg1 hq))
  refine Con.go hw11_set ok11_set 40 [30, 36] rfl ?_
  refine And.intro hR.k2 (refS hR.r3 (And.intro hR.k73 (c5_handleAt hR hH (fun z => bad (Or.inl z) _) (fun H eH hHH => ?_))))
  obtain ⟨a1, a2, a3, a4, a5⟩ := hR.hd H hHH
  have main : (∃ t, tV A m x t) → Wq G M11_set 36 [some (.ref 2), some (.int h), some (.int x), some (.long v), none, some (.ref (aH A H))] [] (0, 0) w Q := by
    rintro ⟨t0, ht0⟩
    have hx : ¬ noX m x := by
      rcases ht0 with ⟨e, -⟩ | ⟨X, e, hX1, -⟩
      · exact fun y => y.1 e
      · exact fun y => y.2 ⟨X, e, hX1⟩
    by_cases hm : ma m 25 H = 0
    · rw [cIf_t hm] at a4
      refine Wq.go ok11_set 40 [] ?_
      refine And.intro a2 (refS a4 (And.intro hR.k2 (refS hR.r3 (And.intro hR.k2 (refS hR.r2 (And.intro hR.k71 (c7_at hR hX (fun z => And.intro hR.k73 ?_) (fun X eX hXX => And.intro hR.k73 ?_))))))))
      · have ex : x = -1 := by
          rcases ht0 with ⟨e, -⟩ | ⟨X, e, hX1, -⟩
          · exact e
          · exact absurd ⟨X, e, hX1⟩ z
        refine c5_writeField (x := x) hR hI hX hH hz hHH hm (Or.inl ⟨ex, rfl⟩) (OpQ.ans hR hz ?_ (fun v w' q => q _ (fun _ z => z)))
        rw [← eH]; exact hq
      · refine c5_writeField (x := x) hR hI hX hH hz hHH hm (Or.inr ⟨X, eX, hXX, rfl⟩) (OpQ.ans hR hz ?_ (fun v w' q => q _ (fun _ z => z)))
        rw [← eH]; exact hq
    · rw [cIf_f hm] at a4
      unfold S_set at hq
      rw [cIf_f (fun y => y.elim (fun y => y ⟨H, eH, hHH⟩) hx), cIf_t (by rw [eH, tn_nI (by omega)]; exact hm)] at hq
      refine Wq.go ok11_set 40 [] ?_
      exact And.intro a2 (refN a4 (And.intro hR.k2 (ans_n hR hz (by decide) hq)))
  refine And.intro hR.k2 (refS hR.r2 (And.intro hR.k71 (c7_at hR hX (fun z => c11_isNoThing0 (And.intro (fun c => ?_) (fun c => bad (Or.inr ⟨bI_n0.mp c, z⟩) _))) (fun X eX hXX => c11_isNoThing1 (And.intro (fun _ => ?_) (fun c => absurd rfl c))))))
  · rw [bI_0, Classical.not_not] at c
    exact main ⟨.null, Or.inl ⟨c, rfl⟩⟩
  · exact main ⟨_, Or.inr ⟨X, eX, hXX, rfl⟩⟩
end
