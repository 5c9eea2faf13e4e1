/-! ===== the bodies at work ===== -/
theorem fd_neg {w : qSt} {v : Int32} {n : Nat} (hn : n < 2147483648) (h : v = nI n) : ¬ v < 0 := by
  rw [h, i32_lt, nI_t hn]; have : (0 : Int32).toInt = 0 := rfl; omega
theorem wk_le {w : qSt} {X : Nat} : ∀ (n : Nat) (at_ : Int32) (more : Nat), (wkF w X n at_ more).1 < 0 ∨ (wkF w X n at_ more).1 = 0
  | 0, at_, more => by
    unfold wkF
    by_cases c : at_ < 0
    · rw [cIf_t c]; exact Or.inl c
    · rw [cIf_f c]; exact Or.inl (show (-18 : Int32) < 0 by decide)
  | n + 1, at_, more => by
    unfold wkF
    by_cases c : at_ < 0
    · rw [cIf_t c]; exact Or.inl c
    · rw [cIf_f c]
      by_cases c2 : ma w 12 (tn at_) = 1 ∨ ma w 12 (tn at_) = 4
      · rw [cIf_t c2]
        show (enF w X (tn at_) more).1 < 0 ∨ (enF w X (tn at_) more).1 = 0
        unfold enF
        by_cases c3 : (0 < more ∧ ¬ (1 ≤ (cIf (ma w 12 (tn at_) = 1) (tfL w (10 * (tn at_ / 10) + nuN w (tn at_))) 4).toInt ∧ (cIf (ma w 12 (tn at_) = 1) (tfL w (10 * (tn at_ / 10) + nuN w (tn at_))) 4).toInt ≤ 5))
        · rw [cIf_t c3]; exact Or.inl (show (-16 : Int32) < 0 by decide)
        · rw [cIf_f c3]; exact Or.inr rfl
      · rw [cIf_f c2]
        exact wk_le n _ _
theorem rd_le (w : qSt) (h : Nat) (x : Int32) : (rdR w h x).1 < 0 ∨ (rdR w h x).1 = 0 := by
  unfold rdR
  by_cases c : rcN w h x < 0
  · rw [cIf_t c]; exact Or.inl c
  · rw [cIf_f c]
    by_cases c2 : ma w 25 h = 0
    · rw [cIf_t c2]; exact Or.inr rfl
    · rw [cIf_f c2]; exact wk_le _ _ _
section
variable {G : qGX} {w : qSt} {Q : Option Value → qSt → Prop}
theorem c12_ends {X d j more : Nat} (hI : TInv w) (hX : XInv w) (hx : X < nX w) (hd0 : dX w X = 0) (hd : d < nT w) (hj : j < nM w d) (h8 : ma w 8 (10 * d + j) = 0) (hin : d ∈ abvs w (bX w X) ∨ FOf w (bX w X) d) (hm : more < 1000)
    (h : ∀ w', Sc w w' → ((enF w X (10 * d + j) more).1 = 0 → mi w' 33 = (enF w X (10 * d + j) more).2.1 ∧ mj w' 34 = (enF w X (10 * d + j) more).2.2) → Q (some (.int (enF w X (10 * d + j) more).1)) w') : Con G M12_ends [.ref 79, .int (nI X), .int (nI (10 * d + j)), .int (nI more)] w Q := by
  have h100 := hI.le
  have hm10 := (hI.mbs (i := d) (by omega)).2.1
  have hcl := hX.cls hx hd0
  have e10 : (10 * d + j) / 10 = d := by omega
  have hia : vp_in (nI (10 * d + j)) 1000 := in_nI (by omega) (by decide)
  have e2 : (nI (10 * d + j)).toNatClampNeg = 10 * d + j := nI_clamp (by omega)
  unfold enF at h
  rw [e10] at h
  have nx : ∀ (w1 : qSt) (L : Int32) (V : Int64), Sc w w1 → mi w1 33 = L → mj w1 34 = V → cIf (ma w 12 (10 * d + j) = 1) (tfL w (10 * d + nuN w (10 * d + j))) 4 = L → cIf (ma w 12 (10 * d + j) = 1) (tfV w X (10 * d + nuN w (10 * d + j))) (ma w 13 (10 * d + j)).toInt64 = V →
      Wq G M12_ends 48 [some (.ref 79), some (.int (nI X)), some (.int (nI (10 * d + j))), some (.int (nI more))] [] (0, 0) w1 Q := by
    intro w1 L V hS e33 e34 eL eV
    rw [eL, eV] at h
    refine Wq.go ok12_ends 40 [] ?_
    refine And.intro (fun (c : nI more ≤ 0) => ?_) (fun (c : ¬ nI more ≤ 0) => ?_)
    · rw [c_0', nI_leI (by omega) (by omega)] at c
      rw [cIf_f (fun q => by omega), cIf_f (by omega), cIf_f (by omega)] at h
      exact h w1 hS (fun _ => ⟨e33, e34⟩)
    · rw [c_0', nI_leI (by omega) (by omega)] at c
      refine c12_inI (x := (mi w1 33).toInt) (y := 1) (z := 5) (i32_wide _) rfl rfl (And.intro (fun c2 => ?_) (fun c2 => ?_)) <;> rw [e33] at c2
      · rw [bI_n0] at c2
        rw [cIf_f (fun q => q.2 c2), cIf_t (by omega), cIf_t (by omega)] at h
        refine h _ ((hS.I rfl rfl).J rfl rfl) (fun _ => ⟨?_, ?_⟩)
        · exact gI_at w1 12 33 0 5
        · show gJ (sJ _ 12 34 0 (mj w1 34 + (nI more).toInt64)) 12 34 0 = _
          rw [gJ_at, e34]
      · rw [bI_0] at c2
        rw [cIf_t ⟨by omega, c2⟩] at h
        exact h w1 hS (fun q => absurd q (by decide))
  refine Con.go hw12_ends ok12_ends 40 [48] rfl ?_
  refine And.intro hia (And.intro (fun (c : ¬ ma w 12 (nI (10 * d + j)).toNatClampNeg = 1) => And.intro hia ?_) (fun (c : ma w 12 (nI (10 * d + j)).toNatClampNeg = 1) => ?_)) <;> rw [e2] at c
  · refine nx _ 4 (ma w 13 (10 * d + j)).toInt64 ((Sc.rf.I rfl rfl).J rfl rfl) ?_ ?_ (cIf_f c) (cIf_f c)
    · exact gI_at w 12 33 0 4
    · show gJ (sJ _ 12 34 0 (ma w 13 (nI (10 * d + j)).toNatClampNeg).toInt64) 12 34 0 = _
      rw [gJ_at, e2]
  · obtain ⟨g1, g2, g3, g4⟩ := at_1 hI hcl.1 hd hj h8 hin c
    refine And.intro (by decide) (And.intro hia ?_)
    show Con G M12_takeField [.ref 79, .int (nI X), .int ((10 : Int32) * (nI (10 * d + j) / 10) + ma w 13 (nI (10 * d + j)).toNatClampNeg)] w _
    rw [div10 (by omega), e10, e2, g1, ix10]
    refine c12_takeField hI hX g3 (fun _ => ⟨X, rfl, hx, hd0, ?_⟩) ?_
    · rw [show (10 * d + nuN w (10 * d + j)) / 10 = d by omega]; exact g4
    · rw [tn_nI (by have := hX.2.1; omega)]
      refine nx _ _ _ ((Sc.rf.J rfl rfl).I rfl rfl) (gI_at _ _ _ _ _) ?_ (cIf_t c) (cIf_t c)
      exact gJ_at _ _ _ _ _
theorem c12_work {X : Nat} {name : Int32} (hI : TInv w) (hX : XInv w) (hT : TrOK w) (hx : X < nX w) (hd0 : dX w X = 0)
    (h : ∀ w', Sc (sTr w (wkF w X 12 (fdN w (bX w X) name) 0).2.2.2) w' → ((wkF w X 12 (fdN w (bX w X) name) 0).1 = 0 → mi w' 33 = (wkF w X 12 (fdN w (bX w X) name) 0).2.1 ∧ mj w' 34 = (wkF w X 12 (fdN w (bX w X) name) 0).2.2.1) → Q (some (.int (wkF w X 12 (fdN w (bX w X) name) 0).1)) w') : Con G M12_work [.ref 79, .int (nI X), .int name] w Q := by
  have h100 := hI.le
  have h60 := hX.2.1
  have hcl := hX.cls hx hd0
  obtain ⟨y1, y2, -⟩ := hX.2.2.2 X hx
  have hinX : vp_in (nI X) 60 := in_nI (by omega) (by decide)
  have eX : (nI X).toNatClampNeg = X := nI_clamp (by omega)
  have loop : ∀ (n : Nat) (w0 w1 : qSt) (at_ : Int32) (more deep : Nat), deep + n = 12 → more ≤ deep → RE w w0 → TrOK w0 → Sc w0 w1 → AtOK w X at_ →
      (∀ w', Sc (sTr w0 (wkF w X n at_ more).2.2.2) w' → ((wkF w X n at_ more).1 = 0 → mi w' 33 = (wkF w X n at_ more).2.1 ∧ mj w' 34 = (wkF w X n at_ more).2.2.1) → Q (some (.int (wkF w X n at_ more).1)) w') →
      Wq G M12_work 18 [some (.ref 79), some (.int (nI X)), some (.int name), some (.int at_), some (.int (nI more)), some (.int (nI deep)), none] [] (0, 0) w1 Q := by
    intro n
    induction n with
    | zero =>
      intro w0 w1 at_ more deep hdp hmr hR hTr hS hat hq
      unfold wkF at hq
      refine Wq.go ok12_work 30 [] ?_
      refine And.intro (fun (c : at_ < 0) => ?_) (fun (c : ¬ at_ < 0) => And.intro (fun (c2 : ¬ nI deep = 12) => ?_) (fun (c2 : nI deep = 12) => ?_))
      · rw [cIf_t c] at hq
        exact hq w1 hS (fun q => by rw [show at_ = 0 from q] at c; exact absurd c (by decide))
      · rw [c_12, nI_eqI (by omega) (by omega)] at c2; omega
      · rw [cIf_f c] at hq
        exact hq w1 hS (fun q => absurd (show (-18 : Int32) = 0 from q) (by decide))
    | succ n ih =>
      intro w0 w1 at_ more deep hdp hmr hR hTr hS hat hq
      unfold wkF at hq
      refine Wq.go ok12_work 30 [64] ?_
      refine And.intro (fun (c : at_ < 0) => ?_) (fun (c : ¬ at_ < 0) => And.intro (fun (c2 : ¬ nI deep = 12) => ?_) (fun (c2 : nI deep = 12) => ?_))
      · rw [cIf_t c] at hq
        exact hq w1 hS (fun q => by rw [show at_ = 0 from q] at c; exact absurd c (by decide))
      · rw [cIf_f c] at hq
        obtain ⟨d, j, rfl, g1, g2, g3, g4, g5⟩ := hat.resolve_left c
        have hm10 := (hI.mbs (i := d) (by omega)).2.1
        have e10 : (10 * d + j) / 10 = d := by omega
        have e2 : (nI (10 * d + j)).toNatClampNeg = 10 * d + j := nI_clamp (by omega)
        have hia : vp_in (nI (10 * d + j)) 1000 := in_nI (by omega) (by decide)
        have hid : vp_in (nI d) 100 := in_nI (by omega) (by decide)
        have ed : (nI d).toNatClampNeg = d := nI_clamp (by omega)
        rw [show tn (nI (10 * d + j)) = 10 * d + j from e2] at hq
        -- behind the trace
        have nx : ∀ w2, Sc (sT1 w0 (nI (tld2 (10 * d + j)))) w2 → Wq G M12_work 64 [some (.ref 79), some (.int (nI X)), some (.int name), some (.int (nI (10 * d + j))), some (.int (nI more)), some (.int (nI deep)), none] [] (0, 0) w2 Q := by
          intro w2 hS2
          have hR2 : RE w w2 := (hR.tr (RE.sT1 _)).tr hS2.re
          have hI2 : TInv w2 := hR2.tinv hI
          have hX2 : XInv w2 := hR2.xinv hX
          have eb : ma w2 12 = ma w 12 := hR2.row rfl
          have fin : (ma w 12 (10 * d + j) = 1 ∨ ma w 12 (10 * d + j) = 4) → Wq G M12_work 84 [some (.ref 79), some (.int (nI X)), some (.int name), some (.int (nI (10 * d + j))), some (.int (nI more)), some (.int (nI deep)), none] [] (0, 0) w2 Q := by
            intro h14
            rw [cIf_t h14] at hq
            refine Wq.go ok12_work 20 [] ?_
            refine c12_ends hI2 hX2 (by rw [hR2.enX]; exact hx) (by rw [hR2.edX]; exact hd0) (by rw [hR2.te.eT]; exact g1) (by rw [hR2.te.eM]; exact g2) (by rw [hR2.row (r := 8) rfl]; exact g3) (by rw [hR2.te.eab, hR2.te.eFO, hR2.ebX]; exact g5) (by omega) (fun w3 hS3 h3 => ?_)
            rw [hR2.een] at h3 ⊢
            exact hq w3 (hS2.tr hS3) h3
          have go : ¬ (ma w 12 (10 * d + j) = 1 ∨ ma w 12 (10 * d + j) = 4) → Wq G M12_work 93 [some (.ref 79), some (.int (nI X)), some (.int name), some (.int (nI (10 * d + j))), some (.int (nI more)), some (.int (nI deep)), some (.int (ma w 12 (10 * d + j)))] [] (0, 0) w2 Q := by
            intro h14
            rw [cIf_f h14] at hq
            -- behind the search
            have bk : ∀ (M : Nat) (w3 : qSt) (v : Int32), v = nxA w X (10 * d + j) → M = more + cIf (ma w 12 (10 * d + j) = 5) 1 0 → Sc w2 w3 → AtOK w X v → Wq G M12_work 153 [some (.ref 79), some (.int (nI X)), some (.int name), some (.int (nI (10 * d + j))), some (.int (nI M)), some (.int (nI deep)), some (.int (ma w 12 (10 * d + j)))] [.int v] (0, 0) w3 Q := by
              intro M w3 v ev eM hS3 hav
              refine Wq.go ok12_work 20 [18] ?_
              show Wq G M12_work 18 [some (.ref 79), some (.int (nI X)), some (.int name), some (.int v), some (.int (nI M)), some (.int (nI deep + 1)), some (.int (ma w 12 (10 * d + j)))] [] (0, 0) w3 Q
              rw [nI_1]
              refine Wq.ls (ls' := [some (.ref 79), some (.int (nI X)), some (.int name), some (.int v), some (.int (nI M)), some (.int (nI (deep + 1))), none]) ⟨rfl, rfl, rfl, rfl, rfl, rfl, trivial⟩ ?_
              have hM : M ≤ deep + 1 := by
                rw [eM]
                by_cases q : ma w 12 (10 * d + j) = 5
                · rw [cIf_t q]; omega
                · rw [cIf_f q]; omega
              refine ih (sT1 w0 (nI (tld2 (10 * d + j)))) w3 v M (deep + 1) (by omega) hM (hR.tr (RE.sT1 _)) (hTr.s1 _) (hS2.tr hS3) hav (fun w4 hS4 h4 => ?_)
              subst ev eM
              exact hq w4 hS4 h4
            have mid : ∀ (M : Nat), M = more + cIf (ma w 12 (10 * d + j) = 5) 1 0 → Wq G M12_work 109 [some (.ref 79), some (.int (nI X)), some (.int name), some (.int (nI (10 * d + j))), some (.int (nI M)), some (.int (nI deep)), some (.int (ma w 12 (10 * d + j)))] [] (0, 0) w2 Q := by
              intro M eM
              refine Wq.go ok12_work 40 [153] ?_
              refine And.intro (fun (c3 : ¬ ma w 12 (10 * d + j) = 2) => And.intro hinX (And.intro hia ?_)) (fun (c3 : ma w 12 (10 * d + j) = 2) => And.intro (by decide) (And.intro ?_ (And.intro hia ?_)))
              · show Con G M12_find [.ref 79, .int (ma w2 19 (nI X).toNatClampNeg), .int (ma w2 13 (nI (10 * d + j)).toNatClampNeg)] w2 _
                rw [eX, e2, hR2.row (r := 19) rfl, hR2.row (r := 13) rfl, y1]
                refine c12_find hI2 (by rw [hR2.te.eT]; exact y2) (by rw [hR2.row (r := 0) rfl]; exact hcl.2.1) (fun w3 hS3 => ?_)
                rw [hR2.te.efd]
                exact bk M w3 _ (by unfold nxA; rw [cIf_f c3]) eM hS3 (at_fd hI hcl.1 hcl.2.1 (abvs_self w _))
              · show vp_in (nI (10 * d + j) / 10) 100
                rw [div10 (by omega), e10]; exact hid
              · show Con G M12_find [.ref 79, .int (ma w2 1 (nI (10 * d + j) / 10).toNatClampNeg), .int (ma w2 9 (nI (10 * d + j)).toNatClampNeg)] w2 _
                obtain ⟨k1, k2, k3⟩ := at_2 hI hcl.1 g1 g2 g3 g5 c3
                obtain ⟨u1, u2, u3, u4⟩ := hI.up g1 k2 (by omega)
                rw [div10 (by omega), e10, ed, e2, hR2.row (r := 1) rfl, hR2.row (r := 9) rfl, u1]
                refine c12_find hI2 (by rw [hR2.te.eT]; omega) (by rw [hR2.row (r := 0) rfl]; exact u4) (fun w3 hS3 => ?_)
                rw [hR2.te.efd]
                refine bk M w3 _ (by unfold nxA; rw [cIf_t c3, e10]) eM hS3 (at_fd hI hcl.1 hcl.2.1 ?_)
                refine abvs_tr hI _ hcl.1 hcl.2.1 d k3 _ ?_
                rw [abvs_c hI g1 k2 (by omega)]
                exact List.mem_cons_of_mem _ (abvs_self w _)
            refine Wq.go ok12_work 30 [109] ?_
            refine And.intro (fun (c3 : ¬ ma w 12 (10 * d + j) = 5) => ?_) (fun (c3 : ma w 12 (10 * d + j) = 5) => ?_)
            · show Wq G M12_work 109 [some (.ref 79), some (.int (nI X)), some (.int name), some (.int (nI (10 * d + j))), some (.int (nI more + nI 0)), some (.int (nI deep)), some (.int (ma w 12 (10 * d + j)))] [] (0, 0) w2 Q
              rw [nI_add]
              exact mid _ (by rw [cIf_f c3])
            · show Wq G M12_work 109 [some (.ref 79), some (.int (nI X)), some (.int name), some (.int (nI (10 * d + j))), some (.int (nI more + 1)), some (.int (nI deep)), some (.int (ma w 12 (10 * d + j)))] [] (0, 0) w2 Q
              rw [nI_1]
              exact mid _ (by rw [cIf_t c3])
          refine Wq.go ok12_work 20 [84, 93] ?_
          refine And.intro hia ?_
          refine And.intro (fun (c3 : ma w2 12 (nI (10 * d + j)).toNatClampNeg = 1) => ?_) (fun (c3 : ¬ ma w2 12 (nI (10 * d + j)).toNatClampNeg = 1) => And.intro (fun (c4 : ¬ ma w2 12 (nI (10 * d + j)).toNatClampNeg = 4) => ?_) (fun (c4 : ma w2 12 (nI (10 * d + j)).toNatClampNeg = 4) => ?_)) <;> rw [e2, eb] at c3
          · exact Wq.ls (ls' := [some (.ref 79), some (.int (nI X)), some (.int name), some (.int (nI (10 * d + j))), some (.int (nI more)), some (.int (nI deep)), none]) ⟨rfl, rfl, rfl, rfl, rfl, rfl, trivial⟩ (fin (Or.inl c3))
          · rw [e2, eb] at c4
            have := go (fun q => q.elim c3 c4)
            rw [← eb, ← e2] at this
            rw [e2] at this ⊢
            exact this
          · rw [e2, eb] at c4
            exact Wq.ls (ls' := [some (.ref 79), some (.int (nI X)), some (.int name), some (.int (nI (10 * d + j))), some (.int (nI more)), some (.int (nI deep)), none]) ⟨rfl, rfl, rfl, rfl, rfl, rfl, trivial⟩ (fin (Or.inr c4))
        have e36 : mi w1 36 = nI (nTr w0) := (hS.mq.c (fun w => mi w 36) (fun _ => rfl)).trans hTr.1
        have eTr : nTr w1 = nTr w0 := hS.mq.c nTr (fun _ => rfl)
        have hTr2 := hTr.2
        have hnx := hS.T1 (nI (tld2 (10 * d + j)))
        refine And.intro (fun (c3 : (60 : Int32) ≤ mi w1 36) => ?_) (fun (c3 : ¬ (60 : Int32) ≤ mi w1 36) => ?_) <;> rw [e36, c_60, nI_leI (by omega) (by omega)] at c3
        · refine nx w1 ?_
          have : sT1 w1 (nI (tld2 (10 * d + j))) = w1 := if_neg (by rw [eTr]; omega)
          rw [this] at hnx
          exact hnx
        · refine c12_toldBy (by omega) ?_
          refine And.intro (show vp_in (mi w1 36) 60 by rw [e36]; exact in_nI (by omega) (by decide)) ?_
          refine nx _ ?_
          have : sT1 w1 (nI (tld2 (10 * d + j))) = sI (sI w1 40 27 (nTr w1) (nI (tld2 (10 * d + j)))) 12 36 0 (nI (nTr w1 + 1)) := if_pos (by rw [eTr]; omega)
          rw [this] at hnx
          show Sc _ (sI (sI w1 40 27 (mi w1 36).toNatClampNeg (nI (tld2 (10 * d + j)))) 12 36 0 (mi w1 36 + 1))
          rw [e36, nI_clamp (by omega), nI_1, ← eTr]
          exact hnx
      · rw [c_12, nI_eqI (by omega) (by omega)] at c2; omega
  refine Con.go hw12_work ok12_work 40 [18] rfl ?_
  refine And.intro hinX ?_
  show Con G M12_find [.ref 79, .int (ma w 19 (nI X).toNatClampNeg), .int name] w _
  rw [eX, y1]
  refine c12_find hI y2 hcl.2.1 (fun w1 hS1 => ?_)
  exact loop 12 w w1 _ 0 0 rfl (Nat.le_refl _) RE.rf hT hS1 (at_fd hI hcl.1 hcl.2.1 (abvs_self w _)) h
end
