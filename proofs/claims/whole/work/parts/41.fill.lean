/-! ===== columns filled ===== -/
noncomputable def cmN (w : qSt) (K f : Nat) (L : Int32) : Int32 := cIf (L = 8) (-16) (cIf (f = cN w K) (-12) (cIf (wdP (tn L) (cL w K)) 0 (-16)))
noncomputable def fno (w : qSt) (K f : Nat) (r : rdT) : Int32 := cIf (r.1 < 0) r.1 (cmN w K f r.2.1)
abbrev flT : Type := Int32 × List Int64 × List Int32
noncomputable def flR (w : qSt) (K h : Nat) : Nat → Nat → Nat → flT
  | 0, _, _ => (0, [], [])
  | n + 1, x, f => cIf (soP w (bX w x) (dX w x) (hC w h) 0) (cIf (fno w K f (rdR w h (nI x)) < 0) (fno w K f (rdR w h (nI x)), [], (rdR w h (nI x)).2.2.2)
      ((flR w K h n (x + 1) (f + 1)).1, wd (tn (rdR w h (nI x)).2.1) (cL w K) (rdR w h (nI x)).2.2.1 :: (flR w K h n (x + 1) (f + 1)).2.1, (rdR w h (nI x)).2.2.2 ++ (flR w K h n (x + 1) (f + 1)).2.2))
      (flR w K h n (x + 1) f)
/-- the state with a trace, and values filled in -/
noncomputable def stF (w : qSt) (K : Nat) (tr : List Int32) (vs : List Int64) : qSt := sI (rJ (sTr w tr) 31 (putL (ml w 31) (60 * K) vs)) 12 42 0 (nI vs.length)
noncomputable def S_fill (w : qSt) (k h : Int32) : Int32 × qSt :=
  cIf (¬ isK k ∨ ¬ isH w h) (-1, stt w (-1)) (cIf (ma w 28 (tn k) = 0) (-11, stt w (-11))
    (cIf ((flR w (tn k) (tn h) (nX w) 0 0).1 < 0) ((flR w (tn k) (tn h) (nX w) 0 0).1, stt (stF (sI w 12 36 0 0) (tn k) (flR w (tn k) (tn h) (nX w) 0 0).2.2 (flR w (tn k) (tn h) (nX w) 0 0).2.1) (flR w (tn k) (tn h) (nX w) 0 0).1)
      (nI (flR w (tn k) (tn h) (nX w) 0 0).2.1.length, stt (stF (sI w 12 36 0 0) (tn k) (flR w (tn k) (tn h) (nX w) 0 0).2.2 (flR w (tn k) (tn h) (nX w) 0 0).2.1) 0)))
theorem sT1_st (u : qSt) (t : Int32) (f : Nat → Int64) (v : Int32) : sT1 (sI (rJ u 31 f) 12 42 0 v) t = sI (rJ (sT1 u t) 31 f) 12 42 0 v := by
  unfold sT1
  rw [show nTr (sI (rJ u 31 f) 12 42 0 v) = nTr u from rfl]
  by_cases h : nTr u < 60
  · rw [if_pos h, if_pos h]
    show sI (sI (sI (rJ u 31 f) 12 42 0 v) 40 27 (nTr u) t) 12 36 0 (nI (nTr u + 1)) = sI (sI (sI (rJ u 31 f) 40 27 (nTr u) t) 12 36 0 (nI (nTr u + 1))) 12 42 0 v
    rw [sI_cm (rJ u 31 f) v t (by omega), sI_cm _ v _ (by omega)]
  · rw [if_neg h, if_neg h]
theorem sTr_st (l : List Int32) : ∀ (u : qSt) (f : Nat → Int64) (v : Int32), sTr (sI (rJ u 31 f) 12 42 0 v) l = sI (rJ (sTr u l) 31 f) 12 42 0 v := by
  induction l with
  | nil => exact fun _ _ _ => rfl
  | cons t l ih =>
    intro u f v
    show sTr (sT1 _ t) l = sI (rJ (sTr (sT1 u t) l) 31 f) 12 42 0 v
    rw [sT1_st, ih]
theorem stF_tr (w : qSt) (K : Nat) (tr l : List Int32) (vs : List Int64) : sTr (stF w K tr vs) l = stF w K (tr ++ l) vs := by
  unfold stF
  rw [sTr_st, sTr_app]
theorem stF_snoc (w : qSt) (K : Nat) (tr : List Int32) (vs : List Int64) (v : Int64) : sI (sJ (stF w K tr vs) 40 31 (60 * K + vs.length) v) 12 42 0 (nI (vs.length + 1)) = stF w K tr (vs ++ [v]) := by
  unfold stF
  rw [List.length_append]
  show sI (sI (sJ (rJ (sTr w tr) 31 (putL (ml w 31) (60 * K) vs)) 40 31 (60 * K + vs.length) v) 12 42 0 (nI vs.length)) 12 42 0 (nI (vs.length + 1)) = _
  rw [sI_sI, rJ_sJ, putL_snoc]; rfl
theorem RE.rJ {w w' : qSt} (h : RE w w') {r : Nat} {f : Nat → Int64} (hs : rbJ 40 r = false) : RE w (rJ w' r f) := by
  refine Eq.trans (b := rp w') (st_ext rfl ?_ rfl rfl) h
  funext r' k' i'
  show (bif rbJ r' k' then (bif Nat.beq r' 40 && Nat.beq k' r then f i' else gJ w' r' k' i') else 0) = (bif rbJ r' k' then gJ w' r' k' i' else 0)
  cases e : (Nat.beq r' 40 && Nat.beq k' r) with
  | false => rfl
  | true =>
    rw [Bool.and_eq_true] at e
    rw [Nat.eq_of_beq_eq_true e.1, Nat.eq_of_beq_eq_true e.2, hs]; rfl
theorem RE.stF (w : qSt) (K : Nat) (tr : List Int32) (vs : List Int64) : RE w (stF w K tr vs) := ((RE.sTr tr w).rJ (r := 31) rfl).I rfl
theorem trok_st {u : qSt} {f : Nat → Int64} {v : Int32} (h : TrOK u) : TrOK (sI (rJ u 31 f) 12 42 0 v) := h
theorem TrOK.str {w : qSt} (l : List Int32) (h : TrOK w) : TrOK (sTr w l) := by
  induction l generalizing w with
  | nil => exact h
  | cons t l ih => exact ih (h.s1 t)
theorem sT1_28 (w : qSt) (t : Int32) : (∀ r, r ≠ 27 → ma (sT1 w t) r = ma w r) ∧ (∀ k, k ≠ 36 → mi (sT1 w t) k = mi w k) ∧ (sT1 w t).2 = w.2 := by
  unfold sT1
  by_cases h : nTr w < 60
  · rw [if_pos h]
    refine ⟨fun r hr => ?_, fun k hk => ?_, rfl⟩
    · funext i
      rw [show ma (sI (sI w 40 27 (nTr w) t) 12 36 0 (nI (nTr w + 1))) r i = ma (sI w 40 27 (nTr w) t) r i from gI_ne (by omega), show ma (sI w 40 27 (nTr w) t) r i = ma w r i from gI_ne (by omega)]
    · rw [show mi (sI (sI w 40 27 (nTr w) t) 12 36 0 (nI (nTr w + 1))) k = mi (sI w 40 27 (nTr w) t) k from gI_ne (by omega), show mi (sI w 40 27 (nTr w) t) k = mi w k from gI_ne (by omega)]
  · rw [if_neg h]; exact ⟨fun _ _ => rfl, fun _ _ => rfl, rfl⟩
theorem sTr_28 (l : List Int32) : ∀ (w : qSt), (∀ r, r ≠ 27 → ma (sTr w l) r = ma w r) ∧ (∀ k, k ≠ 36 → mi (sTr w l) k = mi w k) ∧ (sTr w l).2 = w.2 := by
  induction l with
  | nil => exact fun w => ⟨fun _ _ => rfl, fun _ _ => rfl, rfl⟩
  | cons t l ih =>
    intro w
    obtain ⟨a1, a2, a3⟩ := ih (sT1 w t)
    obtain ⟨b1, b2, b3⟩ := sT1_28 w t
    exact ⟨fun r hr => (a1 r hr).trans (b1 r hr), fun k hk => (a2 k hk).trans (b2 k hk), a3.trans b3⟩
theorem fl_vals {w : qSt} {K h : Nat} (hN : cN w K ≤ 60) : ∀ (n x f : Nat), f ≤ cN w K → f + (flR w K h n x f).2.1.length ≤ cN w K
  | 0, x, f, hf => by unfold flR; exact hf
  | n + 1, x, f, hf => by
    unfold flR
    by_cases c : soP w (bX w x) (dX w x) (hC w h) 0
    · rw [cIf_t c]
      by_cases c2 : fno w K f (rdR w h (nI x)) < 0
      · rw [cIf_t c2]; exact hf
      · rw [cIf_f c2]
        have hf2 : f ≠ cN w K := by
          intro e
          apply c2
          unfold fno
          by_cases c3 : (rdR w h (nI x)).1 < 0
          · rw [cIf_t c3]; exact c3
          · rw [cIf_f c3]
            unfold cmN
            by_cases c4 : (rdR w h (nI x)).2.1 = 8
            · rw [cIf_t c4]; decide
            · rw [cIf_f c4, cIf_t e]; decide
        have := fl_vals (h := h) hN n (x + 1) (f + 1) (by omega)
        show f + (_ :: (flR w K h n (x + 1) (f + 1)).2.1).length ≤ _
        rw [List.length_cons]; omega
    · rw [cIf_f c]; exact fl_vals hN n (x + 1) f hf
section
variable {G : qGX} {w : qSt} {Q : Option Value → qSt → Prop}
theorem c12_comesTo {K f : Nat} {L : Int32} (hK : K < 6) (hC : ColOK w K) (h33 : mi w 33 = L) (hL : laneOK L) (h42 : mi w 42 = nI f) (hf : f ≤ 60) (h : Q (some (.int (cmN w K f L))) w) : Con G M12_comesTo [.ref 79, .int (nI K)] w Q := by
  obtain ⟨o1, o2, o3, o4, o5⟩ := hC
  obtain ⟨l, rfl, hl⟩ := hL
  have hin : vp_in (nI K) 6 := in_nI hK (by decide)
  have eK : (nI K).toNatClampNeg = K := nI_clamp (by omega)
  unfold cmN at h
  refine Con.go hw12_comesTo ok12_comesTo 40 [] rfl ?_
  refine And.intro (fun (c : ¬ mi w 33 = 8) => And.intro hin (And.intro (fun (c2 : ¬ mi w 42 = ma w 30 (nI K).toNatClampNeg) => And.intro hin ?_) (fun (c2 : mi w 42 = ma w 30 (nI K).toNatClampNeg) => ?_))) (fun (c : mi w 33 = 8) => ?_) <;> rw [h33] at c
  · rw [eK, h42, o3, nI_eqI (by omega) (by omega)] at c2
    rw [cIf_f c, cIf_f c2] at h
    show Con G M12_widens [.int (mi w 33), .int (ma w 29 (nI K).toNatClampNeg)] w _
    rw [h33, eK, o1]
    rw [tn_nI (by omega)] at h
    refine c12_widens (by omega) (by omega) (And.intro (fun c3 => ?_) (fun c3 => ?_))
    · rw [bI_0] at c3
      rw [cIf_f c3] at h; exact h
    · rw [bI_n0] at c3
      rw [cIf_t c3] at h; exact h
  · rw [eK, h42, o3, nI_eqI (by omega) (by omega)] at c2
    rw [cIf_f c, cIf_t c2] at h
    exact h
  · rw [cIf_t c] at h
    exact h
theorem c12_fill {k h : Int32} (hI : TInv w) (hX : XInv w) (hH : HInv w) (hC : CInv w) (hV : ∀ h x, h < nH w → ¬ noX w x → (rdR w h x).1 = 0 → (rdR w h x).2.1 = 6 → vn_sni2f (rdR w h x).2.2.1.toInt32 = false) (hq : ∀ w', Sc (S_fill w k h).2 w' → Q (some (.int (S_fill w k h).1)) w') : Con G M12_fill [.ref 79, .int k, .int h] w Q := by
  obtain ⟨x1, x2, x3, x4⟩ := id hX
  obtain ⟨k1, k2, k3⟩ := id hH
  unfold S_fill at hq
  have bad : (¬ isK k ∨ ¬ isH w h) → Wq G M12_fill 20 [some (.ref 79), some (.int k), some (.int h), none, none] [] (0, 0) w Q := by
    intro hb
    rw [cIf_t hb] at hq
    exact Wq.go ok12_fill 20 [] (c12_fail (hq _ Sc.rf))
  refine Con.go hw12_fill ok12_fill 40 [20, 26] rfl ?_
  refine c12_inC (n := 6) rfl (by omega) (And.intro (fun c1 => bad (Or.inl (bI_0.mp c1))) (fun c1 => c12_isHandle k1 k2 (And.intro (fun c2 => ?_) (fun c2 => bad (Or.inr (bI_0.mp c2))))))
  rw [bI_n0] at c1 c2
  rw [cIf_f (fun q => q.elim (fun q => q c1) (fun q => q c2))] at hq
  obtain ⟨K, rfl, hK⟩ := c1
  obtain ⟨H, rfl, hh⟩ := c2
  have hin : vp_in (nI K) 6 := in_nI hK (by decide)
  have eK : (nI K).toNatClampNeg = K := nI_clamp (by omega)
  rw [tn_nI (by omega), tn_nI (by omega)] at hq
  refine Wq.go ok12_fill 40 [42] ?_
  refine And.intro hin (And.intro (fun (c3 : ¬ ma w 28 (nI K).toNatClampNeg = 0) => ?_) (fun (c3 : ma w 28 (nI K).toNatClampNeg = 0) => ?_)) <;> rw [eK] at c3
  · rw [cIf_f c3] at hq
    have hCol := (hC K hK).2 c3
    obtain ⟨o1, o2, o3, o4, o5⟩ := id hCol
    have hz := fl_vals (h := H) o4 (nX w) 0 0 (Nat.zero_le _)
    rw [Nat.zero_add] at hz
    have loop : ∀ (n x : Nat) (tr : List Int32) (vs : List Int64) (w1 : qSt), x + n = nX w → vs.length + (flR w K H n x vs.length).2.1.length ≤ 60 → Sc (stF (sI w 12 36 0 0) K tr vs) w1 →
        ((flR w K H n x vs.length).1 < 0 → ∀ w', Sc (stt (stF (sI w 12 36 0 0) K (tr ++ (flR w K H n x vs.length).2.2) (vs ++ (flR w K H n x vs.length).2.1)) (flR w K H n x vs.length).1) w' → Q (some (.int (flR w K H n x vs.length).1)) w') →
        (¬ (flR w K H n x vs.length).1 < 0 → ∀ w', Sc (stt (stF (sI w 12 36 0 0) K (tr ++ (flR w K H n x vs.length).2.2) (vs ++ (flR w K H n x vs.length).2.1)) 0) w' → Q (some (.int (nI (vs ++ (flR w K H n x vs.length).2.1).length))) w') →
        Wq G M12_fill 54 [some (.ref 79), some (.int (nI K)), some (.int (nI H)), some (.int (nI x)), none] [] (0, 0) w1 Q := by
      intro n
      induction n with
      | zero =>
        intro x tr vs w1 hx hl hS hf hg
        have hR1 : RE w w1 := ((RE.rf.I (r := 12) (k := 36) rfl).tr (RE.stF _ K tr vs)).tr hS.re
        have e42 : mi w1 42 = nI vs.length := (hS.mq.c (fun w => mi w 42) (fun _ => rfl)).trans (gI_at _ _ _ _ _)
        have e22 : mi w1 22 = nI (nX w) := (hR1.c (fun w => mi w 22) (fun _ => rfl)).trans x1
        have : x = nX w := by omega
        subst this
        unfold flR at hg
        rw [List.append_nil, List.append_nil] at hg
        refine Wq.go ok12_fill 40 [] ?_
        refine And.intro (fun _ => c12_good ?_) (fun (q : ¬ mi w1 22 ≤ nI (nX w)) => absurd (by rw [e22, i32_le]; omega) q)
        show Q (some (.int (mi w1 42))) _
        rw [e42]
        exact hg (show ¬ (0 : Int32) < 0 by decide) _ (hS.I2 rfl)
      | succ n ih =>
        intro x tr vs w1 hx hl hS hf hg
        have hR1 : RE w w1 := ((RE.rf.I (r := 12) (k := 36) rfl).tr (RE.stF _ K tr vs)).tr hS.re
        have e42 : mi w1 42 = nI vs.length := (hS.mq.c (fun w => mi w 42) (fun _ => rfl)).trans (gI_at _ _ _ _ _)
        have e22 : mi w1 22 = nI (nX w) := (hR1.c (fun w => mi w 22) (fun _ => rfl)).trans x1
        have hI1 := hR1.tinv hI
        have hX1 := hR1.xinv hX
        have hH1 := hR1.hinv hH
        have hT1 : TrOK w1 := (trok_st (TrOK.str tr (tr0 (w := w)))).sc hS
        unfold flR at hf hg hl
        -- the next thing
        have next : ∀ (ls4 : Option Value) (tr' : List Int32) (vs' : List Int64) (w2 : qSt), Sc (stF (sI w 12 36 0 0) K tr' vs') w2 → vs'.length + (flR w K H n (x + 1) vs'.length).2.1.length ≤ 60 →
            ((flR w K H n (x + 1) vs'.length).1 < 0 → ∀ w', Sc (stt (stF (sI w 12 36 0 0) K (tr' ++ (flR w K H n (x + 1) vs'.length).2.2) (vs' ++ (flR w K H n (x + 1) vs'.length).2.1)) (flR w K H n (x + 1) vs'.length).1) w' → Q (some (.int (flR w K H n (x + 1) vs'.length).1)) w') →
            (¬ (flR w K H n (x + 1) vs'.length).1 < 0 → ∀ w', Sc (stt (stF (sI w 12 36 0 0) K (tr' ++ (flR w K H n (x + 1) vs'.length).2.2) (vs' ++ (flR w K H n (x + 1) vs'.length).2.1)) 0) w' → Q (some (.int (nI (vs' ++ (flR w K H n (x + 1) vs'.length).2.1).length))) w') →
            Wq G M12_fill 152 [some (.ref 79), some (.int (nI K)), some (.int (nI H)), some (.int (nI x)), ls4] [] (0, 0) w2 Q := by
          intro ls4 tr' vs' w2 hS2 hl2 hf2 hg2
          refine Wq.ls (ls' := [some (.ref 79), some (.int (nI K)), some (.int (nI H)), some (.int (nI x)), none]) ⟨rfl, rfl, rfl, rfl, trivial⟩ ?_
          refine Wq.go ok12_fill 40 [54] ?_
          show Wq G M12_fill 54 [some (.ref 79), some (.int (nI K)), some (.int (nI H)), some (.int (nI x + 1)), none] [] (0, 0) w2 Q
          rw [nI_1]
          exact ih (x + 1) tr' vs' w2 (by omega) hl2 hS2 hf2 hg2
        refine Wq.go ok12_fill 40 [74, 152] ?_
        refine And.intro (fun (q : mi w1 22 ≤ nI x) => ?_) (fun _ => c12_isOf hI1 hX1 hH1 (by rw [hR1.enX]; omega) (by rw [hR1.enH]; exact hh) (fun w2 hS2 => ?_))
        · rw [e22, nI_leI (by omega) (by omega)] at q; omega
        rw [hR1.te.eSo, hR1.ebX, hR1.edX, hR1.ehC]
        have hS02 := hS.tr hS2.toSc
        refine And.intro (fun c4 => ?_) (fun c4 => ?_)
        · rw [bI_n0] at c4
          rw [cIf_t c4] at hf hg hl
          have hR2 := hR1.tr hS2.re
          have hxX : ¬ noX w (nI x) := fun q => q.2 ⟨x, rfl, by omega⟩
          -- behind the reading
          have h97 : ∀ (y v : Int32) (w3 : qSt), v = fno w K vs.length (rdR w H (nI x)) → Sc (stF (sI w 12 36 0 0) K (tr ++ (rdR w H (nI x)).2.2.2) vs) w3 → ((rdR w H (nI x)).1 = 0 → mi w3 33 = (rdR w H (nI x)).2.1 ∧ mj w3 34 = (rdR w H (nI x)).2.2.1) →
              Wq G M12_fill 97 [some (.ref 79), some (.int (nI K)), some (.int (nI H)), some (.int (nI x)), some (.int y)] [.int v] (0, 0) w3 Q := by
            intro y v w3 hv hS3 h3
            refine Wq.go ok12_fill 40 [111] ?_
            refine And.intro (fun c5 => ?_) (fun c5 => ?_)
            · have c5' := nlt0 c5
              rw [hv] at c5'
              rw [cIf_f c5'] at hf hg hl
              have r0 : ¬ (rdR w H (nI x)).1 < 0 := fun q => c5' (by unfold fno; rw [cIf_t q]; exact q)
              have r00 := (rd_le w H (nI x)).resolve_left r0
              obtain ⟨g1, g2⟩ := h3 r00
              have e42b : mi w3 42 = nI vs.length := (hS3.mq.c (fun w => mi w 42) (fun _ => rfl)).trans (gI_at _ _ _ _ _)
              obtain ⟨Ln, eLn, hLn⟩ := rd_lane w H (nI x)
              have e29b : ma w3 29 = ma w 29 := (hS3.mq.c (fun w => ma w 29) (fun _ => rfl)).trans ((sTr_28 _ _).1 29 (by omega))
              have hl' : vs.length + 1 ≤ 60 := by
                have : (wd (tn (rdR w H (nI x)).2.1) (cL w K) (rdR w H (nI x)).2.2.1 :: (flR w K H n (x + 1) (vs.length + 1)).2.1).length = (flR w K H n (x + 1) (vs.length + 1)).2.1.length + 1 := List.length_cons
                have hl : vs.length + (wd (tn (rdR w H (nI x)).2.1) (cL w K) (rdR w H (nI x)).2.2.1 :: (flR w K H n (x + 1) (vs.length + 1)).2.1).length ≤ 60 := hl
                omega
              have ep : (60 : Int32) * nI K + mi w3 42 = nI (60 * K + vs.length) := by rw [e42b]; exact ix60 K _
              refine Wq.go ok12_fill 40 [152] ?_
              refine And.intro hin ?_
              show Con G M12_widened [.int (mi w3 33), .int (ma w3 29 (nI K).toNatClampNeg), .long (mj w3 34)] w3 _
              rw [g1, g2, e29b, eK, o1, eLn]
              refine c12_widened (by omega) (by omega) (fun q => ?_) (And.intro (show vp_in ((60 : Int32) * nI K + mi w3 42) 360 by rw [ep]; exact in_nI (by omega) (by decide)) ?_)
              · subst q; exact hV H (nI x) hh hxX r00 eLn
              · show Wq G M12_fill 152 _ [] (0, 0) (sI (sJ w3 40 31 ((60 : Int32) * nI K + mi w3 42).toNatClampNeg (wd Ln (cL w K) (rdR w H (nI x)).2.2.1)) 12 42 0 (mi w3 42 + 1)) Q
                rw [ep, nI_clamp (by omega), e42b, nI_1]
                have hS4 := (hS3.J2 (r := 40) (k := 31) (i := 60 * K + vs.length) (v := wd Ln (cL w K) (rdR w H (nI x)).2.2.1) rfl).I2 (r := 12) (k := 42) (i := 0) (v := nI (vs.length + 1)) rfl
                rw [stF_snoc] at hS4
                have eL1 : tn (rdR w H (nI x)).2.1 = Ln := by rw [eLn]; exact tn_nI (by omega)
                rw [eL1] at hf hg hl
                refine next _ _ (vs ++ [wd Ln (cL w K) (rdR w H (nI x)).2.2.1]) _ hS4 ?_ ?_ ?_
                · rw [List.length_append, List.length_singleton]
                  have hl : vs.length + (wd Ln (cL w K) (rdR w H (nI x)).2.2.1 :: (flR w K H n (x + 1) (vs.length + 1)).2.1).length ≤ 60 := hl
                  rw [List.length_cons] at hl
                  omega
                · rw [List.length_append, List.length_singleton, List.append_assoc, List.append_assoc]
                  exact hf
                · rw [List.length_append (as := vs) (bs := [_]), List.length_singleton, List.append_assoc, List.append_assoc]
                  exact hg
            · have c5' := lt0 c5
              have c6 := c5'
              rw [hv] at c6
              rw [cIf_t c6] at hf
              rw [List.append_nil] at hf
              rw [hv]
              exact c12_fail (hf c6 _ (hS3.I2 rfl))
          refine Wq.go ok12_fill 40 [92, 97] ?_
          refine c12_readBy (hR2.tinv hI) (hR2.xinv hX) (hR2.hinv hH) (hT1.sc hS2.toSc) (by rw [hR2.enH]; exact hh) (by rw [hR2.enoX]; exact hxX) (fun w3 hS3 h3 => ?_)
          rw [hR2.erd] at hS3 h3 ⊢
          have hS33 : Sc (stF (sI w 12 36 0 0) K (tr ++ (rdR w H (nI x)).2.2.2) vs) w3 := by
            have := (hS02.Tr (rdR w H (nI x)).2.2.2).tr hS3
            rw [stF_tr] at this
            exact this
          refine And.intro (fun (c5 : 0 ≤ (rdR w H (nI x)).1) => ?_) (fun (c5 : ¬ 0 ≤ (rdR w H (nI x)).1) => ?_)
          · have r00 := (rd_le w H (nI x)).resolve_left (nlt0 c5)
            obtain ⟨g1, g2⟩ := h3 r00
            have e42b : mi w3 42 = nI vs.length := (hS33.mq.c (fun w => mi w 42) (fun _ => rfl)).trans (gI_at _ _ _ _ _)
            have e29b : ma w3 29 = ma w 29 := (hS33.mq.c (fun w => ma w 29) (fun _ => rfl)).trans ((sTr_28 _ _).1 29 (by omega))
            have e30b : ma w3 30 = ma w 30 := (hS33.mq.c (fun w => ma w 30) (fun _ => rfl)).trans ((sTr_28 _ _).1 30 (by omega))
            have ecm : cmN w3 K = cmN w K := by funext f L; unfold cmN cN cL; rw [e29b, e30b]
            refine Wq.go ok12_fill 40 [97] ?_
            have hvl : vs.length ≤ 60 := by omega
            -- comesTo looks at lane, size and lane of the column alone
            have hin2 : vp_in (nI K) 6 := hin
            have hcm : Con G M12_comesTo [.ref 79, .int (nI K)] w3 (fun o w' => w' = w3 ∧ o = some (.int (cmN w K vs.length (rdR w H (nI x)).2.1))) := by
              obtain ⟨l, el, hl⟩ := rd_lane w H (nI x)
              refine Con.go hw12_comesTo ok12_comesTo 40 [] rfl ?_
              have hu : cmN w K vs.length (nI l) = cIf (nI l = 8) (-16) (cIf (vs.length = cN w K) (-12) (cIf (wdP (tn (nI l)) (cL w K)) 0 (-16))) := rfl
              rw [el] at g1 ⊢
              rw [hu]
              refine And.intro (fun (c : ¬ mi w3 33 = 8) => And.intro hin (And.intro (fun (c2 : ¬ mi w3 42 = ma w3 30 (nI K).toNatClampNeg) => And.intro hin ?_) (fun (c2 : mi w3 42 = ma w3 30 (nI K).toNatClampNeg) => ?_))) (fun (c : mi w3 33 = 8) => ?_) <;> rw [g1] at c
              · rw [eK, e42b, e30b, o3, nI_eqI (by omega) (by omega)] at c2
                rw [cIf_f c, cIf_f c2]
                show Con G M12_widens [.int (mi w3 33), .int (ma w3 29 (nI K).toNatClampNeg)] w3 _
                rw [g1, eK, e29b, o1, tn_nI (by omega)]
                refine c12_widens (by omega) (by omega) (And.intro (fun c3 => ?_) (fun c3 => ?_))
                · rw [bI_0] at c3
                  exact ⟨rfl, by rw [cIf_f c3]⟩
                · rw [bI_n0] at c3
                  exact ⟨rfl, by rw [cIf_t c3]⟩
              · rw [eK, e42b, e30b, o3, nI_eqI (by omega) (by omega)] at c2
                rw [cIf_f c, cIf_t c2]
                exact ⟨rfl, rfl⟩
              · rw [cIf_t c]
                exact ⟨rfl, rfl⟩
            refine hcm.mono (fun o w' hw' => ?_)
            obtain ⟨rfl, rfl⟩ := hw'
            exact h97 _ _ _ (by unfold fno; rw [cIf_f (nlt0 c5)]) hS33 h3
          · exact h97 _ _ _ (by unfold fno; rw [cIf_t (lt0 c5)]) hS33 h3
        · rw [bI_0] at c4
          rw [cIf_f c4] at hf hg hl
          exact next _ tr vs w2 hS02 hl hf hg
    have hS0 : Sc (stF (sI w 12 36 0 0) K [] []) (sI (sI w 12 36 0 0) 12 42 0 0) := by
      have : stF (sI w 12 36 0 0) K [] [] = sI (sI w 12 36 0 0) 12 42 0 0 := by
        unfold stF
        rw [putL_nil]
        show sI (rJ (sI w 12 36 0 0) 31 (ml (sI w 12 36 0 0) 31)) 12 42 0 (nI 0) = _
        rw [rJ_self]; rfl
      rw [this]; exact Sc.rf
    refine Wq.go ok12_fill 40 [54] ?_
    refine loop (nX w) 0 [] [] _ (Nat.zero_add _) ?_ hS0 ?_ ?_
    · show 0 + (flR w K H (nX w) 0 0).2.1.length ≤ 60
      omega
    · intro q
      have q : (flR w K H (nX w) 0 0).1 < 0 := q
      rw [cIf_t q] at hq
      exact hq
    · intro q
      have q : ¬ (flR w K H (nX w) 0 0).1 < 0 := q
      rw [cIf_f q] at hq
      exact hq
  · rw [cIf_t c3] at hq
    exact c12_fail (hq _ Sc.rf)
end
