/-! ===== a thing of a class ===== -/
theorem te_cl (w : qSt) (f : Nat → Int32) (g : Nat → Int64) : TE w (rJ (rI w 4 f) 23 g) := by
  refine ⟨rfl, fun r _ h4 => ?_⟩
  funext i
  show (bif Nat.beq 40 40 && Nat.beq r 4 then f i else gI w 40 r i) = gI w 40 r i
  have : Nat.beq r 4 = false := by
    cases e : Nat.beq r 4 with
    | false => rfl
    | true => exact absurd (Nat.eq_of_beq_eq_true e) h4
  rw [this]; rfl
theorem tinv_cl {w : qSt} (h : TInv w) {f : Nat → Int32} {g : Nat → Int64} (h1 : ∀ i, f i = 1 ∨ f i = ma w 4 i) (h2 : ∀ i, nT w ≤ i → f i = ma w 4 i) : TInv (rJ (rI w 4 f) 23 g) := by
  refine ⟨h.1, h.2.1, h.2.2.1, h.2.2.2.1, h.2.2.2.2.1, fun i hi => ⟨h.fac hi, h.mbs hi, ?_⟩⟩
  obtain ⟨q1, q2, q3, q4⟩ := h.flg hi
  refine ⟨q1, ?_, q3, fun q => (h2 i q).trans (q4 q)⟩
  show f i = 0 ∨ f i = 1
  rcases h1 i with e | e
  · exact Or.inr e
  · rw [e]; exact q2
section
variable {G : qGX} {w : qSt} {Q : Option Value → qSt → Prop}
theorem c12_thing {c : Int32} (hI : TInv w) (hX : XInv w) (h : ∀ w', Sc (S_thing w c).2 w' → Q (some (.int (S_thing w c).1)) w') : Con G M12_thing [.ref 79, .int c] w Q := by
  have h100 := hI.le
  obtain ⟨x1, x2, x3, x4⟩ := hX
  unfold S_thing at h
  refine Con.go hw12_thing ok12_thing 40 [14] rfl ?_
  refine c12_isClass hI.ty (And.intro (fun c1 => ?_) (fun c1 => ?_))
  · rw [bI_n0] at c1
    rw [cIf_f (fun q => q c1)] at h
    refine Wq.go ok12_thing 40 [30] ?_
    refine And.intro (fun (c2 : ¬ mi w 22 = 60) => ?_) (fun (c2 : mi w 22 = 60) => ?_) <;> rw [x1, c_60, nI_eqI (by omega) (by omega)] at c2
    · rw [cIf_f c2] at h
      obtain ⟨C, rfl, hC, hs⟩ := c1
      rw [tn_nI (by omega)] at h
      have hinC : vp_in (nI C) 100 := in_nI (by omega) (by decide)
      have eC : (nI C).toNatClampNeg = C := nI_clamp (by omega)
      refine Wq.go ok12_thing 40 [46] ?_
      refine And.intro hinC (And.intro (fun (c3 : ma w 3 (nI C).toNatClampNeg = 0) => ?_) (fun (c3 : ¬ ma w 3 (nI C).toNatClampNeg = 0) => ?_)) <;> rw [eC] at c3
      · rw [cIf_f (fun q => q c3)] at h
        obtain ⟨p1, p2⟩ := x3 (nX w) (Nat.le_refl _)
        -- the faces are closed
        have faces : ∀ (r k : Nat) (w1 : qSt) (n : Nat) (l : Nat → Nat), k + r = n → Sc (rJ (rI w 4 (fun i => cIf (i ∈ abvs w C ∨ ∃ j, j < k ∧ l j = i) 1 (ma w 4 i))) 23 (putL (ml w 23) (pX w (nX w)) (ivL w (abvs w C)))) w1 → LI w1 n l → (∀ i, (∃ j, j < n ∧ l j = i) ↔ FOf w C i) → Wq G M12_thing 154 [some (.ref 79), some (.int (nI C)), some (.int (nI (pX w (nX w) + (ivL w (abvs w C)).length))), some (.int (nI k)), none] [] (0, 0) w1 Q := by
          intro r
          induction r with
          | zero =>
            intro k w1 n l hk hS hLI hset
            have eT : nT w1 = nT w := hS.c nT (fun _ => rfl)
            have hn := hLI.le (by omega)
            have e18 : mi w1 18 = nI n := hLI.1
            have e22 : mi w1 22 = mi w 22 := hS.c (fun w => mi w 22) (fun _ => rfl)
            have eX : nX w1 = nX w := hS.c nX (fun _ => rfl)
            have er : ma w1 22 = ma w 22 := hS.c (fun w => ma w 22) (fun _ => rfl)
            have ep : pX w1 = pX w := hS.c pX (fun _ => rfl)
            have hlen := ivL_len hI C hC hs
            refine Wq.go ok12_thing 40 [] ?_
            refine And.intro (fun _ => ?_) (fun (q : ¬ mi w1 18 ≤ nI k) => absurd (by rw [e18]; exact nI_le (by omega) (by omega)) q)
            refine c12_added (P := pX w (nX w)) (by rw [e22, eX]; exact x1) (by omega) (by rw [er, eX]; exact p1) (by omega) (by omega) ?_
            rw [eX]
            have ef : (fun i => cIf (i ∈ abvs w C ∨ ∃ j, j < k ∧ l j = i) 1 (ma w 4 i)) = clsF w C := by
              funext i
              unfold clsF
              rw [← hset i, show k = n by omega]
            rw [ef] at hS
            refine h _ ?_
            unfold sAd stt
            rw [eX, ep]
            exact (((((hS.I2 rfl).I2 rfl).I2 rfl).I2 rfl).I2 rfl).I2 rfl
          | succ r ih =>
            intro k w1 n l hk hS hLI hset
            have eT : nT w1 = nT w := hS.c nT (fun _ => rfl)
            have hn := hLI.le (by omega)
            have e18 : mi w1 18 = nI n := hLI.1
            obtain ⟨l1, l2, l3, l4⟩ := hLI.2.1 k (by omega)
            have hink : vp_in (nI k) 100 := in_nI (by omega) (by decide)
            have ek : (nI k).toNatClampNeg = k := nI_clamp (by omega)
            have hinl : vp_in (ma w1 15 (nI k).toNatClampNeg) 100 := by rw [ek, l1]; exact in_nI (by omega) (by decide)
            refine Wq.go ok12_thing 40 [154] ?_
            refine And.intro (fun (q : mi w1 18 ≤ nI k) => ?_) (fun _ => And.intro hink (And.intro rfl (And.intro hinl ?_)))
            · rw [e18, nI_leI (by omega) (by omega)] at q; omega
            · show Wq G M12_thing 154 [some (.ref 79), some (.int (nI C)), some (.int (nI (pX w (nX w) + (ivL w (abvs w C)).length))), some (.int (nI k + 1)), none] [] (0, 0) (sI w1 40 4 (ma w1 15 (nI k).toNatClampNeg).toNatClampNeg 1) Q
              rw [ek, l1, nI_1, nI_clamp (by omega)]
              refine ih (k + 1) _ n l (by omega) ?_ hLI hset
              have hS2 := hS.I2 (r := 40) (k := 4) (i := l k) (v := 1) rfl
              have e : sI (rJ (rI w 4 (fun i => cIf (i ∈ abvs w C ∨ ∃ j, j < k ∧ l j = i) 1 (ma w 4 i))) 23 (putL (ml w 23) (pX w (nX w)) (ivL w (abvs w C)))) 40 4 (l k) 1 = rJ (rI w 4 (fun i => cIf (i ∈ abvs w C ∨ ∃ j, j < k + 1 ∧ l j = i) 1 (ma w 4 i))) 23 (putL (ml w 23) (pX w (nX w)) (ivL w (abvs w C))) := by
                show rJ (sI (rI w 4 _) 40 4 (l k) 1) 23 _ = _
                rw [rI_sI]
                congr 2
                funext i
                by_cases ei : i = l k
                · rw [if_pos ei, cIf_t (Or.inr ⟨k, by omega, ei.symm⟩)]
                · rw [if_neg ei]
                  by_cases q : i ∈ abvs w C ∨ ∃ j, j < k ∧ l j = i
                  · rw [cIf_t q, cIf_t (q.elim Or.inl (fun ⟨j, hj, e⟩ => Or.inr ⟨j, by omega, e⟩))]
                  · have q2 : ¬ (i ∈ abvs w C ∨ ∃ j, j < k + 1 ∧ l j = i) := by
                      rintro (z | ⟨j, hj, e⟩)
                      · exact q (Or.inl z)
                      · by_cases ej : j = k
                        · rw [ej] at e; exact ei e.symm
                        · exact q (Or.inr ⟨j, by omega, e⟩)
                    rw [cIf_f q, cIf_f q2]
              rw [e] at hS2
              exact hS2
        have behind : Wq G M12_thing 147 [some (.ref 79), some (.int (nI C)), some (.int (nI (pX w (nX w) + (ivL w (abvs w C)).length))), none, none] [] (0, 0) (rJ (rI w 4 (fun i => cIf (i ∈ abvs w C) 1 (ma w 4 i))) 23 (putL (ml w 23) (pX w (nX w)) (ivL w (abvs w C)))) Q := by
          have hI1 : TInv (rJ (rI w 4 (fun i => cIf (i ∈ abvs w C) 1 (ma w 4 i))) 23 (putL (ml w 23) (pX w (nX w)) (ivL w (abvs w C)))) := by
            refine tinv_cl hI (fun i => ?_) (fun i hi => ?_)
            · by_cases q : i ∈ abvs w C
              · exact Or.inl (cIf_t q)
              · exact Or.inr (cIf_f q)
            · exact cIf_f (fun q => by have := (abvs_in hI C hC hs i q).2.1; omega)
          refine Wq.go ok12_thing 40 [154] ?_
          refine c12_facesOf hI1 hC (fun w1 n l hS hL hset => ?_)
          refine faces n 0 w1 n l (Nat.zero_add _) ?_ hL (fun i => ?_)
          · have ef : (fun i => cIf (i ∈ abvs w C ∨ ∃ j, j < 0 ∧ l j = i) 1 (ma w 4 i)) = (fun i => cIf (i ∈ abvs w C) 1 (ma w 4 i)) := by
              funext i
              rw [show (i ∈ abvs w C ∨ ∃ j, j < 0 ∧ l j = i) = (i ∈ abvs w C) from propext ⟨fun q => q.elim id (fun ⟨j, hj, _⟩ => absurd hj (by omega)), Or.inl⟩]
            rw [ef]
            exact hS.toSc
          · have eFO := (te_cl w (fun i => cIf (i ∈ abvs w C) 1 (ma w 4 i)) (putL (ml w 23) (pX w (nX w)) (ivL w (abvs w C)))).eFO
            have eT : nT w1 = nT w := hS.toSc.c nT (fun _ => rfl)
            rw [eFO] at hset
            constructor
            · rintro ⟨j, hj, rfl⟩
              obtain ⟨l1, l2, l3, l4⟩ := hL.2.1 j hj
              exact (hset (l j) (by omega)).mp l4
            · intro q
              have hfin := q.in_ hI hC
              rcases hL.2.2.2 i (by omega) with z | ⟨z, j, hj, e⟩
              · have := (hset i (by omega)).mpr q
                rw [show ma w1 16 i = 1 from this] at z
                exact absurd z (by decide)
              · exact ⟨j, hj, e⟩
        -- the classes above
        have chain : ∀ (N d : Nat) (dn : List Nat) (vs : List Int64), d < N → d < nT w → ma w 0 d = 1 → abvs w C = dn ++ abvs w d → ivL w (abvs w C) = vs ++ ivL w (abvs w d) → vs.length + 10 * d ≤ 10 * C → Wq G M12_thing 58 [some (.ref 79), some (.int (nI C)), some (.int (nI (pX w (nX w) + vs.length))), some (.int (nI d)), none] [] (0, 0) (rJ (rI w 4 (fun i => cIf (i ∈ dn) 1 (ma w 4 i))) 23 (putL (ml w 23) (pX w (nX w)) vs)) Q := by
          intro N
          induction N with
          | zero => intro d dn vs h0; omega
          | succ N ihN =>
            intro d dn vs hN hd hsd hdn hvs hlen
            have hin : vp_in (nI d) 100 := in_nI (by omega) (by decide)
            have ed : (nI d).toNatClampNeg = d := nI_clamp (by omega)
            obtain ⟨m1, m2, m3, m4⟩ := hI.mbs (i := d) (by omega)
            have inner : ∀ (r k : Nat), k + r = nM w d → Wq G M12_thing 72 [some (.ref 79), some (.int (nI C)), some (.int (nI (pX w (nX w) + (vs ++ ivF w d k).length))), some (.int (nI d)), some (.int (nI k))] [] (0, 0) (rJ (rI w 4 (fun i => cIf (i ∈ dn ++ [d]) 1 (ma w 4 i))) 23 (putL (ml w 23) (pX w (nX w)) (vs ++ ivF w d k))) Q := by
              intro r
              induction r with
              | zero =>
                intro k hk
                have hk : k = nM w d := by omega
                subst hk
                refine Wq.go ok12_thing 40 [58] ?_
                refine And.intro hin (And.intro (fun _ => And.intro hin ?_) (fun (q : ¬ ma w 7 (nI d).toNatClampNeg ≤ nI (nM w d)) => absurd (by rw [ed, m1]; exact nI_le (by omega) (by omega)) q))
                show Wq G M12_thing 58 [some (.ref 79), some (.int (nI C)), some (.int (nI (pX w (nX w) + (vs ++ ivC w d).length))), some (.int (ma w 1 (nI d).toNatClampNeg)), some (.int (nI (nM w d)))] [] (0, 0) _ Q
                rw [ed]
                by_cases h8 : d = 8
                · subst h8
                  rw [hI.2.2.2.1]
                  refine Wq.go ok12_thing 30 [147] ?_
                  refine And.intro (fun _ => ?_) (fun q => absurd (by decide) q)
                  refine Wq.ls (ls' := [some (.ref 79), some (.int (nI C)), some (.int (nI (pX w (nX w) + (vs ++ ivC w 8).length))), none, none]) ⟨rfl, rfl, rfl, trivial⟩ ?_
                  rw [abvs_8] at hdn hvs
                  have hvs' : ivL w (abvs w C) = vs ++ ivC w 8 := by rw [hvs]; show vs ++ (ivC w 8 ++ []) = _; rw [List.append_nil]
                  have b := behind
                  rw [hvs', hdn] at b
                  exact b
                · obtain ⟨u1, u2, u3, u4⟩ := hI.up hd hsd h8
                  rw [u1]
                  refine Wq.ls (ls' := [some (.ref 79), some (.int (nI C)), some (.int (nI (pX w (nX w) + (vs ++ ivC w d).length))), some (.int (nI (upN w d))), none]) ⟨rfl, rfl, rfl, rfl, trivial⟩ ?_
                  refine ihN (upN w d) (dn ++ [d]) (vs ++ ivC w d) (by omega) (by omega) u4 ?_ ?_ ?_
                  · rw [hdn, abvs_c hI hd hsd h8, List.append_assoc]; rfl
                  · rw [hvs, abvs_c hI hd hsd h8, List.append_assoc]; rfl
                  · rw [List.length_append]
                    have : (ivC w d).length ≤ nM w d := ivF_len w d (nM w d)
                    omega
              | succ r ihr =>
                intro k hk
                have ea : (10 : Int32) * nI d + nI k = nI (10 * d + k) := ix10 d k
                have hina : vp_in ((10 : Int32) * nI d + nI k) 1000 := by rw [ea]; exact in_nI (by omega) (by decide)
                have hl := ivF_len w d k
                have hll : (vs ++ ivF w d k).length = vs.length + (ivF w d k).length := List.length_append
                have hd8 := hI.c8 hd hsd
                have hinp : vp_in (nI (pX w (nX w) + (vs ++ ivF w d k).length)) 60000 := in_nI (by omega) (by decide)
                have ep : (nI (pX w (nX w) + (vs ++ ivF w d k).length)).toNatClampNeg = pX w (nX w) + (vs ++ ivF w d k).length := nI_clamp (by omega)
                have nx : ∀ (vs' : List Int64) (g : Nat → Int64), ivF w d (k + 1) = vs' → g = putL (ml w 23) (pX w (nX w)) (vs ++ vs') → Wq G M12_thing 131 [some (.ref 79), some (.int (nI C)), some (.int (nI (pX w (nX w) + (vs ++ vs').length))), some (.int (nI d)), some (.int (nI k))] [] (0, 0) (rJ (rI w 4 (fun i => cIf (i ∈ dn ++ [d]) 1 (ma w 4 i))) 23 g) Q := by
                  intro vs' g hv hg
                  refine Wq.go ok12_thing 40 [72] ?_
                  show Wq G M12_thing 72 [some (.ref 79), some (.int (nI C)), some (.int (nI (pX w (nX w) + (vs ++ vs').length))), some (.int (nI d)), some (.int (nI k + 1))] [] (0, 0) _ Q
                  rw [nI_1, hg, ← hv]
                  exact ihr (k + 1) (by omega)
                refine Wq.go ok12_thing 60 [131] ?_
                refine And.intro hin (And.intro (fun (q : ma w 7 (nI d).toNatClampNeg ≤ nI k) => ?_) (fun _ => ?_))
                · rw [ed, m1, nI_leI (by omega) (by omega)] at q; omega
                · show Con G M12_isPlace [.ref 79, .int ((10 : Int32) * nI d + nI k)] _ _
                  rw [ea]
                  refine c12_isPlace (by omega) (And.intro (fun c5 => ?_) (fun c5 => And.intro hina ?_))
                  · rw [bI_0] at c5
                    have e : ivF w d (k + 1) = ivF w d k := by
                      show ivF w d k ++ cIf (isP w (10 * d + k)) _ [] = _
                      rw [cIf_f (show ¬ isP w (10 * d + k) from c5), List.append_nil]
                    exact nx (ivF w d k) _ e rfl
                  · rw [bI_n0] at c5
                    have e : ivF w d (k + 1) = ivF w d k ++ [laneV (ma w 10 (10 * d + k))] := by
                      show ivF w d k ++ cIf (isP w (10 * d + k)) _ [] = _
                      rw [cIf_t (show isP w (10 * d + k) from c5)]
                    have fin : ∀ v : Int64, v = laneV (ma w 10 (10 * d + k)) → Wq G M12_thing 131 [some (.ref 79), some (.int (nI C)), some (.int (nI (pX w (nX w) + (vs ++ ivF w d k).length) + 1)), some (.int (nI d)), some (.int (nI k))] [] (0, 0) (sJ (rJ (rI w 4 (fun i => cIf (i ∈ dn ++ [d]) 1 (ma w 4 i))) 23 (putL (ml w 23) (pX w (nX w)) (vs ++ ivF w d k))) 40 23 (nI (pX w (nX w) + (vs ++ ivF w d k).length)).toNatClampNeg v) Q := by
                      intro v hv
                      rw [ep, rJ_sJ, putL_snoc, nI_1, hv, show pX w (nX w) + (vs ++ ivF w d k).length + 1 = pX w (nX w) + (vs ++ (ivF w d k ++ [laneV (ma w 10 (10 * d + k))])).length by simp; omega]
                      exact nx _ _ e (by rw [List.append_assoc])
                    show Con G M12_isLane [.int (ma w 10 ((10 : Int32) * nI d + nI k).toNatClampNeg)] _ _
                    rw [ea, nI_clamp (by omega)]
                    refine c12_isLane (And.intro (fun c6 => And.intro hinp ?_) (fun c6 => And.intro hinp ?_))
                    · rw [bI_0] at c6
                      exact fin (-1) (cIf_f c6).symm
                    · rw [bI_n0] at c6
                      exact fin 0 (cIf_t c6).symm
            refine Wq.go ok12_thing 40 [72] ?_
            refine And.intro (fun q => absurd q (nI_pos (by omega))) (fun _ => And.intro rfl (And.intro hin ?_))
            show Wq G M12_thing 72 [some (.ref 79), some (.int (nI C)), some (.int (nI (pX w (nX w) + vs.length))), some (.int (nI d)), some (.int (nI 0))] [] (0, 0) (sI (rJ (rI w 4 (fun i => cIf (i ∈ dn) 1 (ma w 4 i))) 23 (putL (ml w 23) (pX w (nX w)) vs)) 40 4 (nI d).toNatClampNeg 1) Q
            rw [ed]
            have e : sI (rJ (rI w 4 (fun i => cIf (i ∈ dn) 1 (ma w 4 i))) 23 (putL (ml w 23) (pX w (nX w)) vs)) 40 4 d 1 = rJ (rI w 4 (fun i => cIf (i ∈ dn ++ [d]) 1 (ma w 4 i))) 23 (putL (ml w 23) (pX w (nX w)) vs) := by
              show rJ (sI (rI w 4 _) 40 4 d 1) 23 _ = _
              rw [rI_sI]
              congr 2
              funext i
              by_cases ei : i = d
              · rw [if_pos ei, cIf_t (by simp [ei])]
              · rw [if_neg ei]
                by_cases q : i ∈ dn
                · rw [cIf_t q, cIf_t (by simp [q])]
                · rw [cIf_f q, cIf_f (by simp [q, ei])]
            rw [e]
            have := inner (nM w d) 0 (Nat.zero_add _)
            rw [show ivF w d 0 = [] from rfl, List.append_nil] at this
            exact this
        have hin61 : vp_in (mi w 22) 61 := by rw [x1]; exact in_nI (by omega) (by decide)
        refine Wq.go ok12_thing 40 [58] ?_
        refine And.intro hin61 ?_
        show Wq G M12_thing 58 [some (.ref 79), some (.int (nI C)), some (.int (ma w 22 (mi w 22).toNatClampNeg)), some (.int (nI C)), none] [] (0, 0) w Q
        rw [x1, nI_clamp (by omega), p1]
        have := chain (C + 1) C [] [] (by omega) hC hs rfl rfl (by simp)
        rw [putL_nil, show (fun i => cIf (i ∈ ([] : List Nat)) 1 (ma w 4 i)) = ma w 4 from (by funext i; exact cIf_f (by simp)), rI_self, rJ_self] at this
        exact this
      · rw [cIf_t c3] at h
        exact c12_fail (h _ Sc.rf)
    · rw [cIf_t c2] at h
      exact c12_fail (h _ Sc.rf)
  · rw [bI_0] at c1
    rw [cIf_t c1] at h
    exact c12_fail (h _ Sc.rf)
end
