/-! ===== the faces of a type, told; what is under what ===== -/
section
variable {G : qGX} {w : qSt} {Q : Option Value → qSt → Prop}
theorem c12_facesOf {t : Nat} (hI : TInv w) (ht : t < nT w) (h : ∀ w' n l, Sf w w' → LI w' n l → (∀ f, f < 100 → (Lst w' f ↔ FOf w t f)) → Q none w') : Con G M12_facesOf [.ref 79, .int (nI t)] w Q := by
  have h100 := hI.le
  have hin : vp_in (nI t) 100 := in_nI (by omega) (by decide)
  have e2 : (nI t).toNatClampNeg = t := nI_clamp (by omega)
  -- the classes above
  have chain : ∀ (N c : Nat) (w1 : qSt) (n : Nat) (l : Nat → Nat) (P : Nat → Prop), c < N → c < nT w → ma w 0 c = 1 → Sf w w1 → LI w1 n l → (∀ f, f < 100 → (Lst w1 f ↔ P f)) → (∀ a g, P a → tld w a g → P g) → (∀ w' n l, Sf w w' → LI w' n l → (∀ f, f < 100 → (Lst w' f ↔ P f ∨ ∃ d ∈ abvs w c, FO1 w d f)) → Q none w') →
      Wq G M12_facesOf 57 [some (.ref 79), some (.int (nI t)), some (.int (nI c))] [] (0, 0) w1 Q := by
    intro N
    induction N with
    | zero => intro c w1 n l P h0; omega
    | succ N ih =>
      intro c w1 n l P hN hc hs hSf hLI hP hcl hq
      have hinc : vp_in (nI c) 100 := in_nI (by omega) (by decide)
      have ec : (nI c).toNatClampNeg = c := nI_clamp (by omega)
      have hI1 : TInv w1 := (hSf.c TInv (fun _ => rfl)).mpr hI
      have eF : FO1 w1 = FO1 w := hSf.c FO1 (fun _ => rfl)
      have eL : tld w1 = tld w := hSf.c tld (fun _ => rfl)
      refine Wq.go ok12_facesOf 30 [57] ?_
      refine And.intro (fun q => absurd q (nI_pos (by omega))) (fun _ => ?_)
      refine c12_listFaces hI1 (by omega) hLI (fun f hf hl g hg => ?_) (fun w2 n2 l2 hS2 hL2 hset => ?_)
      · rw [eL] at hg
        have h1 := hcl f g ((hP f hf).mp hl) hg
        exact (hP g (by have := tld_in hI (by omega) hg; omega)).mpr h1
      · have hSf2 := hSf.tr hS2
        refine And.intro hinc ?_
        show Wq G M12_facesOf 57 [some (.ref 79), some (.int (nI t)), some (.int (ma w2 1 (nI c).toNatClampNeg))] [] (0, 0) w2 Q
        have e1 : ma w2 1 = ma w 1 := hSf2.c (fun w => ma w 1) (fun _ => rfl)
        rw [ec, e1]
        have hset2 : ∀ f, f < 100 → (Lst w2 f ↔ P f ∨ FO1 w c f) := fun f hf => by rw [hset f hf, hP f hf, eF]
        by_cases h8 : c = 8
        · subst h8
          rw [hI.2.2.2.1]
          refine Wq.go ok12_facesOf 30 [57] ?_
          refine And.intro (fun _ => ?_) (fun q => absurd (by decide) q)
          refine hq w2 n2 l2 hSf2 hL2 (fun f hf => ?_)
          rw [hset2 f hf, abvs_8]
          refine or_congr_right ⟨fun q => ⟨8, List.mem_cons_self, q⟩, fun ⟨d, hd, q⟩ => ?_⟩
          rw [List.mem_singleton] at hd
          rw [← hd]; exact q
        · obtain ⟨u1, u2, u3, u4⟩ := hI.up hc hs h8
          rw [u1]
          refine ih (upN w c) w2 n2 l2 (fun f => P f ∨ FO1 w c f) (by omega) (by omega) u4 hSf2 hL2 hset2 (fun a g p q => p.elim (fun p => Or.inl (hcl a g p q)) (fun p => Or.inr (p.step q))) (fun w' n l s1 s2 s3 => hq w' n l s1 s2 (fun f hf => ?_))
          rw [s3 f hf, abvs_c hI hc hs h8, or_assoc]
          refine or_congr_right ⟨fun q => ?_, fun ⟨d, hd, q⟩ => ?_⟩
          · rcases q with q | ⟨d, hd, q⟩
            · exact ⟨c, List.mem_cons_self, q⟩
            · exact ⟨d, List.mem_cons_of_mem _ hd, q⟩
          · rcases List.mem_cons.mp hd with e | e
            · rw [e] at q; exact Or.inl q
            · exact Or.inr ⟨d, e, q⟩
  -- behind the face's own
  have second : ∀ (w1 : qSt) (n : Nat) (l : Nat → Nat) (x : Int32), Sf w w1 → LI w1 n l → (∀ f, f < 100 → (Lst w1 f ↔ (ma w 0 t = 2 ∧ FO1 w t f))) → Wq G M12_facesOf 41 [some (.ref 79), some (.int (nI t)), some (.int x)] [] (0, 0) w1 Q := by
    intro w1 n l x hSf hLI hset
    have e0 : ma w1 0 = ma w 0 := hSf.c (fun w => ma w 0) (fun _ => rfl)
    refine Wq.go ok12_facesOf 30 [57] ?_
    refine And.intro hin (And.intro (fun c => ?_) (fun c => ?_))
    · have c' : ¬ ma w1 0 (nI t).toNatClampNeg = 1 := c
      rw [e2, e0] at c'
      refine Wq.go (ls := [some (.ref 79), some (.int (nI t)), some (.int (-1))]) ok12_facesOf 30 [] ?_
      refine And.intro (fun _ => ?_) (fun q => absurd (by decide) q)
      refine h w1 n l hSf hLI (fun f hf => ?_)
      rw [hset f hf]
      exact ⟨Or.inl, fun q => q.elim id (fun q => absurd q.1 c')⟩
    · have c' : ma w1 0 (nI t).toNatClampNeg = 1 := c
      rw [e2, e0] at c'
      refine chain (t + 1) t w1 n l (fun _ => False) (by omega) ht c' hSf hLI (fun f hf => ?_) (fun _ _ p _ => p) (fun w' n l s1 s2 s3 => h w' n l s1 s2 (fun f hf => ?_))
      · rw [hset f hf]
        exact ⟨fun q => by rw [c'] at q; exact absurd q.1 (by decide), False.elim⟩
      · rw [s3 f hf]
        refine ⟨fun q => Or.inr ⟨c', q.elim False.elim id⟩, fun q => ?_⟩
        rcases q with q | q
        · rw [c'] at q; exact absurd q.1 (by decide)
        · exact Or.inr q.2
  -- the list is emptied
  have clear : ∀ (k j : Nat) (w1 : qSt), j + k = 100 → Sf w w1 → (∀ f, f < j → ma w1 16 f = 0) → Wq G M12_facesOf 2 [some (.ref 79), some (.int (nI t)), some (.int (nI j))] [] (0, 0) w1 Q := by
    intro k
    induction k with
    | zero =>
      intro j w1 hj hSf hz
      have hj : j = 100 := by omega
      subst hj
      refine Wq.go ok12_facesOf 30 [41] ?_
      refine And.intro (fun _ => ?_) (fun q => absurd (by decide) q)
      have hSf2 : Sf w (sI w1 12 18 0 0) := hSf.I rfl rfl
      have hLI : LI (sI w1 12 18 0 0) 0 (fun _ => 0) := ⟨rfl, fun k hk => absurd hk (by omega), fun i j _ hj => absurd hj (by omega), fun f hf => Or.inl (hz f hf)⟩
      have hN : ∀ f, f < 100 → ¬ Lst (sI w1 12 18 0 0) f := fun f hf q => by
        have : ma w1 16 f = 1 := q
        rw [hz f hf] at this; exact absurd this (by decide)
      have e0 : ma w1 0 = ma w 0 := hSf.c (fun w => ma w 0) (fun _ => rfl)
      refine And.intro hin (And.intro (fun c => ?_) (fun c => ?_))
      · have c' : ¬ ma w1 0 (nI t).toNatClampNeg = 2 := c
        rw [e2, e0] at c'
        exact second _ 0 _ _ hSf2 hLI (fun f hf => ⟨fun q => absurd q (hN f hf), fun q => absurd q.1 c'⟩)
      · have c' : ma w1 0 (nI t).toNatClampNeg = 2 := c
        rw [e2, e0] at c'
        have hI1 : TInv (sI w1 12 18 0 0) := (hSf2.c TInv (fun _ => rfl)).mpr hI
        have eF : FO1 (sI w1 12 18 0 0) = FO1 w := hSf2.c FO1 (fun _ => rfl)
        refine c12_listFaces hI1 (by omega) hLI (fun f hf hl => absurd hl (hN f hf)) (fun w2 n2 l2 hS2 hL2 hset => ?_)
        refine second w2 n2 l2 _ (hSf2.tr hS2) hL2 (fun f hf => ?_)
        rw [hset f hf, eF]
        exact ⟨fun q => ⟨c', q.elim (fun q => absurd q (hN f hf)) id⟩, fun q => Or.inr q.2⟩
    | succ k ih =>
      intro j w1 hj hSf hz
      have hinj : vp_in (nI j) 100 := in_nI (by omega) (by decide)
      refine Wq.go ok12_facesOf 30 [2] ?_
      refine And.intro (fun (q : (100 : Int32) ≤ nI j) => ?_) (fun _ => And.intro rfl (And.intro hinj ?_))
      · rw [c_100, nI_leI (by omega) (by omega)] at q; omega
      · show Wq G M12_facesOf 2 [some (.ref 79), some (.int (nI t)), some (.int (nI j + 1))] [] (0, 0) (sI w1 40 16 (nI j).toNatClampNeg 0) Q
        rw [nI_1, nI_clamp (by omega)]
        refine ih (j + 1) _ (by omega) (hSf.I rfl rfl) (fun f hf => ?_)
        show u3 w1.1 40 16 j 0 40 16 f = 0
        by_cases e : f = j
        · rw [e, u3_at]
        · rw [u3_off _ _ (fun q => e q.2.2)]
          exact hz f (by omega)
  refine Con.go hw12_facesOf ok12_facesOf 30 [2] rfl ?_
  exact clear 100 0 w rfl Sf.rf (fun f hf => absurd hf (by omega))
theorem c12_isFaceOf {t f : Nat} (hI : TInv w) (ht : t < nT w) (hf : f < 100) (h : ∀ w', Sf w w' → Q (some (.int (bI (FOf w t f)))) w') : Con G M12_isFaceOf [.ref 79, .int (nI f), .int (nI t)] w Q := by
  have h100 := hI.le
  refine Con.go hw12_isFaceOf ok12_isFaceOf 30 [] rfl ?_
  refine c12_facesOf hI ht (fun w' n l hS hL hset => ?_)
  refine And.intro (in_nI (N := 100) hf (by decide)) ?_
  show (ma w' 16 (nI f).toNatClampNeg) &&& 1 = ma w' 16 (nI f).toNatClampNeg ∧ Q (some (.int (ma w' 16 (nI f).toNatClampNeg))) w'
  rw [nI_clamp (by omega)]
  have e : ma w' 16 f = bI (FOf w t f) := by
    by_cases hq : FOf w t f
    · rw [bI_t hq]; exact (hset f hf).mpr hq
    · rw [bI_f hq]
      rcases hL.2.2.2 f hf with q | q
      · exact q
      · exact absurd ((hset f hf).mp q.1) hq
  rw [e]
  exact ⟨bI_and _, h w' hS⟩
/-- S is T: bases and depths -/
def soP (m : qSt) (s ds t dt : Nat) : Prop := (ds ≠ dt ∧ dt < ds ∧ t = 8) ∨ (ds = dt ∧ (s = t ∨ (8 ≤ s ∧ 8 ≤ t ∧ (t = 8 ∨ (ma m 0 s = 1 ∧ t ∈ abvs m s) ∨ FOf m s t))))
theorem isL_nI {j : Nat} (hj : j < 2147483648) : isL (nI j) ↔ j < 8 := by
  rw [isL_iff, nI_t hj]; omega
theorem c12_isSo {s ds t dt : Nat} (hI : TInv w) (hs : s < nT w) (ht : t < nT w) (hds : ds < 1000) (hdt : dt < 1000) (h : ∀ w', Sf w w' → Q (some (.int (bI (soP w s ds t dt)))) w') : Con G M12_isSo [.ref 79, .int (nI s), .int (nI ds), .int (nI t), .int (nI dt)] w Q := by
  have h100 := hI.le
  have fin : ∀ (v : Int32) (b : Prop) (w' : qSt), Sf w w' → v = bI b → (b ↔ soP w s ds t dt) → (v &&& 1 = v ∧ Q (some (.int v)) w') := by
    intro v b w' hS hv hb
    rw [hv, bI_c hb]
    exact ⟨bI_and _, h w' hS⟩
  refine Con.go hw12_isSo ok12_isSo 40 [] rfl ?_
  refine And.intro (fun (c : nI ds = nI dt) => ?_) (fun (c : ¬ nI ds = nI dt) => ?_) <;> rw [nI_eqI (by omega) (by omega)] at c
  · refine And.intro (fun (c2 : ¬ nI s = nI t) => ?_) (fun (c2 : nI s = nI t) => ?_) <;> rw [nI_eqI (by omega) (by omega)] at c2
    · refine c12_isLane (And.intro (fun c3 => ?_) (fun c3 => ?_))
      · rw [bI_n0, isL_nI (by omega)] at c3
        exact fin 0 False w Sf.rf (bI_f id).symm ⟨False.elim, fun q => by
          rcases q with q | ⟨_, q | q⟩
          · exact absurd c q.1
          · exact absurd q c2
          · omega⟩
      · rw [bI_0, isL_nI (by omega)] at c3
        refine c12_isLane (And.intro (fun c4 => ?_) (fun c4 => ?_))
        · rw [bI_n0, isL_nI (by omega)] at c4
          exact fin 0 False w Sf.rf (bI_f id).symm ⟨False.elim, fun q => by
            rcases q with q | ⟨_, q | q⟩
            · exact absurd c q.1
            · exact absurd q c2
            · omega⟩
        · rw [bI_0, isL_nI (by omega)] at c4
          refine And.intro (fun (c5 : nI t = 8) => ?_) (fun (c5 : ¬ nI t = 8) => ?_) <;> rw [c_8, nI_eqI (by omega) (by omega)] at c5
          · exact fin 1 True w Sf.rf (bI_t trivial).symm ⟨fun _ => Or.inr ⟨c, Or.inr ⟨by omega, by omega, Or.inl c5⟩⟩, fun _ => trivial⟩
          · refine c12_isAbove hI hs (by omega) (And.intro (fun c6 => ?_) (fun c6 => ?_))
            · rw [bI_n0] at c6
              exact fin 1 True w Sf.rf (bI_t trivial).symm ⟨fun _ => Or.inr ⟨c, Or.inr ⟨by omega, by omega, Or.inr (Or.inl c6)⟩⟩, fun _ => trivial⟩
            · rw [bI_0] at c6
              refine c12_isFaceOf hI hs (by omega) (fun w' hS => And.intro (fun c7 => ?_) (fun c7 => ?_))
              · rw [bI_0] at c7
                exact fin 0 False w' hS (bI_f id).symm ⟨False.elim, fun q => by
                  rcases q with q | ⟨_, q | ⟨_, _, q | q | q⟩⟩
                  · exact absurd c q.1
                  · exact absurd q c2
                  · exact absurd q c5
                  · exact absurd q c6
                  · exact absurd q c7⟩
              · rw [bI_n0] at c7
                exact fin 1 True w' hS (bI_t trivial).symm ⟨fun _ => Or.inr ⟨c, Or.inr ⟨by omega, by omega, Or.inr (Or.inr c7)⟩⟩, fun _ => trivial⟩
    · exact fin 1 True w Sf.rf (bI_t trivial).symm ⟨fun _ => Or.inr ⟨c, Or.inl c2⟩, fun _ => trivial⟩
  · refine And.intro (fun (c2 : nI ds ≤ nI dt) => ?_) (fun (c2 : ¬ nI ds ≤ nI dt) => ?_) <;> rw [nI_leI (by omega) (by omega)] at c2
    · exact fin 0 False w Sf.rf (bI_f id).symm ⟨False.elim, fun q => by
        rcases q with q | q
        · omega
        · exact absurd q.1 c⟩
    · refine And.intro (fun (c5 : ¬ nI t = 8) => ?_) (fun (c5 : nI t = 8) => ?_) <;> rw [c_8, nI_eqI (by omega) (by omega)] at c5
      · exact fin 0 False w Sf.rf (bI_f id).symm ⟨False.elim, fun q => by
          rcases q with q | q
          · exact absurd q.2.2 c5
          · exact absurd q.1 c⟩
      · exact fin 1 True w Sf.rf (bI_t trivial).symm ⟨fun _ => Or.inl ⟨c, by omega, c5⟩, fun _ => trivial⟩
noncomputable def S_is (w : qSt) (s t : Int32) : Int32 × qSt := cIf (¬ isT w s ∨ ¬ isT w t) (-1, stt w (-1)) (bI (soP w (baN w (tn s)) (dpN w (tn s)) (baN w (tn t)) (dpN w (tn t))), stt w 0)
theorem c12_is {s t : Int32} (hI : TInv w) (h : ∀ w', Sc (S_is w s t).2 w' → Q (some (.int (S_is w s t).1)) w') : Con G M12_is [.ref 79, .int s, .int t] w Q := by
  have h100 := hI.le
  unfold S_is at h
  have bad : (¬ isT w s ∨ ¬ isT w t) → Wq G M12_is 16 [some (.ref 79), some (.int s), some (.int t)] [] (0, 0) w Q := by
    intro hb
    rw [cIf_t hb] at h
    exact Wq.go ok12_is 20 [] (c12_fail (h _ Sc.rf))
  refine Con.go hw12_is ok12_is 40 [16] rfl ?_
  refine c12_isType hI.ty (And.intro (fun c => ?_) (fun c => ?_))
  · rw [bI_0] at c
    exact bad (Or.inl c)
  · rw [bI_n0] at c
    refine c12_isType hI.ty (And.intro (fun c2 => ?_) (fun c2 => ?_))
    · rw [bI_n0] at c2
      rw [cIf_f (fun q => q.elim (fun q => q c) (fun q => q c2))] at h
      obtain ⟨i, rfl, hi⟩ := c
      obtain ⟨j, rfl, hj⟩ := c2
      rw [tn_nI (by omega), tn_nI (by omega)] at h
      have b1 := baN_le hI i hi
      have b2 := baN_le hI j hj
      refine c12_base hI hi (c12_depth hI hi (c12_base hI hj (c12_depth hI hj (c12_isSo hI (by omega) (by omega) (by omega) (by omega) (fun w' hS => And.intro (fun c3 => ?_) (fun c3 => ?_))))))
      · rw [bI_0] at c3
        rw [bI_f c3] at h
        exact c12_good (h _ (hS.toSc.I2 rfl))
      · rw [bI_n0] at c3
        rw [bI_t c3] at h
        exact c12_good (h _ (hS.toSc.I2 rfl))
    · rw [bI_0] at c2
      exact bad (Or.inr c2)
end
