/-! ===== the body that is found ===== -/
theorem FOf.in_ {m : qSt} (h : TInv m) {t f : Nat} (ht : t < nT m) (hf : FOf m t f) : 9 ≤ f ∧ f < nT m ∧ ma m 0 f = 2 := by
  have h100 := h.le
  rcases hf with ⟨_, q⟩ | ⟨hs, c, hc, q⟩
  · exact q.in_ h (by omega)
  · exact q.in_ h (by have := (abvs_in h t ht hs c hc).2.1; omega)
/-- the face lends a body of that name -/
def Hv (m : qSt) (c : Nat) (name : Int32) (f : Nat) : Prop := FOf m c f ∧ ¬ mby m f name 0 = -1 ∧ ¬ ma m 12 (10 * f + tn (mby m f name 0)) = 0
/-- and no other that lends one has it among its faces -/
def Mx (m : qSt) (c : Nat) (name : Int32) (f : Nat) : Prop := Hv m c name f ∧ ∀ g, Hv m c name g → g ≠ f → ¬ FOf m g f
noncomputable def codeN (m : qSt) (name : Int32) (f : Nat) : Nat := 10 * f + tn (mby m f name 0)
noncomputable def lendN (m : qSt) (c : Nat) (name : Int32) : Int32 :=
  cIf (∃ f g, f ≠ g ∧ Mx m c name f ∧ Mx m c name g) (-19) (cIf (∃ f, Mx m c name f) (nI (codeN m name (Classical.epsilon (Mx m c name)))) (-17))
theorem lend_0 {m : qSt} {c : Nat} {name : Int32} (h : ∀ f, ¬ Mx m c name f) : lendN m c name = -17 := by
  unfold lendN
  rw [cIf_f (fun ⟨f, g, _, q, _⟩ => h f q), cIf_f (fun ⟨f, q⟩ => h f q)]
theorem lend_1 {m : qSt} {c : Nat} {name : Int32} {f : Nat} (h : Mx m c name f) (hu : ∀ g, Mx m c name g → g = f) : lendN m c name = nI (codeN m name f) := by
  unfold lendN
  rw [cIf_f (fun ⟨a, b, ne, q1, q2⟩ => ne ((hu a q1).trans (hu b q2).symm)), cIf_t ⟨f, h⟩, hu _ (Classical.epsilon_spec ⟨f, h⟩)]
theorem lend_2 {m : qSt} {c : Nat} {name : Int32} {f g : Nat} (hn : f ≠ g) (h : Mx m c name f) (h' : Mx m c name g) : lendN m c name = -19 := by
  unfold lendN
  rw [cIf_t ⟨f, g, hn, h, h'⟩]
noncomputable def fdN (m : qSt) (c : Nat) (name : Int32) : Int32 := match fsF m name 0 (abvs m c) with
  | some a => cIf (ma m 12 a = 0) (-17) (nI a)
  | none => lendN m c name
noncomputable def S_found (w : qSt) (c n : Int32) : Int32 × qSt :=
  cIf (¬ isC w c ∨ ¬ isN n) (-1, stt w (-1)) (cIf (fdN w (tn c) n < 0) (fdN w (tn c) n, stt w (fdN w (tn c) n)) (nI (tld2 (tn (fdN w (tn c) n))), stt w 0))
/-- what is found -/
theorem fd_cases {m : qSt} (hI : TInv m) {c : Nat} (hc : c < nT m) (hs : ma m 0 c = 1) (name : Int32) : fdN m c name = -17 ∨ fdN m c name = -19 ∨ ∃ d j, fdN m c name = nI (10 * d + j) ∧ d < nT m ∧ j < nM m d ∧ ma m 8 (10 * d + j) = 0 ∧ ¬ ma m 12 (10 * d + j) = 0 ∧ (d ∈ abvs m c ∨ FOf m c d) := by
  have h100 := hI.le
  unfold fdN
  cases hf : fsF m name 0 (abvs m c) with
  | some a =>
    obtain ⟨d, hd, j, hj, e, ea, e8, e9⟩ := fsF_in hf
    have hd2 := (abvs_in hI c hc hs d hd).2.1
    have := (hI.mbs (i := d) (by omega)).2.1
    rw [tn_nI (by omega)] at ea
    subst ea
    by_cases hb : ma m 12 (10 * d + j) = 0
    · exact Or.inl (cIf_t hb)
    · exact Or.inr (Or.inr ⟨d, j, cIf_f hb, by omega, hj, e8, hb, Or.inl hd⟩)
  | none =>
    by_cases h2 : ∃ f g, f ≠ g ∧ Mx m c name f ∧ Mx m c name g
    · obtain ⟨f, g, hn, q1, q2⟩ := h2
      exact Or.inr (Or.inl (lend_2 hn q1 q2))
    · by_cases h1 : ∃ f, Mx m c name f
      · obtain ⟨f, q⟩ := h1
        have hu : ∀ g, Mx m c name g → g = f := fun g hg => Classical.byContradiction (fun hn => h2 ⟨g, f, hn, hg, q⟩)
        have hfin := q.1.1.in_ hI hc
        rcases mby_cases m f name 0 with e | ⟨j, hj, e, e8, e9⟩
        · exact absurd e q.1.2.1
        · have := (hI.mbs (i := f) (by omega)).2.1
          have ec : codeN m name f = 10 * f + j := by unfold codeN; rw [e, tn_nI (by omega)]
          have q3 := q.1.2.2
          rw [e, tn_nI (by omega)] at q3
          exact Or.inr (Or.inr ⟨f, j, by show lendN m c name = _; rw [lend_1 q hu, ec], hfin.2.1, hj, e8, q3, Or.inr q.1.1⟩)
      · exact Or.inl (lend_0 (fun f q => h1 ⟨f, q⟩))
/-- those in the row `having` -/
def HvL (w w' : qSt) (c : Nat) (name : Int32) (n m : Nat) (l h : Nat → Nat) (k : Nat) : Prop :=
  Sc w w' ∧ LI w' n l ∧ (∀ f, f < 100 → (Lst w' f ↔ FOf w c f)) ∧ m ≤ k ∧ k ≤ n ∧ (∀ i, i < m → ma w' 18 i = nI (h i) ∧ h i < nT w ∧ Hv w c name (h i)) ∧ (∀ i j, i < j → j < m → h i ≠ h j) ∧ (∀ i, i < k → Hv w c name (l i) → ∃ j, j < m ∧ h j = l i) ∧ (∀ j, j < m → ∃ i, i < k ∧ h j = l i)
def AlP (w : qSt) (m : Nat) (h : Nat → Nat) (k j : Nat) : Prop := ∀ i, i < j → i ≠ k → ¬ FOf w (h i) (h k)
def FnP (w : qSt) (name : Int32) (m : Nat) (h : Nat → Nat) (k : Nat) (v : Int32) : Prop :=
  (v = -17 ∧ ∀ i, i < k → ¬ AlP w m h i m) ∨ (∃ i, i < k ∧ AlP w m h i m ∧ (∀ j, j < k → AlP w m h j m → j = i) ∧ v = nI (codeN w name (h i))) ∨ (v = -19 ∧ ∃ i j, i < k ∧ j < k ∧ i ≠ j ∧ AlP w m h i m ∧ AlP w m h j m)
section
variable {G : qGX} {w : qSt} {Q : Option Value → qSt → Prop}
theorem c12_find {c : Nat} {name : Int32} (hI : TInv w) (hc : c < nT w) (hs : ma w 0 c = 1) (h : ∀ w', Sc w w' → Q (some (.int (fdN w c name))) w') : Con G M12_find [.ref 79, .int (nI c), .int name] w Q := by
  have h100 := hI.le
  -- the alone ones
  have third : ∀ (w1 : qSt) (m : Nat) (hv : Nat → Nat), Sc w w1 → m ≤ 100 → (∀ i, i < m → ma w1 18 i = nI (hv i) ∧ hv i < nT w ∧ Hv w c name (hv i)) → (∀ i j, i < j → j < m → hv i ≠ hv j) → (∀ f, Hv w c name f → ∃ j, j < m ∧ hv j = f) → fdN w c name = lendN w c name → Wq G M12_find 140 [some (.ref 79), some (.int (nI c)), some (.int name), some (.int (nI m)), none, none, none, none] [] (0, 0) w1 Q := by
    intro w1 m hv hSc1 hm hh hinj hall hfd
    have alM : ∀ k, k < m → (AlP w m hv k m ↔ Mx w c name (hv k)) := by
      intro k hk
      refine ⟨fun q => ⟨(hh k hk).2.2, fun g hg hne => ?_⟩, fun q i hi hne => ?_⟩
      · obtain ⟨i, hi, rfl⟩ := hall g hg
        exact q i hi (fun e => hne (by rw [e]))
      · refine q.2 (hv i) (hh i hi).2.2 ?_
        rcases Nat.lt_or_ge i k with hik | hik
        · exact hinj i k hik hk
        · exact fun e => hinj k i (by omega) hi e.symm
    have outer : ∀ (r k : Nat) (v : Int32) (w2 : qSt), k + r = m → Sf w1 w2 → FnP w name m hv k v → Wq G M12_find 147 [some (.ref 79), some (.int (nI c)), some (.int name), some (.int (nI m)), some (.int v), some (.int (nI k)), none, none] [] (0, 0) w2 Q := by
      intro r
      induction r with
      | zero =>
        intro k v w2 hk hSf hF
        have hk : k = m := by omega
        subst hk
        refine Wq.go ok12_find 20 [] ?_
        refine And.intro (fun _ => ?_) (fun (q : ¬ nI k ≤ nI k) => absurd (by rw [i32_le]; omega) q)
        show Q (some (.int v)) w2
        have ev : v = fdN w c name := by
          rw [hfd]
          rcases hF with ⟨e, q⟩ | ⟨i, hi, q1, q2, e⟩ | ⟨e, i, j, hi, hj, hne, q1, q2⟩
          · rw [e]
            refine (lend_0 (fun f q' => ?_)).symm
            obtain ⟨j, hj, rfl⟩ := hall f q'.1
            exact q j hj ((alM j hj).mpr q')
          · rw [e]
            refine (lend_1 ((alM i hi).mp q1) (fun g hg => ?_)).symm
            obtain ⟨j, hj, rfl⟩ := hall g hg.1
            rw [q2 j hj ((alM j hj).mpr hg)]
          · rw [e]
            refine (lend_2 ?_ ((alM i hi).mp q1) ((alM j hj).mp q2)).symm
            rcases Nat.lt_or_ge i j with hij | hij
            · exact hinj i j hij hj
            · exact fun e => hinj j i (by omega) hi e.symm
        rw [ev]
        exact h w2 (hSc1.tr hSf.toSc)
      | succ r ihr =>
        intro k v w2 hk hSf hF
        -- behind the inner loop
        have next : ∀ (v' : Int32) (w3 : qSt) (x y : Option Value), Sf w1 w3 → FnP w name m hv (k + 1) v' → Wq G M12_find 254 [some (.ref 79), some (.int (nI c)), some (.int name), some (.int (nI m)), some (.int v'), some (.int (nI k)), none, none] [] (0, 0) w3 Q := by
          intro v' w3 x y hSf3 hF'
          refine Wq.go ok12_find 20 [147] ?_
          show Wq G M12_find 147 [some (.ref 79), some (.int (nI c)), some (.int name), some (.int (nI m)), some (.int v'), some (.int (nI k + 1)), none, none] [] (0, 0) w3 Q
          rw [nI_1]
          exact ihr (k + 1) v' w3 (by omega) hSf3 hF'
        have inner : ∀ (s j : Nat) (p : Prop) (w3 : qSt), j + s = m → Sf w1 w3 → (p ↔ AlP w m hv k j) → Wq G M12_find 159 [some (.ref 79), some (.int (nI c)), some (.int name), some (.int (nI m)), some (.int v), some (.int (nI k)), some (.int (bI p)), some (.int (nI j))] [] (0, 0) w3 Q := by
          intro s
          induction s with
          | zero =>
            intro j p w3 hj hSf3 hp
            have hj : j = m := by omega
            subst hj
            have e18 : ma w3 18 = ma w1 18 := hSf3.c (fun w => ma w 18) (fun _ => rfl)
            have hI3 : TInv w3 := ((hSc1.tr hSf3.toSc).c TInv (fun _ => rfl)).mpr hI
            have emb : mby w3 = mby w := (hSc1.tr hSf3.toSc).te.emb
            obtain ⟨k1, k2, k3⟩ := hh k (by omega)
            have hink : vp_in (nI k) 100 := in_nI (by omega) (by decide)
            have ek : (nI k).toNatClampNeg = k := nI_clamp (by omega)
            refine Wq.go ok12_find 40 [254] ?_
            refine And.intro (fun _ => And.intro (fun c5 => ?_) (fun c5 => ?_)) (fun (q : ¬ nI j ≤ nI j) => absurd (by rw [i32_le]; omega) q)
            · rw [bI_0, hp] at c5
              refine Wq.ls (ls' := [some (.ref 79), some (.int (nI c)), some (.int name), some (.int (nI j)), some (.int v), some (.int (nI k)), none, none]) ⟨rfl, rfl, rfl, rfl, rfl, rfl, trivial⟩ ?_
              refine next v w3 none none hSf3 ?_
              rcases hF with ⟨e, q⟩ | ⟨i, hi, q1, q2, e⟩ | ⟨e, i, i', hi, hi', hne, q1, q2⟩
              · refine Or.inl ⟨e, fun i hi => ?_⟩
                by_cases ei : i = k
                · rw [ei]; exact c5
                · exact q i (by omega)
              · refine Or.inr (Or.inl ⟨i, by omega, q1, fun i' hi' q' => ?_, e⟩)
                by_cases ei : i' = k
                · rw [ei] at q'; exact absurd q' c5
                · exact q2 i' (by omega) q'
              · exact Or.inr (Or.inr ⟨e, i, i', by omega, by omega, hne, q1, q2⟩)
            · rw [bI_n0, hp] at c5
              have pt : ∀ v', FnP w name j hv (k + 1) v' → Wq G M12_find 252 [some (.ref 79), some (.int (nI c)), some (.int name), some (.int (nI j)), some (.int v), some (.int (nI k)), none, none] [.int v'] (0, 0) w3 Q := by
                intro v' hF'
                refine Wq.go ok12_find 20 [254] ?_
                exact next v' w3 none none hSf3 hF'
              refine And.intro (fun (c6 : ¬ v = -17) => ?_) (fun (c6 : v = -17) => ?_)
              · show Wq G M12_find 254 [some (.ref 79), some (.int (nI c)), some (.int name), some (.int (nI j)), some (.int (-19)), some (.int (nI k)), some (.int (bI p)), some (.int (nI j))] [] (0, 0) w3 Q
                refine Wq.ls (ls' := [some (.ref 79), some (.int (nI c)), some (.int name), some (.int (nI j)), some (.int (-19)), some (.int (nI k)), none, none]) ⟨rfl, rfl, rfl, rfl, rfl, rfl, trivial⟩ ?_
                refine next _ w3 none none hSf3 ?_
                rcases hF with ⟨e, q⟩ | ⟨i, hi, q1, q2, e⟩ | ⟨e, i, i', hi, hi', hne, q1, q2⟩
                · exact absurd e c6
                · exact Or.inr (Or.inr ⟨rfl, i, k, by omega, by omega, by omega, q1, c5⟩)
                · exact Or.inr (Or.inr ⟨rfl, i, i', by omega, by omega, hne, q1, q2⟩)
              · refine And.intro hink (And.intro hink ?_)
                show Con G M12_memberBy [.ref 79, .int (ma w3 18 (nI k).toNatClampNeg), .int name, .int 0] w3 _
                rw [ek, e18, k1]
                refine c12_memberBy hI3 (by omega) ?_
                show Wq G M12_find 254 [some (.ref 79), some (.int (nI c)), some (.int name), some (.int (nI j)), some (.int ((10 : Int32) * ma w3 18 k + mby w3 (hv k) name 0)), some (.int (nI k)), some (.int (bI p)), some (.int (nI j))] [] (0, 0) w3 Q
                rw [e18, k1, emb]
                have ec : (10 : Int32) * nI (hv k) + mby w (hv k) name 0 = nI (codeN w name (hv k)) := by
                  rcases mby_cases w (hv k) name 0 with e | ⟨i, hi, e, -, -⟩
                  · exact absurd e k3.2.1
                  · have := (hI.mbs (i := hv k) (by omega)).2.1
                    unfold codeN
                    rw [e, tn_nI (by omega), ix10]
                rw [ec]
                refine Wq.ls (ls' := [some (.ref 79), some (.int (nI c)), some (.int name), some (.int (nI j)), some (.int (nI (codeN w name (hv k)))), some (.int (nI k)), none, none]) ⟨rfl, rfl, rfl, rfl, rfl, rfl, trivial⟩ ?_
                refine next _ w3 none none hSf3 ?_
                have co : ∀ i, i < k → v = nI (codeN w name (hv i)) → False := by
                  intro i hi e
                  rw [c6] at e
                  have hb : codeN w name (hv i) < 2000 := by
                    obtain ⟨_, b2, b3⟩ := hh i (by omega)
                    rcases mby_cases w (hv i) name 0 with e | ⟨i', hi', e, -, -⟩
                    · exact absurd e b3.2.1
                    · have := (hI.mbs (i := hv i) (by omega)).2.1
                      unfold codeN
                      rw [e, tn_nI (by omega)]; omega
                  have := congrArg Int32.toInt e
                  rw [nI_t (by omega)] at this
                  have t2 : (-17 : Int) = _ := this
                  omega
                rcases hF with ⟨e, q⟩ | ⟨i, hi, q1, q2, e⟩ | ⟨e, i, i', hi, hi', hne, q1, q2⟩
                · refine Or.inr (Or.inl ⟨k, by omega, c5, fun i hi q' => ?_, rfl⟩)
                  by_cases ei : i = k
                  · exact ei
                  · exact absurd q' (q i (by omega))
                · exact (co i hi e).elim
                · rw [c6] at e; exact absurd e (by decide)
          | succ s ihs =>
            intro j p w3 hj hSf3 hp
            have e18 : ma w3 18 = ma w1 18 := hSf3.c (fun w => ma w 18) (fun _ => rfl)
            have hI3 : TInv w3 := ((hSc1.tr hSf3.toSc).c TInv (fun _ => rfl)).mpr hI
            have eFO : FOf w3 = FOf w := (hSc1.tr hSf3.toSc).te.eFO
            have eT : nT w3 = nT w := (hSc1.tr hSf3.toSc).c nT (fun _ => rfl)
            obtain ⟨k1, k2, k3⟩ := hh k (by omega)
            obtain ⟨j1, j2, j3⟩ := hh j (by omega)
            have hink : vp_in (nI k) 100 := in_nI (by omega) (by decide)
            have ek : (nI k).toNatClampNeg = k := nI_clamp (by omega)
            have hinj' : vp_in (nI j) 100 := in_nI (by omega) (by decide)
            have ej : (nI j).toNatClampNeg = j := nI_clamp (by omega)
            have put : ∀ (x : Int32) (p' : Prop) (w4 : qSt), Sf w1 w4 → x = bI p' → (p' ↔ (AlP w m hv k j ∧ ¬ (j ≠ k ∧ FOf w (hv j) (hv k)))) → Wq G M12_find 203 [some (.ref 79), some (.int (nI c)), some (.int name), some (.int (nI m)), some (.int v), some (.int (nI k)), some (.int (bI p)), some (.int (nI j))] [.int x] (0, 0) w4 Q := by
              intro x p' w4 hSf4 hx hp'
              rw [hx]
              refine Wq.go ok12_find 20 [159] ?_
              show Wq G M12_find 159 [some (.ref 79), some (.int (nI c)), some (.int name), some (.int (nI m)), some (.int v), some (.int (nI k)), some (.int (bI p')), some (.int (nI j + 1))] [] (0, 0) w4 Q
              rw [nI_1]
              refine ihs (j + 1) p' w4 (by omega) hSf4 ?_
              rw [hp']
              refine ⟨fun q i hi hne => ?_, fun q => ⟨fun i hi => q i (by omega), fun z => q j (by omega) z.1 z.2⟩⟩
              by_cases ei : i = j
              · rw [ei] at hne ⊢; exact fun z => q.2 ⟨hne, z⟩
              · exact q.1 i (by omega) hne
            refine Wq.go ok12_find 40 [203] ?_
            refine And.intro (fun (q : nI m ≤ nI j) => ?_) (fun _ => And.intro (fun c5 => ?_) (fun c5 => And.intro (fun (c6 : nI j = nI k) => ?_) (fun (c6 : ¬ nI j = nI k) => ?_)))
            · rw [nI_leI (by omega) (by omega)] at q; omega
            · rw [bI_0, hp] at c5
              exact put 0 False w3 hSf3 (bI_f id).symm ⟨False.elim, fun q => c5 q.1⟩
            · rw [nI_eqI (by omega) (by omega)] at c6
              rw [bI_n0, hp] at c5
              exact put 1 True w3 hSf3 (bI_t trivial).symm ⟨fun _ => ⟨c5, fun z => z.1 c6⟩, fun _ => trivial⟩
            · rw [nI_eqI (by omega) (by omega)] at c6
              rw [bI_n0, hp] at c5
              refine And.intro hink (And.intro hinj' ?_)
              show Con G M12_isFaceOf [.ref 79, .int (ma w3 18 (nI k).toNatClampNeg), .int (ma w3 18 (nI j).toNatClampNeg)] w3 _
              rw [ek, ej, e18, k1, j1]
              refine c12_isFaceOf hI3 (by omega) (by omega) (fun w4 hS4 => And.intro (fun c8 => ?_) (fun c8 => ?_)) <;> rw [eFO] at c8
              · rw [bI_n0] at c8
                exact put 0 False w4 (hSf3.tr hS4) (bI_f id).symm ⟨False.elim, fun q => q.2 ⟨c6, c8⟩⟩
              · rw [bI_0] at c8
                exact put 1 True w4 (hSf3.tr hS4) (bI_t trivial).symm ⟨fun _ => ⟨c5, fun z => c8 z.2⟩, fun _ => trivial⟩
        refine Wq.go ok12_find 20 [159] ?_
        refine And.intro (fun (q : nI m ≤ nI k) => ?_) (fun _ => ?_)
        · rw [nI_leI (by omega) (by omega)] at q; omega
        · have := inner m 0 True w2 (by omega) hSf ⟨fun _ i hi => absurd hi (by omega), fun _ => trivial⟩
          rw [bI_t trivial] at this
          exact this
    refine Wq.go ok12_find 20 [147] ?_
    exact outer m 0 (-17) w1 (by omega) Sf.rf (Or.inl ⟨rfl, fun i hi => absurd hi (by omega)⟩)
  -- those that lend a body
  have second : ∀ (r k : Nat) (w1 : qSt) (n m : Nat) (l hv : Nat → Nat), k + r = n → HvL w w1 c name n m l hv k → fdN w c name = lendN w c name → Wq G M12_find 68 [some (.ref 79), some (.int (nI c)), some (.int name), some (.int (nI m)), some (.int (nI k)), none, none, none] [] (0, 0) w1 Q := by
    intro r
    induction r with
    | zero =>
      intro k w1 n m l hv hk hL hfd
      obtain ⟨hSc1, hLI, hset, h1, h2, h3, h4, h5, h6⟩ := hL
      have eT : nT w1 = nT w := hSc1.c nT (fun _ => rfl)
      have hn := hLI.le (by omega)
      have e18 : mi w1 18 = nI n := hLI.1
      refine Wq.go ok12_find 20 [140] ?_
      refine And.intro (fun _ => ?_) (fun (q : ¬ mi w1 18 ≤ nI k) => absurd (by rw [e18]; exact nI_le (by omega) (by omega)) q)
      refine Wq.ls (ls' := [some (.ref 79), some (.int (nI c)), some (.int name), some (.int (nI m)), none, none, none, none]) ⟨rfl, rfl, rfl, rfl, trivial⟩ ?_
      refine third w1 m hv hSc1 (by omega) h3 h4 (fun f hf => ?_) hfd
      have hfin := hf.1.in_ hI hc
      rcases hLI.2.2.2 f (by omega) with q | ⟨q, i, hi, e⟩
      · have := (hset f (by omega)).mpr hf.1
        rw [show ma w1 16 f = 1 from this] at q
        exact absurd q (by decide)
      · obtain ⟨j, hj, e2⟩ := h5 i (by omega) (by rw [e]; exact hf)
        exact ⟨j, hj, e2.trans e⟩
    | succ r ih =>
      intro k w1 n m l hv hk hL hfd
      obtain ⟨hSc1, hLI, hset, h1, h2, h3, h4, h5, h6⟩ := hL
      have eT : nT w1 = nT w := hSc1.c nT (fun _ => rfl)
      have hn := hLI.le (by omega)
      have e18 : mi w1 18 = nI n := hLI.1
      have hI1 : TInv w1 := (hSc1.c TInv (fun _ => rfl)).mpr hI
      have emb : mby w1 = mby w := hSc1.te.emb
      have e12 : ma w1 12 = ma w 12 := hSc1.c (fun w => ma w 12) (fun _ => rfl)
      obtain ⟨l1, l2, l3, l4⟩ := hLI.2.1 k (by omega)
      have hFO : FOf w c (l k) := (hset (l k) (by omega)).mp l4
      have hink : vp_in (nI k) 100 := in_nI (by omega) (by decide)
      have ek : (nI k).toNatClampNeg = k := nI_clamp (by omega)
      have nx : ∀ (x : Option Value) (w2 : qSt) (m' : Nat) (hv' : Nat → Nat), HvL w w2 c name n m' l hv' (k + 1) → Wq G M12_find 134 [some (.ref 79), some (.int (nI c)), some (.int name), some (.int (nI m')), some (.int (nI k)), none, none, none] [] (0, 0) w2 Q := by
        intro x w2 m' hv' hL'
        refine Wq.go ok12_find 20 [68] ?_
        show Wq G M12_find 68 [some (.ref 79), some (.int (nI c)), some (.int name), some (.int (nI m')), some (.int (nI k + 1)), none, none, none] [] (0, 0) w2 Q
        rw [nI_1]
        exact ih (k + 1) w2 n m' l hv' (by omega) hL' hfd
      have skip : ¬ Hv w c name (l k) → HvL w w1 c name n m l hv (k + 1) := by
        intro q
        refine ⟨hSc1, hLI, hset, by omega, by omega, h3, h4, fun i hi hq => ?_, fun j hj => ?_⟩
        · by_cases ei : i = k
          · rw [ei] at hq; exact absurd hq q
          · exact h5 i (by omega) hq
        · obtain ⟨i, hi, e⟩ := h6 j hj
          exact ⟨i, by omega, e⟩
      refine Wq.go ok12_find 60 [134] ?_
      refine And.intro (fun (q : mi w1 18 ≤ nI k) => ?_) (fun _ => And.intro hink ?_)
      · rw [e18, nI_leI (by omega) (by omega)] at q; omega
      · show Con G M12_memberBy [.ref 79, .int (ma w1 15 (nI k).toNatClampNeg), .int name, .int 0] w1 _
        rw [ek, l1]
        refine c12_memberBy hI1 (by omega) ?_
        rw [emb]
        rcases mby_cases w (l k) name 0 with e | ⟨j, hj, e, -, -⟩
        · rw [e]
          refine And.intro (fun _ => ?_) (fun q => absurd (by decide) q)
          refine Wq.ls (ls' := [some (.ref 79), some (.int (nI c)), some (.int name), some (.int (nI m)), some (.int (nI k)), none, none, none]) ⟨rfl, rfl, rfl, rfl, rfl, trivial⟩ ?_
          exact nx none w1 m hv (skip (fun q => q.2.1 e))
        · have hj10 := (hI.mbs (i := l k) (by omega)).2.1
          have en : ¬ mby w (l k) name 0 = -1 := by rw [e]; exact fun q => absurd (congrArg Int32.toInt q) (by rw [nI_t (by omega)]; show ¬ (j : Int) = -1; omega)
          have ea : (10 : Int32) * ma w1 15 (nI k).toNatClampNeg + nI j = nI (10 * l k + j) := by rw [ek, l1, ix10]
          have hin3 : vp_in ((10 : Int32) * ma w1 15 (nI k).toNatClampNeg + nI j) 1000 := by rw [ea]; exact in_nI (by omega) (by decide)
          rw [e]
          refine And.intro (fun q => absurd q (nI_pos (by omega))) (fun _ => And.intro hink (And.intro hin3 (And.intro (fun (c5 : ma w1 12 ((10 : Int32) * ma w1 15 (nI k).toNatClampNeg + nI j).toNatClampNeg = 0) => ?_) (fun (c5 : ¬ ma w1 12 ((10 : Int32) * ma w1 15 (nI k).toNatClampNeg + nI j).toNatClampNeg = 0) => And.intro hink (And.intro ?_ ?_)))))
          · rw [ea, nI_clamp (by omega), e12] at c5
            refine Wq.ls (ls' := [some (.ref 79), some (.int (nI c)), some (.int name), some (.int (nI m)), some (.int (nI k)), none, none, none]) ⟨rfl, rfl, rfl, rfl, rfl, trivial⟩ ?_
            refine nx none w1 m hv (skip (fun q => q.2.2 ?_))
            rw [e, tn_nI (by omega)]; exact c5
          · exact in_nI (N := 100) (by omega) (by decide)
          · rw [ea, nI_clamp (by omega), e12] at c5
            show Wq G M12_find 134 [some (.ref 79), some (.int (nI c)), some (.int name), some (.int (nI m + 1)), some (.int (nI k)), some (.int (nI j)), none, none] [] (0, 0) (sI w1 40 18 (nI m).toNatClampNeg (ma w1 15 (nI k).toNatClampNeg)) Q
            rw [ek, l1, nI_1, nI_clamp (by omega)]
            refine Wq.ls (ls' := [some (.ref 79), some (.int (nI c)), some (.int name), some (.int (nI (m + 1))), some (.int (nI k)), none, none, none]) ⟨rfl, rfl, rfl, rfl, rfl, trivial⟩ ?_
            have hHv : Hv w c name (l k) := ⟨hFO, en, by rw [e, tn_nI (by omega)]; exact c5⟩
            refine nx none _ (m + 1) (fun i => if i = m then l k else hv i) ⟨hSc1.I rfl rfl, hLI, hset, by omega, by omega, fun i hi => ?_, fun i j hij hj => ?_, fun i hi hq => ?_, fun j hj => ?_⟩
            · by_cases ei : i = m
              · simp only [if_pos ei]
                rw [ei]
                exact ⟨gI_at _ _ _ _ _, by omega, hHv⟩
              · simp only [if_neg ei]
                obtain ⟨q1, q2, q3⟩ := h3 i (by omega)
                refine ⟨?_, q2, q3⟩
                rw [show ma (sI w1 40 18 m (nI (l k))) 18 i = ma w1 18 i from gI_ne (fun q => ei q.2.2)]
                exact q1
            · by_cases ej : j = m
              · simp only [if_pos ej, if_neg (show ¬ i = m by omega)]
                intro q
                obtain ⟨i', hi', e'⟩ := h6 i (by omega)
                exact hLI.2.2.1 i' k hi' (by omega) (e'.symm.trans q)
              · simp only [if_neg ej, if_neg (show ¬ i = m by omega)]
                exact h4 i j hij (by omega)
            · by_cases ei : i = k
              · exact ⟨m, by omega, by simp [ei]⟩
              · obtain ⟨j, hj, e'⟩ := h5 i (by omega) hq
                exact ⟨j, by omega, by simp only [if_neg (show ¬ j = m by omega)]; exact e'⟩
            · by_cases ej : j = m
              · exact ⟨k, by omega, by simp [ej]⟩
              · obtain ⟨i, hi, e'⟩ := h6 j (by omega)
                exact ⟨i, by omega, by simp only [if_neg ej]; exact e'⟩
  -- the faces
  have faces : fdN w c name = lendN w c name → ∀ (x y : Option Value), Wq G M12_find 58 [some (.ref 79), some (.int (nI c)), some (.int name), none, none, none, none, none] [] (0, 0) w Q := by
    intro hfd x y
    refine Wq.go ok12_find 20 [68] ?_
    refine c12_facesOf hI hc (fun w1 n l hS hL hset => ?_)
    exact second n 0 w1 n 0 l (fun _ => 0) (Nat.zero_add _) ⟨hS.toSc, hL, hset, Nat.le_refl _, Nat.zero_le _, fun i hi => absurd hi (by omega), fun i j _ hj => absurd hj (by omega), fun i hi => absurd hi (by omega), fun j hj => absurd hj (by omega)⟩ hfd
  -- the classes above
  have key : ∀ (N d : Nat), d < N → d < nT w → ma w 0 d = 1 → fsF w name 0 (abvs w c) = fsF w name 0 (abvs w d) → Wq G M12_find 2 [some (.ref 79), some (.int (nI c)), some (.int name), some (.int (nI d)), none, none, none, none] [] (0, 0) w Q := by
    intro N
    induction N with
    | zero => intro d h0; omega
    | succ N ih =>
      intro d hN hd hs hfs
      have hin : vp_in (nI d) 100 := in_nI (by omega) (by decide)
      have e2 : (nI d).toNatClampNeg = d := nI_clamp (by omega)
      refine Wq.go ok12_find 30 [2] ?_
      refine And.intro (fun q => absurd q (nI_pos (by omega))) (fun _ => ?_)
      refine c12_memberBy hI (by omega) ?_
      rcases mby_cases w d name 0 with e | ⟨j, hj, e, -, -⟩
      · rw [e]
        refine And.intro (fun _ => ?_) (fun q => absurd (by decide) q)
        refine And.intro hin ?_
        show Wq G M12_find 2 [some (.ref 79), some (.int (nI c)), some (.int name), some (.int (ma w 1 (nI d).toNatClampNeg)), some (.int (-1)), none, none, none] [] (0, 0) w Q
        rw [e2]
        by_cases h8 : d = 8
        · subst h8
          rw [hI.2.2.2.1]
          refine Wq.go ok12_find 30 [58] ?_
          refine And.intro (fun _ => ?_) (fun q => absurd (by decide) q)
          refine Wq.ls (ls' := [some (.ref 79), some (.int (nI c)), some (.int name), none, none, none, none, none]) ⟨rfl, rfl, rfl, trivial⟩ ?_
          refine faces ?_ none none
          unfold fdN
          rw [hfs, abvs_8, show fsF w name 0 [8] = fsF w name 0 [] from cIf_t e]
          rfl
        · obtain ⟨u1, u2, u3, u4⟩ := hI.up hd hs h8
          rw [u1]
          refine Wq.ls (ls' := [some (.ref 79), some (.int (nI c)), some (.int name), some (.int (nI (upN w d))), none, none, none, none]) ⟨rfl, rfl, rfl, rfl, trivial⟩ ?_
          refine ih _ (by omega) (by omega) u4 ?_
          rw [hfs, abvs_c hI hd hs h8]
          exact cIf_t e
      · have hj10 := (hI.mbs (i := d) (by omega)).2.1
        have en : ¬ mby w d name 0 = -1 := by rw [e]; exact fun q => absurd (congrArg Int32.toInt q) (by rw [nI_t (by omega)]; show ¬ (j : Int) = -1; omega)
        have ef : fsF w name 0 (abvs w c) = some (10 * d + j) := by
          have : fsF w name 0 (abvs w d) = some (10 * d + tn (mby w d name 0)) := by
            by_cases h8 : d = 8
            · subst h8; exact cIf_f en
            · rw [abvs_c hI hd hs h8]; exact cIf_f en
          rw [hfs, this, e, tn_nI (by omega)]
        have efd : fdN w c name = cIf (ma w 12 (10 * d + j) = 0) (-17) (nI (10 * d + j)) := by unfold fdN; rw [ef]
        have hin3 : vp_in ((10 : Int32) * nI d + nI j) 1000 := by rw [ix10]; exact in_nI (by omega) (by decide)
        have e3 : ((10 : Int32) * nI d + nI j).toNatClampNeg = 10 * d + j := by rw [ix10]; exact nI_clamp (by omega)
        rw [e]
        refine And.intro (fun q => absurd q (nI_pos (by omega))) (fun _ => And.intro hin3 (And.intro (fun (c5 : ¬ ma w 12 ((10 : Int32) * nI d + nI j).toNatClampNeg = 0) => ?_) (fun (c5 : ma w 12 ((10 : Int32) * nI d + nI j).toNatClampNeg = 0) => ?_))) <;> rw [e3] at c5
        · show Q (some (.int ((10 : Int32) * nI d + nI j))) w
          have := h w Sc.rf
          rw [efd, cIf_f c5] at this
          rw [ix10]
          exact this
        · have := h w Sc.rf
          rw [efd, cIf_t c5] at this
          exact this
  refine Con.go hw12_find ok12_find 30 [2] rfl ?_
  exact key (c + 1) c (by omega) hc hs rfl
end
