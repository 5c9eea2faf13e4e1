/-! ===== under of the class ===== -/
/-- cells of sets of types alone have changed -/
def UW (A : qA) (m : qSt) (T : Nat) (w w1 : qSt) : Prop := gN w1 = gN w ∧ gR w1 = gR w ∧ gI w1 = gI w ∧ (∀ r k, r ≠ 8 → gJ w1 r k = gJ w r k) ∧ (∀ k a, (∀ i, i < nT m → a ≠ aT A i + 1) → a ≠ aT A T + 2 → gJ w1 8 k a = gJ w 8 k a) ∧ CW w w1 ∧ (qZero w → qZero w1)
section
variable {G : qGX} {A : qA} {m w : qSt} {Q : Option Value → qSt → Prop}
theorem UW.rf (A : qA) (m : qSt) (T : Nat) (w : qSt) : UW A m T w w := ⟨rfl, rfl, rfl, fun _ _ _ => rfl, fun _ _ _ _ => rfl, CW.rf w, id⟩
theorem UW.S {T u : Nat} {w1 : qSt} {lo hi : Int64} (h : UW A m T w w1) (hu : (∃ i, i < nT m ∧ u = aT A i + 1) ∨ u = aT A T + 2) (hk : gN w 0 u = 8) : UW A m T w (sS w1 u lo hi) := by
  obtain ⟨h1, h2, h3, h4, h5, h6, h7⟩ := h
  refine ⟨h1, h2, h3, fun r k hr => ?_, fun k a q1 q2 => ?_, (h6.J rfl).J rfl, fun z => ?_⟩
  · funext a
    unfold sS
    rw [gJ_ne (by omega), gJ_ne (by omega)]
    exact congrFun (h4 r k hr) a
  · have hne : a ≠ u := by
      intro z
      rcases hu with ⟨i, hi, e⟩ | e
      · exact q1 i hi (z.trans e)
      · exact q2 (z.trans e)
    unfold sS
    rw [gJ_ne (by omega), gJ_ne (by omega)]
    exact h5 k a q1 q2
  · have hz := h7 z
    have hl : u < gN w1 2 0 := hz.lt (show gN w1 0 u = 8 by rw [h1]; exact hk) (by omega)
    exact (hz.J hl (by omega)).J hl (by omega)
/-- addresses of the sets -/
theorem Rep.uns (hR : Rep A m w) (hI : TInv m) {i k : Nat} (hi : i < nT m) (hk : k < nT m) : (aT A i + 1 = aT A k + 1 → i = k) ∧ aT A i + 1 ≠ aT A k + 2 ∧ (aT A i + 2 = aT A k + 2 → i = k) := by
  refine ⟨fun z => hR.tinj hI hi hk (by omega), fun z => ?_, fun z => hR.tinj hI hi hk (by omega)⟩
  have h1 := (hR.tk i hi).2.1
  have h2 := (hR.tk k hk).2.2.1
  rw [show aT A i = aT A k + 1 by omega, h2] at h1; omega
theorem rep_under {T F : Nat} {w1 : qSt} (hR : Rep A m w) (hT : T < nT m) (h : UW A m T w w1) (hTU : ∀ i, i < nT m → ∀ j, j < 128 → ((tS w1 (aT A i + 1) j = true ↔ UpP (sUn m T F) i j) ∧ (tS w1 (aT A i + 2) j = true ↔ tld (sUn m T F) i j))) : Rep A (sUn m T F) w1 := by
  obtain ⟨e0, eM, rows, ejl, emi⟩ := un_rows (m := m) T F
  obtain ⟨eN, eR, eI, eJ, eJ8, -, -⟩ := h
  have k60 := hR.fk.2.2.2.2.1
  have k59 := hR.fk.2.2.2.1.1
  obtain ⟨a1, a2, a3, a4, a5, a6, a7, a8, a9, a10, a11, a12, a13, a14, a15, a16, a17, a18, a19, a20, a21, a22⟩ := hR
  have ty7 : ∀ i, i < nT m → gN w 0 (aT A i) = 7 := fun i hi => (a3 i hi).2.1
  have eX : nX (sUn m T F) = nX m := rfl
  refine ⟨?_, ?_, ?_, ?_, ?_, ?_, ?_, ?_, ?_, ?_, ?_, ?_, ?_, ?_, ?_, ?_, ?_, ?_, ?_, ?_, ?_, ?_⟩
  · unfold FixK at *; rw [eN]; exact a1
  · unfold FixR at *; rw [eR, eI]; exact a2
  · unfold TyK at *; rw [eN, eR]; exact a3
  · unfold TyS at *; rw [eN, eR, eI, e0.2.1, rows 3 (by omega) (by omega), e0.efr, e0.eow, e0.eba, e0.edp, e0.eml]; exact a4
  · unfold TyM at *; rw [eI, rows 7 (by omega) (by omega), rows 4 (by omega) (by omega), eM.epc, e0.erw]; exact a5
  · exact hTU
  · unfold MbK at *; rw [eN, eR, eM.eM]; exact a7
  · unfold MbS at *; rw [eR, eI, eM.eM, eM.ety, eM.epf, rows 8 (by omega) (by omega), rows 9 (by omega) (by omega), rows 11 (by omega) (by omega), rows 12 (by omega) (by omega), rows 13 (by omega) (by omega)]; exact a8
  · unfold MbJ at *; rw [eJ 2 8 (by omega), eM.eM, rows 8 (by omega) (by omega), ejl 14]; exact a9
  · unfold MbN nmR at *; rw [eR, e0.eMb, eM.emb]; exact a10
  · intro n hn f hf
    have hq : ∀ k, gJ w1 8 k (60 + n) = gJ w 8 k (60 + n) := by
      intro k
      refine eJ8 k (60 + n) (fun i hi z => ?_) (fun z => ?_)
      · have h1 := ty7 i hi
        by_cases c : n = 0
        · rw [show aT A i = 59 by omega, k59] at h1; omega
        · have h2 := k60 (n - 1) (by omega)
          rw [show 60 + (n - 1) = aT A i by omega, h1] at h2; omega
      · have h1 := ty7 T hT
        by_cases c : n = 0
        · have h2 := (a3 T hT).2.2.1
          rw [show aT A T + 1 = 59 by omega, k59] at h2; omega
        · by_cases c1 : n = 1
          · rw [show aT A T = 59 by omega, k59] at h1; omega
          · have h2 := k60 (n - 2) (by omega)
            rw [show 60 + (n - 2) = aT A T by omega, h1] at h2; omega
    have := a11 n hn f hf
    unfold LnP at *
    rw [e0.2.1, eM.emb, rows 12 (by omega) (by omega)]
    unfold tS at *
    rw [hq, hq]; exact this
  · unfold XoK at *; rw [eN, eR]; exact a12
  · unfold XoS dX bX sX at *; rw [eN, eR, eI, rows 19 (by omega) (by omega), rows 20 (by omega) (by omega), rows 21 (by omega) (by omega)]; exact a13
  · intro x i hx hi
    have esX : sX (sUn m T F) = sX m := by funext a; unfold sX; rw [rows 21 (by omega) (by omega)]
    have epX : pX (sUn m T F) = pX m := by funext a; unfold pX; rw [rows 22 (by omega) (by omega)]
    rw [esX] at hi
    rw [eJ 21 _ (by omega), epX, ejl 23]
    exact a14 x i hx hi
  · exact HdR.cg (m := m) (by unfold HdR at *; rw [eN, eR, eI]; exact a15) rfl (rows 24 (by omega) (by omega)) (rows 25 (by omega) (by omega)) (rows 26 (by omega) (by omega))
  · unfold CoK cN at *; rw [eN, eR, eI, rows 28 (by omega) (by omega), rows 29 (by omega) (by omega), rows 30 (by omega) (by omega)]; exact a16
  · intro k i hk hz hi
    unfold cN at hi
    rw [rows 28 (by omega) (by omega)] at hz
    rw [rows 30 (by omega) (by omega)] at hi
    rw [eJ 21 _ (by omega), ejl 31]
    exact a17 k i hk hz hi
  · unfold QuK at *; rw [eN, eR]; exact a18
  · intro q hq
    obtain ⟨v1, v2⟩ := a19 q hq
    refine ⟨by rw [eI, rows 32 (by omega) (by omega)]; exact v1, fun i hi => ?_⟩
    have etQ : tQ (sUn m T F) q = tQ m q := by unfold tQ; rw [rows 32 (by omega) (by omega)]
    rw [etQ] at hi
    obtain ⟨x1, x2, x3, x4⟩ := v2 i hi
    have etH : tH (sUn m T F) (8 * q + i) = tH m (8 * q + i) := by unfold tH; rw [rows 33 (by omega) (by omega)]
    rw [etH, eR, eI, eJ 21 _ (by omega), rows 34 (by omega) (by omega), rows 36 (by omega) (by omega), ejl 35]
    exact ⟨x1, x2, x3, x4⟩
  · have : MaT m w1 := by unfold MaT at *; rw [eI]; exact a20
    exact MaT.cg this rfl rfl rfl e0.2.1 (rows 4 (by omega) (by omega))
  · unfold MaR at *
    rw [eI]
    refine ⟨a21.1, fun i hi => ?_⟩
    rw [rows 27 (by omega) (by omega)]; exact a21.2 i hi
  · unfold MaQ at *
    rw [eI]
    obtain ⟨z1, z2, z3, z4, z5, z6, z7⟩ := a22
    refine ⟨z1, z2, z3, z4, z5, z6, fun i hi => ?_⟩
    rw [rows 37 (by omega) (by omega)]; exact z7 i hi
theorem ct_told (hR : Rep A m w) (hI : TInv m) (hD : DInv m) {T : Nat} (hT : T < nT m) : fb_ct (fun i => tS w (aT A T + 2) i) 128 = nF m T := by
  have h100 := hI.le
  refine ct_inj (fcN m T) (nF m T) (fun i hi => ?_) (fun i j hij hj => hD T i j (by omega) hij hj) _ (fun g hg => ?_)
  · have := ((hI.fac (i := T) (by omega)).2.2.2 i hi).2.2.1; omega
  · exact (hR.tu T hT g hg).2
theorem c10_tellFace {t f : Int32} (hR : Rep A m w) (hI : TInv m) (hD : DInv m) (hz : qZero w) (h : OpQ (S_under m t f) m w Q) : Con G M10_tellFace [.ref 3, .int t, .int f] w Q := by
  have h100 := hI.le
  obtain ⟨hneg, hpos⟩ := h
  unfold S_under at hneg hpos
  have bad : (t = 8 ∨ (¬ isC m t ∧ ¬ isF m t) ∨ ¬ isF m f) → ∀ l3 l4 : Value, Wq G M10_tellFace 22 [some (.ref 3), some (.int t), some (.int f), some l3, some l4, none, none] [] (0, 0) w Q := by
    intro hb l3 l4
    refine Wq.ls (ls' := [some (.ref 3), some (.int t), some (.int f), none, none, none, none]) ⟨rfl, rfl, rfl, trivial⟩ ?_
    exact Wq.go ok10_tellFace 20 [] (hneg _ (by decide) (cIf_t hb))
  refine Con.go hw10_tellFace ok10_tellFace 40 [22, 24] rfl ?_
  refine And.intro hR.k3 (c10_memberedAt hR hI (fun z => And.intro hR.k3 (c10_faceAt hR hI (fun z2 => bad (z.elim Or.inl (fun z => Or.inr (Or.inl z))) .null .null) (fun j e hj hs => bad (z.elim Or.inl (fun z => Or.inr (Or.inl z))) .null (.ref (aT A j))))) (fun T eT hT hTk => And.intro hR.k3 (c10_faceAt hR hI (fun z2 => bad (Or.inr (Or.inr z2)) (.ref (aT A T)) .null) (fun F eF hF hFs => ?_))))
  have n8 : ¬ t = 8 := fun q => by
    rw [eT] at q
    have : T = 8 := (nI_eqI (b := 8) (by omega) (by omega)).mp q
    rcases hTk with z | z
    · rw [this, hI.any] at z; exact absurd z (by decide)
    · exact z.2 this
  have hcf : ¬ (¬ isC m t ∧ ¬ isF m t) := fun q => by
    rcases hTk with z | z
    · exact q.2 ⟨T, eT, hT, z⟩
    · exact q.1 ⟨T, eT, hT, z.1⟩
  rw [cIf_f (fun y => y.elim n8 (fun y => y.elim hcf (fun y => y ⟨F, eF, hF, hFs⟩)))] at hneg hpos
  subst eT eF
  rw [tn_nI (by omega), tn_nI (by omega)] at hneg hpos
  have hT9 : 9 ≤ T := by
    refine Classical.byContradiction fun z => ?_
    rcases hTk with q | q
    · rcases Nat.lt_or_ge T 8 with y | y
      · rw [hI.lane y] at q; exact absurd q (by decide)
      · rw [show T = 8 by omega, hI.any] at q; exact absurd q (by decide)
    · have := hI.c8 hT q.1
      omega
  have hF4 := (hI.fac (i := T) (by omega)).2.1
  obtain ⟨t1, t2, t3, t4, -⟩ := hR.tk T hT
  obtain ⟨f1, f2, f3, f4, -⟩ := hR.tk F hF
  obtain ⟨u1, u2, u3, u4, u5, u6, u7, u8, u9, -⟩ := hR.ts T hT
  have u8F := (hR.ts F hF).2.2.2.2.2.2.2.1
  have u14 := (hR.tm T hT).2.2.1
  have hct := ct_told hR hI hD hT
  have hUF : UpP m F T ↔ FOf m F T := by
    unfold UpP
    rw [hFs]
    exact ⟨fun z => z.resolve_left (fun y => absurd y.1 (by decide)), Or.inr⟩
  have hFOT : FOf m F T → ma m 0 T = 2 := by
    rintro (⟨-, z⟩ | ⟨z, -⟩)
    · exact (z.in_ hI (by omega)).2.2
    · rw [hFs] at z; exact absurd z (by decide)
  refine Wq.go ok10_tellFace 40 [38] ?_
  refine And.intro t2 (refS u9 (And.intro t4 (c9_size t4 ?_)))
  rw [hct]
  refine And.intro (fun (c : nI (nF m T) < nI 4) => ?_) (fun (c : ¬ nI (nF m T) < nI 4) => ?_) <;> rw [nI_ltI (by omega) (by omega)] at c
  rotate_left
  · exact hneg _ (by decide) (cIf_t (by omega))
  rw [cIf_f (by omega)] at hneg hpos
  have no : (ma m 4 T ≠ 0 ∨ tld m T F ∨ T = F ∨ UpP m F T) → Wq G M10_tellFace 74 [some (.ref 3), some (.int (nI T)), some (.int (nI F)), some (.ref (aT A T)), some (.ref (aT A F)), none, none] [] (0, 0) w Q := by
    intro hb
    refine Wq.go ok10_tellFace 20 [] (hneg _ (by decide) (cIf_t ?_))
    rcases hb with z | z | z | z
    · exact Or.inl z
    · exact Or.inr (Or.inl z)
    · exact Or.inr (Or.inr ⟨by rw [z]; exact hFs, Or.inl z⟩)
    · exact Or.inr (Or.inr ⟨hFOT (hUF.mp z), Or.inr (hUF.mp z)⟩)
  refine Wq.go ok10_tellFace 40 [74, 77] ?_
  refine And.intro t2 (And.intro (fun (c1 : ¬ gI w 7 14 (aT A T) = 0) => no (Or.inl (by rw [u14] at c1; exact c1))) (fun (c1 : gI w 7 14 (aT A T) = 0) => And.intro t2 (refS u9 (And.intro t4 (c9_has t4 (by omega) (And.intro (fun c2 => no (Or.inr (Or.inl ?_))) (fun c2 => And.intro ⟨hR.t2 hT, hR.t2 hF⟩ (And.intro (fun (c3 : aT A T = aT A F) => no (Or.inr (Or.inr (Or.inl (hR.tinj hI hT hF c3))))) (fun (c3 : ¬ aT A T = aT A F) => And.intro f2 (refS u8F (And.intro f3 (c9_has f3 (by omega) (And.intro (fun c4 => ?_) (fun c4 => no (Or.inr (Or.inr (Or.inr ?_)))))))))))))))))
  · rw [bI_n0] at c2; exact (hR.tu T hT F (by omega)).2.mp c2
  rotate_left
  · rw [bI_n0] at c4; exact (hR.tu F hF T (by omega)).1.mp c4
  rw [bI_0] at c2 c4
  rw [u14] at c1
  have hnt : ¬ tld m T F := fun z => c2 ((hR.tu T hT F (by omega)).2.mpr z)
  have hnu : ¬ UpP m F T := fun z => c4 ((hR.tu F hF T (by omega)).1.mpr z)
  have hne : T ≠ F := fun z => c3 (by rw [z])
  rw [cIf_f (fun y => y.elim (fun y => y c1) (fun y => y.elim hnt (fun y => y.2.elim hne (fun y => hnu (hUF.mpr y)))))] at hpos
  -- the loop
  have hUp : ∀ i, i < nT m → ∀ j, UpP (sUn m T F) i j ↔ (UpP m i j ∨ ((i = T ∨ UpP m i T) ∧ (j = F ∨ UpP m F j))) := fun i hi j => un_Up hI hT hTk hF hFs (by omega) hi j
  have hUpF : ∀ j, UpP (sUn m T F) F j ↔ UpP m F j := fun j => by
    rw [hUp F hF]
    exact ⟨fun z => z.elim id (fun z => absurd z.1 (fun y => y.elim (fun y => hne y.symm) hnu)), Or.inl⟩
  have htl := fun a g => un_tl hI (show T < 100 by omega) (show F < 1000 by omega) (by omega) a g
  have loop : ∀ (N n : Nat) (l6 : Option Value) (w1 : qSt), n + N = nT m → 8 ≤ n → UW A m T w w1 → (∀ i, i < nT m → ∀ j, j < 128 → ((tS w1 (aT A i + 1) j = true ↔ if i < n then UpP (sUn m T F) i j else UpP m i j) ∧ (tS w1 (aT A i + 2) j = true ↔ tld (sUn m T F) i j))) →
      Wq G M10_tellFace 89 [some (.ref 3), some (.int (nI T)), some (.int (nI F)), some (.ref (aT A T)), some (.ref (aT A F)), some (.int (nI n)), l6] [] (0, 0) w1 Q := by
    intro N
    induction N with
    | zero =>
      intro n l6 w1 hn h8 hU hts
      have hts2 : ∀ i, i < nT m → ∀ j, j < 128 → ((tS w1 (aT A i + 1) j = true ↔ UpP (sUn m T F) i j) ∧ (tS w1 (aT A i + 2) j = true ↔ tld (sUn m T F) i j)) := fun i hi j hj => by
        have := hts i hi j hj
        rw [if_pos (by omega)] at this
        exact this
      have hR' := rep_under hR hT hU hts2
      have hI2 : ∀ i, fcN (sUn m T F) T i = if i = nF m T then F else fcN m T i := fun i => by
        rw [un_fc (by omega)]
        by_cases e : i = nF m T
        · rw [if_pos e, if_pos (by omega)]
        · rw [if_neg e, if_neg (by omega)]
      have hct2 : fb_ct (fun i => tS w1 (aT A T + 2) i) 128 = nF m T + 1 := by
        refine ct_inj (fcN (sUn m T F) T) (nF m T + 1) (fun i hi => ?_) (fun i j hij hj => ?_) _ (fun g hg => ?_)
        · rw [hI2]
          split
          · omega
          · have := ((hI.fac (i := T) (by omega)).2.2.2 i (by omega)).2.2.1; omega
        · rw [hI2, hI2, if_neg (show ¬ i = nF m T by omega)]
          by_cases e : j = nF m T
          · rw [if_pos e]
            exact fun z => hnt ⟨i, by omega, z⟩
          · rw [if_neg e]
            exact hD T i j (by omega) hij (by omega)
        · rw [(hts2 T hT g hg).2]
          unfold tld
          rw [un_nF (by omega), if_pos rfl]
      have hk : ∀ c, gN w1 0 c = gN w 0 c := fun c => by rw [hU.1]
      refine Wq.ls (ls' := [some (.ref 3), some (.int (nI T)), some (.int (nI F)), some (.ref (aT A T)), some (.ref (aT A F)), some (.int (nI n)), none]) ⟨rfl, rfl, rfl, rfl, rfl, rfl, by cases l6 <;> trivial⟩ ?_
      refine Wq.go ok10_tellFace 30 [] ?_
      refine And.intro ((hk 3).trans hR.k3) (And.intro (fun _ => And.intro ((hk _).trans t2) (refS (by rw [hU.2.1]; exact u9) (And.intro ((hk _).trans t4) (c9_size ((hk _).trans t4) ?_)))) (fun (z : ¬ gI w1 9 3 3 ≤ nI n) => ?_))
      · rw [hct2]
        exact hpos _ A _ w1 (nI_pos (by omega)) rfl ⟨hR', hU.2.2.2.2.2.2 hz, hU.2.2.2.2.2.1⟩
      · rw [hU.2.2.1, hR.cnt hI, nI_leI (by omega) (by omega)] at z; omega
    | succ N ih =>
      intro n l6 w1 hn h8 hU hts
      have hk : ∀ c, gN w1 0 c = gN w 0 c := fun c => by rw [hU.1]
      have hn2 : n < nT m := by omega
      obtain ⟨v1, v2, v3, v4, -⟩ := hR.tk n hn2
      have v8 := (hR.ts n hn2).2.2.2.2.2.2.2.1
      have r8 : gR w1 7 7 (aT A n) = some (aT A n + 1) := by rw [hU.2.1]; exact v8
      have nx : ∀ (w2 : qSt) (l : Option Value), UW A m T w w2 → (∀ i, i < nT m → ∀ j, j < 128 → ((tS w2 (aT A i + 1) j = true ↔ if i < n + 1 then UpP (sUn m T F) i j else UpP m i j) ∧ (tS w2 (aT A i + 2) j = true ↔ tld (sUn m T F) i j))) →
          Wq G M10_tellFace 151 [some (.ref 3), some (.int (nI T)), some (.int (nI F)), some (.ref (aT A T)), some (.ref (aT A F)), some (.int (nI n)), l] [] (0, 0) w2 Q := by
        intro w2 l hU2 hts2
        refine Wq.ls (ls' := [some (.ref 3), some (.int (nI T)), some (.int (nI F)), some (.ref (aT A T)), some (.ref (aT A F)), some (.int (nI n)), none]) ⟨rfl, rfl, rfl, rfl, rfl, rfl, by cases l <;> trivial⟩ ?_
        refine Wq.go ok10_tellFace 30 [89] ?_
        show Wq G M10_tellFace 89 [some (.ref 3), some (.int (nI T)), some (.int (nI F)), some (.ref (aT A T)), some (.ref (aT A F)), some (.int (nI n + 1)), none] [] (0, 0) w2 Q
        rw [nI_1]
        exact ih (n + 1) none w2 (by omega) (by omega) hU2 hts2
      have k129 : (n = T ∨ UpP m n T) → Wq G M10_tellFace 129 [some (.ref 3), some (.int (nI T)), some (.int (nI F)), some (.ref (aT A T)), some (.ref (aT A F)), some (.int (nI n)), some (.ref (aT A n))] [] (0, 0) w1 Q := by
        intro hc
        have hnF : n ≠ F := fun e => by
          rw [e] at hc
          rcases hc with z | z
          · exact hne z.symm
          · exact hnu z
        refine Wq.go ok10_tellFace 30 [151] ?_
        refine And.intro ((hk _).trans v2) (refS r8 (And.intro ((hk _).trans v3) (c9_add ((hk _).trans v3) (by omega) (fun lo hi hbt => ?_))))
        have hU1 : UW A m T w (sS w1 (aT A n + 1) lo hi) := hU.S (Or.inl ⟨n, hn2, rfl⟩) v3
        have hk1 : ∀ c, gN (sS w1 (aT A n + 1) lo hi) 0 c = gN w 0 c := fun c => by rw [hU1.1]
        refine And.intro ((hk1 _).trans v2) (refS r8 (And.intro ((hk1 _).trans f2) (refS (show gR w1 7 7 (aT A F) = some (aT A F + 1) by rw [hU.2.1]; exact u8F) (And.intro ((hk1 _).trans v3) (c9_addAll ((hk1 _).trans v3) ((hk1 _).trans f3) (fun lo2 hi2 hbt2 => ?_))))))
        refine nx _ _ (hU1.S (Or.inl ⟨n, hn2, rfl⟩) v3) (fun i hi j hj => ⟨?_, ?_⟩)
        · by_cases e : i = n
          · subst e
            rw [tS_at, hbt2 j hj, tS_at, hbt j hj, tS_ne _ _ _ (fun z => hnF ((hR.uns hI hi hF).1 z.symm)), if_pos (by omega), Bool.or_eq_true, Bool.or_eq_true, decide_eq_true_iff, (hts i hi j hj).1, (hts F hF j hj).1, if_neg (by omega), hUp i hi]
            have hF2 : (if F < i then UpP (sUn m T F) F j else UpP m F j) ↔ UpP m F j := by
              split
              · exact hUpF j
              · exact Iff.rfl
            rw [hF2]
            constructor
            · rintro ((z | z) | z)
              · exact Or.inl z
              · exact Or.inr ⟨hc, Or.inl z⟩
              · exact Or.inr ⟨hc, Or.inr z⟩
            · rintro (z | ⟨-, z | z⟩)
              · exact Or.inl (Or.inl z)
              · exact Or.inl (Or.inr z)
              · exact Or.inr z
          · rw [tS_ne _ _ _ (fun z => e ((hR.uns hI hi hn2).1 z)), tS_ne _ _ _ (fun z => e ((hR.uns hI hi hn2).1 z)), (hts i hi j hj).1]
            by_cases e2 : i < n
            · rw [if_pos e2, if_pos (by omega)]
            · rw [if_neg e2, if_neg (by omega)]
        · rw [tS_ne _ _ _ (fun z => (hR.uns hI hn2 hi).2.1 z.symm), tS_ne _ _ _ (fun z => (hR.uns hI hn2 hi).2.1 z.symm)]
          exact (hts i hi j hj).2
      refine Wq.ls (ls' := [some (.ref 3), some (.int (nI T)), some (.int (nI F)), some (.ref (aT A T)), some (.ref (aT A F)), some (.int (nI n)), none]) ⟨rfl, rfl, rfl, rfl, rfl, rfl, by cases l6 <;> trivial⟩ ?_
      refine Wq.go ok10_tellFace 40 [129, 151] ?_
      refine And.intro ((hk 3).trans hR.k3) (And.intro (fun (z : gI w1 9 3 3 ≤ nI n) => ?_) (fun _ => And.intro ((hk 3).trans hR.k3) ?_))
      · rw [hU.2.2.1, hR.cnt hI, nI_leI (by omega) (by omega)] at z; omega
      refine Con.go hw10_at ok10_at 20 [] rfl ?_
      refine And.intro (fun c => absurd c (nI_pos (by omega))) (fun _ => And.intro ((hk 3).trans hR.k3) (And.intro (fun _ => And.intro ((hk 3).trans hR.k3) (refS (show gR w1 9 0 3 = some 4 by rw [hU.2.1]; exact hR.fr.2.2.2.2.2.2.1) (And.intro (And.intro (by rw [hk 4, hR.fk.2.2.1.1]; rfl) (by rw [hU.1, hR.fk.2.2.1.2]; exact in_nI (by omega) (by decide))) ?_))) (fun (z : ¬ nI n < gI w1 9 3 3) => ?_)))
      rotate_left
      · rw [hU.2.2.1, hR.cnt hI, nI_ltI (by omega) (by omega)] at z; omega
      rw [nI_clamp (by omega)]
      refine refS (show gR w1 23 4 n = some (aT A n) by rw [hU.2.1]; exact v1) ?_
      refine And.intro ⟨hR.t2 hn2, hR.t2 hT⟩ (And.intro (fun (z : aT A n = aT A T) => k129 (Or.inl (hR.tinj hI hn2 hT z))) (fun (z : ¬ aT A n = aT A T) => And.intro ((hk _).trans v2) (refS r8 (And.intro ((hk _).trans v3) (c9_has ((hk _).trans v3) (by omega) ?_)))))
      rw [show (tS w1 (aT A n + 1) T = true) = UpP m n T from propext (by
        have := (hts n hn2 T (by omega)).1
        rw [if_neg (by omega)] at this
        exact this)]
      refine And.intro (fun c => ?_) (fun c => ?_)
      · rw [bI_0] at c
        refine nx w1 _ hU (fun i hi j hj => ⟨?_, (hts i hi j hj).2⟩)
        rw [(hts i hi j hj).1]
        by_cases e : i = n
        · subst e
          rw [if_neg (by omega), if_pos (by omega), hUp i hi]
          exact ⟨Or.inl, fun y => y.elim id (fun y => absurd y.1 (fun y => y.elim (fun y => z (by rw [y])) c))⟩
        · by_cases e2 : i < n
          · rw [if_pos e2, if_pos (by omega)]
          · rw [if_neg e2, if_neg (by omega)]
      · rw [bI_n0] at c
        exact k129 (Or.inr c)
  refine Wq.go ok10_tellFace 30 [89] ?_
  refine And.intro t2 (refS u9 (And.intro t4 (c9_add t4 (by omega) (fun lo hi hbt => ?_))))
  refine loop (nT m - 8) 8 none _ (by omega) (Nat.le_refl _) ((UW.rf A m T w).S (Or.inr rfl) t4) (fun i hi j hj => ⟨?_, ?_⟩)
  · rw [tS_ne _ _ _ (hR.uns hI hi hT).2.1, (hR.tu i hi j hj).1]
    by_cases e : i < 8
    · rw [if_pos e, hUp i hi]
      refine ⟨Or.inl, fun y => y.elim id (fun y => absurd y.1 (fun y => ?_))⟩
      rcases y with y | ⟨y, -⟩ | ⟨y, -⟩ | ⟨y, -⟩
      · omega
      · rw [hI.lane e] at y; exact absurd y (by decide)
      · rw [hI.lane e] at y; exact absurd y (by decide)
      · rw [hI.lane e] at y; exact absurd y (by decide)
    · rw [if_neg e]
  · rw [htl]
    by_cases e : i = T
    · subst e
      rw [tS_at, hbt j hj, Bool.or_eq_true, decide_eq_true_iff, (hR.tu i hi j hj).2]
      exact ⟨fun z => z.elim Or.inl (fun z => Or.inr ⟨rfl, z⟩), fun z => z.elim Or.inl (fun z => Or.inr z.2)⟩
    · rw [tS_ne _ _ _ (fun z => e ((hR.uns hI hi hT).2.2 z)), (hR.tu i hi j hj).2]
      exact ⟨Or.inl, fun z => z.elim id (fun z => absurd z.1 e)⟩
theorem c11_under {t f : Int32} (hR : Rep A m w) (hI : TInv m) (hD : DInv m) (hz : qZero w) (h : ∀ A' w', Fin A' (S_under m t f).2 w w' → Q (some (.int (S_under m t f).1)) w') : Con G M11_under [.ref 2, .int t, .int f] w Q := by
  refine Con.go hw11_under ok11_under 40 [] rfl ?_
  refine And.intro hR.k2 (refS hR.r1 (And.intro hR.k3 ?_))
  exact c10_tellFace hR hI hD hz (OpQ.ans hR hz h (fun v w' q => q _ (fun _ z => z)))
end
