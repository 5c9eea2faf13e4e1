/-! ===== handles made by the class ===== -/
section
variable {G : qGX} {A : qA} {m w : qSt} {Q : Option Value → qSt → Prop}
theorem c10_anyMethodFor {c n : Nat} (hR : Rep A m w) (hI : TInv m) (hc : c < nT m) (hs : ma m 0 c = 1) (hn : n < 10) (h : Q (some (.int (bI (hasM m c (nI n))))) w) : Con G M10_anyMethodFor [.ref 3, .ref (aT A c), .int (nI n)] w Q := by
  have h100 := hI.le
  have hcnt := hR.cnt hI
  have k4 := hR.fk.2.2.1
  have tc := hR.tk c hc
  have hup : ∀ i, i < nT m → ((UpP m c i ∧ ¬ mby m i (nI n) 0 = -1) → hasM m c (nI n)) := by
    intro i hi ⟨h1, h2⟩
    rcases h1 with h1 | h1
    · exact Or.inl ⟨i, h1.2, h2⟩
    · exact Or.inr ⟨i, h1, h2⟩
  have hdn : hasM m c (nI n) → ∃ i, 9 ≤ i ∧ i < nT m ∧ UpP m c i ∧ ¬ mby m i (nI n) 0 = -1 := by
    intro z
    rcases z with ⟨d, hd, h2⟩ | ⟨f, hf, h2⟩
    · obtain ⟨d1, d2, d3⟩ := abvs_in hI c hc hs d hd
      refine ⟨d, ?_, by omega, Or.inl ⟨hs, hd⟩, h2⟩
      rcases Nat.lt_or_ge d 9 with y | y
      · exfalso
        have : d = 8 := by omega
        subst this
        apply h2
        exact mby_no hI (by omega) (fun z => by
          rcases z with z | z
          · rw [hI.any] at z; exact absurd z (by decide)
          · exact z.2 rfl) _ _
      · exact y
    · obtain ⟨f1, f2, f3⟩ := FOf.in_ hI hc hf
      exact ⟨f, f1, f2, Or.inr hf, h2⟩
  have loop : ∀ (k i : Nat), 9 ≤ i → i + k = nT m → (∀ j, 9 ≤ j → j < i → ¬ (UpP m c j ∧ ¬ mby m j (nI n) 0 = -1)) → Wq G M10_anyMethodFor 3 [some (.ref 3), some (.ref (aT A c)), some (.int (nI n)), some (.int (nI i))] [] (0, 0) w Q := by
    intro k
    induction k with
    | zero =>
      intro i h9 hi hno
      refine Wq.go ok10_anyMethodFor 20 [] ?_
      refine And.intro hR.k3 (And.intro (fun _ => ?_) (fun z => absurd (by rw [hcnt, nI_leI (by omega) (by omega)]; omega) z))
      rw [bI_f (fun z => by
        obtain ⟨j, j1, j2, j3⟩ := hdn z
        exact hno j j1 (by omega) j3)] at h
      exact And.intro rfl h
    | succ k ih =>
      intro i h9 hi hno
      have tk := hR.tk i (by omega)
      have nx : ¬ (UpP m c i ∧ ¬ mby m i (nI n) 0 = -1) → Wq G M10_anyMethodFor 37 [some (.ref 3), some (.ref (aT A c)), some (.int (nI n)), some (.int (nI i))] [] (0, 0) w Q := by
        intro hni
        refine Wq.go ok10_anyMethodFor 20 [3] ?_
        show Wq G M10_anyMethodFor 3 [some (.ref 3), some (.ref (aT A c)), some (.int (nI n)), some (.int (nI i + 1))] [] (0, 0) w Q
        rw [nI_1]
        refine ih (i + 1) (by omega) (by omega) (fun j j1 j2 => ?_)
        rcases Nat.lt_or_ge j i with y | y
        · exact hno j j1 y
        · have : j = i := by omega
          subst this; exact hni
      refine Wq.go ok10_anyMethodFor 30 [37] ?_
      refine And.intro hR.k3 (And.intro (fun z => ?_) (fun z => And.intro tc.2.1 (refS (hR.ts c hc).2.2.2.2.2.2.2.1 (And.intro tc.2.2.1 (c9_has tc.2.2.1 (by omega) (And.intro (fun z2 => ?_) (fun z2 => ?_)))))))
      · rw [hcnt, nI_leI (by omega) (by omega)] at z; omega
      · rw [bI_0, (hR.tu c hc i (by omega)).1] at z2
        exact nx (fun y => z2 y.1)
      · rw [bI_n0, (hR.tu c hc i (by omega)).1] at z2
        refine And.intro hR.k3 (refS hR.fr.2.2.2.2.2.2.1 (And.intro (And.intro (by rw [k4.1]; rfl) (by rw [k4.2]; exact in_nI (by omega) (by decide))) ?_))
        rw [nI_clamp (by omega)]
        refine refS tk.1 (And.intro tk.2.1 (c8_methodNamed hR hI (by omega) hn (fun e => nx (fun y => y.2 e)) (fun j e hj => ?_)))
        have h10 := (hI.mbs (i := i) (by omega)).2.1
        rw [bI_t (hup i (by omega) ⟨z2, by rw [e, i32_eq, nI_t (by omega)]; intro y; have : ((-1 : Int32)).toInt = -1 := rfl; omega⟩)] at h
        exact And.intro rfl h
  refine Con.go hw10_anyMethodFor ok10_anyMethodFor 20 [3] rfl ?_
  exact loop (nT m - 9) 9 (by omega) (by omega) (fun j j1 j2 => by omega)
theorem Rep.k74 (hR : Rep A m w) : gN w 0 74 = 24 ∧ gN w 1 74 = 40 := hR.fk.2.2.2.2.2.2.2.2.1
/-- a handle more -/
theorem rep_handle {u : qSt} {a C N : Nat} {fld : Option Nat} {me : Int32} {at_ : Nat} (hR : Rep A m w) (hH : HInv m) (hh : nH m < 40) (hz : qZero w) (ha : gN w 2 0 = a) (mk : Mkg w u (a + 1)) (k0 : gN u 0 a = 1) (r0 : gR u 1 0 a = some (aT A C)) (r1 : gR u 1 1 a = fld) (i2 : gI u 1 2 a = nI N) (hC1 : C < 100) (hQ : QInv m)
    (hf : (me = 0 ∧ fld = some (aB A at_) ∧ at_ < 1000) ∨ (me = 1 ∧ fld = none ∧ at_ = N ∧ N < 10)) :
    Rep (A.1, A.2.1, A.2.2.1, (fun h => if h = nH m then a else aH A h), A.2.2.2.2.1, A.2.2.2.2.2) (sHdl m (nI C) me (nI at_)) (sI (sR u 23 74 (nH m) (some a)) 4 4 73 (nI (nH m + 1))) := by
  have hR1 := hR.agree mk.1
  have h74 := hR1.k74
  have h99 : gN w 0 a = 99 := hz.k (by omega)
  have rows : ∀ r, r ≠ 24 → r ≠ 25 → r ≠ 26 → ma (sHdl m (nI C) me (nI at_)) r = ma m r := by
    intro r r1 r2 r3
    funext i
    unfold sHdl
    show gI (sI (sI (sI (sI m 40 24 (nH m) (nI C)) 40 25 (nH m) me) 40 26 (nH m) (nI at_)) 12 29 0 (nI (nH m + 1))) 40 r i = _
    rw [gI_ne (by omega), gI_ne (by omega), gI_ne (by omega), gI_ne (by omega)]
  have e29 : mi (sHdl m (nI C) me (nI at_)) 29 = nI (nH m + 1) := gI_at _ _ _ _ _
  have enH : nH (sHdl m (nI C) me (nI at_)) = nH m + 1 := (congrArg tn e29).trans (tn_nI (by omega))
  have e24 : ∀ h, ma (sHdl m (nI C) me (nI at_)) 24 h = if h = nH m then nI C else ma m 24 h := by
    intro h
    unfold sHdl
    show gI (sI (sI (sI (sI m 40 24 (nH m) (nI C)) 40 25 (nH m) me) 40 26 (nH m) (nI at_)) 12 29 0 (nI (nH m + 1))) 40 24 h = _
    rw [gI_ne (by omega), gI_ne (by omega), gI_ne (by omega)]
    by_cases z : h = nH m
    · rw [if_pos z, z]; exact gI_at _ _ _ _ _
    · rw [if_neg z]; exact gI_ne (by omega)
  have e25 : ∀ h, ma (sHdl m (nI C) me (nI at_)) 25 h = if h = nH m then me else ma m 25 h := by
    intro h
    unfold sHdl
    show gI (sI (sI (sI (sI m 40 24 (nH m) (nI C)) 40 25 (nH m) me) 40 26 (nH m) (nI at_)) 12 29 0 (nI (nH m + 1))) 40 25 h = _
    rw [gI_ne (by omega), gI_ne (by omega)]
    by_cases z : h = nH m
    · rw [if_pos z, z]; exact gI_at _ _ _ _ _
    · rw [if_neg z, gI_ne (by omega), gI_ne (by omega)]
  have e26 : ∀ h, ma (sHdl m (nI C) me (nI at_)) 26 h = if h = nH m then nI at_ else ma m 26 h := by
    intro h
    unfold sHdl
    show gI (sI (sI (sI (sI m 40 24 (nH m) (nI C)) 40 25 (nH m) me) 40 26 (nH m) (nI at_)) 12 29 0 (nI (nH m + 1))) 40 26 h = _
    rw [gI_ne (by omega)]
    by_cases z : h = nH m
    · rw [if_pos z, z]; exact gI_at _ _ _ _ _
    · rw [if_neg z, gI_ne (by omega), gI_ne (by omega), gI_ne (by omega)]
  have hat : at_ < 1000 := by rcases hf with y | y <;> omega
  refine Rep.mk hR1.fk (FixR.set hR1.fr (by omega)) ((GTy.set hR1.gty (by omega) (by rw [h74.1]; omega)).cg ⟨rfl, fun r hr h4 => rows r (by omega) (by omega) (by omega)⟩ (rows 4 (by omega) (by omega) (by omega)) rfl) ((GXo.set hR1.gxo (by omega)).cg rfl (rows 19 (by omega) (by omega) (by omega)) (rows 20 (by omega) (by omega) (by omega)) (rows 21 (by omega) (by omega) (by omega)) (rows 22 (by omega) (by omega) (by omega)) rfl) (fun h hh2 => ?_) ((GCo.set hR1.gco (by omega)).cg (rows 28 (by omega) (by omega) (by omega)) (rows 29 (by omega) (by omega) (by omega)) (rows 30 (by omega) (by omega) (by omega)) rfl) ⟨⟨fun q hq => ?_, hR1.qk.2⟩, fun q hq => ?_⟩ ?_ ?_ ?_
  · rw [enH] at hh2
    have ehC : hC (sHdl m (nI C) me (nI at_)) h = if h = nH m then C else hC m h := by
      show tn (ma (sHdl m (nI C) me (nI at_)) 24 h) = _
      rw [e24]
      by_cases z : h = nH m
      · rw [if_pos z, if_pos z]; exact tn_nI (by omega)
      · rw [if_neg z, if_neg z]; rfl
    have ehA : hA (sHdl m (nI C) me (nI at_)) h = if h = nH m then at_ else hA m h := by
      show tn (ma (sHdl m (nI C) me (nI at_)) 26 h) = _
      rw [e26]
      by_cases z : h = nH m
      · rw [if_pos z, if_pos z]; exact tn_nI (by omega)
      · rw [if_neg z, if_neg z]; rfl
    rw [ehC, ehA, e25, e26]
    show gR (sR u 23 74 (nH m) (some a)) 23 74 h = some (if h = nH m then a else aH A h) ∧ gN u 0 (if h = nH m then a else aH A h) = 1 ∧ gR u 1 0 (if h = nH m then a else aH A h) = some (aT A (if h = nH m then C else hC m h)) ∧ gR u 1 1 (if h = nH m then a else aH A h) = cIf ((if h = nH m then me else ma m 25 h) = 0) (some (aB A (if h = nH m then at_ else hA m h))) none ∧ (¬ (if h = nH m then me else ma m 25 h) = 0 → gI u 1 2 (if h = nH m then a else aH A h) = if h = nH m then nI at_ else ma m 26 h)
    by_cases z : h = nH m
    · rw [if_pos z, if_pos z, if_pos z, if_pos z, if_pos z, z, gR_at]
      refine ⟨rfl, k0, r0, ?_, fun y => ?_⟩
      · rcases hf with ⟨y1, y2, -⟩ | ⟨y1, y2, -⟩
        · rw [cIf_t y1, r1, y2]
        · rw [cIf_f (by rw [y1]; decide), r1, y2]
      · rcases hf with ⟨y1, -⟩ | ⟨y1, y2, y3, -⟩
        · exact absurd y1 y
        · rw [i2, y3]
    · rw [if_neg z, if_neg z, if_neg z, if_neg z, if_neg z, gR_ne (by omega)]
      exact hR1.hd h (by omega)
  · obtain ⟨a1, a2⟩ := hR1.qk.1 q hq
    exact ⟨(gR_ne (by omega)).trans a1, a2⟩
  · have hq : q < nQ m := hq
    obtain ⟨v1, v2⟩ := hR1.qm q hq
    rw [rows 32 (by omega) (by omega) (by omega), rows 34 (by omega) (by omega) (by omega), rows 36 (by omega) (by omega) (by omega)]
    refine ⟨v1, fun i hi => ?_⟩
    have etQ : tQ (sHdl m (nI C) me (nI at_)) q = tQ m q := congrArg tn (congrFun (rows 32 (by omega) (by omega) (by omega)) q)
    have etH : tH (sHdl m (nI C) me (nI at_)) (8 * q + i) = tH m (8 * q + i) := congrArg tn (congrFun (rows 33 (by omega) (by omega) (by omega)) _)
    rw [etQ] at hi
    obtain ⟨w1, w2, w3, w4⟩ := v2 i hi
    rw [etH]
    refine ⟨?_, w2, w3, w4⟩
    show gR (sR u 23 74 (nH m) (some a)) 23 (aY A q + 1) i = some (if tH m (8 * q + i) = nH m then a else aH A (tH m (8 * q + i)))
    have hne : aY A q + 1 ≠ 74 := fun y => by
      have := (hR1.qk.1 q hq).2.1
      rw [show aY A q = 73 by omega, hR1.k73] at this; omega
    rw [gR_ne (by omega), w1]
    have : tH m (8 * q + i) ≠ nH m := by
      have hq20 : q < 20 := by have := hQ.2.1; omega
      have := ((hQ.2.2 q hq20).2.2.2 i hi).2.1
      omega
    rw [if_neg this]
  · refine MaT.cg (m := sI m 12 29 0 (nI (nH m + 1))) ?_ rfl rfl e29 (rows 0 (by omega) (by omega) (by omega)) (rows 4 (by omega) (by omega) (by omega))
    obtain ⟨a1, a2, a3, a4, a5⟩ := MaT.cg (m' := sI m 12 29 0 (nI (nH m + 1))) (m := sI m 12 29 0 (nI (nH m + 1))) (w := sI (sR u 23 74 (nH m) (some a)) 4 4 73 (nI (nH m + 1))) ⟨hR1.mt.1, hR1.mt.2.1.trans (congrArg nI (congrFun (ecs0 (m := m) (m' := sI m 12 29 0 (nI (nH m + 1))) rfl) _)).symm, hR1.mt.2.2.1.trans (congrArg nI (congrFun (ecl4 (m := m) (m' := sI m 12 29 0 (nI (nH m + 1))) rfl) _)).symm, hR1.mt.2.2.2.1, (gI_at _ _ _ _ _).trans (gI_at m 12 29 0 _).symm⟩ rfl rfl rfl rfl rfl
    exact ⟨a1, a2, a3, a4, a5⟩
  · obtain ⟨a1, a2⟩ := hR1.mr
    refine ⟨a1, fun i hi => ?_⟩
    rw [rows 27 (by omega) (by omega) (by omega)]
    exact a2 i hi
  · obtain ⟨a1, a2, a3, a4, a5, a6, a7⟩ := hR1.mq
    refine ⟨a1, a2, a3, a4, a5, a6, fun i hi => ?_⟩
    rw [rows 37 (by omega) (by omega) (by omega)]
    exact a7 i hi
def fV : Option Nat → Value
  | some b => .ref b
  | none => .null
theorem c1_init {a c N : Nat} {fld : Option Nat} (hz : qZero w) (ha : gN w 2 0 = a) (h : ∀ u, Mkg w u (a + 1) → gN u 0 a = 1 → gR u 1 0 a = some c → gR u 1 1 a = fld → gI u 1 2 a = nI N → Q none u) : Con G M1_init [.ref a, .ref c, fV fld, .int (nI N)] (nwO w 1) Q := by
  have g0 := (Mkg.of hz).obj 1
  rw [ha] at g0
  obtain ⟨m0, k0, -⟩ := g0
  generalize nwO w 1 = u0 at m0 k0 ⊢
  have fin : ∀ f : Option Nat, fld = f → Q none (sI (sR (sR u0 1 0 a (some c)) 1 1 a f) 1 2 a (nI N)) := by
    intro f e
    refine h _ (((m0.R (by omega) (by omega) (by omega)).R (by omega) (by omega) (by omega)).I (by omega) (by omega) (by omega)) k0 ?_ ?_ (gI_at _ _ _ _ _)
    · exact (gR_ne (w := sR u0 1 0 a (some c)) (by omega)).trans (gR_at _ _ _ _ _)
    · rw [e]; exact gR_at _ _ _ _ _
  cases fld with
  | none =>
    refine Con.go hw1_init ok1_init 20 [] rfl ?_
    exact And.intro k0 (And.intro k0 (And.intro k0 (fin none rfl)))
  | some b =>
    refine Con.go hw1_init ok1_init 20 [] rfl ?_
    exact And.intro k0 (And.intro k0 (And.intro k0 (fin (some b) rfl)))
/-- an inner call that answers what a call of the model does: refused, or done -/
def OpQ (S : Int32 × qSt) (m w : qSt) (Q : Option Value → qSt → Prop) : Prop := (∀ v, v < 0 → S = (v, stt m v) → Q (some (.int v)) w) ∧ (∀ v A' m1 w', ¬ v < 0 → S = (v, stt m1 0) → Fin A' m1 w w' → Q (some (.int v)) w')
/-- behind it the outer call tells the refusal -/
theorem OpQ.ans {S : Int32 × qSt} (hR : Rep A m w) (hz : qZero w) {Q' : Option Value → qSt → Prop} (h : ∀ A' w', Fin A' S.2 w w' → Q (some (.int S.1)) w') (hk : ∀ v w', (∀ Q2 : Option Value → qSt → Prop, (∀ w2, Q (some (.int v)) w2 → Q2 (some (.int v)) w2) → (gN w' 0 2 = 10 ∧ Con G M11_answered [.ref 2, .int v] w' Q2)) → Q' (some (.int v)) w') : OpQ S m w Q' := by
  refine ⟨fun v hv e => hk v w (fun Q2 h2 => And.intro hR.k2 ?_), fun v A' m1 w' hv e hF => hk v w' (fun Q2 h2 => And.intro hF.1.k2 ?_)⟩
  · rw [e] at h
    exact ans_n hR hz hv (fun A2 w2 hF => h2 w2 (h A2 w2 hF))
  · rw [e] at h
    exact ans_p hF.1 hF.2.1 hv (fun A2 w2 hF2 => h2 w2 (h A2 w2 (hF2.cw hF.2.2)))
theorem c5_addHandle {c n me : Int32} (hR : Rep A m w) (hI : TInv m) (hH : HInv m) (hQ : QInv m) (hz : qZero w) (hme : me = 0 ∨ me = 1) (h : OpQ (S_handle m c n me) m w Q) : Con G M5_addHandle [.ref 73, .int c, .int n, .int me] w Q := by
  have h100 := hI.le
  have h40 := hH.2.1
  have hcnt : gI w 4 4 73 = nI (nH m) := hR.mt.2.2.2.2.trans hH.1
  obtain ⟨hneg, hpos⟩ := h
  unfold S_handle at hneg hpos
  have hr0 : gR w 4 0 73 = some 3 := hR.fr.2.2.2.2.2.2.2.2.2.2.2.2.1
  have hr2 : gR w 4 2 73 = some 74 := hR.fr.2.2.2.2.2.2.2.2.2.2.2.2.2.2.1
  refine Con.go hw5_addHandle ok5_addHandle 40 [24] rfl ?_
  refine And.intro hR.k73 (refS hr0 (And.intro hR.k3 (c10_classAt hR hI (fun z => hneg _ (by decide) (cIf_t (Or.inl z))) (fun i ei hi hs => ?_))))
  refine c11_isName (And.intro (fun z => ?_) (fun z => hneg _ (by decide) (cIf_t (Or.inr (bI_0.mp z)))))
  rw [bI_n0] at z
  rw [cIf_f (fun y => y.elim (fun y => y ⟨i, ei, hi, hs⟩) (fun y => y z))] at hneg hpos
  obtain ⟨N, rfl, hN⟩ := z
  subst ei
  rw [tn_nI (by omega)] at hneg hpos
  refine Wq.go ok5_addHandle 40 [36] ?_
  refine And.intro hR.k73 (And.intro (fun (c1 : gI w 4 4 73 < 40) => ?_) (fun (c1 : ¬ gI w 4 4 73 < 40) => ?_)) <;> rw [hcnt, c_40, nI_ltI (by omega) (by omega)] at c1
  · rw [cIf_f (by omega)] at hneg hpos
    -- the new handle
    have tail : ∀ (fld : Option Nat) (at_ a : Nat) (u : qSt) (l5 : Value), ((me = 0 ∧ fld = some (aB A at_) ∧ at_ < 1000) ∨ (me = 1 ∧ fld = none ∧ at_ = N ∧ N < 10)) → (∀ A' w', Fin A' (sHdl m (nI i) me (nI at_)) w w' → Q (some (.int (nI (nH m)))) w') → gN w 2 0 = a → Mkg w u (a + 1) → gN u 0 a = 1 → gR u 1 0 a = some (aT A i) → gR u 1 1 a = fld → gI u 1 2 a = nI N →
        Wq G M5_addHandle 104 [some (.ref 73), some (.int (nI i)), some (.int (nI N)), some (.int me), some (.ref (aT A i)), some l5] [.ref a, .int (nI (nH m)), .ref 74] (1, 3) u Q := by
      intro fld at_ a u l5 hf hq ha mk k0 r0 r1 i2
      have hR1 := hR.agree mk.1
      have h74 := hR1.k74
      have hc1 : gI u 4 4 73 = nI (nH m) := hR1.mt.2.2.2.2.trans hH.1
      refine Wq.go ok5_addHandle 40 [] ?_
      refine And.intro (And.intro (by rw [h74.1]; rfl) (And.intro (by rw [k0, h74.1]) (by rw [h74.2]; exact in_nI (by omega) (by decide)))) ?_
      rw [nI_clamp (by omega)]
      refine And.intro hR1.k73 (And.intro hR1.k73 (And.intro hR1.k73 ?_))
      show Q (some (.int (gI (sI (sR u 23 74 (nH m) (some a)) 4 4 73 (gI u 4 4 73 + 1)) 4 4 73 - 1))) (sI (sR u 23 74 (nH m) (some a)) 4 4 73 (gI u 4 4 73 + 1))
      rw [hc1, gI_at, nI_1, nI_m1]
      have l74 := mk.2.1.lt h74.1 (by omega)
      have l73 := mk.2.1.lt hR1.k73 (by omega)
      exact hq _ _ ⟨rep_handle hR hH (by omega) hz ha mk k0 r0 r1 i2 (by omega) hQ hf, (mk.2.1.AR l74).I l73 (by omega), (mk.2.2.1.R).I rfl⟩
    have k74 := hR.k74
    refine Wq.go ok5_addHandle 40 [54] ?_
    refine And.intro (fun (c2 : me = 0) => And.intro hR.k73 (refS hr0 (And.intro hR.k3 (c10_fieldFrom hR hI hi hs hN (fun e => ?_) (fun d j e hd hj hdc => ?_))))) (fun (c2 : ¬ me = 0) => ?_)
    · subst c2
      rw [cIf_t rfl, e] at hneg
      refine Wq.go ok5_addHandle 40 [] ?_
      exact And.intro (fun _ => hneg _ (by decide) rfl) (fun y => absurd rfl y)
    · subst c2
      rw [cIf_t rfl, e] at hpos
      have h10 := (hI.mbs (i := d) (by omega)).2.1
      refine Wq.go ok5_addHandle 40 [104] ?_
      refine And.intro (fun _ => ?_) (fun y => absurd rfl y)
      refine And.intro hR.k73 (refS hr2 (And.intro hR.k73 (And.intro ⟨by decide, by decide⟩ (fun a ha => ?_))))
      refine c1_init (fld := some (aB A (10 * d + j))) hz ha (fun u mk k0 r0 r1 i2 => ?_)
      rw [hcnt]
      exact tail (some (aB A (10 * d + j))) (10 * d + j) a u (.ref (aB A (10 * d + j))) (Or.inl ⟨rfl, rfl, by omega⟩) (fun A' w' hF => hpos _ A' _ w' (nI_pos (by omega)) rfl hF) ha mk k0 r0 r1 i2
    · have me1 := hme.resolve_left c2
      rw [cIf_f c2] at hneg hpos
      refine Wq.go ok5_addHandle 40 [84] ?_
      refine And.intro (fun y => absurd y c2) (fun _ => And.intro hR.k73 (refS hr0 (And.intro hR.k3 (c10_anyMethodFor hR hI hi hs hN (And.intro (fun c3 => ?_) (fun c3 => ?_))))))
      · rw [bI_n0] at c3
        rw [cIf_t c3] at hpos
        refine Wq.go ok5_addHandle 40 [104] ?_
        refine And.intro hR.k73 (refS hr2 (And.intro hR.k73 (And.intro ⟨by decide, by decide⟩ (fun a ha => ?_))))
        refine c1_init (fld := none) hz ha (fun u mk k0 r0 r1 i2 => ?_)
        rw [hcnt]
        exact tail none N a u .null (Or.inr ⟨me1, rfl, rfl, hN⟩) (fun A' w' hF => hpos _ A' _ w' (nI_pos (by omega)) rfl hF) ha mk k0 r0 r1 i2
      · rw [bI_0] at c3
        rw [cIf_f c3] at hneg
        exact hneg _ (by decide) rfl
  · exact hneg _ (by decide) (cIf_t (by omega))
theorem c11_handle {c n me : Int32} (hR : Rep A m w) (hI : TInv m) (hH : HInv m) (hQ : QInv m) (hz : qZero w) (hme : me = 0 ∨ me = 1) (h : ∀ A' w', Fin A' (S_handle m c n me).2 w w' → Q (some (.int (S_handle m c n me).1)) w') : Con G M11_handle [.ref 2, .int c, .int n, .int me] w Q := by
  refine Con.go hw11_handle ok11_handle 40 [] rfl ?_
  refine And.intro hR.k2 (refS hR.r3 (And.intro hR.k73 (And.intro ⟨by decide, by decide⟩ ?_)))
  exact c5_addHandle hR hI hH hQ hz hme (OpQ.ans hR hz h (fun v w' q => q _ (fun _ z => z)))
end
