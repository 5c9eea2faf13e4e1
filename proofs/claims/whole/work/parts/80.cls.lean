/-! ===== add, cls, face of the class ===== -/
theorem nw_mk {m : qSt} (h : nT m < 100) (v : Int32) : NwT m (sMk m v) := by
  refine ⟨gI_at _ _ _ _ _, h, fun r i q => ?_, fun _ => rfl, fun k hk => gI_ne (w := sI m 40 0 (nT m) v) (by omega)⟩
  show gI (sI m 40 0 (nT m) v) 40 r i = _
  exact gI_ne (by omega)
theorem NwT.set {m m' : qSt} (h : NwT m m') {r : Nat} (hr : r ≤ 3) (v : Int32) : NwT m (sI m' 40 r (nT m) v) :=
  ⟨h.1, h.2.1, fun r' i q => (show gI (sI m' 40 r (nT m) v) 40 r' i = gI m' 40 r' i from gI_ne (by omega)).trans (h.2.2.1 r' i q), h.2.2.2.1, h.2.2.2.2⟩
theorem mk_0 (m : qSt) (v : Int32) : ma (sMk m v) 0 (nT m) = v := gI_at m 40 0 (nT m) v
theorem rf_some {m : qSt} {x : Int32} : ∀ {k i r : Nat}, rfF m x k i = some r → i ≤ r ∧ r < i + k ∧ ma m 0 r = 4 ∧ ma m 2 r = x := by
  intro k
  induction k with
  | zero => intro i r h; cases h
  | succ k ih =>
    intro i r h
    have h : cIf (ma m 0 i = 4 ∧ ma m 2 i = x) (some i) (rfF m x k (i + 1)) = some r := h
    by_cases c : ma m 0 i = 4 ∧ ma m 2 i = x
    · rw [cIf_t c] at h; cases h; exact ⟨Nat.le_refl _, by omega, c⟩
    · rw [cIf_f c] at h
      have := ih h
      exact ⟨by omega, by omega, this.2.2⟩
/-- there is no row of a type that is not there -/
theorem rf_out {m : qSt} (hI : TInv m) {t : Nat} (ht : nT m ≤ t) (h2 : t ≤ 100) : rfN m (nI t) = none := by
  have h100 := hI.le
  cases e : rfN m (nI t) with
  | none => rfl
  | some r =>
    obtain ⟨q1, q2, q3, q4⟩ := rf_some e
    have := hI.of (i := r) (by omega) (Or.inr q3)
    rw [this.1, nI_eqI (by omega) (by omega)] at q4
    omega
theorem rw_no {m m' : qSt} (h : NwT m m') (hI : TInv m) (h4 : ¬ ma m' 0 (nT m) = 4) (i : Nat) : rwI m' i = rwI m i := by
  unfold rwI
  rw [h.rf hI, cIf_f (fun z => h4 z.1)]
  cases rfN m (nI i) <;> rfl
theorem rw_out {m : qSt} (hI : TInv m) {t : Nat} (ht : nT m ≤ t) (h2 : t ≤ 100) : rwI m t = -1 := by unfold rwI; rw [rf_out hI ht h2]
/-- a type that is no class has nothing above it when it is new -/
theorem up_no {m m' : qSt} (h : NwT m m') (hI : TInv m) (h1 : ¬ ma m' 0 (nT m) = 1) (j : Nat) : ¬ UpP m' (nT m) j := by
  have h100 := hI.le
  rintro (⟨z, -⟩ | ⟨-, z⟩ | ⟨z, -⟩)
  · exact h1 z
  · rw [h.eF1] at z
    exact FO1_0 (nF_0 hI (Nat.le_refl _) h.2.1).1 z
  · exact h1 z
theorem up_cls {m m' : qSt} (h : NwT m m') (hI : TInv m) (hI' : TInv m') {i : Nat} (hi : i < nT m) (hs : ma m 0 i = 1) (h0 : ma m' 0 (nT m) = 1) (h1 : ma m' 1 (nT m) = nI i) (j : Nat) : UpP m' (nT m) j ↔ (j = nT m ∨ UpP m i j) := by
  have h100 := hI.le
  have eu : upN m' (nT m) = i := by show tn (ma m' 1 (nT m)) = i; rw [h1]; exact tn_nI (by omega)
  have ea : abvs m' (nT m) = nT m :: abvs m i := by
    rw [abvs_c hI' (by rw [h.eT]; omega) h0 (by omega), eu, h.ab hI hi hs]
  unfold UpP FOf
  rw [ea, h.eF1, h0, hs]
  constructor
  · rintro (⟨-, z⟩ | ⟨z, -⟩ | ⟨-, c, z1, z2⟩)
    · rcases List.mem_cons.mp z with z | z
      · exact Or.inl z
      · exact Or.inr (Or.inl ⟨rfl, z⟩)
    · exact absurd z (by decide)
    · rcases List.mem_cons.mp z1 with z | z
      · rw [z] at z2; exact absurd z2 (FO1_0 (nF_0 hI (Nat.le_refl _) h.2.1).1)
      · exact Or.inr (Or.inr (Or.inr ⟨rfl, c, z, z2⟩))
  · rintro (z | ⟨-, z⟩ | ⟨z, -⟩ | ⟨-, c, z1, z2⟩)
    · exact Or.inl ⟨rfl, List.mem_cons.mpr (Or.inl z)⟩
    · exact Or.inl ⟨rfl, List.mem_cons_of_mem _ z⟩
    · exact absurd z (by decide)
    · exact Or.inr (Or.inr ⟨rfl, c, List.mem_cons_of_mem _ z1, z2⟩)
section
variable {G : qGX} {A : qA} {m w : qSt} {Q : Option Value → qSt → Prop}
theorem c10_add {S L : Nat} {fr ow : Option Nat} {op b d : Int32} {up : Nat → Prop} (hR : Rep A m w) (hI : TInv m) (hz : qZero w) (hS : S < 5) (hop : op &&& 1 = op)
    (hfr : ∀ f, fr = some f → gN w 0 f = 7 ∧ ∃ c, gR w 7 7 f = some c ∧ gN w 0 c = 8)
    (hb0 : (fr = none ∨ ¬ (S = 3 ∨ S = 4)) → b = nI (nT m) ∧ d = 0)
    (hb1 : ∀ f, fr = some f → (S = 3 ∨ S = 4) → b = gI w 7 5 f ∧ d = gI w 7 6 f + (if S = 4 then 1 else 0))
    (hL : L = if S = 2 ∨ (S = 1 ∧ nT m ≠ 8) then 10 else 0)
    (hup : nT m < 100 → ∀ j, j < 128 → (up j ↔ (S = 1 ∧ (j = nT m ∨ ∃ f c, fr = some f ∧ gR w 7 7 f = some c ∧ tS w c j = true))))
    (h0 : nT m = 100 → Q (some (.int (-2))) w)
    (h1 : nT m < 100 → ∀ a u, gN w 2 0 = a → TyNw w u a (nI (nT m)) (nI S) fr ow op b d L up → qZero (sI (sR u 23 4 (nT m) (some a)) 9 3 3 (nI (nT m + 1))) → CW w (sI (sR u 23 4 (nT m) (some a)) 9 3 3 (nI (nT m + 1))) → Q (some (.int (nI (nT m)))) (sI (sR u 23 4 (nT m) (some a)) 9 3 3 (nI (nT m + 1)))) :
    Con G M10_add [.ref 3, .int (nI S), fV fr, fV ow, .int op] w Q := by
  have h100 := hI.le
  have hc := hR.cnt hI
  have ra : gR w 9 0 3 = some 4 := hR.fr.2.2.2.2.2.2.1
  have tail : nT m < 100 → ∀ a, gN w 2 0 = a → Con G M8_init [.ref a, .int (nI (nT m)), .int (nI S), fV fr, fV ow, .int op] (nwO w 7) (fun o u => Wq G M10_add 36 [some (.ref 3), none, none, none, none] (psh o [.ref a, .int (nI (nT m)), .ref 4]) (6, 50) u Q) := by
    intro hlt a ha
    refine c8_init hz ha hlt hS hop hfr hb0 hb1 hL (hup hlt) (fun u nw => ?_)
    obtain ⟨mk, hA, -⟩ := id nw
    have hR1 := hR.agree mk.1
    have k4 := hR1.fk.2.2.1
    have hc1 := hR1.cnt hI
    refine Wq.go ok10_add 40 [] ?_
    refine And.intro (And.intro (by rw [k4.1]; rfl) (And.intro (by rw [hA.1, k4.1]) (by rw [k4.2]; exact in_nI (by omega) (by decide)))) ?_
    rw [nI_clamp (by omega)]
    refine And.intro hR1.k3 (And.intro hR1.k3 (And.intro hR1.k3 ?_))
    show Q (some (.int (gI (sI (sR u 23 4 (nT m) (some a)) 9 3 3 (gI u 9 3 3 + 1)) 9 3 3 - 1))) (sI (sR u 23 4 (nT m) (some a)) 9 3 3 (gI u 9 3 3 + 1))
    rw [hc1, gI_at, nI_1, nI_m1]
    exact h1 hlt a u ha nw ((mk.2.1.AR (mk.2.1.lt k4.1 (by omega))).I (mk.2.1.lt hR1.k3 (by omega)) (by omega)) ((mk.2.2.1.R).I rfl)
  cases fr <;> cases ow
  all_goals
    refine Con.go hw10_add ok10_add 40 [36] rfl ?_
    refine And.intro hR.k3 (And.intro (fun (c : gI w 9 3 3 < nI 100) => ?_) (fun (c : ¬ gI w 9 3 3 < nI 100) => ?_)) <;> rw [hc, nI_ltI (by omega) (by omega)] at c
    · refine And.intro hR.k3 (refS ra (And.intro hR.k3 (And.intro ⟨by decide, by decide⟩ (fun a ha => ?_))))
      have k3a : gN (nwO w 7) 0 3 = 9 := (nwO_ne w 7 (fun z => by have := hz.lt hR.k3 (by omega); omega)).trans hR.k3
      refine And.intro k3a (And.intro ⟨by decide, by decide⟩ ?_)
      show Con G M8_init [.ref a, .int (gI w 9 3 3), .int (nI S), _, _, .int op] (nwO w 7) _
      rw [hc]
      refine (tail c a ha).mono (fun o u hu => ?_)
      exact Wq.ls (ls' := [some (.ref 3), none, none, none, none]) ⟨rfl, trivial⟩ hu
    · exact h0 (by omega)
theorem c10_addClass {p op : Int32} (hR : Rep A m w) (hI : TInv m) (hX : XInv m) (hH : HInv m) (hQ : QInv m) (hz : qZero w) (hop : op = 0 ∨ op = 1) (h : OpQ (S_cls m p op) m w Q) : Con G M10_addClass [.ref 3, .int p, .int op] w Q := by
  have h100 := hI.le
  obtain ⟨hneg, hpos⟩ := h
  unfold S_cls at hneg hpos
  have hop1 : op &&& 1 = op := by rcases hop with e | e <;> rw [e] <;> rfl
  refine Con.go hw10_addClass ok10_addClass 40 [] rfl ?_
  refine And.intro hR.k3 (c10_classAt hR hI (fun z => hneg _ (by decide) (cIf_t z)) (fun i ei hi hs => ?_))
  rw [cIf_f (fun y => y ⟨i, ei, hi, hs⟩)] at hneg hpos
  subst ei
  refine And.intro hR.k3 (And.intro ⟨by decide, by decide⟩ ?_)
  have hNw := fun h : nT m < 100 => ((nw_mk h 1).set (r := 1) (by omega) (nI i)).set (r := 3) (by omega) op
  generalize em' : sI (sI (sMk m 1) 40 1 (nT m) (nI i)) 40 3 (nT m) op = m' at hpos hNw
  have q0 : ma m' 0 (nT m) = 1 := by
    rw [← em']
    show gI (sI (sI (sMk m 1) 40 1 (nT m) (nI i)) 40 3 (nT m) op) 40 0 (nT m) = 1
    rw [gI_ne (by omega), gI_ne (by omega)]; exact mk_0 m 1
  have q1 : ma m' 1 (nT m) = nI i := by
    rw [← em']
    show gI (sI (sI (sMk m 1) 40 1 (nT m) (nI i)) 40 3 (nT m) op) 40 1 (nT m) = _
    rw [gI_ne (by omega)]; exact gI_at _ _ _ _ _
  have q3 : ma m' 3 (nT m) = op := by rw [← em']; exact gI_at _ _ _ _ _
  have eu : upN m' (nT m) = i := by show tn (ma m' 1 (nT m)) = i; rw [q1]; exact tn_nI (by omega)
  have c8 := hI.c8 hi hs
  have hkd : nT m < 100 → TyKind m' (nT m) := fun hlt => Or.inl ⟨q0, by rw [eu]; exact q1, by omega, by omega, by rw [eu, (hNw hlt).at (by omega)]; exact hs⟩
  have hcls : ¬ (ma m' 0 (nT m) = 3 ∨ ma m' 0 (nT m) = 4) := by rw [q0]; decide
  obtain ⟨t1, t2, t3, -⟩ := hR.tk i hi
  have r7 := (hR.ts i hi).2.2.2.2.2.2.2.1
  refine c10_add (S := 1) (fr := some (aT A i)) (ow := none) (up := UpP m' (nT m)) (b := nI (nT m)) (d := 0) hR hI hz (by omega) hop1 (fun f e => ?_) (fun _ => ⟨rfl, rfl⟩) (fun _ _ z => by omega) rfl (fun hlt j hj => ?_) (fun hf => ?_) (fun hlt a u ha nw hz1 hcw => ?_)
  · cases e
    exact ⟨t2, _, r7, t3⟩
  · rw [up_cls (hNw hlt) hI ((hNw hlt).tinv hI (hkd hlt) (by rw [q3]; exact hop)) hi hs q0 q1, ← (hR.tu i hi j hj).1]
    constructor
    · rintro (z | z)
      · exact ⟨rfl, Or.inl z⟩
      · exact ⟨rfl, Or.inr ⟨_, _, rfl, r7, z⟩⟩
    · rintro ⟨-, z | ⟨f, c, z1, z2, z3⟩⟩
      · exact Or.inl z
      · cases z1
        rw [r7] at z2; cases z2
        exact Or.inr z3
  · exact And.intro (fun _ => hneg _ (by decide) (cIf_t hf)) (fun z => absurd (by decide) z)
  · rw [cIf_f (by omega)] at hpos
    have hN := hNw hlt
    have hrep := rep_type (o := nT m) (rv := -1) hR hI hX hH hQ hz hN ha nw q0 (by
        unfold frA
        rw [cIf_t q0, cIf_f (by omega), eu]
        show _ = some (if i = nT m then a else aT A i)
        rw [if_neg (by omega)]) (by
        unfold owA
        rw [sqN_0 (by rw [q0]; decide), cIf_f (by rw [q0]; decide)]) q3.symm (by rw [baN_self hcls]) (by rw [dpN_0 hcls]; rfl) (by
        unfold mlN hasMb
        rw [if_pos (Or.inr ⟨rfl, by omega⟩), cIf_t (Or.inr ⟨q0, by omega⟩)]) (fun _ => Iff.rfl) (Nat.le_refl _) (fun j _ _ => rw_no hN hI (by rw [q0]; decide) j) ((rw_no hN hI (by rw [q0]; decide) _).trans (rw_out hI (Nat.le_refl _) (by omega))) ((rw_no hN hI (by rw [q0]; decide) _).trans (rw_out hI (Nat.le_refl _) (by omega)))
    obtain ⟨mk, hA, hB, i15, -⟩ := nw
    have hR1 := hR.agree mk.1
    have k3 : gN (sI (sR u 23 4 (nT m) (some a)) 9 3 3 (nI (nT m + 1))) 0 3 = 9 := hR1.k3
    refine And.intro (fun z => absurd z (nI_pos (by omega))) (fun _ => And.intro k3 (And.intro k3 ?_))
    have e4 : gI (sI (sR u 23 4 (nT m) (some a)) 9 3 3 (nI (nT m + 1))) 9 4 3 = nI (csF m (nT m)) := (gI_ne (w := sR u 23 4 (nT m) (some a)) (by omega)).trans hR1.mt.2.1
    have e5 : nI (csF m (nT m)) + 1 = nI (csF m' (nT m')) := by rw [nI_1, hN.ecs hI, cIf_t q0]
    show Q (some (.int (nI (nT m)))) (sI (sI (sR u 23 4 (nT m) (some a)) 9 3 3 (nI (nT m + 1))) 9 4 3 (gI (sI (sR u 23 4 (nT m) (some a)) 9 3 3 (nI (nT m + 1))) 9 4 3 + 1))
    rw [e4, e5]
    have e6 : wTy u (nT m) a (nI (csF m' (nT m'))) (if nT m = nT m then a else aT A (nT m)) (-1) = sI (sI (sR u 23 4 (nT m) (some a)) 9 3 3 (nI (nT m + 1))) 9 4 3 (nI (csF m' (nT m'))) := by
      unfold wTy
      rw [if_pos rfl]
      exact sI_same ((gI_ne (by omega)).trans ((gI_ne (w := sR u 23 4 (nT m) (some a)) (by omega)).trans i15))
    rw [e6] at hrep
    exact hpos _ _ _ _ (nI_pos (by omega)) rfl ⟨hrep, hz1.I (hz1.lt k3 (by omega)) (by omega), hcw.I rfl⟩
theorem c11_cls {p op : Int32} (hR : Rep A m w) (hI : TInv m) (hX : XInv m) (hH : HInv m) (hQ : QInv m) (hz : qZero w) (hop : op = 0 ∨ op = 1) (h : ∀ A' w', Fin A' (S_cls m p op).2 w w' → Q (some (.int (S_cls m p op).1)) w') : Con G M11_cls [.ref 2, .int p, .int op] w Q := by
  refine Con.go hw11_cls ok11_cls 40 [] rfl ?_
  refine And.intro hR.k2 (refS hR.r1 (And.intro hR.k3 (And.intro ⟨by decide, by decide⟩ ?_)))
  exact c10_addClass hR hI hX hH hQ hz hop (OpQ.ans hR hz h (fun v w' q => q _ (fun _ z => z)))
theorem c10_addFace (hR : Rep A m w) (hI : TInv m) (hX : XInv m) (hH : HInv m) (hQ : QInv m) (hz : qZero w) (h : OpQ (S_face m) m w Q) : Con G M10_addFace [.ref 3] w Q := by
  have h100 := hI.le
  obtain ⟨hneg, hpos⟩ := h
  unfold S_face at hneg hpos
  refine Con.go hw10_addFace ok10_addFace 40 [] rfl ?_
  refine And.intro hR.k3 (And.intro ⟨by decide, by decide⟩ ?_)
  have hNw := fun h : nT m < 100 => nw_mk h 2
  have q0 : ma (sMk m 2) 0 (nT m) = 2 := mk_0 m 2
  have q3 : nT m < 100 → ma (sMk m 2) 3 (nT m) = 0 := fun hlt => (show gI (sI (sI m 40 0 (nT m) 2) 12 1 0 (nI (nT m + 1))) 40 3 (nT m) = ma m 3 (nT m) by rw [gI_ne (by omega), gI_ne (by omega)]).trans ((hI.flg hlt).2.2.1 (Or.inl (Nat.le_refl _)))
  generalize sMk m 2 = m' at hpos hNw q0 q3
  have hcls : ¬ (ma m' 0 (nT m) = 3 ∨ ma m' 0 (nT m) = 4) := by rw [q0]; decide
  have h1 : ¬ ma m' 0 (nT m) = 1 := by rw [q0]; decide
  refine c10_add (S := 2) (fr := none) (ow := none) (op := 0) (up := UpP m' (nT m)) (b := nI (nT m)) (d := 0) hR hI hz (by omega) rfl (fun f e => by cases e) (fun _ => ⟨rfl, rfl⟩) (fun _ e => by cases e) rfl (fun hlt j hj => ⟨fun z => absurd z (up_no (hNw hlt) hI h1 j), fun z => by omega⟩) (fun hf => hneg _ (by decide) (cIf_t hf)) (fun hlt a u ha nw hz1 hcw => ?_)
  rw [cIf_f (by omega)] at hpos
  have hN := hNw hlt
  have hrep := rep_type (o := nT m) (rv := -1) hR hI hX hH hQ hz hN ha nw q0 (by
      unfold frA
      rw [cIf_f h1, cIf_f hcls]) (by
      unfold owA
      rw [sqN_0 (by rw [q0]; decide), cIf_f (by rw [q0]; decide)]) (q3 hlt).symm (by rw [baN_self hcls]) (by rw [dpN_0 hcls]; rfl) (by
      unfold mlN hasMb
      rw [if_pos (Or.inl rfl), cIf_t (Or.inl q0)]) (fun _ => Iff.rfl) (Nat.le_refl _) (fun j _ _ => rw_no hN hI (by rw [q0]; decide) j) ((rw_no hN hI (by rw [q0]; decide) _).trans (rw_out hI (Nat.le_refl _) (by omega))) ((rw_no hN hI (by rw [q0]; decide) _).trans (rw_out hI (Nat.le_refl _) (by omega)))
  obtain ⟨mk, hA, hB, i15, -⟩ := nw
  have hR1 := hR.agree mk.1
  have e4 : gI (sI (sR u 23 4 (nT m) (some a)) 9 3 3 (nI (nT m + 1))) 9 4 3 = nI (csF m' (nT m')) := by
    rw [hN.ecs hI, cIf_f h1]
    exact (gI_ne (w := sR u 23 4 (nT m) (some a)) (by omega)).trans hR1.mt.2.1
  have e6 : wTy u (nT m) a (nI (csF m' (nT m'))) (if nT m = nT m then a else aT A (nT m)) (-1) = sI (sR u 23 4 (nT m) (some a)) 9 3 3 (nI (nT m + 1)) := by
    unfold wTy
    rw [if_pos rfl, sI_same e4]
    exact sI_same ((gI_ne (w := sR u 23 4 (nT m) (some a)) (by omega)).trans i15)
  rw [e6] at hrep
  exact hpos _ _ _ _ (nI_pos (by omega)) rfl ⟨hrep, hz1, hcw⟩
theorem c11_face (hR : Rep A m w) (hI : TInv m) (hX : XInv m) (hH : HInv m) (hQ : QInv m) (hz : qZero w) (h : ∀ A' w', Fin A' (S_face m).2 w w' → Q (some (.int (S_face m).1)) w') : Con G M11_face [.ref 2] w Q := by
  refine Con.go hw11_face ok11_face 40 [] rfl ?_
  refine And.intro hR.k2 (refS hR.r1 (And.intro hR.k3 (And.intro ⟨by decide, by decide⟩ ?_)))
  exact c10_addFace hR hI hX hH hQ hz (OpQ.ans hR hz h (fun v w' q => q _ (fun _ z => z)))
end
