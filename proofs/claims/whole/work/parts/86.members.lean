/-! ===== field, method of the class ===== -/
section
variable {G : qGX} {A : qA} {m w : qSt} {Q : Option Value → qSt → Prop}
/-- a new member's object -/
def MbNw (w u : qSt) (a : Nat) (ow : Nat) (num nm : Int32) (ty : Option Nat) (sh pn bd nu : Int32) (pl : Int64) : Prop :=
  Mkg w u (a + 1) ∧ gN u 0 a = 2 ∧ gR u 2 0 a = some ow ∧ gI u 2 1 a = num ∧ gI u 2 2 a = nm ∧ gR u 2 3 a = ty ∧ gI u 2 4 a = sh ∧ gI u 2 5 a = pn ∧ gI u 2 6 a = bd ∧ gI u 2 7 a = nu ∧ gJ u 2 8 a = pl
theorem c3_init {a ow ty : Nat} {nm sh num pn b d : Int32} (hz : qZero w) (ha : gN w 2 0 = a) (ko : gN w 0 ow = 7) (kt : gN w 0 ty = 7) (hsh : sh &&& 1 = sh) (e12 : gI w 7 12 ow = num) (e13 : gI w 7 13 ow = pn) (e5 : gI w 7 5 ty = b) (e6 : gI w 7 6 ty = d)
    (h : ∀ u, MbNw w u a ow num nm (some ty) sh pn 0 0 (cIf (d = 0 ∧ b < 8) 0 (-1)) → Q none u) : Con G M3_init [.ref a, .ref ow, .int nm, .ref ty, .int sh] (nwO w 2) Q := by
  have g0 := (Mkg.of hz).obj 2
  rw [ha] at g0
  obtain ⟨m0, k0, n0, l0⟩ := g0
  have f99 : gN w 0 a = 99 := hz.k (by omega)
  have noa : ow ≠ a := fun z => by rw [z, f99] at ko; omega
  have nta : ty ≠ a := fun z => by rw [z, f99] at kt; omega
  have ko1 : gN (nwO w 2) 0 ow = 7 := (n0 ow noa).trans ko
  have kt1 : gN (nwO w 2) 0 ty = 7 := (n0 ty nta).trans kt
  have e12' : gI (nwO w 2) 7 12 ow = num := e12
  have e13' : gI (nwO w 2) 7 13 ow = pn := e13
  have e5' : gI (nwO w 2) 7 5 ty = b := e5
  have e6' : gI (nwO w 2) 7 6 ty = d := e6
  generalize nwO w 2 = u0 at m0 k0 ko1 kt1 e12' e13' e5' e6' ⊢
  clear n0 l0
  have m1 := ((((m0.R (r := 2) (k := 0) (a := a) (v := some ow) (by omega) (by omega) (by omega)).I (r := 2) (k := 1) (a := a) (v := num) (by omega) (by omega) (by omega)).I (r := 2) (k := 2) (a := a) (v := nm) (by omega) (by omega) (by omega)).R (r := 2) (k := 3) (a := a) (v := some ty) (by omega) (by omega) (by omega)).I (r := 2) (k := 4) (a := a) (v := sh) (by omega) (by omega) (by omega)
  have m2 := ((m1.I (r := 2) (k := 5) (a := a) (v := pn) (by omega) (by omega) (by omega)).I (r := 2) (k := 6) (a := a) (v := 0) (by omega) (by omega) (by omega)).I (r := 2) (k := 7) (a := a) (v := 0) (by omega) (by omega) (by omega)
  have k51 : ∀ u, u = sI (sI (sI (sI (sR (sI (sI (sR u0 2 0 a (some ow)) 2 1 a num) 2 2 a nm) 2 3 a (some ty)) 2 4 a sh) 2 5 a pn) 2 6 a 0) 2 7 a 0 → Wq G M3_init 51 [some (.ref a), some (.ref ow), some (.int nm), some (.ref ty), some (.int sh)] [] (0, 0) u Q := by
    intro u eu
    have r3 : gR u 2 3 a = some ty := by rw [eu]; exact gR_at (sI (sI (sR u0 2 0 a (some ow)) 2 1 a num) 2 2 a nm) 2 3 a _
    have r0 : gR u 2 0 a = some ow := by rw [eu]; exact (gR_ne (w := sI (sI (sR u0 2 0 a (some ow)) 2 1 a num) 2 2 a nm) (by omega)).trans (gR_at u0 _ _ _ _)
    have i7 : gI u 2 7 a = 0 := by rw [eu]; exact gI_at _ _ _ _ _
    have i6 : gI u 2 6 a = 0 := by rw [eu, gI_ne (by omega)]; exact gI_at _ _ _ _ _
    have i5 : gI u 2 5 a = pn := by rw [eu, gI_ne (by omega), gI_ne (by omega)]; exact gI_at _ _ _ _ _
    have i4 : gI u 2 4 a = sh := by rw [eu, gI_ne (by omega), gI_ne (by omega), gI_ne (by omega)]; exact gI_at _ _ _ _ _
    have i2 : gI u 2 2 a = nm := by
      rw [eu, gI_ne (by omega), gI_ne (by omega), gI_ne (by omega), gI_ne (by omega)]
      show gI (sI (sI (sR u0 2 0 a (some ow)) 2 1 a num) 2 2 a nm) 2 2 a = nm
      exact gI_at _ _ _ _ _
    have i1 : gI u 2 1 a = num := by
      rw [eu, gI_ne (by omega), gI_ne (by omega), gI_ne (by omega), gI_ne (by omega)]
      show gI (sI (sI (sR u0 2 0 a (some ow)) 2 1 a num) 2 2 a nm) 2 1 a = num
      rw [gI_ne (by omega)]; exact gI_at _ _ _ _ _
    have e5u : gI u 7 5 ty = b := by rw [eu]; exact e5'
    have e6u : gI u 7 6 ty = d := by rw [eu]; exact e6'
    have k0u : gN u 0 a = 2 := by rw [eu]; exact k0
    have ktu : gN u 0 ty = 7 := by rw [eu]; exact kt1
    have mu : Mkg w u (a + 1) := by rw [eu]; exact m2
    clear eu
    have fin : ∀ v : Int64, v = cIf (d = 0 ∧ b < 8) 0 (-1) → Q none (sJ u 2 8 a v) := by
      intro v ev
      refine h _ ⟨mu.J (by omega) (by omega) (by omega), k0u, r0, i1, i2, r3, i4, i5, i6, i7, (gJ_at _ _ _ _ _).trans ev⟩
    refine Wq.go ok3_init 20 [] ?_
    refine And.intro k0u ?_
    refine Con.go hw3_firstHeld ok3_firstHeld 30 [] rfl ?_
    refine And.intro k0u (refS r3 (And.intro k0u (refS r3 (And.intro ktu (And.intro k0u (refS r3 (And.intro ktu ?_)))))))
    rw [e5u, e6u]
    refine c11_holdsValue ?_
    refine And.intro (fun c => ?_) (fun c => ?_)
    · rw [bI_0] at c
      exact And.intro k0u (fin (-1) (cIf_f c).symm)
    · rw [bI_n0] at c
      exact And.intro k0u (fin 0 (cIf_t c).symm)
  refine Con.go hw3_init ok3_init 30 [51] rfl ?_
  refine And.intro k0 (And.intro ko1 (And.intro k0 (And.intro k0 (And.intro k0 (And.intro k0 (And.intro hsh (And.intro ko1 (And.intro k0 (And.intro k0 (And.intro k0 ?_))))))))))
  refine k51 _ ?_
  rw [← e12', ← e13']
  rfl
theorem c3_init_ {a ow : Nat} {nm num bd nu : Int32} (hz : qZero w) (ha : gN w 2 0 = a) (ko : gN w 0 ow = 7) (e12 : gI w 7 12 ow = num)
    (h : ∀ u, MbNw w u a ow num nm none 0 (-1) bd nu 0 → Q none u) : Con G M3_init_ [.ref a, .ref ow, .int nm, .int bd, .int nu] (nwO w 2) Q := by
  have g0 := (Mkg.of hz).obj 2
  rw [ha] at g0
  obtain ⟨m0, k0, n0, l0⟩ := g0
  have f99 : gN w 0 a = 99 := hz.k (by omega)
  have noa : ow ≠ a := fun z => by rw [z, f99] at ko; omega
  have ko1 : gN (nwO w 2) 0 ow = 7 := (n0 ow noa).trans ko
  have e12' : gI (nwO w 2) 7 12 ow = num := e12
  have d8 : gJ (nwO w 2) 2 8 a = 0 := ((hz a (by omega)).2.1 2 8 (by omega)).2.1
  generalize nwO w 2 = u0 at m0 k0 ko1 e12' d8 ⊢
  clear n0 l0
  have m1 := ((((m0.R (r := 2) (k := 0) (a := a) (v := some ow) (by omega) (by omega) (by omega)).I (r := 2) (k := 1) (a := a) (v := num) (by omega) (by omega) (by omega)).I (r := 2) (k := 2) (a := a) (v := nm) (by omega) (by omega) (by omega)).R (r := 2) (k := 3) (a := a) (v := none) (by omega) (by omega) (by omega)).I (r := 2) (k := 4) (a := a) (v := 0) (by omega) (by omega) (by omega)
  have m2 := ((m1.I (r := 2) (k := 5) (a := a) (v := -1) (by omega) (by omega) (by omega)).I (r := 2) (k := 6) (a := a) (v := bd) (by omega) (by omega) (by omega)).I (r := 2) (k := 7) (a := a) (v := nu) (by omega) (by omega) (by omega)
  have fin : ∀ u, u = sI (sI (sI (sI (sR (sI (sI (sR u0 2 0 a (some ow)) 2 1 a num) 2 2 a nm) 2 3 a none) 2 4 a 0) 2 5 a (-1)) 2 6 a bd) 2 7 a nu → Q none u := by
    intro u eu
    refine h u ⟨by rw [eu]; exact m2, by rw [eu]; exact k0, ?_, ?_, ?_, ?_, ?_, ?_, ?_, ?_, ?_⟩
    · rw [eu]; exact (gR_ne (w := sI (sI (sR u0 2 0 a (some ow)) 2 1 a num) 2 2 a nm) (by omega)).trans (gR_at u0 _ _ _ _)
    · rw [eu, gI_ne (by omega), gI_ne (by omega), gI_ne (by omega), gI_ne (by omega)]
      show gI (sI (sI (sR u0 2 0 a (some ow)) 2 1 a num) 2 2 a nm) 2 1 a = num
      rw [gI_ne (by omega)]; exact gI_at _ _ _ _ _
    · rw [eu, gI_ne (by omega), gI_ne (by omega), gI_ne (by omega), gI_ne (by omega)]
      show gI (sI (sI (sR u0 2 0 a (some ow)) 2 1 a num) 2 2 a nm) 2 2 a = nm
      exact gI_at _ _ _ _ _
    · rw [eu]; exact gR_at (sI (sI (sR u0 2 0 a (some ow)) 2 1 a num) 2 2 a nm) 2 3 a _
    · rw [eu, gI_ne (by omega), gI_ne (by omega), gI_ne (by omega)]; exact gI_at _ _ _ _ _
    · rw [eu, gI_ne (by omega), gI_ne (by omega)]; exact gI_at _ _ _ _ _
    · rw [eu, gI_ne (by omega)]; exact gI_at _ _ _ _ _
    · rw [eu]; exact gI_at _ _ _ _ _
    · rw [eu]; exact d8
  refine Con.go hw3_init_ ok3_init_ 30 [] rfl ?_
  refine And.intro k0 (And.intro ko1 (And.intro k0 (And.intro k0 (And.intro k0 (And.intro k0 (And.intro rfl (And.intro k0 (And.intro k0 (And.intro k0 ?_)))))))))
  refine fin _ ?_
  rw [← e12']
  rfl
/-- what keepMember does of a state that stands for m but for the lenders -/
theorem c8_keepMember {u u0 : qSt} {a t nm row : Nat} {pc : Int32} (hR : Rep A m u0) (hI : TInv m) (ht : t < nT m) (htk : hasMb m t) (hlt : nM m t < 10) (eN : gN u = gN u0) (eR : gR u = gR u0) (eI : gI u = gI u0) (hnm : nm < 10)
    (k0 : gN u 0 a = 2) (o1 : gI u 2 1 a = nI (nM m t)) (o2 : gI u 2 2 a = nI nm)
    (hty : (row = 4 ∧ ∃ ty, gR u 2 3 a = some ty) ∨ (row = 5 ∧ gR u 2 3 a = none))
    (hpc : pc = nI (pcN m t + (if row = 4 ∧ gI u 2 4 a = 0 then 1 else 0)))
    (h : Q (some (.int (nI (nM m t)))) (wMb u (aT A t) (nM m t) a row nm pc)) : Con G M8_keepMember [.ref (aT A t), .ref a] u Q := by
  have h100 := hI.le
  obtain ⟨t1, t2, t3, t4, t5, t6, t7⟩ := hR.tk t ht
  obtain ⟨u1, u2, u3, u4, u5, u6, u7, u8, u9, u10, u11, u12, u13, u14, u15⟩ := hR.ts t ht
  obtain ⟨v1, v2, v3, v4⟩ := hR.tm t ht
  have hm7 := (hI.mbs (i := t) (by omega)).1
  have ml10 : mlN m t = 10 := by unfold mlN; rw [cIf_t htk]
  rw [ml10] at u13 u14 u15
  rw [← eN] at t2 t5 t6 t7 u13 u14 u15
  rw [← eR] at u10 u11 u12
  rw [← eI] at v1 v2
  rw [hm7] at v1
  have c28 : ¬ (nI 10 ≤ nI (nM m t)) := by rw [nI_leI (by omega) (by omega)]; omega
  refine Con.go hw8_keepMember ok8_keepMember 60 [31, 81] rfl ?_
  refine And.intro t2 (And.intro t2 (refS u10 (And.intro (Or.inr (Or.inr (Or.inr (Or.inl (by rw [t5]; rfl))))) (And.intro (fun (z : nI (gN u 1 (aT A t + 3)) ≤ gI u 7 12 (aT A t)) => ?_) (fun _ => And.intro k0 (And.intro (fun (z : gI u 2 2 a < nI 0) => ?_) (fun _ => And.intro k0 (And.intro (fun _ => ?_) (fun (z : ¬ gI u 2 2 a < nI 10) => ?_)))))))))
  · rw [u13, v1] at z; exact absurd z c28
  · rw [o2, nI_ltI (by omega) (by omega)] at z; omega
  rotate_left
  · rw [o2, nI_ltI (by omega) (by omega)] at z; omega
  have k81 : ∀ W, W = sR (sI (sR u 23 (aT A t + 3) (nM m t) (some a)) 7 12 (aT A t) (nI (nM m t + 1))) 23 (aT A t + row) nm (some a) → Wq G M8_keepMember 81 [some (.ref (aT A t)), some (.ref a)] [] (0, 0) W Q := by
    intro W eW
    have kW : ∀ x, gN W 0 x = gN u 0 x := fun x => by rw [eW]; rfl
    have iW : ∀ r k x, r = 2 → gI W r k x = gI u r k x := fun r k x hr => by
      rw [eW, hr]
      show gI (sI (sR u 23 (aT A t + 3) (nM m t) (some a)) 7 12 (aT A t) (nI (nM m t + 1))) 2 k x = _
      rw [gI_ne (by omega)]; rfl
    have rW : gR W 2 3 a = gR u 2 3 a := by
      rw [eW]
      exact (gR_ne (w := sI (sR u 23 (aT A t + 3) (nM m t) (some a)) 7 12 (aT A t) (nI (nM m t + 1))) (by omega)).trans (gR_ne (w := u) (by omega))
    have w13 : gI W 7 13 (aT A t) = nI (pcN m t) := by
      rw [eW]
      show gI (sI (sR u 23 (aT A t + 3) (nM m t) (some a)) 7 12 (aT A t) (nI (nM m t + 1))) 7 13 (aT A t) = _
      rw [gI_ne (by omega)]; exact v2
    have fin : ∀ W2, W2 = sI W 7 13 (aT A t) pc → Wq G M8_keepMember 98 [some (.ref (aT A t)), some (.ref a)] [] (0, 0) W2 Q := by
      intro W2 e2
      refine Wq.go ok8_keepMember 20 [] ?_
      have kk : gN W2 0 a = 2 := by rw [e2]; exact (kW a).trans k0
      refine And.intro kk ?_
      have : gI W2 2 1 a = nI (nM m t) := by rw [e2, gI_ne (by omega), iW 2 1 a rfl]; exact o1
      show Q (some (.int (gI W2 2 1 a))) W2
      rw [this, e2, eW]
      exact h
    refine Wq.go ok8_keepMember 40 [98] ?_
    refine And.intro ((kW a).trans k0) ?_
    refine Con.go hw3_isPlaced ok3_isPlaced 20 [] rfl ?_
    rcases hty with ⟨er, ty, ety⟩ | ⟨er, ety⟩
    · refine And.intro ((kW a).trans k0) (refS (rW.trans ety) (And.intro ((kW a).trans k0) (And.intro (fun (z : ¬ gI W 2 4 a = 0) => And.intro rfl (And.intro (fun _ => ?_) (fun y => absurd rfl y))) (fun (z : gI W 2 4 a = 0) => And.intro rfl (And.intro (fun y => absurd y (by decide)) (fun _ => And.intro ((kW _).trans t2) (And.intro ((kW _).trans t2) ?_)))))))
      · rw [iW 2 4 a rfl] at z
        rw [if_neg (fun y => z y.2), Nat.add_zero] at hpc
        exact fin W (sI_same (by rw [w13, hpc])).symm
      · rw [iW 2 4 a rfl] at z
        rw [if_pos ⟨er, z⟩] at hpc
        refine fin _ ?_
        rw [hpc]
        show sI W 7 13 (aT A t) (gI W 7 13 (aT A t) + 1) = _
        rw [w13, nI_1]
    · refine And.intro ((kW a).trans k0) (refN (rW.trans ety) (And.intro rfl (And.intro (fun _ => ?_) (fun y => absurd rfl y))))
      rw [if_neg (fun y => by omega), Nat.add_zero] at hpc
      exact fin W (sI_same (by rw [w13, hpc])).symm
  have kr : gN u 0 (aT A t + row) = 25 ∧ gN u 1 (aT A t + row) = 10 := by
    rcases hty with ⟨er, -⟩ | ⟨er, -⟩ <;> rw [er]
    · exact ⟨t6, u14⟩
    · exact ⟨t7, u15⟩
  refine Wq.go ok8_keepMember 60 [81] ?_
  refine And.intro t2 (refS u10 (And.intro t2 ?_))
  rw [v1]
  refine And.intro (And.intro (by rw [t5]; rfl) (And.intro (by rw [k0, t5]) (by rw [u13]; exact in_nI hlt (by decide)))) ?_
  rw [nI_clamp (by omega)]
  refine And.intro t2 (And.intro t2 (And.intro k0 ?_))
  have e12 : gI (sR u 23 (aT A t + 3) (nM m t) (some a)) 7 12 (aT A t) = nI (nM m t) := v1
  rw [e12, nI_1]
  have o2' : gI (sI (sR u 23 (aT A t + 3) (nM m t) (some a)) 7 12 (aT A t) (nI (nM m t + 1))) 2 2 a = nI nm := (gI_ne (w := sR u 23 (aT A t + 3) (nM m t) (some a)) (by omega)).trans o2
  have rk : ∀ k x, gR (sI (sR u 23 (aT A t + 3) (nM m t) (some a)) 7 12 (aT A t) (nI (nM m t + 1))) 7 k x = gR u 7 k x := fun k x => gR_ne (w := u) (by omega)
  have r23 : gR (sI (sR u 23 (aT A t + 3) (nM m t) (some a)) 7 12 (aT A t) (nI (nM m t + 1))) 2 3 a = gR u 2 3 a := gR_ne (w := u) (by omega)
  refine Con.go hw3_isField ok3_isField 20 [] rfl ?_
  rcases hty with ⟨er, ty, ety⟩ | ⟨er, ety⟩
  · refine And.intro k0 (refS (r23.trans ety) (And.intro rfl (And.intro (fun y => absurd y (by decide)) (fun _ => And.intro t2 (refS ((rk _ _).trans u11) (And.intro k0 ?_))))))
    rw [o2']
    refine And.intro (And.intro (show refK (gN u 0 (aT A t + 4)) = true by rw [t6]; rfl) (And.intro (show gN u 0 a + 23 = gN u 0 (aT A t + 4) by rw [k0, t6]) (show vp_in (nI nm) (gN u 1 (aT A t + 4)) by rw [u14]; exact in_nI hnm (by decide)))) ?_
    rw [nI_clamp (by omega)]
    exact k81 _ (by rw [er])
  · refine And.intro k0 (refN (r23.trans ety) (And.intro rfl (And.intro (fun _ => And.intro t2 (refS ((rk _ _).trans u12) (And.intro k0 ?_))) (fun y => absurd rfl y))))
    rw [o2']
    refine And.intro (And.intro (show refK (gN u 0 (aT A t + 5)) = true by rw [t7]; rfl) (And.intro (show gN u 0 a + 23 = gN u 0 (aT A t + 5) by rw [k0, t7]) (show vp_in (nI nm) (gN u 1 (aT A t + 5)) by rw [u15]; exact in_nI hnm (by decide)))) ?_
    rw [nI_clamp (by omega)]
    exact k81 _ (by rw [er])
end
