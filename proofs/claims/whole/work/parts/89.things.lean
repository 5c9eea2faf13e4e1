/-! ===== things of the class ===== -/
theorem Mkg.AJ {w0 u : qSt} {b : Nat} (h : Mkg w0 u b) {a j : Nat} {v : Int64} (ha : gN w0 2 0 ≤ a) (hb : a < b) : Mkg w0 (sJ u 21 a j v) b := by
  obtain ⟨h1, h2, h3, h4, h5, h6⟩ := h
  exact ⟨h1.AJ (h6.k ha), h2.AJ (by omega), h3.J rfl, h4, h5, h6⟩
/-- a new thing's object -/
def XoNw (u : qSt) (a : Nat) (cl : Option Nat) (b d : Int32) (N : Nat) : Prop := gN u 0 a = 5 ∧ gN u 0 (a + 1) = 21 ∧ gN u 1 (a + 1) = N ∧ gR u 5 0 a = cl ∧ gI u 5 1 a = b ∧ gI u 5 2 a = d ∧ gR u 5 3 a = some (a + 1)
section
variable {G : qGX} {A : qA} {m w : qSt} {Q : Option Value → qSt → Prop}
theorem c6_init {a N : Nat} {cl : Option Nat} {b d : Int32} (hz : qZero w) (ha : gN w 2 0 = a) (hN : N ≤ 1000) (h : ∀ u, Mkg w u (a + 2) → XoNw u a cl b d N → (∀ j, gJ u 21 (a + 1) j = 0) → Q none u) : Con G M6_init [.ref a, fV cl, .int b, .int d, .int (nI N)] (nwO w 5) Q := by
  have g0 := (Mkg.of hz).obj 5
  rw [ha] at g0
  obtain ⟨m0, k0, n0, l0⟩ := g0
  generalize nwO w 5 = u0 at m0 k0 ⊢
  clear n0 l0
  have eN : (nI N).toNatClampNeg = N := nI_clamp (by omega)
  have emax : cIf (nI N < 0) 0 (nI N) = nI N := cIf_f (nI_pos (by omega))
  have fin : ∀ u1, u1 = sI (sI (sR u0 5 0 a cl) 5 1 a b) 5 2 a d → Q none (sR (nwA u1 21 N) 5 3 a (some (a + 1))) := by
    intro u1 e1
    have m1 : Mkg w u1 (a + 1) := by rw [e1]; exact ((m0.R (by omega) (by omega) (by omega)).I (by omega) (by omega) (by omega)).I (by omega) (by omega) (by omega)
    have k1 : gN u1 0 a = 5 := by rw [e1]; exact k0
    have r0 : gR u1 5 0 a = cl := by rw [e1]; exact gR_at u0 _ _ _ _
    have i1 : gI u1 5 1 a = b := by rw [e1, gI_ne (by omega)]; exact gI_at _ _ _ _ _
    have i2 : gI u1 5 2 a = d := by rw [e1]; exact gI_at _ _ _ _ _
    obtain ⟨ma, ka, la, na, oa⟩ := m1.arr 21 N
    refine h _ (ma.R (by omega) (by omega) (by omega)) ⟨(na a (by omega)).trans k1, ka, la, (gR_ne (w := nwA u1 21 N) (by omega)).trans r0, i1, i2, gR_at _ _ _ _ _⟩ (fun j => ?_)
    exact ((m1.2.1 (a + 1) (by rw [m1.2.2.2.1]; omega)).2.2 j).2.1
  have go : ∀ cl', cl = cl' → (Mkg w (sI (sI (sR u0 5 0 a cl') 5 1 a b) 5 2 a d) (a + 1)) → Wq G M6_init 26 [some (.ref a), none, none, none, none] [.int (nI N), .ref a] (0, 0) (sI (sI (sR u0 5 0 a cl') 5 1 a b) 5 2 a d) Q := by
    intro cl' ec mm
    refine Wq.go ok6_init 20 [] ?_
    refine And.intro ⟨nI_pos (by omega), by rw [eN]; omega⟩ (And.intro ⟨by decide, by show 0 + (nI N).toNatClampNeg ≤ 1000; omega⟩ (fun b0 hb0 => ?_))
    have hb0 : gN (sI (sI (sR u0 5 0 a cl') 5 1 a b) 5 2 a d) 2 0 = b0 := hb0
    rw [mm.2.2.2.1] at hb0
    subst hb0
    rw [eN]
    refine And.intro ?_ (fin _ (by rw [ec]))
    exact (nwA_ne _ 21 N (by rw [mm.2.2.2.1]; omega)).trans k0
  have mm : ∀ cl', Mkg w (sI (sI (sR u0 5 0 a cl') 5 1 a b) 5 2 a d) (a + 1) := fun cl' => ((m0.R (by omega) (by omega) (by omega)).I (by omega) (by omega) (by omega)).I (by omega) (by omega) (by omega)
  cases cl
  all_goals
    refine Con.go hw6_init ok6_init 30 [26] rfl ?_
    refine And.intro k0 (And.intro k0 (And.intro k0 (cJ_max ?_)))
    rw [emax]
    refine Wq.ls (ls' := [some (.ref a), none, none, none, none]) ⟨rfl, trivial⟩ ?_
    exact go _ rfl (mm _)
def aXn (A : qA) (m : qSt) (a : Nat) : qA := (A.1, A.2.1, (fun x => if x = nX m then a else aX A x), A.2.2.2)
theorem rep_thing {a B D : Nat} {l : List Int64} (hR : Rep A m w) (hX : XInv m) (hx : nX m < 60) (nw : XoNw w a (cIf (D = 0) (some (aT A B)) none) (nI B) (nI D) l.length) (hB : B < 1000) (hD : D < 1000) (hl : l.length ≤ 1000) (hj : ∀ i, i < l.length → gJ w 21 (a + 1) i = l.getD i 0) (hf : ∀ x, x < nX m → aX A x ≠ a) :
    Rep (aXn A m a) (sAd (rJ m 23 (putL (ml m 23) (pX m (nX m)) l)) (nI B) (nI D) (pX m (nX m) + l.length)) (sI (sR w 23 72 (nX m) (some a)) 6 2 71 (nI (nX m + 1))) := by
  obtain ⟨k0, k1, n1, r0, i1, i2, r3⟩ := nw
  have k72 := hR.fk.2.2.2.2.2.2.1
  have hpb := (hX.2.2.1 (nX m) (Nat.le_refl _)).2
  generalize hm' : sAd (rJ m 23 (putL (ml m 23) (pX m (nX m)) l)) (nI B) (nI D) (pX m (nX m) + l.length) = m'
  have rg : ∀ r i, ma m' r i = gI (sI (sI (sI (sI (sI m 40 19 (nX m) (nI B)) 40 20 (nX m) (nI D)) 40 21 (nX m) (nI (pX m (nX m) + l.length - pX m (nX m)))) 12 22 0 (nI (nX m + 1))) 40 22 (nX m + 1) (nI (pX m (nX m) + l.length))) 40 r i := fun r i => by rw [← hm']; rfl
  have rows : ∀ r, r < 19 ∨ 22 < r → ma m' r = ma m r := by
    intro r hr
    funext i
    rw [rg, gI_ne (by omega), gI_ne (by omega), gI_ne (by omega), gI_ne (by omega), gI_ne (by omega)]
  have r19 : ∀ x, ma m' 19 x = if x = nX m then nI B else ma m 19 x := by
    intro x
    rw [rg, gI_ne (by omega), gI_ne (by omega), gI_ne (by omega), gI_ne (by omega)]
    by_cases e : x = nX m
    · rw [if_pos e, e]; exact gI_at _ _ _ _ _
    · rw [if_neg e]; exact gI_ne (by omega)
  have r20 : ∀ x, ma m' 20 x = if x = nX m then nI D else ma m 20 x := by
    intro x
    rw [rg, gI_ne (by omega), gI_ne (by omega), gI_ne (by omega)]
    by_cases e : x = nX m
    · rw [if_pos e, e]; exact gI_at _ _ _ _ _
    · rw [if_neg e, gI_ne (by omega)]; exact gI_ne (by omega)
  have r21 : ∀ x, ma m' 21 x = if x = nX m then nI l.length else ma m 21 x := by
    intro x
    rw [rg, gI_ne (by omega), gI_ne (by omega)]
    by_cases e : x = nX m
    · rw [if_pos e, e, gI_at]; congr 1; omega
    · rw [if_neg e, gI_ne (by omega), gI_ne (by omega)]; exact gI_ne (by omega)
  have r22 : ∀ x, x ≤ nX m → ma m' 22 x = ma m 22 x := by
    intro x hx2
    rw [rg, gI_ne (by omega), gI_ne (by omega), gI_ne (by omega), gI_ne (by omega)]; exact gI_ne (by omega)
  have e22 : mi m' 22 = nI (nX m + 1) := by
    rw [← hm']
    exact gI_at (sI (sI (sI m 40 19 (nX m) (nI B)) 40 20 (nX m) (nI D)) 40 21 (nX m) (nI (pX m (nX m) + l.length - pX m (nX m)))) 12 22 0 _
  have emi : ∀ k, k ≠ 22 → mi m' k = mi m k := by
    intro k hk
    rw [← hm']
    show gI (sI (sI (sI (sI (sI m 40 19 (nX m) (nI B)) 40 20 (nX m) (nI D)) 40 21 (nX m) (nI (pX m (nX m) + l.length - pX m (nX m)))) 12 22 0 (nI (nX m + 1))) 40 22 (nX m + 1) (nI (pX m (nX m) + l.length))) 12 k 0 = _
    rw [gI_ne (by omega), gI_ne (by omega), gI_ne (by omega), gI_ne (by omega), gI_ne (by omega)]
  have ejl : ∀ r, r ≠ 23 → ml m' r = ml m r := by
    intro r hr
    rw [← hm']
    funext i
    show (bif Nat.beq 40 40 && Nat.beq r 23 then putL (ml m 23) (pX m (nX m)) l i else ml m r i) = _
    have : Nat.beq r 23 = false := by
      cases e : Nat.beq r 23 with
      | false => rfl
      | true => have := Nat.eq_of_beq_eq_true e; omega
    rw [this]; rfl
  have e23 : ml m' 23 = putL (ml m 23) (pX m (nX m)) l := by rw [← hm']; rfl
  have enX : nX m' = nX m + 1 := by unfold nX; rw [e22]; exact tn_nI (by omega)
  have ep : ∀ x, x ≤ nX m → pX m' x = pX m x := fun x q => by unfold pX; rw [r22 x q]
  refine Rep.mk hR.fk (FixR.set hR.fr (by omega)) ((GTy.set hR.gty (by omega) (by rw [k72.1]; omega)).cg ⟨emi 1 (by omega), fun r hr _ => rows r (by omega)⟩ (rows 4 (by omega)) (ejl 14 (by omega))) ⟨⟨fun x hx2 => ?_, fun x y hx2 hy e => ?_⟩, fun x hx2 => ?_, fun x i hx2 hi => ?_⟩ ((HdR.set hR.hd (by omega)).cg (emi 29 (by omega)) (rows 24 (by omega)) (rows 25 (by omega)) (rows 26 (by omega))) ((GCo.set hR.gco (by omega)).cg (rows 28 (by omega)) (rows 29 (by omega)) (rows 30 (by omega)) (ejl 31 (by omega))) ((GQu.set hR.gqu (by omega) (QuK.ne hR.qk (by rw [k72.1]; omega))).cg (emi 43 (by omega)) (rows 32 (by omega)) (rows 33 (by omega)) (rows 34 (by omega)) (rows 36 (by omega)) (ejl 35 (by omega))) ?_ ?_ ?_
  · rw [enX] at hx2
    show gR (sR w 23 72 (nX m) (some a)) 23 72 x = some (if x = nX m then a else aX A x) ∧ gN w 0 (if x = nX m then a else aX A x) = 5 ∧ gN w 0 ((if x = nX m then a else aX A x) + 1) = 21
    by_cases e : x = nX m
    · rw [if_pos e, e, gR_at]; exact ⟨rfl, k0, k1⟩
    · rw [if_neg e, gR_ne (by omega)]; exact hR.xk.1 x (by omega)
  · rw [enX] at hx2 hy
    have e : (if x = nX m then a else aX A x) = (if y = nX m then a else aX A y) := e
    by_cases e1 : x = nX m
    · by_cases e2 : y = nX m
      · omega
      · rw [if_pos e1, if_neg e2] at e; exact absurd e.symm (hf y (by omega))
    · by_cases e2 : y = nX m
      · rw [if_neg e1, if_pos e2] at e; exact absurd e (hf x (by omega))
      · rw [if_neg e1, if_neg e2] at e; exact hR.xk.2 x y (by omega) (by omega) e
  · rw [enX] at hx2
    unfold dX bX sX
    rw [r19, r20, r21]
    show gR w 5 0 (if x = nX m then a else aX A x) = cIf (tn (if x = nX m then nI D else ma m 20 x) = 0) (some (aT A (tn (if x = nX m then nI B else ma m 19 x)))) none ∧ gI w 5 1 (if x = nX m then a else aX A x) = (if x = nX m then nI B else ma m 19 x) ∧ gI w 5 2 (if x = nX m then a else aX A x) = (if x = nX m then nI D else ma m 20 x) ∧ gR w 5 3 (if x = nX m then a else aX A x) = some ((if x = nX m then a else aX A x) + 1) ∧ gN w 1 ((if x = nX m then a else aX A x) + 1) = tn (if x = nX m then nI l.length else ma m 21 x)
    by_cases e : x = nX m
    · rw [if_pos e, if_pos e, if_pos e, if_pos e, tn_nI (by omega), tn_nI (by omega), tn_nI (by omega)]
      exact ⟨r0, i1, i2, r3, n1⟩
    · rw [if_neg e, if_neg e, if_neg e, if_neg e]
      exact hR.xs x (by omega)
  · rw [enX] at hx2
    unfold sX at hi
    rw [r21] at hi
    rw [e23, ep x (by omega)]
    show gJ w 21 ((if x = nX m then a else aX A x) + 1) i = putL (ml m 23) (pX m (nX m)) l (pX m x + i)
    unfold putL
    by_cases e : x = nX m
    · rw [if_pos e] at hi ⊢
      rw [tn_nI (by omega)] at hi
      rw [e, if_pos (by omega), Nat.add_sub_cancel_left]
      exact hj i hi
    · rw [if_neg e] at hi ⊢
      have := pX_mono hX (show x < nX m by omega) (Nat.le_refl _)
      have hi : i < sX m x := hi
      rw [if_neg (by omega)]
      exact hR.xj x i (by omega) hi
  · obtain ⟨a1, a2, a3, a4, a5⟩ := hR.mt
    have eT : nT m' = nT m := by unfold nT; rw [emi 1 (by omega)]
    refine ⟨?_, ?_, ?_, ?_, ?_⟩
    · rw [emi 1 (by omega)]; exact a1
    · rw [eT, ecs0 (rows 0 (by omega))]; exact a2
    · rw [eT, ecl4 (rows 4 (by omega))]; exact a3
    · rw [e22]; exact gI_at _ _ _ _ _
    · rw [emi 29 (by omega)]; exact a5
  · obtain ⟨a1, a2⟩ := hR.mr
    refine ⟨by rw [emi 36 (by omega)]; exact a1, fun i hi => ?_⟩
    have : nTr m' = nTr m := by unfold nTr; rw [emi 36 (by omega)]
    rw [rows 27 (by omega)]; exact a2 i (by omega)
  · obtain ⟨a1, a2, a3, a4, a5, a6, a7⟩ := hR.mq
    have : nHt m' = nHt m := by unfold nHt; rw [emi 49 (by omega)]
    refine ⟨by rw [emi 43 (by omega)]; exact a1, by rw [emi 49 (by omega)]; exact a2, by rw [emi 51 (by omega)]; exact a3, by rw [emi 42 (by omega)]; exact a4, by rw [emi 35 (by omega)]; exact a5, by rw [emi 0 (by omega)]; exact a6, fun i hi => ?_⟩
    rw [rows 37 (by omega)]; exact a7 i (by omega)
theorem c7_keep {a : Nat} (hR : Rep A m w) (hX : XInv m) (hx : nX m < 60) (k0 : gN w 0 a = 5) (h : Q (some (.int (nI (nX m)))) (sI (sR w 23 72 (nX m) (some a)) 6 2 71 (nI (nX m + 1)))) : Con G M7_keep [.ref 71, .ref a] w Q := by
  have k72 := hR.fk.2.2.2.2.2.2.1
  have hc : gI w 6 2 71 = nI (nX m) := hR.mt.2.2.2.1.trans hX.1
  have r1 : gR w 6 1 71 = some 72 := hR.fr.2.2.2.2.2.2.2.2.2.2.2.1
  refine Con.go hw7_keep ok7_keep 40 [] rfl ?_
  refine And.intro hR.k71 (And.intro (fun _ => ?_) (fun (c : ¬ gI w 6 2 71 < nI 60) => ?_))
  · refine And.intro hR.k71 (refS r1 (And.intro hR.k71 ?_))
    rw [hc]
    refine And.intro (And.intro (by rw [k72.1]; rfl) (And.intro (by rw [k0, k72.1]) (by rw [k72.2]; exact in_nI (by omega) (by decide)))) ?_
    rw [nI_clamp (by omega)]
    refine And.intro hR.k71 (And.intro hR.k71 (And.intro hR.k71 ?_))
    show Q (some (.int (gI (sI (sR w 23 72 (nX m) (some a)) 6 2 71 (gI w 6 2 71 + 1)) 6 2 71 - 1))) (sI (sR w 23 72 (nX m) (some a)) 6 2 71 (gI w 6 2 71 + 1))
    rw [hc, gI_at, nI_1, nI_m1]
    exact h
  · rw [hc, nI_ltI (by omega) (by omega)] at c; omega
end
