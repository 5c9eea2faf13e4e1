/-! ===== what a thing of a class closes ===== -/
section
variable {G : qGX} {A : qA} {m w : qSt} {Q : Option Value → qSt → Prop}
theorem cl_one {n : Nat} (h0 : ma m 4 n = 0) : ∀ k, clF (sI m 40 4 n 1) k = clF m k + (if n < k then 1 else 0)
  | 0 => by rw [if_neg (by omega)]; rfl
  | k + 1 => by
    show clF (sI m 40 4 n 1) k + cIf (ma (sI m 40 4 n 1) 4 k = 0) 0 1 = clF m k + cIf (ma m 4 k = 0) 0 1 + _
    rw [cl_one h0 k]
    by_cases e : k = n
    · subst e
      rw [cIf_f (by rw [show ma (sI m 40 4 k 1) 4 k = 1 from gI_at _ _ _ _ _]; decide), cIf_t h0, if_neg (by omega), if_pos (by omega)]
    · rw [show ma (sI m 40 4 n 1) 4 k = ma m 4 k from gI_ne (by omega)]
      by_cases e2 : n < k
      · rw [if_pos e2, if_pos (by omega)]; omega
      · rw [if_neg e2, if_neg (by omega)]; omega
theorem rep_close {n : Nat} (hR : Rep A m w) (hn : n < nT m) (h0 : ma m 4 n = 0) (hinj : ∀ i, i < nT m → aT A i = aT A n → i = n) : Rep A (sI m 40 4 n 1) (sI (sI w 7 14 (aT A n) 1) 9 5 3 (nI (clF m (nT m) + 1))) := by
  have te : TE m (sI m 40 4 n 1) := ⟨rfl, fun r _ h4 => by funext i; exact gI_ne (by omega)⟩
  have r : ∀ k, k ≤ 13 → k ≠ 4 → ma (sI m 40 4 n 1) k = ma m k := te.2
  have ety : tyN (sI m 40 4 n 1) = tyN m := rfl
  have eMb : hasMb (sI m 40 4 n 1) = hasMb m := rfl
  obtain ⟨a3, a4, a5, a6, a7, a8, a9, a10, a11⟩ := hR.gty
  have gt : GTy A (sI m 40 4 n 1) (sI (sI w 7 14 (aT A n) 1) 9 5 3 (nI (clF m (nT m) + 1))) := by
    refine ⟨?_, ?_, ?_, ?_, ?_, ?_, ?_, ?_, ?_⟩
    · unfold TyK at *; rw [te.eT]; exact a3
    · unfold TyS frA owA mlN at *; rw [te.eT, r 0 (by omega) (by omega), r 3 (by omega) (by omega), te.eup, te.eof, te.esq, te.eba, te.edp, eMb]; exact a4
    · intro i hi
      rw [te.eT] at hi
      obtain ⟨b1, b2, b3, b4⟩ := a5 i hi
      refine ⟨b1, by rw [te.epc]; exact b2, ?_, by unfold rwI at *; rw [te.erf]; exact b4⟩
      show gI (sI w 7 14 (aT A n) 1) 7 14 (aT A i) = ma (sI m 40 4 n 1) 4 i
      by_cases e : i = n
      · rw [e, gI_at]; exact (gI_at m 40 4 n 1).symm
      · rw [gI_ne (fun z => e (hinj i hi z.2.2)), b3]; exact (gI_ne (by omega)).symm
    · unfold TyU UpP at *; rw [te.eT, r 0 (by omega) (by omega), te.eab, te.eFO, te.etl]; exact a6
    · unfold MbK at *; rw [te.eT, te.eM]; exact a7
    · unfold MbS at *; rw [te.eT, te.eM, r 8 (by omega) (by omega), r 9 (by omega) (by omega), r 11 (by omega) (by omega), r 12 (by omega) (by omega), r 13 (by omega) (by omega), ety, te.epf]; exact a8
    · unfold MbJ at *; rw [te.eT, te.eM, r 8 (by omega) (by omega)]; exact a9
    · unfold MbN nmR at *; rw [te.eT, eMb, te.emb]; exact a10
    · unfold LeS LnP at *; rw [te.eT, r 0 (by omega) (by omega), r 12 (by omega) (by omega), te.emb]; exact a11
  obtain ⟨c1, c2, c3, c4, c5⟩ := hR.mt
  exact Rep.mk hR.fk hR.fr gt hR.gxo hR.hd hR.gco hR.gqu ⟨c1, by rw [te.eT, ecs0 (r 0 (by omega) (by omega))]; exact c2, by rw [te.eT, cl_one h0, if_pos hn]; exact gI_at _ _ _ _ _, c4, c5⟩ hR.mr hR.mq
/-- what closing changes -/
def ClW (w w' : qSt) : Prop := gN w' = gN w ∧ gR w' = gR w ∧ gJ w' = gJ w ∧ (∀ r k a, ¬ (r = 7 ∧ k = 14) → ¬ (r = 9 ∧ k = 5) → gI w' r k a = gI w r k a) ∧ CW w w' ∧ (qZero w → qZero w')
theorem ClW.rf (w : qSt) : ClW w w := ⟨rfl, rfl, rfl, fun _ _ _ _ _ => rfl, CW.rf w, id⟩
theorem ClW.st {w w1 : qSt} (h : ClW w w1) {a : Nat} {v : Int32} (ha : gN w 0 a = 7) (h3 : gN w 0 3 = 9) : ClW w (sI (sI w1 7 14 a 1) 9 5 3 v) := by
  obtain ⟨h1, h2, h4, h5, h6, h7⟩ := h
  refine ⟨h1, h2, h4, fun r k b n1 n2 => ?_, (h6.I rfl).I rfl, fun hz => ?_⟩
  · rw [gI_ne (by omega), gI_ne (by omega)]; exact h5 r k b n1 n2
  · have hz1 := h7 hz
    have l1 := hz1.lt (a := a) (c := 7) (by rw [h1]; exact ha) (by omega)
    have l2 := hz1.lt (a := 3) (c := 9) (by rw [h1]; exact h3) (by omega)
    exact (hz1.I l1 (by omega)).I l2 (by omega)
noncomputable def clP (m : qSt) (C n : Nat) : Nat → Int32 := fun i => if i < n then clsF m C i else ma m 4 i
theorem cls_off {C i : Nat} (h : ¬ (i ∈ abvs m C ∨ FOf m C i)) : clsF m C i = ma m 4 i := cIf_f h
theorem clP_8 (hI : TInv m) {C : Nat} (hC : C < nT m) (hs : ma m 0 C = 1) : clP m C 8 = ma m 4 := by
  funext i
  unfold clP
  by_cases e : i < 8
  · rw [if_pos e]
    refine cls_off (fun z => ?_)
    rcases z with z | z
    · have := (abvs_in hI C hC hs i z).1; omega
    · have := (z.in_ hI hC).1; omega
  · rw [if_neg e]
theorem clP_n (hI : TInv m) {C : Nat} (hC : C < nT m) (hs : ma m 0 C = 1) : clP m C (nT m) = clsF m C := by
  funext i
  unfold clP
  by_cases e : i < nT m
  · rw [if_pos e]
  · rw [if_neg e]
    refine (cls_off (fun z => ?_)).symm
    rcases z with z | z
    · have := (abvs_in hI C hC hs i z).2.1; omega
    · have := (z.in_ hI hC).2.1; omega
theorem clP_s {C n : Nat} (h : clsF m C n = ma m 4 n) : clP m C (n + 1) = clP m C n := by
  funext i
  unfold clP
  by_cases e : i = n
  · rw [e, if_pos (by omega), if_neg (by omega), h]
  · by_cases e2 : i < n
    · rw [if_pos (by omega), if_pos e2]
    · rw [if_neg (by omega), if_neg e2]
theorem clP_t {C n : Nat} : rI m 4 (clP m C (n + 1)) = sI (rI m 4 (clP m C n)) 40 4 n (clsF m C n) := by
  rw [rI_sI]
  congr 1
  funext i
  unfold clP
  by_cases e : i = n
  · rw [if_pos e, e, if_pos (by omega)]
  · rw [if_neg e]
    by_cases e2 : i < n
    · rw [if_pos (by omega), if_pos e2]
    · rw [if_neg (by omega), if_neg e2]
theorem te_r4 (m : qSt) (f : Nat → Int32) : TE m (rI m 4 f) := by
  have h := te_cl m f (ml m 23)
  rw [show rJ (rI m 4 f) 23 (ml m 23) = rI m 4 f from rJ_self (rI m 4 f) 23] at h
  exact h
theorem c10_closeFor {C : Nat} (hR : Rep A m w) (hI : TInv m) (hC : C < nT m) (hs : ma m 0 C = 1) (h : ∀ w', Rep A (rI m 4 (clsF m C)) w' → ClW w w' → Q none w') : Con G M10_closeFor [.ref 3, .ref (aT A C)] w Q := by
  have h100 := hI.le
  have loop : ∀ (N n : Nat) (w1 : qSt), n + N = nT m → 8 ≤ n → Rep A (rI m 4 (clP m C n)) w1 → ClW w w1 →
      Wq G M10_closeFor 3 [some (.ref 3), some (.ref (aT A C)), some (.int (nI n)), none] [] (0, 0) w1 Q := by
    intro N
    induction N with
    | zero =>
      intro n w1 hn h8 hR1 hW
      have hcn : gI w1 9 3 3 = nI (nT m) := hR1.mt.1.trans hI.ty.1
      refine Wq.go ok10_closeFor 20 [] ?_
      refine And.intro hR1.k3 (And.intro (fun _ => ?_) (fun (z : ¬ gI w1 9 3 3 ≤ nI n) => ?_))
      · rw [show n = nT m by omega, clP_n hI hC hs] at hR1
        exact h w1 hR1 hW
      · rw [hcn, nI_leI (by omega) (by omega)] at z; omega
    | succ N ih =>
      intro n w1 hn h8 hR1 hW
      have hn2 : n < nT m := by omega
      have hcn : gI w1 9 3 3 = nI (nT m) := hR1.mt.1.trans hI.ty.1
      have te := te_r4 m (clP m C n)
      have e4 : ma (rI m 4 (clP m C n)) 4 n = ma m 4 n := by
        show clP m C n n = _
        unfold clP; rw [if_neg (by omega)]
      obtain ⟨v1, v2, v3, -⟩ := hR1.tk n hn2
      obtain ⟨x1, x2, x3, -⟩ := hR1.tk C hC
      have r8 := (hR1.ts C hC).2.2.2.2.2.2.2.1
      have u14 := (hR1.tm n hn2).2.2.1
      rw [e4] at u14
      have hUp : UpP (rI m 4 (clP m C n)) C n ↔ (n ∈ abvs m C ∨ FOf m C n) := by
        unfold UpP
        rw [te.eab, te.eFO, te.2 0 (by omega) (by omega), hs]
        exact ⟨fun z => z.elim (fun z => Or.inl z.2) Or.inr, fun z => z.elim (fun z => Or.inl ⟨rfl, z⟩) Or.inr⟩
      have nx : ∀ (w2 : qSt) (x : Value), Rep A (rI m 4 (clP m C (n + 1))) w2 → ClW w w2 → Wq G M10_closeFor 51 [some (.ref 3), some (.ref (aT A C)), some (.int (nI n)), some x] [] (0, 0) w2 Q := by
        intro w2 x hR2 hW2
        refine Wq.ls (ls' := [some (.ref 3), some (.ref (aT A C)), some (.int (nI n)), none]) ⟨rfl, rfl, rfl, trivial⟩ ?_
        refine Wq.go ok10_closeFor 20 [3] ?_
        show Wq G M10_closeFor 3 [some (.ref 3), some (.ref (aT A C)), some (.int (nI n + 1)), none] [] (0, 0) w2 Q
        rw [nI_1]
        exact ih (n + 1) w2 (by omega) (by omega) hR2 hW2
      refine Wq.go ok10_closeFor 40 [51] ?_
      refine And.intro hR1.k3 (And.intro (fun (z : gI w1 9 3 3 ≤ nI n) => ?_) (fun _ => ?_))
      · rw [hcn, nI_leI (by omega) (by omega)] at z; omega
      refine And.intro hR1.k3 (refS hR1.fr.2.2.2.2.2.2.1 (And.intro (And.intro (by rw [hR1.fk.2.2.1.1]; rfl) (by rw [hR1.fk.2.2.1.2]; exact in_nI (by omega) (by decide))) ?_))
      rw [nI_clamp (by omega)]
      refine refS v1 (And.intro x2 (refS r8 (And.intro x3 (c9_has x3 (by omega) ?_))))
      rw [show (tS w1 (aT A C + 1) n = true) = (n ∈ abvs m C ∨ FOf m C n) from propext ((hR1.tu C hC n (by omega)).1.trans hUp)]
      refine And.intro (fun c => ?_) (fun c => ?_)
      · rw [bI_0] at c
        refine nx w1 _ ?_ hW
        rw [clP_s (cls_off c)]; exact hR1
      · rw [bI_n0] at c
        have ec : clsF m C n = 1 := cIf_t c
        refine And.intro v2 (And.intro (fun (c1 : ¬ gI w1 7 14 (aT A n) = 0) => ?_) (fun (c1 : gI w1 7 14 (aT A n) = 0) => ?_)) <;> rw [u14] at c1
        · refine nx w1 _ ?_ hW
          have := ((hI.flg (i := n) (by omega)).2.1).resolve_left c1
          rw [clP_s (by rw [ec, this])]; exact hR1
        · refine And.intro v2 (And.intro (by decide) (And.intro hR1.k3 (And.intro hR1.k3 ?_)))
          show Wq G M10_closeFor 51 [some (.ref 3), some (.ref (aT A C)), some (.int (nI n)), some (.ref (aT A n))] [] (0, 0) (sI (sI w1 7 14 (aT A n) 1) 9 5 3 (gI w1 9 5 3 + 1)) Q
          have hcl := hR1.mt.2.2.1
          rw [hcl, nI_1]
          refine nx _ _ ?_ (hW.st (hR.tk n hn2).2.1 hR.k3)
          rw [clP_t, ec]
          exact rep_close hR1 hn2 (e4.trans c1) (fun i hi e => hR.tinj hI hi hn2 e)
  refine Con.go hw10_closeFor ok10_closeFor 20 [3] rfl ?_
  refine loop (nT m - 8) 8 w (by omega) (Nat.le_refl _) ?_ (ClW.rf w)
  rw [clP_8 hI hC hs, rI_self]; exact hR
end
