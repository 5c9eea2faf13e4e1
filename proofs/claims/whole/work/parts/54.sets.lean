/-! ===== the parts of Rep, each with what it depends on ===== -/
section
variable {A : qA} {m m' w : qSt}
def GTy (A : qA) (m w : qSt) : Prop := TyK A m w ∧ TyS A m w ∧ TyM A m w ∧ TyU A m w ∧ MbK A m w ∧ MbS A m w ∧ MbJ A m w ∧ MbN A m w ∧ LeS m w
def GXo (A : qA) (m w : qSt) : Prop := XoK A m w ∧ XoS A m w ∧ XoJ A m w
def GCo (A : qA) (m w : qSt) : Prop := CoK A m w ∧ CoJ A m w
def GQu (A : qA) (m w : qSt) : Prop := QuK A m w ∧ QuM A m w
theorem Rep.gty (h : Rep A m w) : GTy A m w := ⟨h.tk, h.ts, h.tm, h.tu, h.bk, h.bs, h.bj, h.bn, h.le⟩
theorem Rep.gxo (h : Rep A m w) : GXo A m w := ⟨h.xk, h.xs, h.xj⟩
theorem Rep.gco (h : Rep A m w) : GCo A m w := ⟨h.ck, h.cj⟩
theorem Rep.gqu (h : Rep A m w) : GQu A m w := ⟨h.qk, h.qm⟩
theorem Rep.mk (fk : FixK w) (fr : FixR w) (gt : GTy A m w) (gx : GXo A m w) (gh : HdR A m w) (gc : GCo A m w) (gq : GQu A m w) (mt : MaT m w) (mr : MaR m w) (mq : MaQ m w) : Rep A m w :=
  ⟨fk, fr, gt.1, gt.2.1, gt.2.2.1, gt.2.2.2.1, gt.2.2.2.2.1, gt.2.2.2.2.2.1, gt.2.2.2.2.2.2.1, gt.2.2.2.2.2.2.2.1, gt.2.2.2.2.2.2.2.2, gx.1, gx.2.1, gx.2.2, gh, gc.1, gc.2, gq.1, gq.2, mt, mr, mq⟩
theorem TE.erf {m m' : qSt} (h : TE m m') : rfN m' = rfN m := by
  have key : ∀ (x : Int32) (k i : Nat), rfF m' x k i = rfF m x k i := by
    intro x k
    induction k with
    | zero => exact fun _ => rfl
    | succ k ih =>
      intro i
      show cIf (ma m' 0 i = 4 ∧ ma m' 2 i = x) (some i) (rfF m' x k (i + 1)) = cIf (ma m 0 i = 4 ∧ ma m 2 i = x) (some i) (rfF m x k (i + 1))
      rw [ih, h.2 0 (by omega) (by omega), h.2 2 (by omega) (by omega)]
  funext x
  show rfF m' x (nT m' - 9) 9 = rfF m x (nT m - 9) 9
  rw [key, h.eT]
theorem ecl4 (h : ma m' 4 = ma m 4) : clF m' = clF m := by
  funext n
  induction n with
  | zero => rfl
  | succ n ih => show clF m' n + cIf (ma m' 4 n = 0) 0 1 = clF m n + cIf (ma m 4 n = 0) 0 1; rw [ih, h]
theorem ecs0 (h : ma m' 0 = ma m 0) : csF m' = csF m := by
  funext n
  induction n with
  | zero => rfl
  | succ n ih => show csF m' n + cIf (8 < n ∧ ma m' 0 n = 1) 1 0 = csF m n + cIf (8 < n ∧ ma m 0 n = 1) 1 0; rw [ih, h]
theorem GTy.cg (hg : GTy A m w) (h : TE m m') (h4 : ma m' 4 = ma m 4) (h14 : ml m' 14 = ml m 14) : GTy A m' w := by
  obtain ⟨a3, a4, a5, a6, a7, a8, a9, a10, a11⟩ := hg
  have r : ∀ k, k ≤ 13 → k ≠ 4 → ma m' k = ma m k := h.2
  have ety : tyN m' = tyN m := by funext a; show tn (ma m' 10 a) = tn (ma m 10 a); rw [r 10 (by omega) (by omega)]
  have eMb : hasMb m' = hasMb m := by funext i; unfold hasMb; rw [r 0 (by omega) (by omega)]
  refine ⟨?_, ?_, ?_, ?_, ?_, ?_, ?_, ?_, ?_⟩
  · unfold TyK at *; rw [h.eT]; exact a3
  · unfold TyS frA owA mlN at *; rw [h.eT, r 0 (by omega) (by omega), r 3 (by omega) (by omega), h.eup, h.eof, h.esq, h.eba, h.edp, eMb]; exact a4
  · unfold TyM rwI at *; rw [h.eT, r 7 (by omega) (by omega), h4, h.epc, h.erf]; exact a5
  · unfold TyU UpP at *; rw [h.eT, r 0 (by omega) (by omega), h.eab, h.eFO, h.etl]; exact a6
  · unfold MbK at *; rw [h.eT, h.eM]; exact a7
  · unfold MbS at *; rw [h.eT, h.eM, r 8 (by omega) (by omega), r 9 (by omega) (by omega), r 11 (by omega) (by omega), r 12 (by omega) (by omega), r 13 (by omega) (by omega), ety, h.epf]; exact a8
  · unfold MbJ at *; rw [h.eT, h.eM, r 8 (by omega) (by omega), h14]; exact a9
  · unfold MbN nmR at *; rw [h.eT, eMb, h.emb]; exact a10
  · unfold LeS LnP at *; rw [h.eT, r 0 (by omega) (by omega), r 12 (by omega) (by omega), h.emb]; exact a11
theorem GXo.cg (hg : GXo A m w) (h22 : mi m' 22 = mi m 22) (r19 : ma m' 19 = ma m 19) (r20 : ma m' 20 = ma m 20) (r21 : ma m' 21 = ma m 21) (r22 : ma m' 22 = ma m 22) (r23 : ml m' 23 = ml m 23) : GXo A m' w := by
  obtain ⟨a1, a2, a3⟩ := hg
  have eX : nX m' = nX m := by unfold nX; rw [h22]
  have ebX : bX m' = bX m := by funext a; show tn (ma m' 19 a) = tn (ma m 19 a); rw [r19]
  have edX : dX m' = dX m := by funext a; show tn (ma m' 20 a) = tn (ma m 20 a); rw [r20]
  have esX : sX m' = sX m := by funext a; show tn (ma m' 21 a) = tn (ma m 21 a); rw [r21]
  have epX : pX m' = pX m := by funext a; show tn (ma m' 22 a) = tn (ma m 22 a); rw [r22]
  refine ⟨?_, ?_, ?_⟩
  · unfold XoK at *; rw [eX]; exact a1
  · unfold XoS at *; rw [eX, edX, ebX, esX, r19, r20]; exact a2
  · unfold XoJ at *; rw [eX, esX, epX, r23]; exact a3
theorem HdR.cg (hg : HdR A m w) (h29 : mi m' 29 = mi m 29) (r24 : ma m' 24 = ma m 24) (r25 : ma m' 25 = ma m 25) (r26 : ma m' 26 = ma m 26) : HdR A m' w := by
  have eH : nH m' = nH m := by unfold nH; rw [h29]
  have ehA : hA m' = hA m := by funext a; show tn (ma m' 26 a) = tn (ma m 26 a); rw [r26]
  have ehC : hC m' = hC m := by funext a; show tn (ma m' 24 a) = tn (ma m 24 a); rw [r24]
  unfold HdR at *; rw [eH, ehC, ehA, r25, r26]; exact hg
theorem GCo.cg (hg : GCo A m w) (r28 : ma m' 28 = ma m 28) (r29 : ma m' 29 = ma m 29) (r30 : ma m' 30 = ma m 30) (r31 : ml m' 31 = ml m 31) : GCo A m' w := by
  obtain ⟨a1, a2⟩ := hg
  have ecN : cN m' = cN m := by funext a; show tn (ma m' 30 a) = tn (ma m 30 a); rw [r30]
  refine ⟨?_, ?_⟩
  · unfold CoK at *; rw [r28, r29, ecN]; exact a1
  · unfold CoJ at *; rw [r28, ecN, r31]; exact a2
theorem GQu.cg (hg : GQu A m w) (h43 : mi m' 43 = mi m 43) (r32 : ma m' 32 = ma m 32) (r33 : ma m' 33 = ma m 33) (r34 : ma m' 34 = ma m 34) (r36 : ma m' 36 = ma m 36) (r35 : ml m' 35 = ml m 35) : GQu A m' w := by
  obtain ⟨a1, a2⟩ := hg
  have eQ : nQ m' = nQ m := by unfold nQ; rw [h43]
  have etQ : tQ m' = tQ m := by funext a; show tn (ma m' 32 a) = tn (ma m 32 a); rw [r32]
  have etH : tH m' = tH m := by funext a; show tn (ma m' 33 a) = tn (ma m 33 a); rw [r33]
  refine ⟨?_, ?_⟩
  · unfold QuK at *; rw [eQ]; exact a1
  · unfold QuM at *; rw [eQ, etQ, etH, r32, r34, r36, r35]; exact a2
theorem MaT.cg (hg : MaT m w) (h1 : mi m' 1 = mi m 1) (h22 : mi m' 22 = mi m 22) (h29 : mi m' 29 = mi m 29) (r0 : ma m' 0 = ma m 0) (r4 : ma m' 4 = ma m 4) : MaT m' w := by
  have eT : nT m' = nT m := by unfold nT; rw [h1]
  unfold MaT at *; rw [h1, h22, h29, eT, ecs0 r0, ecl4 r4]; exact hg
/-! one place of an array of references changed -/
variable {a j : Nat} {v : Option Nat}
theorem FixR.set (h : FixR w) (ha : a ≠ 59) : FixR (sR w 23 a j v) := by
  obtain ⟨r1, r2, r3, r4, r5, r6, r7, r8, r9, r10, r11, r12, r13, r14, r15, r16, r17⟩ := h
  exact ⟨r1, r2, r3, r4, r5, r6, r7, r8, r9, fun n hn => (gR_ne (by omega)).trans (r10 n hn), r11, r12, r13, r14, r15, r16, r17⟩
theorem TyK.set (h : TyK A m w) (ha : a ≠ 4) : TyK A m (sR w 23 a j v) := fun i hi => ⟨(gR_ne (by omega)).trans (h i hi).1, (h i hi).2⟩
theorem MbK.set (hk : TyK A m w) (h : MbK A m w) (ha : gN w 0 a ≠ 25) : MbK A m (sR w 23 a j v) := by
  intro i k hi hj
  refine ⟨(gR_ne (fun z => ha ?_)).trans (h i k hi hj).1, (h i k hi hj).2⟩
  rw [← z.2.1]; exact (hk i hi).2.2.2.2.1
theorem MbN.set (hk : TyK A m w) (h : MbN A m w) (ha : gN w 0 a ≠ 25) : MbN A m (sR w 23 a j v) := by
  intro i n hi hm hn
  refine ⟨(gR_ne (fun z => ha ?_)).trans (h i n hi hm hn).1, (gR_ne (fun z => ha ?_)).trans (h i n hi hm hn).2⟩
  · rw [← z.2.1]; exact (hk i hi).2.2.2.2.2.1
  · rw [← z.2.1]; exact (hk i hi).2.2.2.2.2.2
theorem GTy.set (h : GTy A m w) (ha : a ≠ 4) (hk : gN w 0 a ≠ 25) : GTy A m (sR w 23 a j v) :=
  ⟨TyK.set h.1 ha, h.2.1, h.2.2.1, h.2.2.2.1, MbK.set h.1 h.2.2.2.2.1 hk, h.2.2.2.2.2.1, h.2.2.2.2.2.2.1, MbN.set h.1 h.2.2.2.2.2.2.2.1 hk, h.2.2.2.2.2.2.2.2⟩
theorem GXo.set (h : GXo A m w) (ha : a ≠ 72) : GXo A m (sR w 23 a j v) := ⟨⟨fun x hx => ⟨(gR_ne (by omega)).trans (h.1.1 x hx).1, (h.1.1 x hx).2⟩, h.1.2⟩, h.2⟩
theorem HdR.set (h : HdR A m w) (ha : a ≠ 74) : HdR A m (sR w 23 a j v) := fun x hx => ⟨(gR_ne (by omega)).trans (h x hx).1, (h x hx).2⟩
theorem GCo.set (h : GCo A m w) (ha : a ≠ 76) : GCo A m (sR w 23 a j v) := ⟨⟨fun k hk => ⟨fun z => (gR_ne (by omega)).trans ((h.1.1 k hk).1 z), fun z => ⟨(gR_ne (by omega)).trans ((h.1.1 k hk).2 z).1, ((h.1.1 k hk).2 z).2⟩⟩, h.1.2⟩, h.2⟩
theorem GQu.set (h : GQu A m w) (ha : a ≠ 77) (hq : ∀ q, q < nQ m → a ≠ aY A q + 1) : GQu A m (sR w 23 a j v) :=
  ⟨⟨fun q hq => ⟨(gR_ne (by omega)).trans (h.1.1 q hq).1, (h.1.1 q hq).2⟩, h.1.2⟩, fun q hq2 => ⟨(h.2 q hq2).1, fun i hi => ⟨(gR_ne (fun z => hq q hq2 z.2.1.symm)).trans ((h.2 q hq2).2 i hi).1, ((h.2 q hq2).2 i hi).2⟩⟩⟩
/-- an array that is no query's own -/
theorem QuK.ne (h : QuK A m w) (hk : gN w 0 a ≠ 24) : ∀ q, q < nQ m → a ≠ aY A q + 1 := fun q hq z => hk (by rw [z]; exact (h.1 q hq).2.2.1)
end
section
variable {G : qGX} {A : qA} {m w : qSt} {Q : Option Value → qSt → Prop}
theorem c11_column {k l n : Int32} (hR : Rep A m w) (hC : CInv m) (hz : qZero w) (h : ∀ A' w', Fin A' (S_column m k l n).2 w w' → Q (some (.int (S_column m k l n).1)) w') : Con G M11_column [.ref 2, .int k, .int l, .int n] w Q := by
  unfold S_column at h
  have bad : (¬ isK k ∨ ¬ isL l ∨ 60 < n) → Wq G M11_column 20 [some (.ref 2), some (.int k), some (.int l), some (.int n)] [] (0, 0) w Q := by
    intro hb
    rw [cIf_t hb] at h
    exact Wq.go ok11_column 20 [] (And.intro hR.k2 (ans_n hR hz neg1 h))
  refine Con.go hw11_column ok11_column 40 [20, 26] rfl ?_
  refine c11_isColumn (And.intro (fun c1 => bad (Or.inl (bI_0.mp c1))) (fun c1 => c11_isLane (And.intro (fun c2 => bad (Or.inr (Or.inl (bI_0.mp c2)))) (fun c2 => And.intro (fun (c3 : n ≤ 60) => ?_) (fun (c3 : ¬ n ≤ 60) => bad (Or.inr (Or.inr (by rw [i32_lt]; rw [i32_le] at c3; omega))))))))
  rw [bI_n0] at c1 c2
  rw [cIf_f (fun q => q.elim (fun q => q c1) (fun q => q.elim (fun q => q c2) (fun q => by rw [i32_lt] at q; rw [i32_le] at c3; omega)))] at h
  obtain ⟨K, rfl, hK⟩ := c1
  have hk76 := hR.k76
  refine Wq.go ok11_column 40 [] ?_
  refine And.intro (fun (c4 : 0 ≤ n) => ?_) (fun (c4 : ¬ 0 ≤ n) => And.intro hR.k2 ?_)
  · rw [cIf_f (nlt0 c4)] at h
    obtain ⟨N, rfl, hN⟩ : ∃ N, n = nI N ∧ N ≤ 60 := by
      rw [i32_le, c60i] at c3
      rw [i32_le, c0i] at c4
      refine ⟨n.toInt.toNat, ?_, by omega⟩
      rw [i32_eq, nI_t (by omega)]; omega
    rw [tn_nI (by omega)] at h
    refine And.intro hR.k2 (refS hR.r4 (And.intro ⟨by decide, by decide⟩ (fun a ha => And.intro (And.intro (by decide) (by decide)) ?_)))
    have hz1 := hz.O 0
    have ka : gN (nwO w 0) 0 a = 0 := by rw [← ha]; exact nwO_0 w 0
    refine c0_init hz1 ka hN ?_
    have h99 : gN w 0 a = 99 := hz.k (by omega)
    have h991 : gN w 0 (a + 1) = 99 := hz.k (by omega)
    have e2 : gN (nwO w 0) 2 0 = a + 1 := by rw [nwO_2, ha]
    rw [e2]
    have hw1 : ∀ w1, w1 = sR (nwA (sI (nwO w 0) 0 0 a l) 21 N) 0 1 a (some (a + 1)) → Agree w w1 ∧ qZero w1 ∧ CW w w1 ∧ gN w1 0 a = 0 ∧ gN w1 0 (a + 1) = 21 ∧ gN w1 1 (a + 1) = N ∧ gI w1 0 0 a = l ∧ gR w1 0 1 a = some (a + 1) ∧ (∀ j, gJ w1 21 (a + 1) j = 0) := by
      intro w1 e
      subst e
      have e3 : gN (sI (nwO w 0) 0 0 a l) 2 0 = a + 1 := e2
      have lt : a < gN (nwO w 0) 2 0 := by rw [e2]; omega
      refine ⟨?_, ?_, ?_, ?_, ?_, ?_, ?_, ?_, ?_⟩
      · exact ((((Agree.rf w).O (by rw [ha]; exact h99)).I h99 (by omega)).Ar (by rw [e3]; exact h991)).R h99 (by omega)
      · refine ((hz1.I lt (by omega)).Ar 21 N).R ?_ (by omega)
        rw [nwA_2, e3]; omega
      · exact ((((CW.rf w).O).I rfl).Ar).R
      · show gN (nwA (sI (nwO w 0) 0 0 a l) 21 N) 0 a = 0
        rw [nwA_ne _ _ _ (by rw [e3]; omega)]; exact ka
      · show gN (nwA (sI (nwO w 0) 0 0 a l) 21 N) 0 (a + 1) = 21
        rw [← e3]; exact nwA_0 _ _ _
      · show gN (nwA (sI (nwO w 0) 0 0 a l) 21 N) 1 (a + 1) = N
        rw [← e3]; exact nwA_1 _ _ _
      · exact gI_at (nwO w 0) 0 0 a l
      · exact gR_at _ _ _ _ _
      · intro j; exact ((hz (a + 1) (by omega)).2.2 j).2.1
    generalize sR (nwA (sI (nwO w 0) 0 0 a l) 21 N) 0 1 a (some (a + 1)) = w1 at hw1 ⊢
    obtain ⟨g1, g2, g3, g4, g5, g6, g7, g8, g9⟩ := hw1 w1 rfl
    have hR1 := hR.agree g1
    have k761 := hR1.k76
    refine And.intro (And.intro (by rw [k761.1]; rfl) (And.intro (by rw [g4, k761.1]) (by rw [k761.2]; exact in_nI hK (by decide)))) ?_
    rw [nI_clamp (by omega)]
    refine And.intro hR1.k2 ?_
    -- the new Rep
    have eNs : List.replicate (tn (nI N)) (0 : Int64) = List.replicate N 0 := by rw [tn_nI (by omega)]
    have hRn : Rep (A.1, A.2.1, A.2.2.1, A.2.2.2.1, (fun k => if k = K then a else aK A k), A.2.2.2.2.2) (sCol m K l (nI N)) (sR w1 23 76 K (some a)) := by
      have r28 : ∀ k, k ≠ K → ma (sCol m K l (nI N)) 28 k = ma m 28 k := fun k hk => gI_ne (w := m) (r := 40) (k := 28) (i := K) (r' := 40) (k' := 28) (i' := k) (v := 1) (by omega)
      have r28K : ma (sCol m K l (nI N)) 28 K = 1 := gI_at m 40 28 K 1
      have r29 : ∀ k, k ≠ K → ma (sCol m K l (nI N)) 29 k = ma m 29 k := fun k hk => gI_ne (w := m) (r := 40) (k := 29) (i := K) (r' := 40) (k' := 29) (i' := k) (v := l) (by omega)
      have r29K : ma (sCol m K l (nI N)) 29 K = l := gI_at m 40 29 K l
      have r30 : ∀ k, k ≠ K → cN (sCol m K l (nI N)) k = cN m k := fun k hk => congrArg tn (gI_ne (w := m) (r := 40) (k := 30) (i := K) (r' := 40) (k' := 30) (i' := k) (v := nI N) (by omega))
      have r30K : cN (sCol m K l (nI N)) K = N := (congrArg tn (gI_at m 40 30 K (nI N))).trans (tn_nI (by omega))
      have r31 : ml (sCol m K l (nI N)) 31 = putL (ml m 31) (60 * K) (List.replicate N 0) := by rw [← eNs]; rfl
      refine Rep.mk hR1.fk (FixR.set hR1.fr (by omega)) ((GTy.set hR1.gty (by omega) (by rw [k761.1]; omega)).cg ⟨rfl, fun r hr h4 => ?_⟩ rfl rfl) ((GXo.set hR1.gxo (by omega)).cg rfl rfl rfl rfl rfl rfl) ((HdR.set hR1.hd (by omega)).cg rfl rfl rfl rfl) ⟨⟨fun k hk => ?_, fun k1 k2 h1 h2 n1 n2 e => ?_⟩, fun k i hk hn hi => ?_⟩ ((GQu.set hR1.gqu (by omega) (QuK.ne hR1.qk (by rw [k761.1]; omega))).cg rfl rfl rfl rfl rfl rfl) (hR1.mt.cg rfl rfl rfl rfl rfl) hR1.mr hR1.mq
      · funext i
        show gI (sI (sI (sI m 40 28 K 1) 40 29 K l) 40 30 K (nI N)) 40 r i = _
        rw [gI_ne (by omega), gI_ne (by omega), gI_ne (by omega)]
      · by_cases q : k = K
        · subst q
          refine ⟨fun z => ?_, fun _ => ?_⟩
          · rw [r28K] at z; exact absurd z (by decide)
          · show gR (sR w1 23 76 k (some a)) 23 76 k = some (if k = k then a else aK A k) ∧ gN w1 0 (if k = k then a else aK A k) = 0 ∧ gN w1 0 ((if k = k then a else aK A k) + 1) = 21 ∧ gI w1 0 0 (if k = k then a else aK A k) = ma (sCol m k l (nI N)) 29 k ∧ gR w1 0 1 (if k = k then a else aK A k) = some ((if k = k then a else aK A k) + 1) ∧ gN w1 1 ((if k = k then a else aK A k) + 1) = cN (sCol m k l (nI N)) k
            rw [if_pos rfl, r29K, r30K, gR_at]
            exact ⟨rfl, g4, g5, g7, g8, g6⟩
        · rw [r28 k q, r29 k q, r30 k q]
          show (ma m 28 k = 0 → gR (sR w1 23 76 K (some a)) 23 76 k = none) ∧ (¬ ma m 28 k = 0 → gR (sR w1 23 76 K (some a)) 23 76 k = some (if k = K then a else aK A k) ∧ gN w1 0 (if k = K then a else aK A k) = 0 ∧ gN w1 0 ((if k = K then a else aK A k) + 1) = 21 ∧ gI w1 0 0 (if k = K then a else aK A k) = ma m 29 k ∧ gR w1 0 1 (if k = K then a else aK A k) = some ((if k = K then a else aK A k) + 1) ∧ gN w1 1 ((if k = K then a else aK A k) + 1) = cN m k)
          rw [if_neg q, gR_ne (by omega)]
          exact hR1.ck.1 k hk
      · have fresh : ∀ k, k < 6 → k ≠ K → ¬ ma (sCol m K l (nI N)) 28 k = 0 → aK A k ≠ a := by
          intro k hk q n z
          rw [r28 k q] at n
          have := ((hR.ck.1 k hk).2 n).2.1
          rw [z] at this; omega
        have e : (if k1 = K then a else aK A k1) = (if k2 = K then a else aK A k2) := e
        by_cases q1 : k1 = K
        · by_cases q2 : k2 = K
          · rw [q1, q2]
          · rw [if_pos q1, if_neg q2] at e
            exact absurd e.symm (fresh k2 h2 q2 n2)
        · by_cases q2 : k2 = K
          · rw [if_neg q1, if_pos q2] at e
            exact absurd e (fresh k1 h1 q1 n1)
          · rw [if_neg q1, if_neg q2] at e
            rw [r28 k1 q1] at n1
            rw [r28 k2 q2] at n2
            exact hR.ck.2 k1 k2 h1 h2 n1 n2 e
      · show gJ w1 21 ((if k = K then a else aK A k) + 1) i = _
        rw [r31]
        unfold putL
        by_cases q : k = K
        · subst q
          rw [r30K] at hi
          rw [if_pos rfl, g9, if_pos ⟨by omega, by rw [List.length_replicate]; omega⟩, Nat.add_sub_cancel_left]
          simp [List.getD, List.getElem?_replicate, hi]
        · rw [r28 k q] at hn
          rw [r30 k q] at hi
          rw [if_neg q, hR1.cj k i hk hn hi]
          have hc60 : cN m k ≤ 60 := ((hC k hk).2 hn).2.2.2.1
          rw [if_neg (by rw [List.length_replicate]; omega)]
    have hz2 : qZero (sR w1 23 76 K (some a)) := g2.AR (g2.lt k761.1 (by omega))
    exact ans_p hRn hz2 (nI_pos (by omega)) (fun A' w' hF => h A' w' (hF.cw g3.R))
  · rw [cIf_t (lt0 c4)] at h
    exact ans_n hR hz (by decide) h
end
