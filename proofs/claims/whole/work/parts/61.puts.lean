/-! ===== values put by the class ===== -/
theorem and31L (b : Int64) : (b &&& 2147483647).toInt = ((b.toInt32.toUInt32.toNat % 2147483648 : Nat) : Int) := by
  have h : (b &&& 2147483647 : Int64).toBitVec.toNat = b.toBitVec.toNat % 2147483648 := by
    rw [Int64.toBitVec_and, BitVec.toNat_and]
    show b.toBitVec.toNat &&& (2 ^ 31 - 1) = _
    rw [Nat.and_two_pow_sub_one_eq_mod]
  have e : b.toInt32.toUInt32.toNat = b.toBitVec.toNat % 4294967296 := by
    show b.toInt32.toBitVec.toNat = _
    rw [Int64.toBitVec_toInt32, BitVec.signExtend_eq_setWidth_of_le _ (by omega), BitVec.toNat_setWidth]
  show (b &&& 2147483647 : Int64).toBitVec.toInt = _
  rw [BitVec.toInt_eq_toNat_of_lt (by rw [h]; omega), h, e]
  omega
theorem fit6 (b : Int64) : ((2139095040 : Int64) < b &&& 2147483647) ↔ ((2139095040 : Int32) < b.toInt32 &&& 2147483647) := by
  rw [i64_lt, i32_lt, and31L, and31]
  exact Iff.rfl
theorem wdP_8 : ∀ f t : _root_.Fin 8, (((wider8 f.val).toUInt32 >>> ((nI t.val).toUInt32 &&& Int32.toUInt32 31)).toInt32 &&& 1 = 0) ↔ ¬ (f.val = t.val ∨ (f.val ≠ 0 ∧ 2 ≤ t.val ∧ t.val ≠ 3 ∧ f.val < t.val ∧ (t.val ≠ 2 ∨ f.val = 1))) := by decide +kernel
section
variable {G : qGX} {A : qA} {m w : qSt} {Q : Option Value → qSt → Prop}
theorem c2_widens {f t : Nat} (hR : Rep A m w) (hf : f ≤ 100) (ht : t ≤ 100) (h : Q (some (.int (bI (f < 8 ∧ t < 8 ∧ wdP f t)))) w) : Con G M2_widens [.int (nI f), .int (nI t)] w Q := by
  have k1 := hR.fk.2.2.2.2.2.2.2.2.2.2.2.2.2.1
  have hw8 := hR.fr.2.2.2.2.2.2.2.2.2.2.2.2.2.2.2.2
  refine Con.go hw2_widens ok2_widens 30 [] rfl ?_
  refine c11_isLane (And.intro (fun c => ?_) (fun c => c11_isLane (And.intro (fun c2 => ?_) (fun c2 => ?_))))
  · rw [bI_0, isL_nI (by omega)] at c
    rw [bI_f (fun z => c z.1)] at h; exact And.intro rfl h
  · rw [bI_0, isL_nI (by omega)] at c2
    rw [bI_f (fun z => c2 z.2.1)] at h; exact And.intro rfl h
  · rw [bI_n0, isL_nI (by omega)] at c c2
    refine And.intro (Or.inl k1.1) (And.intro (by rw [k1.2]; exact in_nI c (by decide)) ?_)
    have e : gI w 20 1 (nI f).toNatClampNeg = wider8 f := by rw [hw8, nI_clamp (by omega)]
    have key := wdP_8 ⟨f, c⟩ ⟨t, c2⟩
    refine And.intro (fun (z : ((gI w 20 1 (nI f).toNatClampNeg).toUInt32 >>> ((nI t).toUInt32 &&& Int32.toUInt32 31)).toInt32 &&& 1 = 0) => ?_) (fun (z : ¬ ((gI w 20 1 (nI f).toNatClampNeg).toUInt32 >>> ((nI t).toUInt32 &&& Int32.toUInt32 31)).toInt32 &&& 1 = 0) => ?_) <;> rw [e] at z
    · rw [bI_f (fun y => key.mp z y.2.2)] at h; exact And.intro rfl h
    · rw [bI_t ⟨c, c2, Classical.byContradiction (fun y => z (key.mpr y))⟩] at h; exact And.intro rfl h
theorem c2_isNoNumber {b : Int64} (h : Q (some (.int (bI ((9218868437227405312 : Int64) < b &&& 9223372036854775807)))) w) : Con G M2_isNoNumber [.long b] w Q := by
  refine Con.go hw2_isNoNumber ok2_isNoNumber 20 [] rfl ?_
  refine And.intro (fun c => ?_) (fun c => ?_) <;> rw [lg_le0] at c
  · rw [bI_f (by rw [i64_lt]; rw [i64_le] at c; omega)] at h; exact And.intro rfl h
  · rw [bI_t (by rw [i64_lt]; rw [i64_le] at c; omega)] at h; exact And.intro rfl h
theorem c2_hasEnd {b : Int64} (h : Q (some (.int (bI (finB b.toUInt64)))) w) : Con G M2_hasEnd [.long b] w Q := by
  have e : finB b.toUInt64 ↔ (b &&& 9223372036854775807 < (9218868437227405312 : Int64)) := by
    rw [i64_lt, and63]
    show b.toUInt64.toNat % 2 ^ 63 < 9218868437227405312 ↔ ((b.toUInt64.toNat % 9223372036854775808 : Nat) : Int) < 9218868437227405312
    omega
  rw [e] at h
  refine Con.go hw2_hasEnd ok2_hasEnd 20 [] rfl ?_
  refine And.intro (fun c => ?_) (fun c => ?_) <;> rw [lg_ge0] at c
  · rw [bI_f (by rw [i64_lt]; rw [i64_le] at c; omega)] at h; exact And.intro rfl h
  · rw [bI_t (by rw [i64_lt]; rw [i64_le] at c; omega)] at h; exact And.intro rfl h
theorem c2_fit {L : Nat} {b : Int64} (hL : L < 8) (h : Q (some (.long (kp L b))) w) : Con G M2_fit [.int (nI L), .long b] w Q := by
  refine Con.go hw2_fit ok2_fit 30 [] rfl ?_
  refine And.intro (And.intro (fun c => ?_) (And.intro (fun c => ?_) (And.intro (fun c => ?_) (And.intro (fun c => ?_) (And.intro (fun c => ?_) (And.intro (fun c => ?_) (And.intro (fun c => ?_) (And.intro (fun c => ?_) trivial)))))))) (fun c => ?_)
  · have e : L = 0 := (nI_eqI (by omega) (by omega)).mp c
    subst e
    have h : Q (some (.long (cIf (b = 0) 0 1))) w := h
    refine And.intro (fun c2 => ?_) (fun c2 => ?_) <;> rw [lg_eq0] at c2
    · rw [cIf_t c2] at h; exact h
    · rw [cIf_f c2] at h; exact h
  · have e : L = 1 := (nI_eqI (by omega) (by omega)).mp c
    subst e; exact h
  · have e : L = 2 := (nI_eqI (by omega) (by omega)).mp c
    subst e; exact h
  · have e : L = 3 := (nI_eqI (by omega) (by omega)).mp c
    subst e; exact h
  · have e : L = 4 := (nI_eqI (by omega) (by omega)).mp c
    subst e; exact h
  · have e : L = 5 := (nI_eqI (by omega) (by omega)).mp c
    subst e; exact h
  · have e : L = 6 := (nI_eqI (by omega) (by omega)).mp c
    subst e
    have h : Q (some (.long (cIf ((2139095040 : Int32) < b.toInt32 &&& 2147483647) 2143289344 b.toInt32.toInt64))) w := h
    rw [← fit6] at h
    refine And.intro (fun c2 => ?_) (fun c2 => ?_) <;> rw [lg_le0] at c2
    · rw [cIf_f (by rw [i64_lt]; rw [i64_le] at c2; omega)] at h; exact h
    · rw [cIf_t (by rw [i64_lt]; rw [i64_le] at c2; omega)] at h; exact h
  · have e : L = 7 := (nI_eqI (by omega) (by omega)).mp c
    subst e
    have h : Q (some (.long (cIf ((9218868437227405312 : Int64) < b &&& 9223372036854775807) 9221120237041090560 b))) w := h
    refine c2_isNoNumber (And.intro (fun c2 => ?_) (fun c2 => ?_))
    · rw [bI_0] at c2
      rw [cIf_f c2] at h; exact h
    · rw [bI_n0] at c2
      rw [cIf_t c2] at h; exact h
  · have c : (nI L).toInt < 0 ∨ (7 : Int) < (nI L).toInt := c
    rw [nI_t (by omega)] at c
    omega
theorem hv_n {b d : Nat} (hb : b < 1000) (hd : d < 1000) : (nI d = 0 ∧ nI b < 8) ↔ (b < 8 ∧ d = 0) := by
  rw [c_0', nI_eqI (by omega) (by omega), c_8, nI_ltI (by omega) (by omega)]
  exact and_comm
theorem c11_held {b d : Nat} {v : Int64} (hb : b < 1000) (hd : d < 1000) (h : Q (some (.long (rdV b d v))) w) : Con G M11_held [.int (nI b), .int (nI d), .long v] w Q := by
  unfold rdV at h
  refine Con.go hw11_held ok11_held 20 [] rfl ?_
  refine c11_holdsValue ?_
  rw [hv_n hb hd]
  refine And.intro (fun c => ?_) (fun c => ?_)
  · rw [bI_0] at c
    rw [cIf_f c] at h; exact h
  · rw [bI_n0] at c
    rw [cIf_t c] at h
    exact c2_fit c.1 h
theorem c7_mayHold {b d : Nat} {v : Int64} (hR : Rep A m w) (hI : TInv m) (hX : XInv m) (hb : b < nT m) (hd : d < 1000) (h : Q (some (.int (bI (mbP m b d v)))) w) : Con G M7_mayHold [.ref 71, .int (nI b), .int (nI d), .long v] w Q := by
  have h100 := hI.le
  have h60 := hX.2.1
  have hc := hR.xcnt hX
  have yes : mbP m b d v → ((1 : Int32) &&& 1 = 1 ∧ Q (some (.int 1)) w) := fun q => by rw [bI_t q] at h; exact ⟨rfl, h⟩
  have no : ¬ mbP m b d v → ((0 : Int32) &&& 1 = 0 ∧ Q (some (.int 0)) w) := fun q => by rw [bI_f q] at h; exact ⟨rfl, h⟩
  refine Con.go hw7_mayHold ok7_mayHold 40 [16] rfl ?_
  refine c11_holdsValue ?_
  rw [hv_n (by omega) (by omega)]
  refine And.intro (fun c => ?_) (fun c => ?_)
  · rw [bI_n0] at c
    exact Wq.go ok7_mayHold 20 [] (yes (Or.inl c))
  · rw [bI_0] at c
    refine And.intro (fun c2 => ?_) (fun c2 => ?_) <;> rw [lg_eq0] at c2
    · have c2 : ¬ v = -1 := c2
      refine And.intro (fun c3 => ?_) (fun c3 => And.intro hR.k71 (And.intro (fun c4 => ?_) (fun c4 => ?_))) <;> rw [lg_lt0, i64_lt] at c3
      · have c3 : v.toInt < 0 := c3
        exact no (fun z => z.elim c (fun z => z.elim c2 (fun ⟨j, q1, _⟩ => by omega)))
      · have c4 : lg_cmp v (gI w 6 2 71).toInt64 < 0 := c4
        rw [lg_lt0, i64_lt, i32_wide, hc, nI_t (by omega)] at c4
        have c3 : ¬ v.toInt < 0 := c3
        obtain ⟨j, hj⟩ : ∃ j : Nat, v.toInt = (j : Int) := ⟨v.toInt.toNat, by omega⟩
        have hjX : j < nX m := by omega
        refine And.intro hR.k71 ?_
        show Con G M7_at [.ref 71, .int v.toInt32] w _
        rw [i64_32 hj (by omega)]
        refine c7_at hR hX (fun z => absurd ⟨j, rfl, hjX⟩ z) (fun j' ej' _ => ?_)
        have : j' = j := by rw [nI_eqI (by omega) (by omega)] at ej'; exact ej'.symm
        subst this
        obtain ⟨x1, x2, x3⟩ := hR.xk.1 j' hjX
        obtain ⟨y1, y2, y3, -⟩ := hR.xs j' hjX
        obtain ⟨z1, z2, z3, z4, z5, -⟩ := hX.2.2.2 j' hjX
        refine And.intro hR.k71 (refS hR.fr.2.2.2.2.2.2.2.2.2.2.1 (And.intro x2 (And.intro x2 (And.intro hR.k3 ?_))))
        show Con G M10_isUnder [.ref 3, .int (gI w 5 1 (aX A j')), .int (gI w 5 2 (aX A j')), .int (nI b), .int (nI d)] w _
        rw [y2, y3, z1, z4]
        refine c10_isUnder hR hI z2 hb (by omega) hd (And.intro (fun c5 => ?_) (fun c5 => ?_))
        · rw [bI_0] at c5
          exact no (fun z => z.elim c (fun z => z.elim c2 (fun ⟨i, q1, q2, q3⟩ => by
            have : i = j' := by omega
            subst this; exact c5 q3)))
        · rw [bI_n0] at c5
          exact yes (Or.inr (Or.inr ⟨j', hj, hjX, c5⟩))
      · have c4 : ¬ lg_cmp v (gI w 6 2 71).toInt64 < 0 := c4
        rw [lg_lt0, i64_lt, i32_wide, hc, nI_t (by omega)] at c4
        exact no (fun z => z.elim c (fun z => z.elim c2 (fun ⟨j, q1, q2, _⟩ => by omega)))
    · exact Wq.go ok7_mayHold 20 [] (yes (Or.inr (Or.inl c2)))
theorem pX_mono {m : qSt} (hX : XInv m) : ∀ {x y : Nat}, x < y → y ≤ nX m → pX m x + sX m x ≤ pX m y := by
  intro x y
  induction y with
  | zero => intro h; omega
  | succ y ih =>
    intro h1 h2
    have e := (hX.2.2.2 y (by omega)).2.2.2.2.2.2.1
    rcases Nat.lt_or_ge x y with q | q
    · have := ih q (by omega); omega
    · have : x = y := by omega
      subst this; omega
/-- an item of a thing changed -/
theorem rep_item {x i : Nat} {v : Int64} (hR : Rep A m w) (hX : XInv m) (hx : x < nX m) (hi : i < sX m x) : Rep A (sJ m 40 23 (pX m x + i) v) (sJ w 21 (aX A x + 1) i v) := by
  have ej : ∀ r, r ≠ 23 → ml (sJ m 40 23 (pX m x + i) v) r = ml m r := by
    intro r hr; funext z; exact gJ_ne (by omega)
  refine Rep.mk hR.fk hR.fr ((show GTy A m (sJ w 21 (aX A x + 1) i v) from ?_).cg ⟨rfl, fun _ _ _ => rfl⟩ rfl (ej 14 (by omega))) ⟨hR.xk, hR.xs, fun y k hy hk => ?_⟩ hR.hd ⟨hR.ck, fun k j hk z hj => ?_⟩ ⟨hR.qk, fun q hq => ?_⟩ (hR.mt.cg rfl rfl rfl rfl rfl) hR.mr hR.mq
  · exact ⟨hR.tk, hR.ts, hR.tm, hR.tu, hR.bk, hR.bs, fun a b ha hb hf => (gJ_ne (by omega)).trans (hR.bj a b ha hb hf), hR.bn, hR.le⟩
  · have hy : y < nX m := hy
    have hk : k < sX m y := hk
    show gJ (sJ w 21 (aX A x + 1) i v) 21 (aX A y + 1) k = gJ (sJ m 40 23 (pX m x + i) v) 40 23 (pX m y + k)
    by_cases e : y = x
    · subst e
      by_cases e2 : k = i
      · subst e2; rw [gJ_at, gJ_at]
      · rw [gJ_ne (by omega), gJ_ne (by omega)]; exact hR.xj y k hy hk
    · have hne : aX A y ≠ aX A x := fun z => e (hR.xk.2 y x hy hx z)
      have hp : pX m y + k ≠ pX m x + i := by
        rcases Nat.lt_or_ge y x with q | q
        · have := pX_mono hX q (by omega); omega
        · have := pX_mono hX (show x < y by omega) (by omega); omega
      rw [gJ_ne (by omega), gJ_ne (by omega)]; exact hR.xj y k hy hk
  · rw [ej 31 (by omega), gJ_ne (fun y => by
      have h1 := ((hR.ck.1 k hk).2 z).2.1
      have h2 := (hR.xk.1 x hx).2.1
      rw [show aK A k = aX A x by omega, h2] at h1; omega)]
    exact hR.cj k j hk z hj
  · obtain ⟨v1, v2⟩ := hR.qm q hq
    refine ⟨v1, fun k hk => ?_⟩
    obtain ⟨w1, w2, w3, w4⟩ := v2 k hk
    refine ⟨w1, w2, ?_, w4⟩
    rw [ej 35 (by omega), gJ_ne (fun y => by
      have h1 := (hR.qk.1 q hq).2.2.2.1
      have h2 := (hR.xk.1 x hx).2.1
      rw [show aY A q + 2 = aX A x by omega, h2] at h1; omega)]
    exact w3
theorem GTy.cgJ {m' : qSt} (hg : TyK A m w ∧ TyS A m w ∧ TyM A m w ∧ TyU A m w ∧ MbK A m w ∧ MbS A m w ∧ MbN A m w ∧ LeS m w) (h : TE m m') (h4 : ma m' 4 = ma m 4) (hj : MbJ A m' w) : GTy A m' w := by
  obtain ⟨a3, a4, a5, a6, a7, a8, a10, a11⟩ := hg
  have r : ∀ k, k ≤ 13 → k ≠ 4 → ma m' k = ma m k := h.2
  have ety : tyN m' = tyN m := by funext a; show tn (ma m' 10 a) = tn (ma m 10 a); rw [r 10 (by omega) (by omega)]
  have eMb : hasMb m' = hasMb m := by funext i; unfold hasMb; rw [r 0 (by omega) (by omega)]
  refine ⟨?_, ?_, ?_, ?_, ?_, ?_, hj, ?_, ?_⟩
  · unfold TyK at *; rw [h.eT]; exact a3
  · unfold TyS frA owA mlN at *; rw [h.eT, r 0 (by omega) (by omega), r 3 (by omega) (by omega), h.eup, h.eof, h.esq, h.eba, h.edp, eMb]; exact a4
  · unfold TyM rwI at *; rw [h.eT, r 7 (by omega) (by omega), h4, h.epc, h.erf]; exact a5
  · unfold TyU UpP at *; rw [h.eT, r 0 (by omega) (by omega), h.eab, h.eFO, h.etl]; exact a6
  · unfold MbK at *; rw [h.eT, h.eM]; exact a7
  · unfold MbS at *; rw [h.eT, h.eM, r 8 (by omega) (by omega), r 9 (by omega) (by omega), r 11 (by omega) (by omega), r 12 (by omega) (by omega), r 13 (by omega) (by omega), ety, h.epf]; exact a8
  · unfold MbN nmR at *; rw [h.eT, eMb, h.emb]; exact a10
  · unfold LeS LnP at *; rw [h.eT, r 0 (by omega) (by omega), r 12 (by omega) (by omega), h.emb]; exact a11
/-- the place of a shared field changed -/
theorem rep_shared {d j : Nat} {v : Int64} (hR : Rep A m w) (hI : TInv m) (hd : d < nT m) (hj : j < nM m d) : Rep A (sJ m 40 14 (10 * d + j) v) (sJ w 2 8 (aB A (10 * d + j)) v) := by
  have h100 := hI.le
  have h10 := (hI.mbs (i := d) (by omega)).2.1
  have ej : ∀ r, r ≠ 14 → ml (sJ m 40 14 (10 * d + j) v) r = ml m r := by
    intro r hr; funext z; exact gJ_ne (by omega)
  obtain ⟨b1, b2⟩ := hR.bk d j hd hj
  have gt : GTy A m (sJ w 2 8 (aB A (10 * d + j)) v) ∨ True := Or.inr trivial
  have gt0 : TyK A m (sJ w 2 8 (aB A (10 * d + j)) v) ∧ TyS A m (sJ w 2 8 (aB A (10 * d + j)) v) ∧ TyM A m (sJ w 2 8 (aB A (10 * d + j)) v) ∧ TyU A m (sJ w 2 8 (aB A (10 * d + j)) v) ∧ MbK A m (sJ w 2 8 (aB A (10 * d + j)) v) ∧ MbS A m (sJ w 2 8 (aB A (10 * d + j)) v) ∧ MbN A m (sJ w 2 8 (aB A (10 * d + j)) v) ∧ LeS m (sJ w 2 8 (aB A (10 * d + j)) v) := by
    refine ⟨hR.tk, hR.ts, hR.tm, fun i hi k hk => ?_, hR.bk, hR.bs, hR.bn, fun n hn f hf => ?_⟩
    · have := hR.tu i hi k hk
      unfold tS at this ⊢
      rw [gJ_ne (by omega), gJ_ne (by omega), gJ_ne (by omega), gJ_ne (by omega)]
      exact this
    · have := hR.le n hn f hf
      unfold tS at this ⊢
      rw [gJ_ne (by omega), gJ_ne (by omega)]
      exact this
  refine Rep.mk hR.fk hR.fr (GTy.cgJ gt0 ⟨rfl, fun _ _ _ => rfl⟩ rfl (fun i k hi hk hf => ?_)) ((show GXo A m (sJ w 2 8 (aB A (10 * d + j)) v) from ⟨hR.xk, hR.xs, fun y k hy hk => (gJ_ne (by omega)).trans (hR.xj y k hy hk)⟩).cg rfl rfl rfl rfl rfl (ej 23 (by omega))) hR.hd ((show GCo A m (sJ w 2 8 (aB A (10 * d + j)) v) from ⟨hR.ck, fun k i hk z hi => (gJ_ne (by omega)).trans (hR.cj k i hk z hi)⟩).cg rfl rfl rfl (ej 31 (by omega))) ((show GQu A m (sJ w 2 8 (aB A (10 * d + j)) v) from ⟨hR.qk, fun q hq => ⟨(hR.qm q hq).1, fun i hi => ⟨((hR.qm q hq).2 i hi).1, ((hR.qm q hq).2 i hi).2.1, (gJ_ne (by omega)).trans ((hR.qm q hq).2 i hi).2.2.1, ((hR.qm q hq).2 i hi).2.2.2⟩⟩⟩).cg rfl rfl rfl rfl rfl (ej 35 (by omega))) (hR.mt.cg rfl rfl rfl rfl rfl) hR.mr hR.mq
  have hi : i < nT m := hi
  have hk : k < nM m i := hk
  have hf : ¬ ma m 8 (10 * i + k) = 0 := hf
  have h10i := (hI.mbs (i := i) (by omega)).2.1
  show gJ (sJ w 2 8 (aB A (10 * d + j)) v) 2 8 (aB A (10 * i + k)) = gJ (sJ m 40 14 (10 * d + j) v) 40 14 (10 * i + k)
  by_cases e : i = d ∧ k = j
  · obtain ⟨rfl, rfl⟩ := e
    rw [gJ_at, gJ_at]
  · have hne : aB A (10 * i + k) ≠ aB A (10 * d + j) := by
      intro z
      obtain ⟨s1, s2, -⟩ := hR.bs i k hi hk
      obtain ⟨t1, t2, -⟩ := hR.bs d j hd hj
      rw [z, t1] at s1
      rw [z, t2, nI_eqI (by omega) (by omega)] at s2
      have : d = i := hR.tinj hI hd hi (Option.some.inj s1)
      exact e ⟨this.symm, s2.symm⟩
    rw [gJ_ne (by omega), gJ_ne (by omega)]
    exact hR.bj i k hi hk hf
end
