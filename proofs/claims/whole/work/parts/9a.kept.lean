/-! ===== what a lane keeps is kept ===== -/
theorem kp6_x {x : Int32} (h : ¬ (2139095040 : Int32) < x &&& 2147483647) : kp 6 x.toInt64 = x.toInt64 := by
  show cIf ((2139095040 : Int32) < x.toInt64.toInt32 &&& 2147483647) 2143289344 x.toInt64.toInt32.toInt64 = _
  rw [Int32.toInt32_toInt64, cIf_f h]
theorem kp6_n : kp 6 2143289344 = 2143289344 := by
  show cIf _ _ _ = _
  exact cIf_t (by decide)
theorem kp7_n : kp 7 9221120237041090560 = 9221120237041090560 := by
  show cIf _ _ _ = _
  exact cIf_t (by decide)
theorem kp7_k (u : Int64) : kp 7 (kp 7 u) = kp 7 u := by
  by_cases c : (9218868437227405312 : Int64) < u &&& 9223372036854775807
  · have e : kp 7 u = 9221120237041090560 := cIf_t c
    rw [e, kp7_n]
  · have e : kp 7 u = u := cIf_f c
    rw [e, e]
theorem kp_big {L : Nat} (h : 7 ≤ L) (u : Int64) : kp L u = kp 7 u := by
  match L, h with
  | n + 7, _ => rfl
theorem kp_kp (L : Nat) (u : Int64) : kp L (kp L u) = kp L u := by
  match L with
  | 0 =>
    by_cases c : u = 0
    · have e : kp 0 u = 0 := cIf_t c
      rw [e]; exact cIf_t rfl
    · have e : kp 0 u = 1 := cIf_f c
      rw [e]; exact cIf_f (by decide)
  | 1 =>
    show (u.toInt32.toInt8.toInt32.toInt64).toInt32.toInt8.toInt32.toInt64 = u.toInt32.toInt8.toInt32.toInt64
    rw [Int32.toInt32_toInt64, Int8.toInt8_toInt32]
  | 2 =>
    show (u.toInt32.toInt16.toInt32.toInt64).toInt32.toInt16.toInt32.toInt64 = u.toInt32.toInt16.toInt32.toInt64
    rw [Int32.toInt32_toInt64, Int16.toInt16_toInt32]
  | 3 =>
    show ((u.toInt32.toUInt32 % 65536).toInt32.toInt64.toInt32.toUInt32 % 65536).toInt32.toInt64 = (u.toInt32.toUInt32 % 65536).toInt32.toInt64
    rw [Int32.toInt32_toInt64, UInt32.toUInt32_toInt32]
    have : u.toInt32.toUInt32 % 65536 % 65536 = u.toInt32.toUInt32 % 65536 := by
      apply UInt32.toNat_inj.mp
      rw [UInt32.toNat_mod, UInt32.toNat_mod, Nat.mod_mod]
    rw [this]
  | 4 =>
    show (u.toInt32.toInt64).toInt32.toInt64 = u.toInt32.toInt64
    rw [Int32.toInt32_toInt64]
  | 5 => rfl
  | 6 =>
    by_cases c : (2139095040 : Int32) < u.toInt32 &&& 2147483647
    · have e : kp 6 u = 2143289344 := cIf_t c
      rw [e, kp6_n]
    · have e : kp 6 u = u.toInt32.toInt64 := cIf_f c
      rw [e, kp6_x c]
  | n + 7 =>
    show kp 7 (kp 7 u) = kp 7 u
    exact kp7_k u
theorem kp_0 (L : Nat) : kp L 0 = 0 := by
  match L with
  | 0 => exact cIf_t rfl
  | 1 => decide
  | 2 => decide
  | 3 => decide
  | 4 => decide
  | 5 => rfl
  | 6 => exact (cIf_f (by decide)).trans (by decide)
  | n + 7 => exact cIf_f (by decide)
theorem kp6_f (a : UInt32) : kp 6 (fB a).toInt64 = (fB a).toInt64 := by
  unfold fB
  by_cases c : FP.Core.fIsNaN a = true
  · rw [cIf_t c]
    exact (cIf_t (by decide)).trans (by decide)
  · rw [cIf_f c]
    refine kp6_x (fun z => c ?_)
    rw [i32_lt, and31] at z
    rw [nan32]
    have e : (2139095040 : Int32).toInt = 2139095040 := rfl
    rw [e, UInt32.toUInt32_toInt32] at z
    omega
theorem kp7_d (a : UInt64) : kp 7 (dB a) = dB a := by
  unfold dB
  by_cases c : FP.Core.dIsNaN a = true
  · rw [cIf_t c]; exact kp7_n
  · rw [cIf_f c]
    refine cIf_f (fun z => c ?_)
    rw [i64_lt, and63] at z
    rw [nan64]
    have e : (9218868437227405312 : Int64).toInt = 9218868437227405312 := rfl
    have e2 : a.toInt64.toUInt64 = a := rfl
    rw [e, e2] at z
    omega
theorem kp_wd {f t : Nat} {b : Int64} (ht : t < 8) (hw : wdP f t) (h : kp f b = b) : kp t (wd f t b) = wd f t b := by
  unfold wd
  rcases hw with e | ⟨h0, h2, h3, h4, h5⟩
  · rw [cIf_t (Or.inl e), ← e]; exact h
  · by_cases c5 : t ≤ 5
    · rw [cIf_t (Or.inr c5)]
      rcases (show (t = 2 ∧ f = 1) ∨ (t = 4 ∧ f = 1) ∨ (t = 4 ∧ f = 2) ∨ (t = 4 ∧ f = 3) ∨ t = 5 by omega) with ⟨rfl, rfl⟩ | ⟨rfl, rfl⟩ | ⟨rfl, rfl⟩ | ⟨rfl, rfl⟩ | rfl
      · have h : b.toInt32.toInt8.toInt32.toInt64 = b := h
        rw [← h]
        generalize b.toInt32.toInt8 = x
        show (x.toInt32.toInt64).toInt32.toInt16.toInt32.toInt64 = _
        rw [Int32.toInt32_toInt64, Int8.toInt16_toInt32, Int8.toInt32_toInt16]
      · have h : b.toInt32.toInt8.toInt32.toInt64 = b := h
        rw [← h]
        generalize b.toInt32.toInt8.toInt32 = x
        show (x.toInt64).toInt32.toInt64 = _
        rw [Int32.toInt32_toInt64]
      · have h : b.toInt32.toInt16.toInt32.toInt64 = b := h
        rw [← h]
        generalize b.toInt32.toInt16.toInt32 = x
        show (x.toInt64).toInt32.toInt64 = _
        rw [Int32.toInt32_toInt64]
      · have h : (b.toInt32.toUInt32 % 65536).toInt32.toInt64 = b := h
        rw [← h]
        generalize (b.toInt32.toUInt32 % 65536).toInt32 = x
        show (x.toInt64).toInt32.toInt64 = _
        rw [Int32.toInt32_toInt64]
      · rfl
    · rw [cIf_f (fun z => z.elim (fun z => by omega) c5)]
      by_cases c6 : t = 6
      · rw [cIf_t c6, c6]; exact kp6_f _
      · rw [cIf_f c6, show t = 7 by omega]
        by_cases f6 : f = 6
        · rw [cIf_t f6]; exact kp7_d _
        · rw [cIf_f f6]; exact kp7_d _
/-! ===== the values of places ===== -/
def VS (m : qSt) : Prop := ∀ i j, i < nT m → j < nM m i → ¬ ma m 8 (10 * i + j) = 0 → tyN m (10 * i + j) < 8 → kp (tyN m (10 * i + j)) (ml m 14 (10 * i + j)) = ml m 14 (10 * i + j)
def VR (m : qSt) : Prop := ∀ x i, x < nX m → i < sX m x → dX m x = 1 → bX m x < 8 → kp (bX m x) (ml m 23 (pX m x + i)) = ml m 23 (pX m x + i)
def VF (m : qSt) : Prop := ∀ x d j, x < nX m → dX m x = 0 → d ∈ abvs m (bX m x) → j < nM m d → isP m (10 * d + j) → tyN m (10 * d + j) < 8 → kp (tyN m (10 * d + j)) (ml m 23 (pX m x + offN m (bX m x) (10 * d + j))) = ml m 23 (pX m x + offN m (bX m x) (10 * d + j))
def B11 (m : qSt) : Prop := ∀ a, ma m 11 a = 0 ∨ ma m 11 a = 1
def RInv (m : qSt) : Prop := TInv m ∧ XInv m ∧ HInv m ∧ AInv m ∧ DInv m ∧ VS m ∧ VR m ∧ VF m ∧ B11 m
def Inv (m : qSt) : Prop := RInv m ∧ CInv m ∧ QInv m ∧ TrOK m ∧ HtInv m
theorem IniM.inv2 {m : qSt} (h : IniM m) : Inv m := by
  obtain ⟨h1, h2, h3, h4, h5, h6, h7, h8, h9⟩ := h.inv
  refine ⟨⟨h1, h2, h3, h8, h9, fun i j _ hj => ?_, fun x i hx => ?_, fun x d j hx => ?_, fun a => Or.inl (h.z (by omega))⟩, h4, h5, h6, h7⟩
  · rw [h.m0] at hj; omega
  · rw [h.x0] at hx; omega
  · rw [h.x0] at hx; omega
section
variable {w w' : qSt}
/-- what a field of a lane tells -/
theorem tf_kp (hI : TInv w) (hX : XInv w) (vs : VS w) (vf : VF w) {X a L : Nat} (hF : FdOK w a) (hH : ma w 11 a = 0 → HasF w X a) (hL : L < 8) (e : tfL w a = nI L) : kp L (tfV w X a) = tfV w X a := by
  obtain ⟨t1, t2⟩ := ty_OK hI hF
  have h100 := hI.le
  have e2 : tyN w a = L := by
    unfold tfL at e
    by_cases c : isL (ma w 10 a)
    · rw [cIf_t c, t1, nI_eqI (by omega) (by omega)] at e; exact e
    · rw [cIf_f c] at e
      exact absurd ((nI_eqI (a := 8) (b := L) (by omega) (by omega)).mp e) (by omega)
  obtain ⟨d, j, rfl, f1, f2, f3, f4, f5, f6⟩ := hF
  unfold tfV
  by_cases c : ma w 11 (10 * d + j) = 0
  · rw [cIf_t c]
    obtain ⟨g1, g2, g3⟩ := hH c
    rw [show (10 * d + j) / 10 = d by omega] at g3
    have := vf X d j g1 g2 g3 f3 ⟨by rw [f5]; decide, c⟩ (by omega)
    rw [e2] at this; exact this
  · rw [cIf_f c]
    have := vs d j f1 f3 (by rw [f5]; decide) (by omega)
    rw [e2] at this; exact this
theorem en_kp (hI : TInv w) (hX : XInv w) (vs : VS w) (vf : VF w) {X d j more L : Nat} (hx : X < nX w) (hd0 : dX w X = 0) (hd : d < nT w) (hj : j < nM w d) (h8 : ma w 8 (10 * d + j) = 0) (hin : d ∈ abvs w (bX w X) ∨ FOf w (bX w X) d) (hb : ma w 12 (10 * d + j) = 1 ∨ ma w 12 (10 * d + j) = 4) (h0 : (enF w X (10 * d + j) more).1 = 0) (hL : L < 8) (e : (enF w X (10 * d + j) more).2.1 = nI L) : kp L (enF w X (10 * d + j) more).2.2 = (enF w X (10 * d + j) more).2.2 := by
  have h100 := hI.le
  have hj10 : j < 10 := by have := (hI.mbs (i := d) (by omega)).2.1; omega
  have ed : (10 * d + j) / 10 = d := by omega
  unfold enF at h0 e ⊢
  rw [ed] at h0 e ⊢
  by_cases c : (0 < more ∧ ¬ (1 ≤ (cIf (ma w 12 (10 * d + j) = 1) (tfL w (10 * d + nuN w (10 * d + j))) 4).toInt ∧ (cIf (ma w 12 (10 * d + j) = 1) (tfL w (10 * d + nuN w (10 * d + j))) 4).toInt ≤ 5))
  · rw [cIf_t c] at h0; exact absurd h0 (by decide)
  · rw [cIf_f c] at e ⊢
    by_cases cm : 0 < more
    · have e : cIf (0 < more) (5 : Int32) _ = nI L := e
      rw [cIf_t cm] at e
      have := (nI_eqI (a := 5) (b := L) (by omega) (by omega)).mp e
      subst this
      rfl
    · have e : cIf (0 < more) (5 : Int32) (cIf (ma w 12 (10 * d + j) = 1) (tfL w (10 * d + nuN w (10 * d + j))) 4) = nI L := e
      rw [cIf_f cm] at e
      show kp L (cIf (0 < more) _ (cIf (ma w 12 (10 * d + j) = 1) (tfV w X (10 * d + nuN w (10 * d + j))) (ma w 13 (10 * d + j)).toInt64)) = cIf (0 < more) _ (cIf (ma w 12 (10 * d + j) = 1) (tfV w X (10 * d + nuN w (10 * d + j))) (ma w 13 (10 * d + j)).toInt64)
      rw [cIf_f cm]
      by_cases c1 : ma w 12 (10 * d + j) = 1
      · rw [cIf_t c1] at e ⊢
        obtain ⟨a1, a2, a3, a4⟩ := at_1 hI (hX.cls hx hd0).1 hd hj h8 hin c1
        refine tf_kp hI hX vs vf a3 (fun _ => ⟨hx, hd0, ?_⟩) hL e
        rw [show (10 * d + nuN w (10 * d + j)) / 10 = d by omega]; exact a4
      · rw [cIf_f c1] at e ⊢
        have := (nI_eqI (a := 4) (b := L) (by omega) (by omega)).mp e
        subst this
        show ((ma w 13 (10 * d + j)).toInt64).toInt32.toInt64 = _
        rw [Int32.toInt32_toInt64]
theorem wk_kp (hI : TInv w) (hX : XInv w) (vs : VS w) (vf : VF w) {X : Nat} (hx : X < nX w) (hd0 : dX w X = 0) {L : Nat} (hL : L < 8) : ∀ (n : Nat) (at_ : Int32) (more : Nat), AtOK w X at_ → (wkF w X n at_ more).1 = 0 → (wkF w X n at_ more).2.1 = nI L → kp L (wkF w X n at_ more).2.2.1 = (wkF w X n at_ more).2.2.1 := by
  have h100 := hI.le
  have hcl := hX.cls hx hd0
  intro n
  induction n with
  | zero =>
    intro at_ more hat h0
    unfold wkF at h0
    by_cases c : at_ < 0
    · rw [cIf_t c] at h0
      have h0 : at_ = 0 := h0
      rw [h0] at c; exact absurd c (by decide)
    · rw [cIf_f c] at h0; exact absurd (show (-18 : Int32) = 0 from h0) (by decide)
  | succ n ih =>
    intro at_ more hat h0 e
    unfold wkF at h0 e ⊢
    rcases hat with c | ⟨d, j, rfl, hd, hj, h8, hb0, hin⟩
    · rw [cIf_t c] at h0
      have h0 : at_ = 0 := h0
      rw [h0] at c; exact absurd c (by decide)
    · have hj10 : j < 10 := by have := (hI.mbs (i := d) (by omega)).2.1; omega
      rw [cIf_f (nI_pos (by omega))] at h0 e ⊢
      rw [tn_nI (by omega)] at h0 e ⊢
      by_cases c : ma w 12 (10 * d + j) = 1 ∨ ma w 12 (10 * d + j) = 4
      · rw [cIf_t c] at h0 e ⊢
        exact en_kp hI hX vs vf hx hd0 hd hj h8 hin c h0 hL e
      · rw [cIf_f c] at h0 e ⊢
        refine ih _ _ ?_ h0 e
        unfold nxA
        rw [show (10 * d + j) / 10 = d by omega]
        by_cases c2 : ma w 12 (10 * d + j) = 2
        · rw [cIf_t c2]
          obtain ⟨b1, b2, b3⟩ := at_2 hI hcl.1 hd hj h8 hin c2
          refine at_fd hI hcl.1 hcl.2.1 (abvs_tr hI _ hcl.1 hcl.2.1 d b3 _ ?_)
          rw [abvs_c hI hd b2 (by omega)]
          exact List.mem_cons_of_mem _ (abvs_self _ _)
        · rw [cIf_f c2]
          exact at_fd hI hcl.1 hcl.2.1 (abvs_self _ _)
theorem RInv.vrd (h : RInv w) : VRd w := by
  obtain ⟨hI, hX, hH, hA, hD, vs, vr, vf, b11⟩ := h
  intro a x ha hx h0 L hL e
  have h60 := hX.2.1
  unfold rdR at h0 e ⊢
  by_cases c : rcN w a x < 0
  · rw [cIf_t c] at h0
    have h0 : rcN w a x = 0 := h0
    rw [h0] at c; exact absurd c (by decide)
  · rw [cIf_f c] at h0 e ⊢
    by_cases c0 : ma w 25 a = 0
    · rw [cIf_t c0] at e ⊢
      obtain ⟨f1, f2⟩ := rc_fld hI hX hH ha hx c c0
      refine tf_kp hI hX vs vf f1 (fun z => ?_) hL e
      obtain ⟨X, rfl, hh⟩ := f2 z
      rw [tn_nI (by have := hh.1; omega)]; exact hh
    · rw [cIf_f c0] at h0 e ⊢
      rcases rc_ok hI hX hH ha hx c with q | ⟨X, rfl, q1, q2, q3, q4⟩
      · exact absurd q.1 c0
      · rw [tn_nI (by omega)] at h0 e ⊢
        exact wk_kp hI hX vs vf q1 q2 hL _ _ _ (at_fd hI (hX.cls q1 q2).1 q3 (abvs_self _ _)) h0 e
theorem RE.rinv (h : RE w w') (hR : RInv w) : RInv w' := by
  obtain ⟨hI, hX, hH, hA, hD, vs, vr, vf, b11⟩ := hR
  have e14 : ml w' 14 = ml w 14 := h.c (fun w => ml w 14) (fun _ => rfl)
  have e23 : ml w' 23 = ml w 23 := h.c (fun w => ml w 23) (fun _ => rfl)
  have ety : tyN w' = tyN w := h.c tyN (fun _ => rfl)
  refine ⟨h.tinv hI, h.xinv hX, h.hinv hH, ?_, ?_, ?_, ?_, ?_, ?_⟩
  · unfold AInv; rw [h.te.eF1]; exact hA
  · unfold DInv; rw [h.te.eF, h.te.efc]; exact hD
  · unfold VS; rw [h.te.eT, h.te.eM, h.row (r := 8) rfl, ety, e14]; exact vs
  · unfold VR; rw [h.enX, h.esX, h.edX, h.ebX, h.epX, e23]; exact vr
  · unfold VF; rw [h.enX, h.edX, h.ebX, h.te.eab, h.te.eM, h.te.eP, ety, h.epX, h.te.eof2, e23]; exact vf
  · unfold B11; rw [h.row (r := 11) rfl]; exact b11
theorem Mq.inv (h : Mq w w') (hi : Inv w) : Inv w' := by
  obtain ⟨h1, h2, h3, h4, h5⟩ := hi
  exact ⟨h.re.rinv h1, (h.c CInv (fun _ => rfl)).mpr h2, (h.c QInv (fun _ => rfl)).mpr h3, (h.c TrOK (fun _ => rfl)).mpr h4, (h.c HtInv (fun _ => rfl)).mpr h5⟩
theorem Inv.st (h : Inv w) (v : Int32) : Inv (stt w v) := by
  obtain ⟨h1, h2, h3, h4, h5⟩ := h
  exact ⟨(RE.rf.I (r := 12) (k := 0) rfl).rinv h1, h2, h3, h4, h5⟩
end
