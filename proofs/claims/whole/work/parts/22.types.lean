/-! ===== the model's types ===== -/
def upN (m : qSt) (i : Nat) : Nat := tn (ma m 1 i)
def ofN (m : qSt) (i : Nat) : Nat := tn (ma m 2 i)
def nF (m : qSt) (i : Nat) : Nat := tn (ma m 5 i)
def fcN (m : qSt) (i j : Nat) : Nat := tn (ma m 6 (4 * i + j))
def nM (m : qSt) (i : Nat) : Nat := tn (ma m 7 i)
def nmN (m : qSt) (a : Nat) : Nat := tn (ma m 9 a)
def tyN (m : qSt) (a : Nat) : Nat := tn (ma m 10 a)
def bdN (m : qSt) (a : Nat) : Nat := tn (ma m 12 a)
def nuN (m : qSt) (a : Nat) : Nat := tn (ma m 13 a)
/-- the member at place a of type i, the j-th -/
def MemOK (m : qSt) (i j a : Nat) : Prop :=
  ma m 9 a = nI (nmN m a) ∧ nmN m a < 10 ∧ (ma m 11 a = 0 ∨ ma m 11 a = 1) ∧
  ((ma m 8 a = 1 ∧ ma m 0 i = 1 ∧ ma m 10 a = nI (tyN m a) ∧ tyN m a < nT m) ∨
   (ma m 8 a = 0 ∧ ma m 12 a = nI (bdN m a) ∧ bdN m a ≤ 5 ∧ (bdN m a = 3 ∨ bdN m a = 5 → ma m 13 a = nI (nuN m a) ∧ nuN m a < 10) ∧ (bdN m a = 1 → ma m 0 i = 1 ∧ ma m 13 a = nI (nuN m a) ∧ nuN m a < j ∧ ma m 8 (10 * i + nuN m a) = 1) ∧ (bdN m a = 2 → ma m 0 i = 1)))
def TyKind (m : qSt) (i : Nat) : Prop :=
  (ma m 0 i = 1 ∧ ma m 1 i = nI (upN m i) ∧ 8 ≤ upN m i ∧ upN m i < i ∧ ma m 0 (upN m i) = 1) ∨ ma m 0 i = 2 ∨
  (ma m 0 i = 3 ∧ ma m 1 i = nI (upN m i) ∧ 9 ≤ upN m i ∧ upN m i < i ∧ ma m 0 (upN m i) = 1 ∧ ma m 2 i = nI (ofN m i) ∧ 8 ≤ ofN m i ∧ ofN m i < i) ∨
  (ma m 0 i = 4 ∧ ma m 2 i = nI (ofN m i) ∧ ofN m i < i)
def FacOK (m : qSt) (i : Nat) : Prop := ma m 5 i = nI (nF m i) ∧ nF m i ≤ 4 ∧ (0 < nF m i → 9 ≤ i ∧ i < nT m ∧ (ma m 0 i = 1 ∨ ma m 0 i = 2)) ∧ ∀ j, j < nF m i → ma m 6 (4 * i + j) = nI (fcN m i j) ∧ 9 ≤ fcN m i j ∧ fcN m i j < nT m ∧ ma m 0 (fcN m i j) = 2
def MbsOK (m : qSt) (i : Nat) : Prop := ma m 7 i = nI (nM m i) ∧ nM m i ≤ 10 ∧ (0 < nM m i → 9 ≤ i ∧ i < nT m ∧ (ma m 0 i = 1 ∨ ma m 0 i = 2)) ∧ ∀ j, j < nM m i → MemOK m i j (10 * i + j)
def FlgOK (m : qSt) (i : Nat) : Prop := (ma m 3 i = 0 ∨ ma m 3 i = 1) ∧ (ma m 4 i = 0 ∨ ma m 4 i = 1) ∧ (nT m ≤ i ∨ i ≤ 8 → ma m 3 i = 0) ∧ (nT m ≤ i → ma m 4 i = 0)
/-- what always holds of the model's types -/
def TInv (m : qSt) : Prop := TyOK m ∧ (∀ i, i < 8 → ma m 0 i = 0) ∧ ma m 0 8 = 1 ∧ ma m 1 8 = -1 ∧ (∀ i, 9 ≤ i → i < nT m → TyKind m i) ∧ (∀ i, i < 100 → FacOK m i ∧ MbsOK m i ∧ FlgOK m i)
theorem ix10 (t k : Nat) : (10 : Int32) * nI t + nI k = nI (10 * t + k) := by rw [show (10 : Int32) = nI 10 from rfl, pk_mul, nI_add]
theorem ix4 (t k : Nat) : (4 : Int32) * nI t + nI k = nI (4 * t + k) := by rw [show (4 : Int32) = nI 4 from rfl, pk_mul, nI_add]
theorem i32c (n : Nat) : (OfNat.ofNat n : Int32) = nI n := rfl
/-- the base and the depth of a type -/
noncomputable def baF (m : qSt) : Nat → Nat → Nat
  | 0, t => t
  | n + 1, t => cIf (ma m 0 t = 3 ∨ ma m 0 t = 4) (baF m n (ofN m t)) t
noncomputable def dpF (m : qSt) : Nat → Nat → Nat
  | 0, _ => 0
  | n + 1, t => cIf (ma m 0 t = 3) (dpF m n (ofN m t)) (cIf (ma m 0 t = 4) (dpF m n (ofN m t) + 1) 0)
noncomputable def baN (m : qSt) (t : Nat) : Nat := baF m (t + 1) t
noncomputable def dpN (m : qSt) (t : Nat) : Nat := dpF m (t + 1) t
theorem TInv.ty {m : qSt} (h : TInv m) : TyOK m := h.1
theorem TInv.le {m : qSt} (h : TInv m) : 9 ≤ nT m ∧ nT m ≤ 100 := h.1.2
theorem TInv.lane {m : qSt} (h : TInv m) {i : Nat} (hi : i < 8) : ma m 0 i = 0 := h.2.1 i hi
theorem TInv.any {m : qSt} (h : TInv m) : ma m 0 8 = 1 := h.2.2.1
theorem TInv.kind {m : qSt} (h : TInv m) {i : Nat} (h9 : 9 ≤ i) (hi : i < nT m) : TyKind m i := h.2.2.2.2.1 i h9 hi
theorem TInv.fac {m : qSt} (h : TInv m) {i : Nat} (hi : i < 100) : FacOK m i := (h.2.2.2.2.2 i hi).1
theorem TInv.mbs {m : qSt} (h : TInv m) {i : Nat} (hi : i < 100) : MbsOK m i := (h.2.2.2.2.2 i hi).2.1
theorem TInv.flg {m : qSt} (h : TInv m) {i : Nat} (hi : i < 100) : FlgOK m i := (h.2.2.2.2.2 i hi).2.2
/-- a variable or a row is of an earlier type -/
theorem TInv.of {m : qSt} (h : TInv m) {i : Nat} (hi : i < nT m) (hs : ma m 0 i = 3 ∨ ma m 0 i = 4) : ma m 2 i = nI (ofN m i) ∧ ofN m i < i := by
  rcases Nat.lt_or_ge i 9 with h9 | h9
  · rcases Nat.lt_or_ge i 8 with h8 | h8
    · rw [h.lane h8] at hs
      rcases hs with q | q <;> exact absurd q (by decide)
    · have : i = 8 := by omega
      rw [this, h.any] at hs
      rcases hs with q | q <;> exact absurd q (by decide)
  · rcases h.kind h9 hi with q | q | q | q
    · rw [q.1] at hs
      rcases hs with q | q <;> exact absurd q (by decide)
    · rw [q] at hs
      rcases hs with q | q <;> exact absurd q (by decide)
    · exact ⟨q.2.2.2.2.2.1, q.2.2.2.2.2.2.2⟩
    · exact ⟨q.2.1, q.2.2⟩
/-- the class above a class that is not ANY -/
theorem TInv.up {m : qSt} (h : TInv m) {i : Nat} (hi : i < nT m) (hs : ma m 0 i = 1) (h8 : i ≠ 8) : ma m 1 i = nI (upN m i) ∧ 8 ≤ upN m i ∧ upN m i < i ∧ ma m 0 (upN m i) = 1 := by
  rcases Nat.lt_or_ge i 9 with h9 | h9
  · rw [h.lane (by omega)] at hs
    exact absurd hs (by decide)
  · rcases h.kind h9 hi with q | q | q | q
    · exact q.2
    · rw [q] at hs; exact absurd hs (by decide)
    · rw [q.1] at hs; exact absurd hs (by decide)
    · rw [q.1] at hs; exact absurd hs (by decide)
theorem TInv.c8 {m : qSt} (h : TInv m) {i : Nat} (hi : i < nT m) (hs : ma m 0 i = 1) : 8 ≤ i := by
  rcases Nat.lt_or_ge i 8 with h8 | h8
  · rw [h.lane h8] at hs; exact absurd hs (by decide)
  · exact h8
theorem baF_eq {m : qSt} (h : TInv m) : ∀ (t n : Nat), t < n → t < nT m → baF m n t = baF m (t + 1) t := by
  intro t
  induction t using Nat.strongRecOn with
  | _ t ih =>
    intro n hn ht
    obtain ⟨k, rfl⟩ : ∃ k, n = k + 1 := ⟨n - 1, by omega⟩
    unfold baF
    by_cases hs : ma m 0 t = 3 ∨ ma m 0 t = 4
    · rw [cIf_t hs, cIf_t hs]
      have ho := (h.of ht hs).2
      rw [ih _ ho k (by omega) (by omega), ih _ ho t ho (by omega)]
    · rw [cIf_f hs, cIf_f hs]
theorem dpF_eq {m : qSt} (h : TInv m) : ∀ (t n : Nat), t < n → t < nT m → dpF m n t = dpF m (t + 1) t := by
  intro t
  induction t using Nat.strongRecOn with
  | _ t ih =>
    intro n hn ht
    obtain ⟨k, rfl⟩ : ∃ k, n = k + 1 := ⟨n - 1, by omega⟩
    unfold dpF
    by_cases hs : ma m 0 t = 3
    · rw [cIf_t hs, cIf_t hs]
      have ho := (h.of ht (Or.inl hs)).2
      rw [ih _ ho k (by omega) (by omega), ih _ ho t ho (by omega)]
    · rw [cIf_f hs, cIf_f hs]
      by_cases hs4 : ma m 0 t = 4
      · rw [cIf_t hs4, cIf_t hs4]
        have ho := (h.of ht (Or.inr hs4)).2
        rw [ih _ ho k (by omega) (by omega), ih _ ho t ho (by omega)]
      · rw [cIf_f hs4, cIf_f hs4]
theorem baN_of {m : qSt} (h : TInv m) {t : Nat} (ht : t < nT m) (hs : ma m 0 t = 3 ∨ ma m 0 t = 4) : baN m t = baN m (ofN m t) := by
  have ho := (h.of ht hs).2
  show cIf _ (baF m t (ofN m t)) t = _
  rw [cIf_t hs]
  exact baF_eq h _ t ho (by omega)
theorem baN_self {m : qSt} {t : Nat} (hs : ¬ (ma m 0 t = 3 ∨ ma m 0 t = 4)) : baN m t = t := by
  show cIf _ _ t = _
  rw [cIf_f hs]
theorem dpN_3 {m : qSt} (h : TInv m) {t : Nat} (ht : t < nT m) (hs : ma m 0 t = 3) : dpN m t = dpN m (ofN m t) := by
  have ho := (h.of ht (Or.inl hs)).2
  show cIf _ (dpF m t (ofN m t)) _ = _
  rw [cIf_t hs]
  exact dpF_eq h _ t ho (by omega)
theorem dpN_4 {m : qSt} (h : TInv m) {t : Nat} (ht : t < nT m) (hs : ma m 0 t = 4) : dpN m t = dpN m (ofN m t) + 1 := by
  have ho := (h.of ht (Or.inr hs)).2
  show cIf _ _ (cIf _ (dpF m t (ofN m t) + 1) _) = _
  rw [cIf_f (by rw [hs]; decide), cIf_t hs, dpF_eq h _ t ho (by omega)]
  rfl
theorem dpN_0 {m : qSt} {t : Nat} (hs : ¬ (ma m 0 t = 3 ∨ ma m 0 t = 4)) : dpN m t = 0 := by
  show cIf _ _ (cIf _ _ _) = _
  rw [cIf_f (fun q => hs (Or.inl q)), cIf_f (fun q => hs (Or.inr q))]
theorem baN_le {m : qSt} (h : TInv m) : ∀ (t : Nat), t < nT m → baN m t ≤ t ∧ ¬ (ma m 0 (baN m t) = 3 ∨ ma m 0 (baN m t) = 4) ∧ dpN m t ≤ t := by
  intro t
  induction t using Nat.strongRecOn with
  | _ t ih =>
    intro ht
    by_cases hs : ma m 0 t = 3 ∨ ma m 0 t = 4
    · have ho := (h.of ht hs).2
      obtain ⟨i1, i2, i3⟩ := ih _ ho (by omega)
      rw [baN_of h ht hs]
      refine ⟨by omega, i2, ?_⟩
      rcases hs with q | q
      · rw [dpN_3 h ht q]; omega
      · rw [dpN_4 h ht q]; omega
    · rw [baN_self hs, dpN_0 hs]
      exact ⟨Nat.le_refl _, hs, Nat.zero_le _⟩
section
variable {G : qGX} {w : qSt} {Q : Option Value → qSt → Prop}
theorem c12_base {t : Nat} (hI : TInv w) (ht : t < nT w) (h : Q (some (.int (nI (baN w t)))) w) : Con G M12_base [.ref 79, .int (nI t)] w Q := by
  have h100 := hI.le
  have key : ∀ (n t : Nat) (x : Int32), t < n → t < nT w → Q (some (.int (nI (baN w t)))) w → Wq G M12_base 2 [some (.ref 79), some (.int x), some (.int (nI t))] [] (0, 0) w Q := by
    intro n
    induction n with
    | zero => intro t x h0; omega
    | succ n ih =>
      intro t x hn ht h
      have hin : vp_in (nI t) 100 := in_nI (by omega) (by decide)
      have e2 : (nI t).toNatClampNeg = t := tn_nI (by omega)
      have ag : ∀ (hs : ma w 0 t = 3 ∨ ma w 0 t = 4), Wq G M12_base 22 [some (.ref 79), some (.int x), some (.int (nI t))] [] (0, 0) w Q := by
        intro hs
        refine Wq.go ok12_base 20 [2] ?_
        refine And.intro hin ?_
        show Wq G M12_base 2 [some (.ref 79), some (.int x), some (.int (ma w 2 (nI t).toNatClampNeg))] [] (0, 0) w Q
        obtain ⟨o1, o2⟩ := hI.of ht hs
        rw [e2, o1]
        refine ih _ x (by omega) (by omega) ?_
        rw [← baN_of hI ht hs]
        exact h
      refine Wq.go ok12_base 20 [22] ?_
      refine And.intro hin (And.intro (fun c => ?_) (fun c => And.intro hin (And.intro (fun c2 => ?_) (fun c2 => ?_))))
      · exact ag (Or.inl (by rw [e2] at c; exact c))
      · show Q (some (.int (nI t))) w
        rw [e2] at c c2
        rw [baN_self (fun q => q.elim c c2)] at h
        exact h
      · exact ag (Or.inr (by rw [e2] at c2; exact c2))
  refine Con.go hw12_base ok12_base 20 [2] rfl ?_
  exact key (t + 1) t _ (by omega) ht h
end
