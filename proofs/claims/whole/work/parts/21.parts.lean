/-! ===== the model's part and the class's part of a state ===== -/
noncomputable def cIf {α : Sort _} (p : Prop) (a b : α) : α := @ite α p (Classical.propDecidable p) a b
theorem cIf_t {α : Sort _} {p : Prop} {a b : α} (h : p) : cIf p a b = a := by unfold cIf; rw [if_pos h]
theorem cIf_f {α : Sort _} {p : Prop} {a b : α} (h : ¬ p) : cIf p a b = b := by unfold cIf; rw [if_neg h]
def isM (r : Nat) : Bool := Nat.beq r 12 || Nat.beq r 40
def scI (r k : Nat) : Bool := bif Nat.beq r 12 then Nat.beq k 18 || Nat.beq k 33 else bif Nat.beq r 40 then Nat.ble 15 k && Nat.ble k 18 else false
def scJ (r k : Nat) : Bool := bif Nat.beq r 12 then Nat.beq k 28 || Nat.beq k 34 || Nat.beq k 52 else false
/-- the model's own numbers, without what it only scribbles -/
def mp (w : qSt) : qSt := (fun r k i => bif isM r && !scI r k then gI w r k i else 0, fun r k i => bif isM r && !scJ r k then gJ w r k i else 0, fun _ _ _ => none, fun _ _ => 0)
/-- all else -/
def cp (w : qSt) : qSt := (fun r k i => bif isM r then 0 else gI w r k i, fun r k i => bif isM r then 0 else gJ w r k i, gR w, gN w)
theorem st_ext {a b : qSt} (h1 : a.1 = b.1) (h2 : a.2.1 = b.2.1) (h3 : a.2.2.1 = b.2.2.1) (h4 : a.2.2.2 = b.2.2.2) : a = b := by
  obtain ⟨a1, a2, a3, a4⟩ := a
  obtain ⟨b1, b2, b3, b4⟩ := b
  simp only at h1 h2 h3 h4
  subst h1 h2 h3 h4
  rfl
theorem mp_sI {w : qSt} {r k i : Nat} {v : Int32} (h : isM r = true) (hs : scI r k = false) : mp (sI w r k i v) = sI (mp w) r k i v := by
  refine st_ext ?_ rfl rfl rfl
  funext r' k' i'
  show (bif isM r' && !scI r' k' then u3 w.1 r k i v r' k' i' else 0) = u3 (mp w).1 r k i v r' k' i'
  by_cases e : r' = r ∧ k' = k ∧ i' = i
  · obtain ⟨rfl, rfl, rfl⟩ := e
    rw [u3_at, u3_at, h, hs]; rfl
  · rw [u3_off _ _ e, u3_off _ _ e]; rfl
theorem mp_sJ {w : qSt} {r k i : Nat} {v : Int64} (h : isM r = true) (hs : scJ r k = false) : mp (sJ w r k i v) = sJ (mp w) r k i v := by
  refine st_ext rfl ?_ rfl rfl
  funext r' k' i'
  show (bif isM r' && !scJ r' k' then u3 w.2.1 r k i v r' k' i' else 0) = u3 (mp w).2.1 r k i v r' k' i'
  by_cases e : r' = r ∧ k' = k ∧ i' = i
  · obtain ⟨rfl, rfl, rfl⟩ := e
    rw [u3_at, u3_at, h, hs]; rfl
  · rw [u3_off _ _ e, u3_off _ _ e]; rfl
theorem mp_sI0 {w : qSt} {r k i : Nat} {v : Int32} (h : isM r = false ∨ scI r k = true) : mp (sI w r k i v) = mp w := by
  refine st_ext ?_ rfl rfl rfl
  funext r' k' i'
  show (bif isM r' && !scI r' k' then u3 w.1 r k i v r' k' i' else 0) = (bif isM r' && !scI r' k' then w.1 r' k' i' else 0)
  by_cases e : r' = r ∧ k' = k ∧ i' = i
  · obtain ⟨rfl, rfl, rfl⟩ := e
    rcases h with h | h <;> simp [h]
  · rw [u3_off _ _ e]
theorem mp_sJ0 {w : qSt} {r k i : Nat} {v : Int64} (h : isM r = false ∨ scJ r k = true) : mp (sJ w r k i v) = mp w := by
  refine st_ext rfl ?_ rfl rfl
  funext r' k' i'
  show (bif isM r' && !scJ r' k' then u3 w.2.1 r k i v r' k' i' else 0) = (bif isM r' && !scJ r' k' then w.2.1 r' k' i' else 0)
  by_cases e : r' = r ∧ k' = k ∧ i' = i
  · obtain ⟨rfl, rfl, rfl⟩ := e
    rcases h with h | h <;> simp [h]
  · rw [u3_off _ _ e]
theorem cp_sI {w : qSt} {r k i : Nat} {v : Int32} (h : isM r = true) : cp (sI w r k i v) = cp w := by
  refine st_ext ?_ rfl rfl rfl
  funext r' k' i'
  show (bif isM r' then 0 else u3 w.1 r k i v r' k' i') = (bif isM r' then 0 else w.1 r' k' i')
  by_cases e : r' = r ∧ k' = k ∧ i' = i
  · obtain ⟨rfl, rfl, rfl⟩ := e
    simp [h]
  · rw [u3_off _ _ e]
theorem cp_sJ {w : qSt} {r k i : Nat} {v : Int64} (h : isM r = true) : cp (sJ w r k i v) = cp w := by
  refine st_ext rfl ?_ rfl rfl
  funext r' k' i'
  show (bif isM r' then 0 else u3 w.2.1 r k i v r' k' i') = (bif isM r' then 0 else w.2.1 r' k' i')
  by_cases e : r' = r ∧ k' = k ∧ i' = i
  · obtain ⟨rfl, rfl, rfl⟩ := e
    simp [h]
  · rw [u3_off _ _ e]
/-- w' is w but for scribbles of the model -/
def Sc (w w' : qSt) : Prop := mp w' = mp w ∧ cp w' = cp w
theorem Sc.rf {w : qSt} : Sc w w := ⟨rfl, rfl⟩
theorem Sc.tr {a b c : qSt} (h : Sc a b) (h' : Sc b c) : Sc a c := ⟨h'.1.trans h.1, h'.2.trans h.2⟩
theorem Sc.I {w w' : qSt} (h : Sc w w') {r k i : Nat} {v : Int32} (hs : scI r k = true) (hm : isM r = true) : Sc w (sI w' r k i v) := ⟨(mp_sI0 (Or.inr hs)).trans h.1, (cp_sI hm).trans h.2⟩
theorem Sc.J {w w' : qSt} (h : Sc w w') {r k i : Nat} {v : Int64} (hs : scJ r k = true) (hm : isM r = true) : Sc w (sJ w' r k i v) := ⟨(mp_sJ0 (Or.inr hs)).trans h.1, (cp_sJ hm).trans h.2⟩
/-- what speaks of the model's own numbers alone is the same -/
theorem Sc.c {α : Sort _} {w w' : qSt} (h : Sc w w') (P : qSt → α) (hP : ∀ w, P (mp w) = P w) : P w' = P w := by rw [← hP w', h.1, hP]
theorem Sc.I2 {w w' : qSt} (h : Sc w w') {r k i : Nat} {v : Int32} (hm : isM r = true) : Sc (sI w r k i v) (sI w' r k i v) := by
  cases hs : scI r k with
  | true => exact ⟨by rw [mp_sI0 (Or.inr hs), mp_sI0 (Or.inr hs), h.1], by rw [cp_sI hm, cp_sI hm, h.2]⟩
  | false => exact ⟨by rw [mp_sI hm hs, mp_sI hm hs, h.1], by rw [cp_sI hm, cp_sI hm, h.2]⟩
theorem Sc.J2 {w w' : qSt} (h : Sc w w') {r k i : Nat} {v : Int64} (hm : isM r = true) : Sc (sJ w r k i v) (sJ w' r k i v) := by
  cases hs : scJ r k with
  | true => exact ⟨by rw [mp_sJ0 (Or.inr hs), mp_sJ0 (Or.inr hs), h.1], by rw [cp_sJ hm, cp_sJ hm, h.2]⟩
  | false => exact ⟨by rw [mp_sJ hm hs, mp_sJ hm hs, h.1], by rw [cp_sJ hm, cp_sJ hm, h.2]⟩
/-! the kinds of the types -/
def isC (m : qSt) (t : Int32) : Prop := ∃ j, t = nI j ∧ j < nT m ∧ ma m 0 j = 1
def isF (m : qSt) (t : Int32) : Prop := ∃ j, t = nI j ∧ j < nT m ∧ ma m 0 j = 2
def isL (t : Int32) : Prop := ∃ j, t = nI j ∧ j < 8
def isN (t : Int32) : Prop := ∃ j, t = nI j ∧ j < 10
theorem isT_nI {m : qSt} (hT : TyOK m) {j : Nat} (hj : j < 2147483648) : isT m (nI j) ↔ j < nT m := by
  have := hT.2.2
  refine ⟨fun ⟨i, e, hi⟩ => ?_, fun h => ⟨j, rfl, h⟩⟩
  rw [nI_eqI hj (by omega)] at e
  omega
theorem isL_iff (t : Int32) : isL t ↔ 0 ≤ t.toInt ∧ t.toInt ≤ 7 := by
  constructor
  · rintro ⟨j, rfl, hj⟩
    rw [nI_t (by omega)]; omega
  · intro hq
    refine ⟨t.toInt.toNat, ?_, by omega⟩
    rw [i32_eq, nI_t (by omega)]; omega
theorem isN_iff (t : Int32) : isN t ↔ 0 ≤ t.toInt ∧ t.toInt ≤ 9 := by
  constructor
  · rintro ⟨j, rfl, hj⟩
    rw [nI_t (by omega)]; omega
  · intro hq
    refine ⟨t.toInt.toNat, ?_, by omega⟩
    rw [i32_eq, nI_t (by omega)]; omega
section
variable {G : qGX} {w : qSt} {Q : Option Value → qSt → Prop}
theorem c12_isClass {t : Int32} (hT : TyOK w) (h : Q (some (.int (bI (isC w t)))) w) : Con G M12_isClass [.ref 79, .int t] w Q := by
  refine Con.go hw12_isClass ok12_isClass 20 [] rfl ?_
  have h100 := hT.2.2
  refine c12_isType hT (And.intro (fun c1 => ?_) (fun c1 => ?_))
  · rw [bI_0] at c1
    rw [bI_f (fun ⟨j, e, hj, _⟩ => c1 ⟨j, e, hj⟩)] at h
    exact ⟨rfl, h⟩
  · rw [bI_n0] at c1
    obtain ⟨j, rfl, hj⟩ := c1
    refine And.intro (in_nI (N := 100) (by omega) (by decide)) (And.intro (fun c2 => ?_) (fun c2 => ?_)) <;> rw [nI_clamp (by omega)] at c2
    · rw [bI_f (fun ⟨i, e, hi, hs⟩ => c2 (by rw [nI_eqI (by omega) (by omega)] at e; rw [e]; exact hs))] at h
      exact ⟨rfl, h⟩
    · rw [bI_t ⟨j, rfl, hj, c2⟩] at h
      exact ⟨rfl, h⟩
theorem c12_isFace {t : Int32} (hT : TyOK w) (h : Q (some (.int (bI (isF w t)))) w) : Con G M12_isFace [.ref 79, .int t] w Q := by
  refine Con.go hw12_isFace ok12_isFace 20 [] rfl ?_
  have h100 := hT.2.2
  refine c12_isType hT (And.intro (fun c1 => ?_) (fun c1 => ?_))
  · rw [bI_0] at c1
    rw [bI_f (fun ⟨j, e, hj, _⟩ => c1 ⟨j, e, hj⟩)] at h
    exact ⟨rfl, h⟩
  · rw [bI_n0] at c1
    obtain ⟨j, rfl, hj⟩ := c1
    refine And.intro (in_nI (N := 100) (by omega) (by decide)) (And.intro (fun c2 => ?_) (fun c2 => ?_)) <;> rw [nI_clamp (by omega)] at c2
    · rw [bI_f (fun ⟨i, e, hi, hs⟩ => c2 (by rw [nI_eqI (by omega) (by omega)] at e; rw [e]; exact hs))] at h
      exact ⟨rfl, h⟩
    · rw [bI_t ⟨j, rfl, hj, c2⟩] at h
      exact ⟨rfl, h⟩
theorem c12_isLane {t : Int32} (h : Q (some (.int (bI (isL t)))) w) : Con G M12_isLane [.int t] w Q := by
  refine Con.go hw12_isLane ok12_isLane 20 [] rfl ?_
  refine c12_inI (x := t.toInt) (y := 0) (z := 7) (i32_wide t) rfl rfl ?_
  rw [← isL_iff]
  exact ⟨bI_and _, h⟩
theorem c12_isName {t : Int32} (h : Q (some (.int (bI (isN t)))) w) : Con G M12_isName [.int t] w Q := by
  refine Con.go hw12_isName ok12_isName 20 [] rfl ?_
  refine c12_inI (x := t.toInt) (y := 0) (z := 9) (i32_wide t) rfl rfl ?_
  rw [← isN_iff]
  exact ⟨bI_and _, h⟩
/-- the new type -/
def sMk (w : qSt) (v : Int32) : qSt := sI (sI w 40 0 (nT w) v) 12 1 0 (nI (nT w + 1))
theorem c12_make {v : Int32} (hT : TyOK w) (h100 : nT w < 100) (h : Q (some (.int (nI (nT w)))) (sMk w v)) : Con G M12_make [.ref 79, .int v] w Q := by
  refine Con.go hw12_make ok12_make 20 [] rfl ?_
  have e : mi w 1 = nI (nT w) := hT.1
  refine And.intro ?_ ?_
  · show vp_in (mi w 1) 100
    rw [e]; exact in_nI (by omega) (by decide)
  · show Q (some (.int (mi w 1 + 1 - 1))) (sI (sI w 40 0 (mi w 1).toNatClampNeg v) 12 1 0 (mi w 1 + 1))
    rw [e, nI_clamp (by omega), nI_1, nI_pred]
    exact h
end
