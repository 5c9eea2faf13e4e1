/-! ===== things ===== -/
def bX (m : qSt) (x : Nat) : Nat := tn (ma m 19 x)
def dX (m : qSt) (x : Nat) : Nat := tn (ma m 20 x)
def sX (m : qSt) (x : Nat) : Nat := tn (ma m 21 x)
def pX (m : qSt) (x : Nat) : Nat := tn (ma m 22 x)
/-- a whole row of numbers put in the place of another -/
def rI (w : qSt) (r : Nat) (f : Nat → Int32) : qSt := (fun a k i => bif Nat.beq a 40 && Nat.beq k r then f i else gI w a k i, w.2)
def rJ (w : qSt) (r : Nat) (f : Nat → Int64) : qSt := (w.1, fun a k i => bif Nat.beq a 40 && Nat.beq k r then f i else gJ w a k i, w.2.2)
theorem rI_sI (w : qSt) (r i : Nat) (f : Nat → Int32) (v : Int32) : sI (rI w r f) 40 r i v = rI w r (fun j => if j = i then v else f j) := by
  refine st_ext ?_ rfl rfl rfl
  funext a k j
  show u3 (rI w r f).1 40 r i v a k j = (bif Nat.beq a 40 && Nat.beq k r then (if j = i then v else f j) else gI w a k j)
  by_cases e : a = 40 ∧ k = r ∧ j = i
  · obtain ⟨rfl, rfl, rfl⟩ := e
    rw [u3_at, Nat.beq_refl, Nat.beq_refl, if_pos rfl]; rfl
  · rw [u3_off _ _ e]
    show (bif Nat.beq a 40 && Nat.beq k r then f j else gI w a k j) = _
    cases ha : Nat.beq a 40 with
    | false => rfl
    | true =>
      cases hk : Nat.beq k r with
      | false => rfl
      | true =>
        have h1 := Nat.eq_of_beq_eq_true ha
        have h2 := Nat.eq_of_beq_eq_true hk
        show f j = if j = i then v else f j
        rw [if_neg (fun q => e ⟨h1, h2, q⟩)]
theorem rJ_sJ (w : qSt) (r i : Nat) (f : Nat → Int64) (v : Int64) : sJ (rJ w r f) 40 r i v = rJ w r (fun j => if j = i then v else f j) := by
  refine st_ext rfl ?_ rfl rfl
  funext a k j
  show u3 (rJ w r f).2.1 40 r i v a k j = (bif Nat.beq a 40 && Nat.beq k r then (if j = i then v else f j) else gJ w a k j)
  by_cases e : a = 40 ∧ k = r ∧ j = i
  · obtain ⟨rfl, rfl, rfl⟩ := e
    rw [u3_at, Nat.beq_refl, Nat.beq_refl, if_pos rfl]; rfl
  · rw [u3_off _ _ e]
    show (bif Nat.beq a 40 && Nat.beq k r then f j else gJ w a k j) = _
    cases ha : Nat.beq a 40 with
    | false => rfl
    | true =>
      cases hk : Nat.beq k r with
      | false => rfl
      | true =>
        have h1 := Nat.eq_of_beq_eq_true ha
        have h2 := Nat.eq_of_beq_eq_true hk
        show f j = if j = i then v else f j
        rw [if_neg (fun q => e ⟨h1, h2, q⟩)]
theorem rI_self (w : qSt) (r : Nat) : rI w r (ma w r) = w := by
  refine st_ext ?_ rfl rfl rfl
  funext a k j
  show (bif Nat.beq a 40 && Nat.beq k r then gI w 40 r j else gI w a k j) = gI w a k j
  cases ha : Nat.beq a 40 with
  | false => rfl
  | true =>
    cases hk : Nat.beq k r with
    | false => rfl
    | true => rw [Nat.eq_of_beq_eq_true ha, Nat.eq_of_beq_eq_true hk]; rfl
theorem rJ_self (w : qSt) (r : Nat) : rJ w r (ml w r) = w := by
  refine st_ext rfl ?_ rfl rfl
  funext a k j
  show (bif Nat.beq a 40 && Nat.beq k r then gJ w 40 r j else gJ w a k j) = gJ w a k j
  cases ha : Nat.beq a 40 with
  | false => rfl
  | true =>
    cases hk : Nat.beq k r with
    | false => rfl
    | true => rw [Nat.eq_of_beq_eq_true ha, Nat.eq_of_beq_eq_true hk]; rfl
/-- a member that things of its class have a place for -/
def isP (m : qSt) (a : Nat) : Prop := ¬ ma m 8 a = 0 ∧ ma m 11 a = 0
/-- the first values of the places of a class's own members, of the first k of them -/
noncomputable def ivF (m : qSt) (c : Nat) : Nat → List Int64
  | 0 => []
  | k + 1 => ivF m c k ++ cIf (isP m (10 * c + k)) [laneV (ma m 10 (10 * c + k))] []
noncomputable def ivC (m : qSt) (c : Nat) : List Int64 := ivF m c (nM m c)
noncomputable def ivL (m : qSt) : List Nat → List Int64
  | [] => []
  | c :: l => ivC m c ++ ivL m l
/-- how many places -/
noncomputable def pcF (m : qSt) (c k : Nat) : Nat := (ivF m c k).length
noncomputable def pcN (m : qSt) (c : Nat) : Nat := (ivC m c).length
theorem ivF_len (m : qSt) (c : Nat) : ∀ k, (ivF m c k).length ≤ k
  | 0 => Nat.le_refl _
  | k + 1 => by
    have h := ivF_len m c k
    show (ivF m c k ++ cIf (isP m (10 * c + k)) [laneV (ma m 10 (10 * c + k))] []).length ≤ k + 1
    by_cases q : isP m (10 * c + k)
    · rw [cIf_t q, List.length_append]; simp; omega
    · rw [cIf_f q, List.append_nil]; omega
theorem ivL_len {m : qSt} (h : TInv m) : ∀ (c : Nat), c < nT m → ma m 0 c = 1 → (ivL m (abvs m c)).length ≤ 10 * (c - 8) := by
  intro c
  have h100 := h.le
  induction c using Nat.strongRecOn with
  | _ c ih =>
    intro hc hs
    by_cases h8 : c = 8
    · subst h8
      have : nM m 8 = 0 := by
        have := (h.mbs (i := 8) (by omega)).2.2.1
        omega
      rw [abvs_8]
      show (ivF m 8 (nM m 8) ++ []).length ≤ _
      rw [this]; exact Nat.le_refl _
    · obtain ⟨-, u2, u3, u4⟩ := h.up hc hs h8
      rw [abvs_c h hc hs h8]
      show (ivC m c ++ ivL m (abvs m (upN m c))).length ≤ _
      rw [List.length_append]
      have h1 := ih _ u3 (by omega) u4
      have h2 : (ivC m c).length ≤ nM m c := ivF_len m c (nM m c)
      have h3 := (h.mbs (i := c) (by omega)).2.1
      omega
/-- the things' own rows -/
def XOK (m : qSt) (x : Nat) : Prop := ma m 19 x = nI (bX m x) ∧ bX m x < nT m ∧ ¬ (ma m 0 (bX m x) = 3 ∨ ma m 0 (bX m x) = 4) ∧ ma m 20 x = nI (dX m x) ∧ dX m x ≤ 101 ∧ ma m 21 x = nI (sX m x) ∧ pX m (x + 1) = pX m x + sX m x ∧
  ((dX m x = 0 ∧ ma m 0 (bX m x) = 1 ∧ sX m x = (ivL m (abvs m (bX m x))).length ∧ ∀ d ∈ abvs m (bX m x), ma m 4 d = 1) ∨ (0 < dX m x ∧ sX m x ≤ 12))
def XInv (m : qSt) : Prop := mi m 22 = nI (nX m) ∧ nX m ≤ 60 ∧ (∀ x, x ≤ nX m → ma m 22 x = nI (pX m x) ∧ pX m x ≤ 1000 * x) ∧ ∀ x, x < nX m → XOK m x
/-- a thing more -/
def sAd (w : qSt) (b d : Int32) (E : Nat) : qSt := sI (sI (sI (sI (sI w 40 19 (nX w) b) 40 20 (nX w) d) 40 21 (nX w) (nI (E - pX w (nX w)))) 12 22 0 (nI (nX w + 1))) 40 22 (nX w + 1) (nI E)
/-- values put in a row from a place on -/
def putL (f : Nat → Int64) (e : Nat) (l : List Int64) : Nat → Int64 := fun p => if e ≤ p ∧ p < e + l.length then l.getD (p - e) 0 else f p
noncomputable def clsF (w : qSt) (c : Nat) : Nat → Int32 := fun i => cIf (i ∈ abvs w c ∨ FOf w c i) 1 (ma w 4 i)
noncomputable def S_thing (w : qSt) (c : Int32) : Int32 × qSt :=
  cIf (¬ isC w c) (-1, stt w (-1)) (cIf (nX w = 60) (-2, stt w (-2)) (cIf (¬ ma w 3 (tn c) = 0) (-3, stt w (-3))
    (nI (nX w), stt (sAd (rJ (rI w 4 (clsF w (tn c))) 23 (putL (ml w 23) (pX w (nX w)) (ivL w (abvs w (tn c))))) c 0 (pX w (nX w) + (ivL w (abvs w (tn c))).length)) 0)))
noncomputable def S_things (w : qSt) (t n : Int32) : Int32 × qSt :=
  cIf (¬ isT w t ∨ 12 < n) (-1, stt w (-1)) (cIf (nX w = 60) (-2, stt w (-2)) (cIf (n < 0) (-15, stt w (-15))
    (nI (nX w), stt (sAd (rJ w 23 (putL (ml w 23) (pX w (nX w)) (List.replicate (tn n) (cIf (baN w (tn t) < 8 ∧ dpN w (tn t) = 0) 0 (-1))))) (nI (baN w (tn t))) (nI (dpN w (tn t) + 1)) (pX w (nX w) + tn n)) 0)))
def sz0 (l : List Int64) : Nat := l.length
theorem putL_nil (f : Nat → Int64) (e : Nat) : putL f e [] = f := by
  funext p
  unfold putL
  rw [if_neg (by show ¬ (e ≤ p ∧ p < e + 0); omega)]
theorem putL_snoc (f : Nat → Int64) (e : Nat) (l : List Int64) (v : Int64) : (fun j => if j = e + l.length then v else putL f e l j) = putL f e (l ++ [v]) := by
  funext p
  unfold putL
  rw [List.length_append]
  by_cases h1 : p = e + l.length
  · subst h1
    rw [if_pos rfl, if_pos ⟨by omega, by simp⟩, Nat.add_sub_cancel_left]
    simp [List.getD]
  · rw [if_neg h1]
    by_cases h2 : e ≤ p ∧ p < e + l.length
    · rw [if_pos h2, if_pos ⟨h2.1, by simp; omega⟩]
      simp only [List.getD]
      rw [List.getElem?_append_left (by omega)]
    · rw [if_neg h2, if_neg (by simp; omega)]
section
variable {G : qGX} {w : qSt} {Q : Option Value → qSt → Prop}
theorem c12_added {b d : Int32} {E P : Nat} (hX : mi w 22 = nI (nX w)) (h60 : nX w < 60) (hP : ma w 22 (nX w) = nI P) (hE : P ≤ E) (hE2 : E < 100000) (h : Q (some (.int (nI (nX w)))) (stt (sAd w b d E) 0)) : Con G M12_added [.ref 79, .int b, .int d, .int (nI E)] w Q := by
  have e : (mi w 22).toNatClampNeg = nX w := by rw [hX]; exact nI_clamp (by omega)
  have hin : vp_in (mi w 22) 60 := by rw [hX]; exact in_nI (by omega) (by decide)
  have hin1 : vp_in (mi w 22) 61 := by rw [hX]; exact in_nI (by omega) (by decide)
  have hin2 : vp_in (mi w 22 + 1) 61 := by rw [hX, nI_1]; exact in_nI (by omega) (by decide)
  refine Con.go hw12_added ok12_added 60 [] rfl ?_
  refine And.intro hin (And.intro hin (And.intro hin1 (And.intro hin (And.intro hin2 (c12_good ?_)))))
  show Q (some (.int (mi w 22 + 1 - 1))) (sI (sI (sI (sI (sI (sI w 40 19 (mi w 22).toNatClampNeg b) 40 20 (mi w 22).toNatClampNeg d) 40 21 (mi w 22).toNatClampNeg (nI E - ma w 22 (mi w 22).toNatClampNeg)) 12 22 0 (mi w 22 + 1)) 40 22 (mi w 22 + 1).toNatClampNeg (nI E)) 12 0 0 0)
  have eP : pX w (nX w) = P := by show tn (ma w 22 (nX w)) = P; rw [hP]; exact tn_nI (by omega)
  have es : nI E - nI P = nI (E - P) := by
    rw [i32_eq, i32_sub, nI_t (by omega), nI_t (by omega), nI_t (by omega)]
    · omega
    · rw [nI_t (by omega), nI_t (by omega)]; omega
    · rw [nI_t (by omega), nI_t (by omega)]; omega
  rw [e, hP, es, hX, nI_1, nI_pred, nI_clamp (by omega)]
  unfold sAd at h
  rw [eP] at h
  exact h
end
