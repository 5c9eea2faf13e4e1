/-! ===== the step is what the machine does: memory and calls ===== -/
section QS
variable {G : qGX} {M M' : qMH} {Q : Option Value → qSt → Prop} {K : qKt} {pc x y z : Nat} {ci : Int32} {cl : Int64} {ls : List (Option Value)} {st : List Value} {q : Nat × Nat} {w : qSt}
theorem swc_get {P : Nat → Prop} {pc : Nat} {a : Int32} : ∀ (l : List Int) (k j : Nat) (o : Int), swc P pc a k l → l[j]? = some o → a = nI (k + j) → P ((pc : Int) + o).toNat
  | [], _, _, _, _, h, _ => by simp at h
  | o' :: l, k, 0, o, hs, h, ha => by cases h; exact hs.1 ha
  | o' :: l, k, j + 1, o, hs, h, ha => swc_get l (k + 1) j o hs.2 h (by rw [ha]; congr 1; omega)
theorem so_tableswitch {d lo hi : Int} {offs : Array Int} (hK : ∀ pc ls st q w, K pc ls st q w → Wq G M pc ls st q w Q) (hj : insOK M (pc, .tableswitch d lo hi offs, (x, y, z), (ci, cl), M') = true) (h : stp G M Q K (pc, .tableswitch d lo hi offs, (x, y, z), (ci, cl), M') ls st q w) : Wq G M pc ls st q w Q := by
  have hj0 : (decide (decode (mC M) pc = .ok (.tableswitch d lo hi offs, z)) && (decide (lo = 0) && decide (hi + 1 = (offs.size : Int)) && decide (0 ≤ (pc : Int) + d) && offs.toList.all (fun o => decide (0 ≤ (pc : Int) + o)) && Nat.ble offs.size 2000)) = true := hj
  obtain ⟨hdec, ho⟩ := Bool.and_eq_true_iff.mp hj0
  have hdec := of_decide_eq_true hdec
  have h' : (match (generalizing := false) st with | .int a :: r => swc (fun t => K t ls r q w) pc a 0 offs.toList ∧ ((a.toInt < 0 ∨ hi < a.toInt) → K ((pc : Int) + d).toNat ls r q w) | _ => False) := h
  simp only [Bool.and_eq_true, decide_eq_true_eq] at ho
  obtain ⟨⟨⟨⟨ho1, ho2⟩, ho3⟩, ho4⟩, ho5⟩ := ho
  subst ho1
  have hsz := Nat.le_of_ble_eq_true ho5
  split at h'
  · rename_i a r
    obtain ⟨h1', h2'⟩ := h'
    intro fl p e s m args below meth c Z hmm C F d0 la H locs hd hlv hS hlk h1 h2
    by_cases hr : a.toInt < 0 ∨ hi < a.toInt
    · exact lv_tableOut C.1 C.2.1 hdec hr (by omega) (hK _ _ _ _ _ (h2' hr) fl p e s m args below meth c Z hmm C F d0 la H locs hd hlv hS hlk h1 h2)
    · have hlt : a.toInt.toNat < offs.size := by omega
      have hl : offs.toList[a.toInt.toNat]? = some offs[a.toInt.toNat] := by rw [Array.getElem?_toList, Array.getElem?_eq_getElem hlt]
      have ha : a = nI (0 + a.toInt.toNat) := by
        refine Int32.toInt_inj.mp ?_
        rw [nI_toInt (by omega)]
        omega
      have hp := List.all_eq_true.mp ho4 _ (List.mem_of_getElem? hl)
      have hp := of_decide_eq_true hp
      refine lv_tableIn C.1 C.2.1 hdec (by omega) (by omega) (off := offs[a.toInt.toNat]) (tgt := ((pc : Int) + offs[a.toInt.toNat]).toNat) ?_ (by omega) ?_
      · rw [show (a.toInt - 0).toNat = a.toInt.toNat by omega, Array.getElem?_eq_getElem hlt]
      · exact hK _ _ _ _ _ (swc_get _ 0 _ _ h1' hl ha) fl p e s m args below meth c Z hmm C F d0 la H locs hd hlv hS hlk h1 h2
  · exact h'.elim
theorem so_getfield {n : Nat} (hK : ∀ pc ls st q w, K pc ls st q w → Wq G M pc ls st q w Q) (hj : insOK M (pc, .getfield n, (x, y, z), (ci, cl), M') = true) (h : stp G M Q K (pc, .getfield n, (x, y, z), (ci, cl), M') ls st q w) : Wq G M pc ls st q w Q := by
  have hj0 : (decide (decode (mC M) pc = .ok (.getfield n, 3)) && ((match vwCl[x]? with | some u => Nat.blt y u.2.2 && (bif mM M then x == 11 else true) && lkW z (.fieldLink (mY M).cls n (u.2.1 y).1 (u.2.1 y).2.1 (u.2.1 y).2.2.1) | none => false))) = true := hj
  obtain ⟨hdec, ho⟩ := Bool.and_eq_true_iff.mp hj0
  have hdec := of_decide_eq_true hdec
  have h' : (match (generalizing := false) st with
      | .ref a :: r => bif mM M then (bif a == 79 then (bif tc 11 y == 1 then K (pc + 3) ls (.long (gJ w 12 y 0) :: r) q w else bif tc 11 y == 2 then K (pc + 3) ls (.ref (80 + mrk y) :: r) q w else K (pc + 3) ls (.int (gI w 12 y 0) :: r) q w) else False)
        else gN w 0 a = x ∧ (bif tc x y == 1 then K (pc + 3) ls (.long (gJ w x y a) :: r) q w else bif tc x y == 2 then (gR w x y a = none → K (pc + 3) ls (.null :: r) q w) ∧ (∀ b, gR w x y a = some b → K (pc + 3) ls (.ref b :: r) q w) else K (pc + 3) ls (.int (gI w x y a) :: r) q w)
      | _ => False) := h
  cases hx : vwCl[x]? with
  | none => simp [hx] at ho
  | some u =>
    simp only [hx, Bool.and_eq_true] at ho
    obtain ⟨⟨ho1, ho2⟩, ho3⟩ := ho
    have hy := Nat.le_of_ble_eq_true ho1
    have hF : qFO M n x y := ⟨u, hx, hy, lk_of ho3 rfl⟩
    split at h'
    · rename_i a r
      cases hm : mM M with
      | true =>
        simp only [hm, cond_true] at h' ho2
        have hx11 := eq_of_beq ho2
        subst hx11
        cases ha : a == 79 with
        | false => simp only [ha, cond_false] at h'
        | true =>
          simp only [ha, cond_true] at h'
          have ha := eq_of_beq ha
          subst ha
          cases t1 : tc 11 y == 1 with
          | true =>
            simp only [t1, cond_true] at h'
            exact w_getM (v := .long _) hm hF hdec (by unfold mfv; rw [if_pos (eq_of_beq t1)]; rfl) (hK _ _ _ _ _ h')
          | false =>
            simp only [t1, cond_false] at h'
            have n1 : ¬ tc 11 y = 1 := ne_of_beq_false t1
            cases t2 : tc 11 y == 2 with
            | true =>
              simp only [t2, cond_true] at h'
              exact w_getM (v := .ref _) hm hF hdec (by unfold mfv; rw [if_neg n1, if_pos (eq_of_beq t2)]; rfl) (hK _ _ _ _ _ h')
            | false =>
              simp only [t2, cond_false] at h'
              exact w_getM (v := .int _) hm hF hdec (by unfold mfv; rw [if_neg n1, if_neg (ne_of_beq_false t2)]; rfl) (hK _ _ _ _ _ h')
      | false =>
        simp only [hm, cond_false] at h'
        obtain ⟨hk, h'⟩ := h'
        cases t1 : tc x y == 1 with
        | true =>
          simp only [t1, cond_true] at h'
          exact w_getF (v := .long _) hF hdec hk (by unfold fv; rw [if_pos (eq_of_beq t1)]; rfl) (hK _ _ _ _ _ h')
        | false =>
          simp only [t1, cond_false] at h'
          have n1 : ¬ tc x y = 1 := ne_of_beq_false t1
          cases t2 : tc x y == 2 with
          | true =>
            simp only [t2, cond_true] at h'
            cases hr : gR w x y a with
            | none => exact w_getF (v := .null) hF hdec hk (by unfold fv; rw [if_neg n1, if_pos (eq_of_beq t2), hr]; rfl) (hK _ _ _ _ _ (h'.1 hr))
            | some b => exact w_getF (v := .ref b) hF hdec hk (by unfold fv; rw [if_neg n1, if_pos (eq_of_beq t2), hr]; rfl) (hK _ _ _ _ _ (h'.2 b hr))
          | false =>
            simp only [t2, cond_false] at h'
            exact w_getF (v := .int _) hF hdec hk (by unfold fv; rw [if_neg n1, if_neg (ne_of_beq_false t2)]; rfl) (hK _ _ _ _ _ h')
    · exact h'.elim
theorem so_putfield {n : Nat} (hK : ∀ pc ls st q w, K pc ls st q w → Wq G M pc ls st q w Q) (hj : insOK M (pc, .putfield n, (x, y, z), (ci, cl), M') = true) (h : stp G M Q K (pc, .putfield n, (x, y, z), (ci, cl), M') ls st q w) : Wq G M pc ls st q w Q := by
  have hj0 : (decide (decode (mC M) pc = .ok (.putfield n, 3)) && ((match vwCl[x]? with | some u => Nat.blt y u.2.2 && (bif mM M then x == 11 else true) && lkW z (.fieldLink (mY M).cls n (u.2.1 y).1 (u.2.1 y).2.1 (u.2.1 y).2.2.1) && (!(u.2.1 y).2.2.2 || (decide ((mY M).name = "<init>") && decide ((u.2.1 y).1 = (mY M).cls))) | none => false))) = true := hj
  obtain ⟨hdec, ho⟩ := Bool.and_eq_true_iff.mp hj0
  have hdec := of_decide_eq_true hdec
  have h' : (match (generalizing := false) st with
      | .int n :: .ref a :: r => bif mM M then (bif a == 79 && tc 11 y == 0 then K (pc + 3) ls r q (sI w 12 y 0 n) else False)
        else gN w 0 a = x ∧ (bif tc x y == 0 then K (pc + 3) ls r q (sI w x y a n) else bif tc x y == 3 then n &&& 1 = n ∧ K (pc + 3) ls r q (sI w x y a n) else False)
      | .long n :: .ref a :: r => bif mM M then (bif a == 79 && tc 11 y == 1 then K (pc + 3) ls r q (sJ w 12 y 0 n) else False)
        else gN w 0 a = x ∧ (bif tc x y == 1 then K (pc + 3) ls r q (sJ w x y a n) else False)
      | .null :: .ref a :: r => bif mM M then False else gN w 0 a = x ∧ (bif tc x y == 2 then K (pc + 3) ls r q (sR w x y a none) else False)
      | .ref b :: .ref a :: r => bif mM M then False else gN w 0 a = x ∧ (bif tc x y == 2 then K (pc + 3) ls r q (sR w x y a (some b)) else False)
      | _ => False) := h
  cases hx : vwCl[x]? with
  | none => simp [hx] at ho
  | some u =>
    simp only [hx, Bool.and_eq_true] at ho
    obtain ⟨⟨⟨ho1, ho2⟩, ho3⟩, ho4⟩ := ho
    have hy := Nat.le_of_ble_eq_true ho1
    have hF : qFP M n x y := by
      refine ⟨u, hx, hy, lk_of ho3 rfl, ?_⟩
      rcases Bool.or_eq_true_iff.mp ho4 with h | h
      · exact Or.inl (by simpa using h)
      · obtain ⟨h3, h4⟩ := Bool.and_eq_true_iff.mp h
        exact Or.inr ⟨of_decide_eq_true h3, of_decide_eq_true h4⟩
    split at h'
    · rename_i k a r
      cases hm : mM M with
      | true =>
        simp only [hm, cond_true] at h' ho2
        have hx11 := eq_of_beq ho2
        subst hx11
        cases ha : (a == 79 && tc 11 y == 0) with
        | false => simp only [ha, cond_false] at h'
        | true =>
          simp only [ha, cond_true] at h'
          obtain ⟨a1, a2⟩ := Bool.and_eq_true_iff.mp ha
          have a1 := eq_of_beq a1
          subst a1
          exact w_putMI hm hF hdec (eq_of_beq a2) (hK _ _ _ _ _ h')
      | false =>
        simp only [hm, cond_false] at h'
        obtain ⟨hk, h'⟩ := h'
        cases t1 : tc x y == 0 with
        | true =>
          simp only [t1, cond_true] at h'
          exact w_putI hF hdec hk (Or.inl (eq_of_beq t1)) (hK _ _ _ _ _ h')
        | false =>
          simp only [t1, cond_false] at h'
          cases t2 : tc x y == 3 with
          | true =>
            simp only [t2, cond_true] at h'
            exact w_putI hF hdec hk (Or.inr ⟨eq_of_beq t2, h'.1⟩) (hK _ _ _ _ _ h'.2)
          | false => simp only [t2, cond_false] at h'
    · rename_i k a r
      cases hm : mM M with
      | true =>
        simp only [hm, cond_true] at h' ho2
        have hx11 := eq_of_beq ho2
        subst hx11
        cases ha : (a == 79 && tc 11 y == 1) with
        | false => simp only [ha, cond_false] at h'
        | true =>
          simp only [ha, cond_true] at h'
          obtain ⟨a1, a2⟩ := Bool.and_eq_true_iff.mp ha
          have a1 := eq_of_beq a1
          subst a1
          exact w_putMJ hm hF hdec (eq_of_beq a2) (hK _ _ _ _ _ h')
      | false =>
        simp only [hm, cond_false] at h'
        obtain ⟨hk, h'⟩ := h'
        cases t1 : tc x y == 1 with
        | true =>
          simp only [t1, cond_true] at h'
          exact w_putJ hF hdec hk (eq_of_beq t1) (hK _ _ _ _ _ h')
        | false => simp only [t1, cond_false] at h'
    · rename_i a r
      cases hm : mM M with
      | true => simp only [hm, cond_true] at h'
      | false =>
        simp only [hm, cond_false] at h'
        obtain ⟨hk, h'⟩ := h'
        cases t1 : tc x y == 2 with
        | true =>
          simp only [t1, cond_true] at h'
          exact w_putR (n := none) (v := .null) hF hdec hk (eq_of_beq t1) rfl (hK _ _ _ _ _ h')
        | false => simp only [t1, cond_false] at h'
    · rename_i b a r
      cases hm : mM M with
      | true => simp only [hm, cond_true] at h'
      | false =>
        simp only [hm, cond_false] at h'
        obtain ⟨hk, h'⟩ := h'
        cases t1 : tc x y == 2 with
        | true =>
          simp only [t1, cond_true] at h'
          exact w_putR (n := some b) (v := .ref b) hF hdec hk (eq_of_beq t1) rfl (hK _ _ _ _ _ h')
        | false => simp only [t1, cond_false] at h'
    · exact h'.elim
theorem so_new {n : Nat} (hK : ∀ pc ls st q w, K pc ls st q w → Wq G M pc ls st q w Q) (hj : insOK M (pc, .new n, (x, y, z), (ci, cl), M') = true) (h : stp G M Q K (pc, .new n, (x, y, z), (ci, cl), M') ls st q w) : Wq G M pc ls st q w Q := by
  have hj0 : (decide (decode (mC M) pc = .ok (.new n, 3)) && ((match vwCl[x]? with | some u => lkW z (.classLink (mY M).cls n u.1) | none => false))) = true := hj
  obtain ⟨hdec, ho⟩ := Bool.and_eq_true_iff.mp hj0
  have hdec := of_decide_eq_true hdec
  have h' : (q.1 + 1 ≤ (mR M).cells ∧ q.2 + nf x ≤ (mR M).slots) ∧ ∀ n, gN w 2 0 = n → K (pc + 3) ls (.ref n :: st) (q.1 + 1, q.2 + nf x) (nwO w x) := h
  cases hx : vwCl[x]? with
  | none => simp [hx] at ho
  | some u =>
    simp only [hx] at ho
    exact w_new hdec hx (lk_of ho rfl) (inst_ok hx).1 (inst_ok hx).2 h'.1 rfl (hK _ _ _ _ _ (h'.2 _ rfl))
theorem so_newarray {t : ArrayType} (hK : ∀ pc ls st q w, K pc ls st q w → Wq G M pc ls st q w Q) (hj : insOK M (pc, .newarray t, (x, y, z), (ci, cl), M') = true) (h : stp G M Q K (pc, .newarray t, (x, y, z), (ci, cl), M') ls st q w) : Wq G M pc ls st q w Q := by
  have hj0 : (decide (decode (mC M) pc = .ok (.newarray t, 2)) && (decide (primK t ≠ 0))) = true := hj
  obtain ⟨hdec, ho⟩ := Bool.and_eq_true_iff.mp hj0
  have hdec := of_decide_eq_true hdec
  have h' : (match (generalizing := false) st with | .int k :: r => (¬ k < 0 ∧ k.toNatClampNeg ≤ 65536) ∧ (q.1 + 1 ≤ (mR M).cells ∧ q.2 + k.toNatClampNeg ≤ (mR M).slots) ∧ ∀ n, gN w 2 0 = n → K (pc + 2) ls (.ref n :: r) (q.1 + 1, q.2 + k.toNatClampNeg) (nwA w (primK t) k.toNatClampNeg) | _ => False) := h
  split at h'
  · rename_i k r
    obtain ⟨hn, hq, h'⟩ := h'
    have ht := of_decide_eq_true ho
    have hac : Cond.arrayClass (newarray.typeOf t) ∈ wTG := by
      cases t <;> first | exact ac_int | exact ac_long | exact ac_boolean | exact absurd rfl ht
    exact w_newa hdec ht hac hn.1 hn.2 hq rfl (hK _ _ _ _ _ (h' _ rfl))
  · exact h'.elim
theorem so_anewarray {n : Nat} (hK : ∀ pc ls st q w, K pc ls st q w → Wq G M pc ls st q w Q) (hj : insOK M (pc, .anewarray n, (x, y, z), (ci, cl), M') = true) (h : stp G M Q K (pc, .anewarray n, (x, y, z), (ci, cl), M') ls st q w) : Wq G M pc ls st q w Q := by
  have hj0 : (decide (decode (mC M) pc = .ok (.anewarray n, 3)) && (refK x && (match vwCl[x - 23]? with | some u => lkW z (.classLink (mY M).cls n u.1) | none => false))) = true := hj
  obtain ⟨hdec, ho⟩ := Bool.and_eq_true_iff.mp hj0
  have hdec := of_decide_eq_true hdec
  have h' : (match (generalizing := false) st with | .int k :: r => (¬ k < 0 ∧ k.toNatClampNeg ≤ 65536) ∧ (q.1 + 1 ≤ (mR M).cells ∧ q.2 + k.toNatClampNeg ≤ (mR M).slots) ∧ ∀ n, gN w 2 0 = n → K (pc + 3) ls (.ref n :: r) (q.1 + 1, q.2 + k.toNatClampNeg) (nwA w x k.toNatClampNeg) | _ => False) := h
  obtain ⟨hr, ho⟩ := Bool.and_eq_true_iff.mp ho
  cases hx : vwCl[x - 23]? with
  | none => simp [hx] at ho
  | some u =>
    simp only [hx] at ho
    split at h'
    · rename_i k r
      obtain ⟨hn, hq, h'⟩ := h'
      exact w_anew (C' := u.1) hdec hr (by rw [hx]; rfl) (lk_of ho rfl) hn.1 hn.2 hq rfl (hK _ _ _ _ _ (h' _ rfl))
    · exact h'.elim
theorem so_arraylength (hK : ∀ pc ls st q w, K pc ls st q w → Wq G M pc ls st q w Q) (hj : insOK M (pc, .arraylength, (x, y, z), (ci, cl), M') = true) (h : stp G M Q K (pc, .arraylength, (x, y, z), (ci, cl), M') ls st q w) : Wq G M pc ls st q w Q := by
  have hj0 : (decide (decode (mC M) pc = .ok (.arraylength, 1)) && (true)) = true := hj
  obtain ⟨hdec, ho⟩ := Bool.and_eq_true_iff.mp hj0
  have hdec := of_decide_eq_true hdec
  have h' : (match (generalizing := false) st with | .ref a :: r => bif mM M then False else (gN w 0 a = 20 ∨ gN w 0 a = 21 ∨ gN w 0 a = 22 ∨ refK (gN w 0 a) = true ∨ a = 0) ∧ K (pc + 1) ls (.int (nI (gN w 1 a)) :: r) q w | _ => False) := h
  split at h'
  · rename_i a r
    cases hm : mM M with
    | true => simp only [hm, cond_true] at h'
    | false =>
      simp only [hm, cond_false] at h'
      exact w_alen hdec h'.1 (hK _ _ _ _ _ h'.2)
  · exact h'.elim
theorem so_iaload (hK : ∀ pc ls st q w, K pc ls st q w → Wq G M pc ls st q w Q) (hj : insOK M (pc, .iaload, (x, y, z), (ci, cl), M') = true) (h : stp G M Q K (pc, .iaload, (x, y, z), (ci, cl), M') ls st q w) : Wq G M pc ls st q w Q := by
  have hj0 : (decide (decode (mC M) pc = .ok (.iaload, 1)) && (true)) = true := hj
  obtain ⟨hdec, ho⟩ := Bool.and_eq_true_iff.mp hj0
  have hdec := of_decide_eq_true hdec
  have h' : (match (generalizing := false) st with | .int i :: .ref a :: r => bif mM M then (bif Nat.ble 80 a && Nat.ble a 117 && mty (a - 80) == 0 then vp_in i (mln (a - 80)) ∧ K (pc + 1) ls (.int (gI w 40 (a - 80) i.toNatClampNeg) :: r) q w else False) else (gN w 0 a = 19 ∨ gN w 0 a = 20) ∧ vp_in i (gN w 1 a) ∧ K (pc + 1) ls (.int (gI w 20 a i.toNatClampNeg) :: r) q w | _ => False) := h
  split at h'
  · rename_i i a r
    cases hm : mM M with
    | true =>
      simp only [hm, cond_true] at h'
      cases hc : (Nat.ble 80 a && Nat.ble a 117 && mty (a - 80) == 0) with
      | false => simp only [hc, cond_false] at h'
      | true =>
        simp only [hc, cond_true] at h'
        simp only [Bool.and_eq_true] at hc
        obtain ⟨⟨c1, c2⟩, c3⟩ := hc
        have c1 := Nat.le_of_ble_eq_true c1
        have c2 := Nat.le_of_ble_eq_true c2
        obtain ⟨r0, rfl⟩ : ∃ r0 : Nat, a = 80 + r0 := ⟨Nat.sub a 80, (Nat.add_sub_of_le c1).symm⟩
        have e0 : 80 + r0 - 80 = r0 := Nat.add_sub_cancel_left ..
        rw [e0] at h' c3
        exact w_ialdM hm hdec (by omega) (eq_of_beq c3) h'.1 (hK _ _ _ _ _ h'.2)
    | false =>
      simp only [hm, cond_false] at h'
      exact w_iald hdec h'.1 h'.2.1 (hK _ _ _ _ _ h'.2.2)
  · exact h'.elim
theorem so_baload (hK : ∀ pc ls st q w, K pc ls st q w → Wq G M pc ls st q w Q) (hj : insOK M (pc, .baload, (x, y, z), (ci, cl), M') = true) (h : stp G M Q K (pc, .baload, (x, y, z), (ci, cl), M') ls st q w) : Wq G M pc ls st q w Q := by
  have hj0 : (decide (decode (mC M) pc = .ok (.baload, 1)) && (true)) = true := hj
  obtain ⟨hdec, ho⟩ := Bool.and_eq_true_iff.mp hj0
  have hdec := of_decide_eq_true hdec
  have h' : (match (generalizing := false) st with | .int i :: .ref a :: r => bif mM M then (bif Nat.ble 80 a && Nat.ble a 117 && mty (a - 80) == 3 then vp_in i (mln (a - 80)) ∧ K (pc + 1) ls (.int (gI w 40 (a - 80) i.toNatClampNeg) :: r) q w else False) else gN w 0 a = 22 ∧ vp_in i (gN w 1 a) ∧ K (pc + 1) ls (.int (gI w 20 a i.toNatClampNeg) :: r) q w | _ => False) := h
  split at h'
  · rename_i i a r
    cases hm : mM M with
    | true =>
      simp only [hm, cond_true] at h'
      cases hc : (Nat.ble 80 a && Nat.ble a 117 && mty (a - 80) == 3) with
      | false => simp only [hc, cond_false] at h'
      | true =>
        simp only [hc, cond_true] at h'
        simp only [Bool.and_eq_true] at hc
        obtain ⟨⟨c1, c2⟩, c3⟩ := hc
        have c1 := Nat.le_of_ble_eq_true c1
        have c2 := Nat.le_of_ble_eq_true c2
        obtain ⟨r0, rfl⟩ : ∃ r0 : Nat, a = 80 + r0 := ⟨Nat.sub a 80, (Nat.add_sub_of_le c1).symm⟩
        have e0 : 80 + r0 - 80 = r0 := Nat.add_sub_cancel_left ..
        rw [e0] at h' c3
        exact w_zaldM hm hdec (by omega) (eq_of_beq c3) h'.1 (hK _ _ _ _ _ h'.2)
    | false =>
      simp only [hm, cond_false] at h'
      exact w_zald hdec h'.1 h'.2.1 (hK _ _ _ _ _ h'.2.2)
  · exact h'.elim
theorem so_laload (hK : ∀ pc ls st q w, K pc ls st q w → Wq G M pc ls st q w Q) (hj : insOK M (pc, .laload, (x, y, z), (ci, cl), M') = true) (h : stp G M Q K (pc, .laload, (x, y, z), (ci, cl), M') ls st q w) : Wq G M pc ls st q w Q := by
  have hj0 : (decide (decode (mC M) pc = .ok (.laload, 1)) && (true)) = true := hj
  obtain ⟨hdec, ho⟩ := Bool.and_eq_true_iff.mp hj0
  have hdec := of_decide_eq_true hdec
  have h' : (match (generalizing := false) st with | .int i :: .ref a :: r => bif mM M then (bif Nat.ble 80 a && Nat.ble a 117 && mty (a - 80) == 1 then vp_in i (mln (a - 80)) ∧ K (pc + 1) ls (.long (gJ w 40 (a - 80) i.toNatClampNeg) :: r) q w else False) else gN w 0 a = 21 ∧ vp_in i (gN w 1 a) ∧ K (pc + 1) ls (.long (gJ w 21 a i.toNatClampNeg) :: r) q w | _ => False) := h
  split at h'
  · rename_i i a r
    cases hm : mM M with
    | true =>
      simp only [hm, cond_true] at h'
      cases hc : (Nat.ble 80 a && Nat.ble a 117 && mty (a - 80) == 1) with
      | false => simp only [hc, cond_false] at h'
      | true =>
        simp only [hc, cond_true] at h'
        simp only [Bool.and_eq_true] at hc
        obtain ⟨⟨c1, c2⟩, c3⟩ := hc
        have c1 := Nat.le_of_ble_eq_true c1
        have c2 := Nat.le_of_ble_eq_true c2
        obtain ⟨r0, rfl⟩ : ∃ r0 : Nat, a = 80 + r0 := ⟨Nat.sub a 80, (Nat.add_sub_of_le c1).symm⟩
        have e0 : 80 + r0 - 80 = r0 := Nat.add_sub_cancel_left ..
        rw [e0] at h' c3
        exact w_laldM hm hdec (by omega) (eq_of_beq c3) h'.1 (hK _ _ _ _ _ h'.2)
    | false =>
      simp only [hm, cond_false] at h'
      exact w_lald hdec h'.1 h'.2.1 (hK _ _ _ _ _ h'.2.2)
  · exact h'.elim
theorem so_aaload (hK : ∀ pc ls st q w, K pc ls st q w → Wq G M pc ls st q w Q) (hj : insOK M (pc, .aaload, (x, y, z), (ci, cl), M') = true) (h : stp G M Q K (pc, .aaload, (x, y, z), (ci, cl), M') ls st q w) : Wq G M pc ls st q w Q := by
  have hj0 : (decide (decode (mC M) pc = .ok (.aaload, 1)) && (true)) = true := hj
  obtain ⟨hdec, ho⟩ := Bool.and_eq_true_iff.mp hj0
  have hdec := of_decide_eq_true hdec
  have h' : (match (generalizing := false) st with | .int i :: .ref a :: r => bif mM M then False else (refK (gN w 0 a) = true ∧ vp_in i (gN w 1 a)) ∧ (gR w 23 a i.toNatClampNeg = none → K (pc + 1) ls (.null :: r) q w) ∧ (∀ b, gR w 23 a i.toNatClampNeg = some b → K (pc + 1) ls (.ref b :: r) q w) | _ => False) := h
  split at h'
  · rename_i i a r
    cases hm : mM M with
    | true => simp only [hm, cond_true] at h'
    | false =>
      simp only [hm, cond_false] at h'
      obtain ⟨⟨hr, hi⟩, hn, hs⟩ := h'
      cases hv : gR w 23 a i.toNatClampNeg with
      | none => exact w_aald (v := .null) hdec hr rfl hi (by rw [hv]; rfl) (hK _ _ _ _ _ (hn hv))
      | some b => exact w_aald (v := .ref b) hdec hr rfl hi (by rw [hv]; rfl) (hK _ _ _ _ _ (hs b hv))
  · exact h'.elim
theorem so_iastore (hK : ∀ pc ls st q w, K pc ls st q w → Wq G M pc ls st q w Q) (hj : insOK M (pc, .iastore, (x, y, z), (ci, cl), M') = true) (h : stp G M Q K (pc, .iastore, (x, y, z), (ci, cl), M') ls st q w) : Wq G M pc ls st q w Q := by
  have hj0 : (decide (decode (mC M) pc = .ok (.iastore, 1)) && (true)) = true := hj
  obtain ⟨hdec, ho⟩ := Bool.and_eq_true_iff.mp hj0
  have hdec := of_decide_eq_true hdec
  have h' : (match (generalizing := false) st with | .int n :: .int i :: .ref a :: r => bif mM M then (bif Nat.ble 80 a && Nat.ble a 117 && mty (a - 80) == 0 then vp_in i (mln (a - 80)) ∧ K (pc + 1) ls r q (sI w 40 (a - 80) i.toNatClampNeg n) else False) else gN w 0 a = 20 ∧ vp_in i (gN w 1 a) ∧ K (pc + 1) ls r q (sI w 20 a i.toNatClampNeg n) | _ => False) := h
  split at h'
  · rename_i n i a r
    cases hm : mM M with
    | true =>
      simp only [hm, cond_true] at h'
      cases hc : (Nat.ble 80 a && Nat.ble a 117 && mty (a - 80) == 0) with
      | false => simp only [hc, cond_false] at h'
      | true =>
        simp only [hc, cond_true] at h'
        simp only [Bool.and_eq_true] at hc
        obtain ⟨⟨c1, c2⟩, c3⟩ := hc
        have c1 := Nat.le_of_ble_eq_true c1
        have c2 := Nat.le_of_ble_eq_true c2
        obtain ⟨r0, rfl⟩ : ∃ r0 : Nat, a = 80 + r0 := ⟨Nat.sub a 80, (Nat.add_sub_of_le c1).symm⟩
        have e0 : 80 + r0 - 80 = r0 := Nat.add_sub_cancel_left ..
        rw [e0] at h' c3
        exact w_iastM hm hdec (by omega) (eq_of_beq c3) h'.1 (hK _ _ _ _ _ h'.2)
    | false =>
      simp only [hm, cond_false] at h'
      exact w_iast hdec h'.1 h'.2.1 (hK _ _ _ _ _ h'.2.2)
  · exact h'.elim
theorem so_bastore (hK : ∀ pc ls st q w, K pc ls st q w → Wq G M pc ls st q w Q) (hj : insOK M (pc, .bastore, (x, y, z), (ci, cl), M') = true) (h : stp G M Q K (pc, .bastore, (x, y, z), (ci, cl), M') ls st q w) : Wq G M pc ls st q w Q := by
  have hj0 : (decide (decode (mC M) pc = .ok (.bastore, 1)) && (true)) = true := hj
  obtain ⟨hdec, ho⟩ := Bool.and_eq_true_iff.mp hj0
  have hdec := of_decide_eq_true hdec
  have h' : (match (generalizing := false) st with | .int n :: .int i :: .ref a :: r => n &&& 1 = n ∧ (bif mM M then (bif Nat.ble 80 a && Nat.ble a 117 && mty (a - 80) == 3 then vp_in i (mln (a - 80)) ∧ K (pc + 1) ls r q (sI w 40 (a - 80) i.toNatClampNeg n) else False) else gN w 0 a = 22 ∧ vp_in i (gN w 1 a) ∧ K (pc + 1) ls r q (sI w 20 a i.toNatClampNeg n)) | _ => False) := h
  split at h'
  · rename_i n i a r
    obtain ⟨hb, h'⟩ := h'
    cases hm : mM M with
    | true =>
      simp only [hm, cond_true] at h'
      cases hc : (Nat.ble 80 a && Nat.ble a 117 && mty (a - 80) == 3) with
      | false => simp only [hc, cond_false] at h'
      | true =>
        simp only [hc, cond_true] at h'
        simp only [Bool.and_eq_true] at hc
        obtain ⟨⟨c1, c2⟩, c3⟩ := hc
        have c1 := Nat.le_of_ble_eq_true c1
        have c2 := Nat.le_of_ble_eq_true c2
        obtain ⟨r0, rfl⟩ : ∃ r0 : Nat, a = 80 + r0 := ⟨Nat.sub a 80, (Nat.add_sub_of_le c1).symm⟩
        have e0 : 80 + r0 - 80 = r0 := Nat.add_sub_cancel_left ..
        rw [e0] at h' c3
        exact w_zastM hm hb hdec (by omega) (eq_of_beq c3) h'.1 (hK _ _ _ _ _ h'.2)
    | false =>
      simp only [hm, cond_false] at h'
      exact w_zast hb hdec h'.1 h'.2.1 (hK _ _ _ _ _ h'.2.2)
  · exact h'.elim
theorem so_lastore (hK : ∀ pc ls st q w, K pc ls st q w → Wq G M pc ls st q w Q) (hj : insOK M (pc, .lastore, (x, y, z), (ci, cl), M') = true) (h : stp G M Q K (pc, .lastore, (x, y, z), (ci, cl), M') ls st q w) : Wq G M pc ls st q w Q := by
  have hj0 : (decide (decode (mC M) pc = .ok (.lastore, 1)) && (true)) = true := hj
  obtain ⟨hdec, ho⟩ := Bool.and_eq_true_iff.mp hj0
  have hdec := of_decide_eq_true hdec
  have h' : (match (generalizing := false) st with | .long n :: .int i :: .ref a :: r => bif mM M then (bif Nat.ble 80 a && Nat.ble a 117 && mty (a - 80) == 1 then vp_in i (mln (a - 80)) ∧ K (pc + 1) ls r q (sJ w 40 (a - 80) i.toNatClampNeg n) else False) else gN w 0 a = 21 ∧ vp_in i (gN w 1 a) ∧ K (pc + 1) ls r q (sJ w 21 a i.toNatClampNeg n) | _ => False) := h
  split at h'
  · rename_i n i a r
    cases hm : mM M with
    | true =>
      simp only [hm, cond_true] at h'
      cases hc : (Nat.ble 80 a && Nat.ble a 117 && mty (a - 80) == 1) with
      | false => simp only [hc, cond_false] at h'
      | true =>
        simp only [hc, cond_true] at h'
        simp only [Bool.and_eq_true] at hc
        obtain ⟨⟨c1, c2⟩, c3⟩ := hc
        have c1 := Nat.le_of_ble_eq_true c1
        have c2 := Nat.le_of_ble_eq_true c2
        obtain ⟨r0, rfl⟩ : ∃ r0 : Nat, a = 80 + r0 := ⟨Nat.sub a 80, (Nat.add_sub_of_le c1).symm⟩
        have e0 : 80 + r0 - 80 = r0 := Nat.add_sub_cancel_left ..
        rw [e0] at h' c3
        exact w_lastM hm hdec (by omega) (eq_of_beq c3) h'.1 (hK _ _ _ _ _ h'.2)
    | false =>
      simp only [hm, cond_false] at h'
      exact w_last hdec h'.1 h'.2.1 (hK _ _ _ _ _ h'.2.2)
  · exact h'.elim
theorem so_aastore (hK : ∀ pc ls st q w, K pc ls st q w → Wq G M pc ls st q w Q) (hj : insOK M (pc, .aastore, (x, y, z), (ci, cl), M') = true) (h : stp G M Q K (pc, .aastore, (x, y, z), (ci, cl), M') ls st q w) : Wq G M pc ls st q w Q := by
  have hj0 : (decide (decode (mC M) pc = .ok (.aastore, 1)) && (true)) = true := hj
  obtain ⟨hdec, ho⟩ := Bool.and_eq_true_iff.mp hj0
  have hdec := of_decide_eq_true hdec
  have h' : (match (generalizing := false) st with | .ref b :: .int i :: .ref a :: r => bif mM M then False else (refK (gN w 0 a) = true ∧ gN w 0 b + 23 = gN w 0 a ∧ vp_in i (gN w 1 a)) ∧ K (pc + 1) ls r q (sR w 23 a i.toNatClampNeg (some b)) | _ => False) := h
  split at h'
  · rename_i b i a r
    cases hm : mM M with
    | true => simp only [hm, cond_true] at h'
    | false =>
      simp only [hm, cond_false] at h'
      obtain ⟨⟨hr, hb, hi⟩, h'⟩ := h'
      exact w_aast hdec hr rfl hi hb (hK _ _ _ _ _ h')
  · exact h'.elim
theorem cq_get {F : Nat × Nat → Prop} (h : cq M M' q F) (h1 : q.1 ≤ (mR M).cells) (h2 : q.2 ≤ (mR M).slots) : qQ M M' q ∧ F (q.1 + (mR M').cells, q.2 + (mR M').slots) := by
  unfold cq at h
  cases hc : ((mR M').cells == 0 && (mR M').slots == 0) with
  | true =>
    simp only [hc, cond_true] at h
    obtain ⟨c1, c2⟩ := Bool.and_eq_true_iff.mp hc
    have c1 := eq_of_beq c1
    have c2 := eq_of_beq c2
    unfold qQ
    rw [c1, c2]
    exact ⟨⟨h1, h2⟩, h⟩
  | false =>
    simp only [hc, cond_false] at h
    exact h
theorem wq_le (h : q.1 ≤ (mR M).cells → q.2 ≤ (mR M).slots → Wq G M pc ls st q w Q) : Wq G M pc ls st q w Q := by
  intro fl p e s m args below meth c Z hmm C F d0 la H locs hd hlv hS hlk h1 h2
  exact h h1 h2 fl p e s m args below meth c Z hmm C F d0 la H locs hd hlv hS hlk h1 h2
theorem rmB_of (h : rmB M M' = true) : qRoom M M' := by
  obtain ⟨h1, h2⟩ := Bool.and_eq_true_iff.mp h
  exact ⟨Nat.le_of_ble_eq_true h1, Nat.le_of_ble_eq_true h2⟩
theorem st_split (n : Nat) (st : List Value) : st = ((st.take n).reverse).reverse ++ st.drop n := by rw [List.reverse_reverse, List.take_append_drop]
theorem recv_obj {fl : Nat} {s : State} {H : Heap} {a : Nat} {u : vw_C} (hT : qTF G s) (hS : qSim G fl w H) (hx : vwCl[x]? = some u) (hk : gN w 0 a = x) : ∃ cellB : Cell, H[loc G a]? = some cellB ∧ cellB.vm.isStatics = false ∧ s.vm.findClass u.1 = some cellB.cls := by
  have hx12 := vw_lt hx
  have hat := sim_cell hS hk (by omega) (by omega)
  rw [cell_obj G hk hx12] at hat
  exact va_recv (q0 := 0) hT.1 (P1 hat) hx rfl
theorem recv_mod {fl : Nat} {s : State} {H : Heap} {u : vw_C} (hT : qTF G s) (hS : qSim G fl w H) (hm : gN w 4 0 = 1) (hx : vwCl[11]? = some u) : ∃ cellB : Cell, H[loc G 79]? = some cellB ∧ cellB.vm.isStatics = false ∧ s.vm.findClass u.1 = some cellB.cls := by
  have hk := (hS.2.2.2.2.2.2.2.2 hm).1
  have hat := sim_cell hS hk (by omega) (by omega)
  rw [cell_mod G hk] at hat
  exact va_recv (q0 := 0) hT.1 (P1 hat) hx rfl
theorem sim_mode {fl : Nat} {H : Heap} (hS : qSim G fl w H) (h : fl = 1) : gN w 4 0 = 1 := by
  have h3 := hS.2.2.2.2.2.2.1
  have h4 := hS.2.2.2.2.2.2.2.1
  omega
theorem so_invokevirtual {n : Nat} (hK : ∀ pc ls st q w, K pc ls st q w → Wq G M pc ls st q w Q) (hj : insOK M (pc, .invokevirtual n, (x, y, z), (ci, cl), M') = true) (h : stp G M Q K (pc, .invokevirtual n, (x, y, z), (ci, cl), M') ls st q w) : Wq G M pc ls st q w Q := by
  have hj0 : (decide (decode (mC M) pc = .ok (.invokevirtual n, 3)) && (lkW z (.methodLink (mY M).cls n (mY M')) && mK M' == 0 && rmB M M' && decide ((vwCl[bif mM M' then 11 else x]?).map (fun u => u.1) = some (mY M').cls) && Nat.blt x 12)) = true := hj
  obtain ⟨hdec, ho⟩ := Bool.and_eq_true_iff.mp hj0
  have hdec := of_decide_eq_true hdec
  have h' : (match (generalizing := false) st.drop (mA M') with
      | .ref a :: r => bif Nat.ble (cats r) 8 then (bif mM M' then (bif mM M then (bif a == 79 then cq M M' q (fun q' => Con G M' (.ref a :: (st.take (mA M')).reverse) w (fun o w' => K (pc + 3) ls (psh o r) q' w')) else False) else (gN w 4 0 = 1 ∧ a = 79) ∧ cq M M' q (fun q' => Con G M' (.ref a :: (st.take (mA M')).reverse) w (fun o w' => K (pc + 3) ls (psh o r) q' w')))
          else gN w 0 a = x ∧ cq M M' q (fun q' => Con G M' (.ref a :: (st.take (mA M')).reverse) w (fun o w' => K (pc + 3) ls (psh o r) q' w'))) else False
      | _ => False) := h
  simp only [Bool.and_eq_true, decide_eq_true_eq] at ho
  obtain ⟨⟨⟨⟨ho1, ho2⟩, ho3⟩, ho4⟩, ho5⟩ := ho
  have hl := lk_of ho1 rfl
  have hk0 := eq_of_beq ho2
  have hR := rmB_of ho3
  refine wq_le fun g1 g2 => ?_
  split at h'
  · rename_i a r hdr
    cases hlen : Nat.ble (cats r) 8 with
    | false => simp only [hlen, cond_false] at h'
    | true =>
      simp only [hlen, cond_true] at h'
      have hlen := Nat.le_of_ble_eq_true hlen
      have hAs : (st.take (mA M')).reverse.length = mA M' := by
        have h3 := congrArg List.length hdr
        simp only [List.length_drop, List.length_cons] at h3
        rw [List.length_reverse, List.length_take]
        omega
      have est : st = ((st.take (mA M')).reverse).reverse ++ .ref a :: r := by
        have h3 := st_split (mA M') st
        rw [hdr] at h3
        exact h3
      cases hm' : mM M' with
      | true =>
        simp only [hm', cond_true] at h' ho4
        cases hu : vwCl[11]? with
        | none => cases hu
        | some u =>
          rw [hu] at ho4
          have hcls : u.1 = (mY M').cls := Option.some.inj ho4
          cases hm : mM M with
          | true =>
            simp only [hm, cond_true] at h'
            cases ha : a == 79 with
            | false => simp only [ha, cond_false] at h'
            | true =>
              simp only [ha, cond_true] at h'
              obtain ⟨hq, h''⟩ := cq_get h' g1 g2
              have ha := eq_of_beq ha
              rw [est]
              refine w_virt hdec hl hk0 hR hAs hlen (fun fl s H hf hT hS => ?_) (fun _ => Or.inl hm) hq (h''.mono (fun o w' hw => hK _ _ _ _ _ hw))
              rw [ha, ← hcls]
              exact recv_mod hT hS (sim_mode hS (hf hm)) hu
          | false =>
            simp only [hm, cond_false] at h'
            obtain ⟨⟨hmode, ha⟩, h'⟩ := h'
            obtain ⟨hq, h''⟩ := cq_get h' g1 g2
            rw [est]
            refine w_virt hdec hl hk0 hR hAs hlen (fun fl s H hf hT hS => ?_) (fun _ => Or.inr hmode) hq (h''.mono (fun o w' hw => hK _ _ _ _ _ hw))
            rw [ha, ← hcls]
            exact recv_mod hT hS hmode hu
      | false =>
        simp only [hm', cond_false] at h' ho4
        obtain ⟨hk, h'⟩ := h'
        cases hu : vwCl[x]? with
        | none => simp [hu] at ho4
        | some u =>
          rw [hu] at ho4
          have hcls : u.1 = (mY M').cls := Option.some.inj ho4
          obtain ⟨hq, h''⟩ := cq_get h' g1 g2
          rw [est]
          refine w_virt hdec hl hk0 hR hAs hlen (fun fl s H hf hT hS => ?_) (fun z => by rw [hm'] at z; cases z) hq (h''.mono (fun o w' hw => hK _ _ _ _ _ hw))
          rw [← hcls]
          exact recv_obj hT hS hu hk
  · exact h'.elim
theorem so_invokestatic {n : Nat} (hK : ∀ pc ls st q w, K pc ls st q w → Wq G M pc ls st q w Q) (hj : insOK M (pc, .invokestatic n, (x, y, z), (ci, cl), M') = true) (h : stp G M Q K (pc, .invokestatic n, (x, y, z), (ci, cl), M') ls st q w) : Wq G M pc ls st q w Q := by
  have hj0 : (decide (decode (mC M) pc = .ok (.invokestatic n, 3)) && (bif Nat.ble x 1 then (bif x == 0 then lkW z (.methodLink (mY M).cls n (mY M')) else lkW z (.methodLinkNest (mY M).cls n (mY M') "QueryHandles")) && mK M' == 1 && rmB M M' && (!mM M' || mM M)
      else Nat.ble 1 (mR M).frames && Nat.ble 23 (mR M).locals && (bif x == 91 then lkW z (.methodLink (mY M).cls n ⟨"java/lang/Double", "doubleToRawLongBits", "(D)J"⟩) else bif x == 92 then lkW z (.methodLink (mY M).cls n ⟨"java/lang/Double", "longBitsToDouble", "(J)D"⟩) else bif x == 93 then lkW z (.methodLink (mY M).cls n ⟨"java/lang/Float", "floatToRawIntBits", "(F)I"⟩) else lkW z (.methodLink (mY M).cls n ⟨"java/lang/Float", "intBitsToFloat", "(I)F"⟩)))) = true := hj
  obtain ⟨hdec, ho⟩ := Bool.and_eq_true_iff.mp hj0
  have hdec := of_decide_eq_true hdec
  have h' : bif Nat.ble x 1 then (bif Nat.ble (mA M') st.length && Nat.ble (cats (st.drop (mA M'))) 8 then cq M M' q (fun q' => Con G M' (st.take (mA M')).reverse w (fun o w' => K (pc + 3) ls (psh o (st.drop (mA M'))) q' w')) else False)
      else bif x == 91 then (match (generalizing := false) st with | .double b :: r => bif Nat.ble (cats r) 8 then K (pc + 3) ls (.long b.toInt64 :: r) q w else False | _ => False)
      else bif x == 92 then (match (generalizing := false) st with | .long b :: r => bif Nat.ble (cats r) 8 then vn_snl2d b = false ∧ K (pc + 3) ls (.double b.toUInt64 :: r) q w else False | _ => False)
      else bif x == 93 then (match (generalizing := false) st with | .float b :: r => bif Nat.ble (cats r) 8 then K (pc + 3) ls (.int b.toInt32 :: r) q w else False | _ => False)
      else (match (generalizing := false) st with | .int b :: r => bif Nat.ble (cats r) 8 then vn_sni2f b = false ∧ K (pc + 3) ls (.float b.toUInt32 :: r) q w else False | _ => False) := h
  cases hx1 : Nat.ble x 1 with
  | true =>
    simp only [hx1, cond_true, Bool.and_eq_true] at h' ho
    obtain ⟨⟨⟨ho1, ho2⟩, ho3⟩, ho4⟩ := ho
    have hk1 := eq_of_beq ho2
    have hR := rmB_of ho3
    have hfl : mM M' = true → mM M = true := by
      intro z
      rcases Bool.or_eq_true_iff.mp ho4 with h3 | h3
      · rw [z] at h3; cases h3
      · exact h3
    refine wq_le fun g1 g2 => ?_
    cases hc : (Nat.ble (mA M') st.length && Nat.ble (cats (st.drop (mA M'))) 8) with
    | false => simp only [hc, cond_false] at h'
    | true =>
      simp only [hc, cond_true] at h'
      obtain ⟨c1, c2⟩ := Bool.and_eq_true_iff.mp hc
      have c1 := Nat.le_of_ble_eq_true c1
      have c2 := Nat.le_of_ble_eq_true c2
      obtain ⟨hq, h''⟩ := cq_get h' g1 g2
      have hAs : (st.take (mA M')).reverse.length = mA M' := by
        rw [List.length_reverse, List.length_take]
        omega
      have est := st_split (mA M') st
      cases hx0 : x == 0 with
      | true =>
        simp only [hx0, cond_true] at ho1
        generalize hAA : (st.take (mA M')).reverse = As at h'' hAs est
        generalize hBB : st.drop (mA M') = rs at h'' c2 est
        rw [est]
        exact w_stat hdec (lk_of ho1 rfl) hk1 hR hAs c2 hfl hq (h''.mono (fun o w' hw => hK _ _ _ _ _ hw))
      | false =>
        simp only [hx0, cond_false] at ho1
        generalize hAA : (st.take (mA M')).reverse = As at h'' hAs est
        generalize hBB : st.drop (mA M') = rs at h'' c2 est
        rw [est]
        exact w_statN hdec (of_decide_eq_true ho1) hk1 hR hAs c2 hfl hq (h''.mono (fun o w' hw => hK _ _ _ _ _ hw))
  | false =>
    simp only [hx1, cond_false, Bool.and_eq_true] at h' ho
    obtain ⟨⟨n1, n2⟩, n3⟩ := ho
    have n1 := Nat.le_of_ble_eq_true n1
    have n2 := Nat.le_of_ble_eq_true n2
    cases x1 : x == 91 with
    | true =>
      simp only [x1, cond_true] at h' n3
      split at h'
      · rename_i b r
        cases hlen : Nat.ble (cats r) 8 with
        | false => simp only [hlen, cond_false] at h'
        | true =>
          simp only [hlen, cond_true] at h'
          have hlen := Nat.le_of_ble_eq_true hlen
          intro fl p e s m args below meth c Z hmm C F d0 la H locs hd hlv hS hlk h1 h2
          have hown : (s.setDrawn d0).vm.findClass (mY M).cls = some m.cls := C.2.2.2.1
          have hcat := q_cat G r
          exact vn_d2l (s := s.setDrawn d0) C.1 C.2.1 (C.2.2.1.trans hlv.1.symm) hown (dr_words C.2.2.2.2.1 d0 _ (List.mem_cons_of_mem _ (lk_of n3 rfl))) (dr_words C.2.2.2.2.1 d0 _ (List.mem_cons_of_mem _ nD2L_n)) (dr_words C.2.2.2.2.1 d0 _ (List.mem_cons_of_mem _ nD2L_s)) (dr_words C.2.2.2.2.1 d0 _ (List.mem_cons_of_mem _ inDouble)) n1 (by omega) hdec (hK _ _ _ _ _ h' fl p e s m args below meth c Z hmm C F d0 la H locs hd hlv hS hlk h1 h2)
      · exact h'.elim
    | false =>
      simp only [x1, cond_false] at h' n3
      cases x2 : x == 92 with
      | true =>
        simp only [x2, cond_true] at h' n3
        split at h'
        · rename_i b r
          cases hlen : Nat.ble (cats r) 8 with
          | false => simp only [hlen, cond_false] at h'
          | true =>
            simp only [hlen, cond_true] at h'
            have hlen := Nat.le_of_ble_eq_true hlen
            intro fl p e s m args below meth c Z hmm C F d0 la H locs hd hlv hS hlk h1 h2
            have hown : (s.setDrawn d0).vm.findClass (mY M).cls = some m.cls := C.2.2.2.1
            have hcat := q_cat G r
            exact vn_l2d (s := s.setDrawn d0) C.1 C.2.1 (C.2.2.1.trans hlv.1.symm) hown (dr_words C.2.2.2.2.1 d0 _ (List.mem_cons_of_mem _ (lk_of n3 rfl))) (dr_words C.2.2.2.2.1 d0 _ (List.mem_cons_of_mem _ nL2D_n)) (dr_words C.2.2.2.2.1 d0 _ (List.mem_cons_of_mem _ nL2D_s)) (dr_words C.2.2.2.2.1 d0 _ (List.mem_cons_of_mem _ inDouble)) h'.1 n1 (by omega) hdec (hK _ _ _ _ _ h'.2 fl p e s m args below meth c Z hmm C F d0 la H locs hd hlv hS hlk h1 h2)
        · exact h'.elim
      | false =>
        simp only [x2, cond_false] at h' n3
        cases x3 : x == 93 with
        | true =>
          simp only [x3, cond_true] at h' n3
          split at h'
          · rename_i b r
            cases hlen : Nat.ble (cats r) 8 with
            | false => simp only [hlen, cond_false] at h'
            | true =>
              simp only [hlen, cond_true] at h'
              have hlen := Nat.le_of_ble_eq_true hlen
              intro fl p e s m args below meth c Z hmm C F d0 la H locs hd hlv hS hlk h1 h2
              have hown : (s.setDrawn d0).vm.findClass (mY M).cls = some m.cls := C.2.2.2.1
              have hcat := q_cat G r
              exact vn_f2i (s := s.setDrawn d0) C.1 C.2.1 (C.2.2.1.trans hlv.1.symm) hown (dr_words C.2.2.2.2.1 d0 _ (List.mem_cons_of_mem _ (lk_of n3 rfl))) (dr_words C.2.2.2.2.1 d0 _ (List.mem_cons_of_mem _ nF2I_n)) (dr_words C.2.2.2.2.1 d0 _ (List.mem_cons_of_mem _ nF2I_s)) (dr_words C.2.2.2.2.1 d0 _ (List.mem_cons_of_mem _ inFloat)) n1 (by omega) hdec (hK _ _ _ _ _ h' fl p e s m args below meth c Z hmm C F d0 la H locs hd hlv hS hlk h1 h2)
          · exact h'.elim
        | false =>
          simp only [x3, cond_false] at h' n3
          split at h'
          · rename_i b r
            cases hlen : Nat.ble (cats r) 8 with
            | false => simp only [hlen, cond_false] at h'
            | true =>
              simp only [hlen, cond_true] at h'
              have hlen := Nat.le_of_ble_eq_true hlen
              intro fl p e s m args below meth c Z hmm C F d0 la H locs hd hlv hS hlk h1 h2
              have hown : (s.setDrawn d0).vm.findClass (mY M).cls = some m.cls := C.2.2.2.1
              have hcat := q_cat G r
              exact vn_i2f (s := s.setDrawn d0) C.1 C.2.1 (C.2.2.1.trans hlv.1.symm) hown (dr_words C.2.2.2.2.1 d0 _ (List.mem_cons_of_mem _ (lk_of n3 rfl))) (dr_words C.2.2.2.2.1 d0 _ (List.mem_cons_of_mem _ nI2F_n)) (dr_words C.2.2.2.2.1 d0 _ (List.mem_cons_of_mem _ nI2F_s)) (dr_words C.2.2.2.2.1 d0 _ (List.mem_cons_of_mem _ inFloat)) h'.1 n1 (by omega) hdec (hK _ _ _ _ _ h'.2 fl p e s m args below meth c Z hmm C F d0 la H locs hd hlv hS hlk h1 h2)
          · exact h'.elim
theorem so_invokespecial {n : Nat} (hK : ∀ pc ls st q w, K pc ls st q w → Wq G M pc ls st q w Q) (hj : insOK M (pc, .invokespecial n, (x, y, z), (ci, cl), M') = true) (h : stp G M Q K (pc, .invokespecial n, (x, y, z), (ci, cl), M') ls st q w) : Wq G M pc ls st q w Q := by
  have hj0 : (decide (decode (mC M) pc = .ok (.invokespecial n, 3)) && (bif x == 99 then lkW z (.methodLink (mY M).cls n Lib.objectInit) && Nat.ble 1 (mR M).frames && Nat.ble 20 (mR M).locals
      else (bif x == 0 then lkW z (.methodLink (mY M).cls n (mY M')) else lkW z (.methodLinkNest (mY M).cls n (mY M') "QueryHandles")) && mK M' == 2 && rmB M M' && (!mM M' || mM M))) = true := hj
  obtain ⟨hdec, ho⟩ := Bool.and_eq_true_iff.mp hj0
  have hdec := of_decide_eq_true hdec
  have h' : bif x == 99 then (match (generalizing := false) st with | .ref _ :: r => bif Nat.ble (cats r) 8 then K (pc + 3) ls r q w else False | _ => False)
      else (match (generalizing := false) st.drop (mA M') with
        | .ref a :: r => bif Nat.ble (cats r) 8 then cq M M' q (fun q' => Con G M' (.ref a :: (st.take (mA M')).reverse) w (fun o w' => K (pc + 3) ls (psh o r) q' w')) else False
        | _ => False) := h
  cases hx1 : x == 99 with
  | true =>
    simp only [hx1, cond_true, Bool.and_eq_true] at h' ho
    obtain ⟨⟨o1, o2⟩, o3⟩ := ho
    have o2 := Nat.le_of_ble_eq_true o2
    have o3 := Nat.le_of_ble_eq_true o3
    split at h'
    · rename_i a r
      cases hlen : Nat.ble (cats r) 8 with
      | false => simp only [hlen, cond_false] at h'
      | true =>
        simp only [hlen, cond_true] at h'
        have hlen := Nat.le_of_ble_eq_true hlen
        intro fl p e s m args below meth c Z hmm C F d0 la H locs hd hlv hS hlk h1 h2
        have hown : (s.setDrawn d0).vm.findClass (mY M).cls = some m.cls := C.2.2.2.1
        have hcat := q_cat G r
        have hmr : (F0 m pc la ((Value.ref a :: r).map (rv G))).monitorRoom = 0 := rfl
        exact W.objInit (s := s.setDrawn d0) C.1 C.2.1 hown (dr_words C.2.2.2.2.1 d0 _ (List.mem_cons_of_mem _ (lk_of o1 rfl))) (dr_words C.2.2.2.2.1 d0 _ (List.mem_cons_of_mem _ oi_i)) (dr_words C.2.2.2.2.1 d0 _ (List.mem_cons_of_mem _ oi_c)) rfl (hlv.1.trans C.2.2.1.symm) rfl hdec o2 (by omega) (hK _ _ _ _ _ h' fl p e s m args below meth c Z hmm C F d0 la H locs hd hlv hS hlk h1 h2)
    · exact h'.elim
  | false =>
    simp only [hx1, cond_false, Bool.and_eq_true] at h' ho
    obtain ⟨⟨⟨ho1, ho2⟩, ho3⟩, ho4⟩ := ho
    have hk2 := eq_of_beq ho2
    have hR := rmB_of ho3
    have hfl : mM M' = true → mM M = true := by
      intro z
      rcases Bool.or_eq_true_iff.mp ho4 with h3 | h3
      · rw [z] at h3; cases h3
      · exact h3
    refine wq_le fun g1 g2 => ?_
    split at h'
    · rename_i a r hdr
      cases hlen : Nat.ble (cats r) 8 with
      | false => simp only [hlen, cond_false] at h'
      | true =>
        simp only [hlen, cond_true] at h'
        have hlen := Nat.le_of_ble_eq_true hlen
        obtain ⟨hq, h''⟩ := cq_get h' g1 g2
        have hAs : (st.take (mA M')).reverse.length = mA M' := by
          have h3 := congrArg List.length hdr
          simp only [List.length_drop, List.length_cons] at h3
          rw [List.length_reverse, List.length_take]
          omega
        have est : st = ((st.take (mA M')).reverse).reverse ++ .ref a :: r := by
          have h3 := st_split (mA M') st
          rw [hdr] at h3
          exact h3
        generalize hAA : (st.take (mA M')).reverse = As at h'' hAs est
        cases hx0 : x == 0 with
        | true =>
          simp only [hx0, cond_true] at ho1
          rw [est]
          exact w_init hdec (lk_of ho1 rfl) hk2 hR hAs hlen hfl hq (h''.mono (fun o w' hw => hK _ _ _ _ _ hw))
        | false =>
          simp only [hx0, cond_false] at ho1
          rw [est]
          exact w_initN hdec (of_decide_eq_true ho1) hk2 hR hAs hlen hfl hq (h''.mono (fun o w' hw => hK _ _ _ _ _ hw))
    · exact h'.elim
end QS
