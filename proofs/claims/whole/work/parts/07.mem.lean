/-! ===== rows of the walk: fields, arrays, new cells ===== -/
/-- the field k of class x is what this index of M's class links to -/
def qFO (M : qMH) (idx x k : Nat) : Prop := ∃ q : vw_C, vwCl[x]? = some q ∧ k < q.2.2 ∧ Cond.fieldLink (mY M).cls idx (q.2.1 k).1 (q.2.1 k).2.1 (q.2.1 k).2.2.1 ∈ wTG
/-- .. and M may write it -/
def qFP (M : qMH) (idx x k : Nat) : Prop := ∃ q : vw_C, vwCl[x]? = some q ∧ k < q.2.2 ∧ Cond.fieldLink (mY M).cls idx (q.2.1 k).1 (q.2.1 k).2.1 (q.2.1 k).2.2.1 ∈ wTG ∧ ((q.2.1 k).2.2.2 = false ∨ ((mY M).name = "<init>" ∧ (q.2.1 k).1 = (mY M).cls))
theorem vw_lt {x : Nat} {q : vw_C} (h : vwCl[x]? = some q) : x < 12 := (List.getElem?_eq_some_iff.mp h).1
theorem loc_big {G : qGX} {a : Nat} (h : 2 ≤ a) : (xH G).size ≤ loc G a := by rw [loc_ge h]; omega
section QM
variable {G : qGX} {M : qMH} {Q : Option Value → qSt → Prop} {pc idx : Nat} {ls : List (Option Value)} {rest : List Value} {q : Nat × Nat} {w : qSt} {a k x : Nat} {v : Value}
theorem w_getF (hf : qFO M idx x k) (hdec : decode (mC M) pc = .ok (.getfield idx, 3)) (hK : gN w 0 a = x) (hv : fv G w x a k = rv G v) (kk : Wq G M (pc + 3) ls (v :: rest) q w Q) : Wq G M pc ls (.ref a :: rest) q w Q := by
  intro fl p e s m args below meth c Z hmm C F d0 la H locs hd hlv hS hlk h1 h2
  obtain ⟨u, hx, hk, hl⟩ := hf
  have hx12 := vw_lt hx
  have hat := sim_cell hS hK (by omega) (by omega)
  rw [cell_obj G hK hx12] at hat
  refine r_getf (x := x) C hx hk hl hat (flds_at G w a (by rw [← nf_ok x u hx]; exact hk)) hdec ?_
  rw [hv]
  exact kk fl p e s m args below meth c Z hmm C F d0 la H locs hd hlv hS hlk h1 h2
theorem w_getM (hm : mM M = true) (hf : qFO M idx 11 k) (hdec : decode (mC M) pc = .ok (.getfield idx, 3)) (hv : mfv G w k = rv G v) (kk : Wq G M (pc + 3) ls (v :: rest) q w Q) : Wq G M pc ls (.ref 79 :: rest) q w Q := by
  intro fl p e s m args below meth c Z hmm C F d0 la H locs hd hlv hS hlk h1 h2
  obtain ⟨u, hx, hk, hl⟩ := hf
  have hfl := hmm hm
  have hmode : gN w 4 0 = 1 := by have h3 := hS.2.2.2.2.2.2.1; have h4 := hS.2.2.2.2.2.2.2.1; omega
  have hK := (hS.2.2.2.2.2.2.2.2 hmode).1
  have hat := sim_cell hS hK (by omega) (by omega)
  rw [cell_mod G hK] at hat
  have hk53 : k < 53 := by have := nf_ok 11 u hx; rw [this] at hk; exact hk
  refine r_getf (x := 11) C hx hk hl hat (mfl_at G w hk53) hdec ?_
  rw [hv]
  exact kk fl p e s m args below meth c Z hmm C F d0 la H locs hd hlv hS hlk h1 h2
/-- a field is written, in general -/
theorem w_putF {w' : qSt} (hf : qFP M idx x k) (hdec : decode (mC M) pc = .ok (.putfield idx, 3)) (hK : gN w 0 a = x) (hn : narrow (vty x k) (rv G v) = rv G v) (hfit : Jvm.fits (vty x k) (rv G v) = true)
    (e1 : fv G w' x a k = rv G v) (e2 : ∀ j, j ≠ k → fv G w' x a j = fv G w x a j) (hN : w'.2.2.2 = w.2.2.2) (ho : x < 12 → ∀ b, b ≠ a → cellOf G w' b = cellOf G w b) (hz : x < 12 → a < gN w 2 0 → qZero w → qZero w') (hl : x < 12 → gI w' 20 0 = gI w 20 0 ∧ gI w' 20 1 = gI w 20 1)
    (kk : Wq G M (pc + 3) ls rest q w' Q) : Wq G M pc ls (v :: .ref a :: rest) q w Q := by
  intro fl p e s m args below meth c Z hmm C F d0 la H locs hd hlv hS hlk h1 h2
  obtain ⟨u, hx, hk, hlw, hfin⟩ := hf
  have hx12 := vw_lt hx
  have hin := sim_in hS hK (by omega) (by omega)
  have hat := sim_cell hS hK (by omega) (by omega)
  rw [cell_obj G hK hx12] at hat
  have hkn : k < nf x := by rw [← nf_ok x u hx]; exact hk
  refine r_putf (x := x) C hlk (loc_big hin.1) hx hk hlw hfin hat (by simp [flds]; exact hkn) hn hfit hdec ?_
  intro H1 locs1 hat1 hz1 hoq hlk1
  refine kk fl p e s m args below meth c Z hmm C F d0 la H1 locs1 hd hlv ?_ hlk1 h1 h2
  refine sim_upd hS hin.1 ?_ hz1 hoq hN (ho hx12) (hz hx12 hin.2 hS.2.2.2.1) (hl hx12)
  rw [cell_obj G (show gN w' 0 a = x by rw [show gN w' = gN w from hN]; exact hK) hx12, flds_set G hkn e1 e2]
  exact hat1
theorem w_putM {w' : qSt} (hm : mM M = true) (hf : qFP M idx 11 k) (hdec : decode (mC M) pc = .ok (.putfield idx, 3)) (hn : narrow (vty 11 k) (rv G v) = rv G v) (hfit : Jvm.fits (vty 11 k) (rv G v) = true)
    (e1 : mfv G w' k = rv G v) (e2 : ∀ j, j ≠ k → mfv G w' j = mfv G w j) (hN : w'.2.2.2 = w.2.2.2) (ho : ∀ b, gN w 0 b ≠ 12 → cellOf G w' b = cellOf G w b) (hz : qZero w → qZero w') (hl : gI w' 20 0 = gI w 20 0 ∧ gI w' 20 1 = gI w 20 1)
    (kk : Wq G M (pc + 3) ls rest q w' Q) : Wq G M pc ls (v :: .ref 79 :: rest) q w Q := by
  intro fl p e s m args below meth c Z hmm C F d0 la H locs hd hlv hS hlk h1 h2
  obtain ⟨u, hx, hk, hlw, hfin⟩ := hf
  have hfl := hmm hm
  have hmode : gN w 4 0 = 1 := by have h3 := hS.2.2.2.2.2.2.1; have h4 := hS.2.2.2.2.2.2.2.1; omega
  have hK := (hS.2.2.2.2.2.2.2.2 hmode).1
  have hin := sim_in hS hK (by omega) (by omega)
  have hat := sim_cell hS hK (by omega) (by omega)
  rw [cell_mod G hK] at hat
  have hk53 : k < 53 := by have := nf_ok 11 u hx; rw [this] at hk; exact hk
  refine r_putf (x := 11) C hlk (loc_big hin.1) hx hk hlw hfin hat (by simp [mfl]; exact hk53) hn hfit hdec ?_
  intro H1 locs1 hat1 hz1 hoq hlk1
  refine kk fl p e s m args below meth c Z hmm C F d0 la H1 locs1 hd hlv ?_ hlk1 h1 h2
  refine sim_upd hS hin.1 ?_ hz1 hoq hN (fun b hb => ho b (fun h => hb (hS.2.2.2.2.2.1.1 b h))) (hz hS.2.2.2.1) hl
  rw [cell_mod G (show gN w' 0 79 = 12 by rw [show gN w' = gN w from hN]; exact hK), mfl_set G hk53 e1 e2]
  exact hat1
theorem tcs {x k : Nat} {u : vw_C} (hx : vwCl[x]? = some u) (hk : k < u.2.2) : (tc x k = 0 → vty x k = .int) ∧ (tc x k = 1 → vty x k = .long) ∧ (tc x k = 3 → vty x k = .boolean) ∧ (tc x k = 2 → (vty x k).isReference = true) ∧ tc x k < 4 := by
  have hx12 := vw_lt hx
  have hkn : k < nf x := by rw [← nf_ok x u hx]; exact hk
  have h53 : k < 53 := Nat.lt_of_lt_of_le hkn (nf_le ⟨x, hx12⟩)
  exact vty_tc ⟨x, hx12⟩ ⟨k, h53⟩ hkn
theorem w_putI {n : Int32} (hf : qFP M idx x k) (hdec : decode (mC M) pc = .ok (.putfield idx, 3)) (hK : gN w 0 a = x) (ht : tc x k = 0 ∨ (tc x k = 3 ∧ n &&& 1 = n)) (kk : Wq G M (pc + 3) ls rest q (sI w x k a n) Q) : Wq G M pc ls (.int n :: .ref a :: rest) q w Q := by
  have hf0 := hf
  obtain ⟨u, hx, hk, -⟩ := hf0
  have hx12 := vw_lt hx
  obtain ⟨t0, -, t3, -⟩ := tcs hx hk
  refine w_putF (v := .int n) (w' := sI w x k a n) hf hdec hK ?_ ?_ ?_ ?_ rfl (fun h b hb => same_I n (Or.inl ⟨h, hb⟩)) (fun h ha hz => zero_I hz n fun b hb => ⟨fun q => by omega, fun q => by omega⟩) (fun h => ⟨?_, ?_⟩) kk
  · rcases ht with h | ⟨h, h'⟩
    · rw [t0 h]; rfl
    · rw [t3 h]; exact nar_bool h'
  · rcases ht with h | ⟨h, h'⟩
    · rw [t0 h]; rfl
    · rw [t3 h]; exact fits_bool h'
  · unfold fv
    rw [if_neg (by rcases ht with h | h <;> omega), if_neg (by rcases ht with h | h <;> omega)]
    show Value.int (u3 w.1 x k a n x k a) = _
    rw [u3_at]; rfl
  · intro j hj
    unfold fv
    have e : gI (sI w x k a n) x j a = gI w x j a := u3_off w.1 n (fun q => hj q.2.1)
    rw [e]; rfl
  · funext j; show u3 w.1 x k a n 20 0 j = w.1 20 0 j; exact u3_off _ _ (fun q => by omega)
  · funext j; show u3 w.1 x k a n 20 1 j = w.1 20 1 j; exact u3_off _ _ (fun q => by omega)
theorem w_putJ {n : Int64} (hf : qFP M idx x k) (hdec : decode (mC M) pc = .ok (.putfield idx, 3)) (hK : gN w 0 a = x) (ht : tc x k = 1) (kk : Wq G M (pc + 3) ls rest q (sJ w x k a n) Q) : Wq G M pc ls (.long n :: .ref a :: rest) q w Q := by
  have hf0 := hf
  obtain ⟨u, hx, hk, -⟩ := hf0
  obtain ⟨-, t1, -⟩ := tcs hx hk
  refine w_putF (v := .long n) (w' := sJ w x k a n) hf hdec hK (by rw [t1 ht]; rfl) (by rw [t1 ht]; rfl) ?_ ?_ rfl (fun h b hb => same_J n (Or.inl ⟨h, hb⟩)) (fun h ha hz => zero_J hz n fun b hb => ⟨fun q => by omega, fun q => by omega⟩) (fun h => ⟨rfl, rfl⟩) kk
  · unfold fv
    rw [if_pos ht]
    show Value.long (u3 w.2.1 x k a n x k a) = _
    rw [u3_at]; rfl
  · intro j hj
    unfold fv
    have e : gJ (sJ w x k a n) x j a = gJ w x j a := u3_off w.2.1 n (fun q => hj q.2.1)
    rw [e]; rfl
theorem w_putR {n : Option Nat} (hf : qFP M idx x k) (hdec : decode (mC M) pc = .ok (.putfield idx, 3)) (hK : gN w 0 a = x) (ht : tc x k = 2) (hv : rv G v = va_rf (rr G n)) (kk : Wq G M (pc + 3) ls rest q (sR w x k a n) Q) : Wq G M pc ls (v :: .ref a :: rest) q w Q := by
  have hf0 := hf
  obtain ⟨u, hx, hk, -⟩ := hf0
  obtain ⟨-, -, -, t2, -⟩ := tcs hx hk
  have hr := fits_ref (t2 ht) (v := rv G v) (by rw [hv]; cases n with
    | none => exact Or.inl rfl
    | some b => exact Or.inr ⟨_, rfl⟩)
  refine w_putF (v := v) (w' := sR w x k a n) hf hdec hK hr.1 hr.2 ?_ ?_ rfl (fun h b hb => same_R n (Or.inl ⟨h, hb⟩)) (fun h ha hz => zero_R hz n fun b hb => ⟨fun q => by omega, fun q => by omega⟩) (fun h => ⟨rfl, rfl⟩) kk
  · unfold fv
    rw [if_neg (by omega), if_pos ht, hv]
    show va_rf (rr G (u3 w.2.2.1 x k a n x k a)) = _
    rw [u3_at]
  · intro j hj
    unfold fv
    have e : gR (sR w x k a n) x j a = gR w x j a := u3_off w.2.2.1 n (fun q => hj q.2.1)
    rw [e]; rfl
theorem w_putMI {n : Int32} (hm : mM M = true) (hf : qFP M idx 11 k) (hdec : decode (mC M) pc = .ok (.putfield idx, 3)) (ht : tc 11 k = 0) (kk : Wq G M (pc + 3) ls rest q (sI w 12 k 0 n) Q) : Wq G M pc ls (.int n :: .ref 79 :: rest) q w Q := by
  have hf0 := hf
  obtain ⟨u, hx, hk, -⟩ := hf0
  obtain ⟨t0, -⟩ := tcs hx hk
  refine w_putM (v := .int n) (w' := sI w 12 k 0 n) hm hf hdec (by rw [t0 ht]; rfl) (by rw [t0 ht]; rfl) ?_ ?_ rfl (fun b hb => same_mI n hb) (fun hz => zero_I hz n fun b hb => ⟨fun q => by omega, fun q => by omega⟩) ⟨?_, ?_⟩ kk
  · unfold mfv
    rw [if_neg (by omega), if_neg (by omega)]
    show Value.int (u3 w.1 12 k 0 n 12 k 0) = _
    rw [u3_at]; rfl
  · intro j hj
    unfold mfv
    have e : gI (sI w 12 k 0 n) 12 j 0 = gI w 12 j 0 := by
      show u3 w.1 12 k 0 n 12 j 0 = w.1 12 j 0
      exact u3_off _ _ (fun q => hj q.2.1)
    rw [e]; rfl
  · funext j; show u3 w.1 12 k 0 n 20 0 j = w.1 20 0 j; exact u3_off _ _ (fun q => by omega)
  · funext j; show u3 w.1 12 k 0 n 20 1 j = w.1 20 1 j; exact u3_off _ _ (fun q => by omega)
theorem w_putMJ {n : Int64} (hm : mM M = true) (hf : qFP M idx 11 k) (hdec : decode (mC M) pc = .ok (.putfield idx, 3)) (ht : tc 11 k = 1) (kk : Wq G M (pc + 3) ls rest q (sJ w 12 k 0 n) Q) : Wq G M pc ls (.long n :: .ref 79 :: rest) q w Q := by
  have hf0 := hf
  obtain ⟨u, hx, hk, -⟩ := hf0
  obtain ⟨-, t1, -⟩ := tcs hx hk
  refine w_putM (v := .long n) (w' := sJ w 12 k 0 n) hm hf hdec (by rw [t1 ht]; rfl) (by rw [t1 ht]; rfl) ?_ ?_ rfl (fun b hb => same_mJ n hb) (fun hz => zero_J hz n fun b hb => ⟨fun q => by omega, fun q => by omega⟩) ⟨rfl, rfl⟩ kk
  · unfold mfv
    rw [if_pos ht]
    show Value.long (u3 w.2.1 12 k 0 n 12 k 0) = _
    rw [u3_at]; rfl
  · intro j hj
    unfold mfv
    have e : gJ (sJ w 12 k 0 n) 12 j 0 = gJ w 12 j 0 := by
      show u3 w.2.1 12 k 0 n 12 j 0 = w.2.1 12 j 0
      exact u3_off _ _ (fun q => hj q.2.1)
    rw [e]; rfl
end QM
