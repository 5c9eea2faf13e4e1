/-! ===== fields and arrays over the abstract state ===== -/
theorem flds_set (G : qGX) {w w' : qSt} {x a k : Nat} {v : Value} (hk : k < nf x) (h1 : fv G w' x a k = v) (h2 : ∀ j, j ≠ k → fv G w' x a j = fv G w x a j) : flds G w' x a = (flds G w x a).set k v := by
  refine List.ext_getElem? fun j => ?_
  by_cases hj : j < nf x
  · by_cases e : j = k
    · subst e
      rw [flds_at G w' a hj, List.getElem?_set_self (by simp [flds]; exact hk), h1]
    · rw [flds_at G w' a hj, List.getElem?_set_ne (Ne.symm e), flds_at G w a hj, h2 j e]
  · rw [List.getElem?_eq_none (by simp [flds]; omega), List.getElem?_eq_none (by simp [flds]; omega)]
theorem mfl_set (G : qGX) {w w' : qSt} {k : Nat} {v : Value} (hk : k < 53) (h1 : mfv G w' k = v) (h2 : ∀ j, j ≠ k → mfv G w' j = mfv G w j) : mfl G w' = (mfl G w).set k v := by
  refine List.ext_getElem? fun j => ?_
  by_cases hj : j < 53
  · by_cases e : j = k
    · subst e
      rw [mfl_at G w' hj, List.getElem?_set_self (by simp [mfl]; exact hk), h1]
    · rw [mfl_at G w' hj, List.getElem?_set_ne (Ne.symm e), mfl_at G w hj, h2 j e]
  · rw [List.getElem?_eq_none (by simp [mfl]; omega), List.getElem?_eq_none (by simp [mfl]; omega)]
section QF
variable {G : qGX} {M : qMH} {fl : Nat} {p : Program} {e : Env} {s : State} {m : MethodId} {args : Array Value} {below : List Frame} {meth : Method} {c : Code} {Z : State → Prop} {d0 : Drawn} {la : Array Slot} {H : Heap} {locs : List Loc} {cells slots pc idx : Nat} {rest : List Value} {w : qSt} {a k x : Nat} {q : vw_C} {o : Nat} {fs : List Value}
theorem P1 {u : Nat × va_E} (h : va_at (xD G) vwCl u H) : va_P (xD G) vwCl [u] H := by
  intro k q hk
  have : k = 0 := by have := (List.getElem?_eq_some_iff.mp hk).1; simp at this; omega
  subst this
  cases hk
  exact h
/-- a field is read: any object whose cell is known -/
theorem r_getf (C : qCx G M p s m args meth c) (hx : vwCl[x]? = some q) (hk : k < q.2.2) (hl : Cond.fieldLink (mY M).cls idx (q.2.1 k).1 (q.2.1 k).2.1 (q.2.1 k).2.2.1 ∈ wTG) (hat : va_at (xD G) vwCl (o, .inr (x, fs)) H) {v : Value} (hv : fs[k]? = some v) (hdec : decode (mC M) pc = .ok (.getfield idx, 3))
    (kk : W p (xL G) e (mR M) (s.setDrawn d0) m args below meth c H locs cells slots Z (F0 m (pc + 3) la (v :: rest))) : W p (xL G) e (mR M) (s.setDrawn d0) m args below meth c H locs cells slots Z (F0 m pc la (.ref o :: rest)) := by
  have ht := dr_words C.2.2.2.2.1 d0
  exact va_get C.1 C.2.1 ht (fun w hw => List.mem_cons_of_mem _ (uws_in hx w hw)) C.2.2.2.1 (C.2.2.2.2.2.2.2.2.1) (P1 hat) 0 rfl hx k hk (ht _ (List.mem_cons_of_mem _ hl)) (fun _ h => h) hv hdec kk
/-- a field is written -/
theorem r_putf (C : qCx G M p s m args meth c) (hlk : qLk G locs) (ho : (xH G).size ≤ o) (hx : vwCl[x]? = some q) (hk : k < q.2.2) (hl : Cond.fieldLink (mY M).cls idx (q.2.1 k).1 (q.2.1 k).2.1 (q.2.1 k).2.2.1 ∈ wTG) (hfin : (q.2.1 k).2.2.2 = false ∨ ((mY M).name = "<init>" ∧ (q.2.1 k).1 = (mY M).cls)) (hat : va_at (xD G) vwCl (o, .inr (x, fs)) H) (hlen : k < fs.length) {v : Value} (hn : narrow (vty x k) v = v) (hfit : Jvm.fits (vty x k) v = true) (hdec : decode (mC M) pc = .ok (.putfield idx, 3))
    (kk : ∀ (H1 : Heap) (locs1 : List Loc), va_at (xD G) vwCl (o, .inr (x, fs.set k v)) H1 → H1.size = H.size → (∀ b : Nat, b ≠ o → H1[b]? = H[b]?) → qLk G locs1 → W p (xL G) e (mR M) (s.setDrawn d0) m args below meth c H1 locs1 cells slots Z (F0 m (pc + 3) la rest)) :
    W p (xL G) e (mR M) (s.setDrawn d0) m args below meth c H locs cells slots Z (F0 m pc la (v :: .ref o :: rest)) := by
  have ht := dr_words C.2.2.2.2.1 d0
  have hK : va_K (xD G) vwCl (tysL G) (s.setDrawn d0) := C.2.2.2.2.2.2.2.2.1
  have hown : (s.setDrawn d0).vm.findClass (mY M).cls = some m.cls := C.2.2.2.1
  have hnm : meth.name = (mY M).name := C.2.2.2.2.2.2.2.1
  have hin : ∀ w ∈ u_ws q.1 q.2.1 q.2.2, w ∈ wsM M := fun w hw => List.mem_cons_of_mem _ (uws_in hx w hw)
  have hlink := ht _ (List.mem_cons_of_mem _ hl)
  have hap := va_apart (own := (mY M).cls) ht hin (vty x) (vty_ok x q hx) (vnm_ok x q hx) hK hx
  obtain ⟨r, h1, cell, q1, q2, q3, q4⟩ := hat
  have hr : r = q := Option.some.inj (h1.symm.trans hx)
  subst hr
  obtain ⟨hS, hfc, kC, hkC, hkind⟩ := hK.1 x _ hx
  obtain ⟨cf, kf, fi, f, hi, hsl⟩ := hS k hk
  have hlay := ht _ (hin _ (u_in_lay hk))
  have hst := (u_facts hfc hkC (u_lays ht hin hk) hi).1
  have hd := vty_ok x r hx k hk
  have key : ∀ H' : Heap, H'[o]? = some (cell.setSlot f.slot v) → H'.size = H.size → (∀ b, b ≠ o → H'[b]? = H[b]?) → W p (xL G) e (mR M) (s.setDrawn d0) m args below meth c H' (locs ++ [⟨o, f.slot⟩]) cells slots Z (F0 m (pc + 3) la rest) := by
    intro H' e1 e2 e3
    rw [hsl] at e1 ⊢
    refine kk H' _ ⟨_, hx, t_OB.to (V := updV (vp_V fs) k v) ⟨_, e1, q2, q3, t_set q4 hap hk v⟩ (fun j _ => vp_updV_set hlen v j)⟩ e2 e3 (fun y hy => ?_)
    rcases List.mem_append.mp hy with h | h
    · exact hlk y h
    · rw [List.mem_singleton.mp h]; exact ho
  unfold u_lay at hlay
  by_cases hf : (r.2.1 k).2.2.2 = true
  · rw [if_pos hf] at hlay
    rcases hfin with h | ⟨hname, hdecl⟩
    · rw [hf] at h; cases h
    · have hcf : m.cls = cf := by
        obtain ⟨_, _, c', _, _, _, -, -, hf', -, -, -, hown2, -⟩ := Cond.laysFinal_spec hlay
        have e1 : c' = cf := by have := hi.symm.trans hf'; simp at this; exact this.1.symm
        rw [hdecl] at hown2
        rw [← e1]; exact Option.some.inj (C.2.2.2.1.symm.trans hown2)
      have h6 := u_fits hfc hkC hkind (Or.inr hlay) hi hd hn hfit
      exact W.putFinK (s := s.setDrawn d0) C.1 C.2.1 hown hlink hi hst hcf (hnm.trans hname) (by rw [q2]; exact h6) q1 q3 (by rw [hsl]; exact k2_hasslot (q4 k hk)) rfl rfl hdec key
  · rw [if_neg hf] at hlay
    have h6 := u_store hfc hkC hkind hlay hi hd hn hfit
    exact W.putK (s := s.setDrawn d0) C.1 C.2.1 (f := f) ⟨hown, hlink, ⟨_, _, _, hi⟩, hst⟩ (by rw [q2]; exact h6) q1 q3 (by rw [hsl]; exact k2_hasslot (q4 k hk)) rfl rfl hdec key
end QF
theorem and1_cases {v : Int32} (h : v &&& 1 = v) : v = 0 ∨ v = 1 := by
  have h1 : v.toBitVec &&& 1#32 = v.toBitVec := congrArg Int32.toBitVec h
  have h2 : v.toBitVec = 0#32 ∨ v.toBitVec = 1#32 := by
    generalize v.toBitVec = b at h1
    have hb : b.toNat < 2 := by
      rw [← h1, BitVec.toNat_and]
      exact Nat.lt_of_le_of_lt Nat.and_le_right (by decide)
    rcases (show b.toNat = 0 ∨ b.toNat = 1 by omega) with e | e
    · exact Or.inl (BitVec.eq_of_toNat_eq e)
    · exact Or.inr (BitVec.eq_of_toNat_eq e)
  rcases h2 with e | e
  · exact Or.inl (Int32.toBitVec_inj.mp e)
  · exact Or.inr (Int32.toBitVec_inj.mp e)
theorem fits_bool {v : Int32} (h : v &&& 1 = v) : Jvm.fits .boolean (.int v) = true := by
  rcases and1_cases h with e | e <;> subst e <;> rfl
theorem fits_ref {t : FieldType} (h : t.isReference = true) {v : Value} (hv : v = .null ∨ ∃ a, v = .ref a) : narrow t v = v ∧ Jvm.fits t v = true := by
  cases t <;> first | (simp [FieldType.isReference] at h; done) | (rcases hv with rfl | ⟨a, rfl⟩ <;> exact ⟨rfl, rfl⟩)
/-- the abstract writes -/
theorem zero_I {w : qSt} (hz : qZero w) {r k i : Nat} (v : Int32) (hd : ∀ a, gN w 2 0 ≤ a → ¬ (r < 12 ∧ i = a) ∧ ¬ (r = 20 ∧ k = a)) : qZero (sI w r k i v) := by
  intro a ha
  obtain ⟨h1, h2, h3⟩ := hz a ha
  obtain ⟨d1, d2⟩ := hd a ha
  refine ⟨h1, fun r' k' hr => ⟨?_, (h2 r' k' hr).2⟩, fun j => ⟨?_, (h3 j).2⟩⟩
  · show u3 w.1 r k i v r' k' a = 0
    rw [u3_off _ _ (fun q => d1 ⟨by omega, q.2.2.symm⟩)]
    exact (h2 r' k' hr).1
  · show u3 w.1 r k i v 20 a j = 0
    rw [u3_off _ _ (fun q => d2 ⟨q.1.symm, q.2.1.symm⟩)]
    exact (h3 j).1
theorem zero_J {w : qSt} (hz : qZero w) {r k i : Nat} (v : Int64) (hd : ∀ a, gN w 2 0 ≤ a → ¬ (r < 12 ∧ i = a) ∧ ¬ (r = 21 ∧ k = a)) : qZero (sJ w r k i v) := by
  intro a ha
  obtain ⟨h1, h2, h3⟩ := hz a ha
  obtain ⟨d1, d2⟩ := hd a ha
  refine ⟨h1, fun r' k' hr => ⟨(h2 r' k' hr).1, ?_, (h2 r' k' hr).2.2⟩, fun j => ⟨(h3 j).1, ?_, (h3 j).2.2⟩⟩
  · show u3 w.2.1 r k i v r' k' a = 0
    rw [u3_off _ _ (fun q => d1 ⟨by omega, q.2.2.symm⟩)]
    exact (h2 r' k' hr).2.1
  · show u3 w.2.1 r k i v 21 a j = 0
    rw [u3_off _ _ (fun q => d2 ⟨q.1.symm, q.2.1.symm⟩)]
    exact (h3 j).2.1
theorem zero_R {w : qSt} (hz : qZero w) {r k i : Nat} (v : Option Nat) (hd : ∀ a, gN w 2 0 ≤ a → ¬ (r < 12 ∧ i = a) ∧ ¬ (r = 23 ∧ k = a)) : qZero (sR w r k i v) := by
  intro a ha
  obtain ⟨h1, h2, h3⟩ := hz a ha
  obtain ⟨d1, d2⟩ := hd a ha
  refine ⟨h1, fun r' k' hr => ⟨(h2 r' k' hr).1, (h2 r' k' hr).2.1, ?_⟩, fun j => ⟨(h3 j).1, (h3 j).2.1, ?_⟩⟩
  · show u3 w.2.2.1 r k i v r' k' a = none
    rw [u3_off _ _ (fun q => d1 ⟨by omega, q.2.2.symm⟩)]
    exact (h2 r' k' hr).2.2
  · show u3 w.2.2.1 r k i v 23 a j = none
    rw [u3_off _ _ (fun q => d2 ⟨q.1.symm, q.2.1.symm⟩)]
    exact (h3 j).2.2
section QW
variable {G : qGX} {w : qSt} {x k a b : Nat}
theorem same_I (v : Int32) {r i : Nat} (h : (r < 12 ∧ b ≠ i) ∨ (r = 20 ∧ b ≠ k)) : cellOf G (sI w r k i v) b = cellOf G w b := by
  refine cell_same G rfl (fun hb j => ⟨?_, rfl, rfl⟩) (fun _ j => ⟨?_, rfl⟩) ?_ rfl (fun _ => rfl) (fun _ => ⟨?_, rfl⟩)
  · show u3 w.1 r k i v (gN w 0 b) j b = w.1 (gN w 0 b) j b; exact u3_off _ _ (fun q => by omega)
  · show u3 w.1 r k i v 12 j 0 = w.1 12 j 0; exact u3_off _ _ (fun q => by omega)
  · funext j; show u3 w.1 r k i v 20 b j = w.1 20 b j; exact u3_off _ _ (fun q => by omega)
  · funext j; show u3 w.1 r k i v 40 (gN w 0 b - 40) j = w.1 40 (gN w 0 b - 40) j; exact u3_off _ _ (fun q => by omega)
theorem same_J (v : Int64) {r i : Nat} (h : (r < 12 ∧ b ≠ i) ∨ (r = 21 ∧ b ≠ k)) : cellOf G (sJ w r k i v) b = cellOf G w b := by
  refine cell_same G rfl (fun hb j => ⟨rfl, ?_, rfl⟩) (fun _ j => ⟨rfl, ?_⟩) rfl ?_ (fun _ => rfl) (fun _ => ⟨rfl, ?_⟩)
  · show u3 w.2.1 r k i v (gN w 0 b) j b = w.2.1 (gN w 0 b) j b; exact u3_off _ _ (fun q => by omega)
  · show u3 w.2.1 r k i v 12 j 0 = w.2.1 12 j 0; exact u3_off _ _ (fun q => by omega)
  · funext j; show u3 w.2.1 r k i v 21 b j = w.2.1 21 b j; exact u3_off _ _ (fun q => by omega)
  · funext j; show u3 w.2.1 r k i v 40 (gN w 0 b - 40) j = w.2.1 40 (gN w 0 b - 40) j; exact u3_off _ _ (fun q => by omega)
theorem same_R (v : Option Nat) {r i : Nat} (h : (r < 12 ∧ b ≠ i) ∨ (r = 23 ∧ b ≠ k)) : cellOf G (sR w r k i v) b = cellOf G w b := by
  refine cell_same G rfl (fun hb j => ⟨rfl, rfl, ?_⟩) (fun _ j => ⟨rfl, rfl⟩) rfl rfl (fun j => ?_) (fun _ => ⟨rfl, rfl⟩)
  · show u3 w.2.2.1 r k i v (gN w 0 b) j b = w.2.2.1 (gN w 0 b) j b; exact u3_off _ _ (fun q => by omega)
  · show u3 w.2.2.1 r k i v 23 b j = w.2.2.1 23 b j; exact u3_off _ _ (fun q => by omega)
/-- the model's own: every other cell stays -/
theorem same_mI (v : Int32) (hb : gN w 0 b ≠ 12) : cellOf G (sI w 12 k 0 v) b = cellOf G w b := by
  refine cell_same G rfl (fun hb j => ⟨?_, rfl, rfl⟩) (fun h j => absurd h hb) ?_ rfl (fun _ => rfl) (fun _ => ⟨?_, rfl⟩)
  · show u3 w.1 12 k 0 v (gN w 0 b) j b = w.1 (gN w 0 b) j b; exact u3_off _ _ (fun q => by omega)
  · funext j; show u3 w.1 12 k 0 v 20 b j = w.1 20 b j; exact u3_off _ _ (fun q => by omega)
  · funext j; show u3 w.1 12 k 0 v 40 (gN w 0 b - 40) j = w.1 40 (gN w 0 b - 40) j; exact u3_off _ _ (fun q => by omega)
theorem same_mJ (v : Int64) (hb : gN w 0 b ≠ 12) : cellOf G (sJ w 12 k 0 v) b = cellOf G w b := by
  refine cell_same G rfl (fun hb j => ⟨rfl, ?_, rfl⟩) (fun h j => absurd h hb) rfl ?_ (fun _ => rfl) (fun _ => ⟨rfl, ?_⟩)
  · show u3 w.2.1 12 k 0 v (gN w 0 b) j b = w.2.1 (gN w 0 b) j b; exact u3_off _ _ (fun q => by omega)
  · funext j; show u3 w.2.1 12 k 0 v 21 b j = w.2.1 21 b j; exact u3_off _ _ (fun q => by omega)
  · funext j; show u3 w.2.1 12 k 0 v 40 (gN w 0 b - 40) j = w.2.1 40 (gN w 0 b - 40) j; exact u3_off _ _ (fun q => by omega)
theorem same_aI (v : Int32) {r i : Nat} (hb : gN w 0 b ≠ 40 + r) : cellOf G (sI w 40 r i v) b = cellOf G w b := by
  refine cell_same G rfl (fun hb j => ⟨?_, rfl, rfl⟩) (fun _ j => ⟨?_, rfl⟩) ?_ rfl (fun _ => rfl) (fun _ => ⟨?_, rfl⟩)
  · show u3 w.1 40 r i v (gN w 0 b) j b = w.1 (gN w 0 b) j b; exact u3_off _ _ (fun q => by omega)
  · show u3 w.1 40 r i v 12 j 0 = w.1 12 j 0; exact u3_off _ _ (fun q => by omega)
  · funext j; show u3 w.1 40 r i v 20 b j = w.1 20 b j; exact u3_off _ _ (fun q => by omega)
  · funext j; show u3 w.1 40 r i v 40 (gN w 0 b - 40) j = w.1 40 (gN w 0 b - 40) j; exact u3_off _ _ (fun q => by omega)
theorem same_aJ (v : Int64) {r i : Nat} (hb : gN w 0 b ≠ 40 + r) : cellOf G (sJ w 40 r i v) b = cellOf G w b := by
  refine cell_same G rfl (fun hb j => ⟨rfl, ?_, rfl⟩) (fun _ j => ⟨rfl, ?_⟩) rfl ?_ (fun _ => rfl) (fun _ => ⟨rfl, ?_⟩)
  · show u3 w.2.1 40 r i v (gN w 0 b) j b = w.2.1 (gN w 0 b) j b; exact u3_off _ _ (fun q => by omega)
  · show u3 w.2.1 40 r i v 12 j 0 = w.2.1 12 j 0; exact u3_off _ _ (fun q => by omega)
  · funext j; show u3 w.2.1 40 r i v 21 b j = w.2.1 21 b j; exact u3_off _ _ (fun q => by omega)
  · funext j; show u3 w.2.1 40 r i v 40 (gN w 0 b - 40) j = w.2.1 40 (gN w 0 b - 40) j; exact u3_off _ _ (fun q => by omega)
end QW
