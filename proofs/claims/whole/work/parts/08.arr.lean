/-! ===== rows of the walk: arrays, new cells ===== -/
section QA
variable {G : qGX} {M : qMH} {Q : Option Value → qSt → Prop} {pc idx : Nat} {ls : List (Option Value)} {rest : List Value} {q : Nat × Nat} {w : qSt} {a k x r : Nat} {i : Int32}
theorem cell_lowI (G : qGX) {w : qSt} {a : Nat} (h : gN w 0 a = 19 ∨ gN w 0 a = 20) : cellOf G w a = .inl (xA G 0, gN w 1 a, .inl (gI w 20 a)) := by
  unfold cellOf
  rw [if_neg (by omega), if_neg (by omega), if_pos (by omega)]
theorem w_iald (hdec : decode (mC M) pc = .ok (.iaload, 1)) (hK : gN w 0 a = 19 ∨ gN w 0 a = 20) (hi : vp_in i (gN w 1 a)) (kk : Wq G M (pc + 1) ls (.int (gI w 20 a i.toNatClampNeg) :: rest) q w Q) : Wq G M pc ls (.int i :: .ref a :: rest) q w Q := by
  intro fl p e s m args below meth c Z hmm C F d0 la H locs hd hlv hS hlk h1 h2
  have hT := C.2.2.2.2.2.2.2.2
  have K := kk fl p e s m args below meth c Z hmm C F d0 la H locs hd hlv hS hlk h1 h2
  have hlow := hS.2.2.2.2.1
  have hvS : va_S (fun q => (xH G).size ≤ q) (xH G) H locs := ⟨by have h3 := hS.1; have h4 := hlow.1; omega, fun q h3 _ => hS.2.1 q h3, hlk⟩
  rcases Nat.lt_or_ge a 2 with ha | ha
  · rcases (show a = 0 ∨ a = 1 by omega) with rfl | rfl
    · have hX : va_X (xS G).1 (xS G).2.1 (xS G).2.2 (s.setDrawn d0) (xH G) := hT.2.2.2.2.1
      have hb : (xS G).1 < (xH G).size := by obtain ⟨scr, h, -⟩ := hX; exact (Array.getElem?_eq_some_iff.mp h).1
      rw [hlow.2.2.2.1] at hi
      rw [hlow.2.2.2.2.2.1] at K
      exact va_sld C.1 C.2.1 hX hb (Nat.not_le.mpr hb) hvS hi hdec K
    · have hX : va_X (xW G) 8 wider8 (s.setDrawn d0) (xH G) := hT.2.2.2.2.2
      have hb : xW G < (xH G).size := by obtain ⟨scr, h, -⟩ := hX; exact (Array.getElem?_eq_some_iff.mp h).1
      rw [hlow.2.2.2.2.1] at hi
      rw [hlow.2.2.2.2.2.2] at K
      exact va_sld C.1 C.2.1 hX hb (Nat.not_le.mpr hb) hvS hi hdec K
  · have hn : a < gN w 2 0 := by
      rcases Nat.lt_or_ge a (gN w 2 0) with h | h
      · exact h
      · have := (hS.2.2.2.1 a h).1; omega
    have hat := hS.2.2.1 a ha hn
    rw [cell_lowI G hK] at hat
    have hKK : va_K (xD G) vwCl (tysL G) (s.setDrawn d0) := hT.1
    exact va_iald C.1 C.2.1 hKK (P1 hat) 0 0 rfl rfl hi hdec K
theorem w_zald (hdec : decode (mC M) pc = .ok (.baload, 1)) (hK : gN w 0 a = 22) (hi : vp_in i (gN w 1 a)) (kk : Wq G M (pc + 1) ls (.int (gI w 20 a i.toNatClampNeg) :: rest) q w Q) : Wq G M pc ls (.int i :: .ref a :: rest) q w Q := by
  intro fl p e s m args below meth c Z hmm C F d0 la H locs hd hlv hS hlk h1 h2
  have hat := sim_cell hS hK (by omega) (by omega)
  rw [cell_Z G hK] at hat
  have hKK : va_K (xD G) vwCl (tysL G) (s.setDrawn d0) := C.2.2.2.2.2.2.2.2.1
  exact va_zald C.1 C.2.1 hKK (P1 hat) 0 2 rfl rfl hi hdec (kk fl p e s m args below meth c Z hmm C F d0 la H locs hd hlv hS hlk h1 h2)
theorem w_lald (hdec : decode (mC M) pc = .ok (.laload, 1)) (hK : gN w 0 a = 21) (hi : vp_in i (gN w 1 a)) (kk : Wq G M (pc + 1) ls (.long (gJ w 21 a i.toNatClampNeg) :: rest) q w Q) : Wq G M pc ls (.int i :: .ref a :: rest) q w Q := by
  intro fl p e s m args below meth c Z hmm C F d0 la H locs hd hlv hS hlk h1 h2
  have hat := sim_cell hS hK (by omega) (by omega)
  rw [cell_J G hK] at hat
  have hKK : va_K (xD G) vwCl (tysL G) (s.setDrawn d0) := C.2.2.2.2.2.2.2.2.1
  exact va_lald C.1 C.2.1 hKK (P1 hat) 0 1 rfl rfl hi hdec (kk fl p e s m args below meth c Z hmm C F d0 la H locs hd hlv hS hlk h1 h2)
/-- the element classes of the arrays of references: kind 23 + e -/
def refK (x : Nat) : Bool := x == 23 || x == 24 || x == 25 || x == 26 || x == 28 || x == 30 || x == 31
theorem refK_ty (G : qGX) {x : Nat} (h : refK x = true) : ∃ (u : vw_C), vwCl[x - 23]? = some u ∧ (tysL G)[x - 20]? = some (xA G (x - 20), .object u.1) ∧ u.1 ∈ overL ∧ 23 ≤ x ∧ x < 32 := by
  have hx : x = 23 ∨ x = 24 ∨ x = 25 ∨ x = 26 ∨ x = 28 ∨ x = 30 ∨ x = 31 := by simpa [refK, or_assoc] using h
  rcases hx with rfl | rfl | rfl | rfl | rfl | rfl | rfl <;> exact ⟨_, rfl, rfl, by decide, by omega, by omega⟩
theorem w_aald {v : Value} (hdec : decode (mC M) pc = .ok (.aaload, 1)) (hr : refK x = true) (hK : gN w 0 a = x) (hi : vp_in i (gN w 1 a)) (hv : va_rf (rr G (gR w 23 a i.toNatClampNeg)) = rv G v) (kk : Wq G M (pc + 1) ls (v :: rest) q w Q) : Wq G M pc ls (.int i :: .ref a :: rest) q w Q := by
  intro fl p e s m args below meth c Z hmm C F d0 la H locs hd hlv hS hlk h1 h2
  obtain ⟨u, -, ht, -, g1, g2⟩ := refK_ty G hr
  have hat := sim_cell hS hK (by omega) (by omega)
  rw [cell_R G hK g1 (by omega)] at hat
  have hKK : va_K (xD G) vwCl (tysL G) (s.setDrawn d0) := C.2.2.2.2.2.2.2.2.1
  have K := kk fl p e s m args below meth c Z hmm C F d0 la H locs hd hlv hS hlk h1 h2
  rw [List.map_cons, ← hv] at K
  exact va_aldq C.1 C.2.1 hKK (P1 hat) 0 (x - 20) rfl ht hi hdec K
/-- the arrays of the model -/
theorem mode_at {G : qGX} {fl : Nat} {w : qSt} {H : Heap} (hS : qSim G fl w H) (hfl : fl = 1) {r : Nat} (hr : r < 38) : gN w 0 (80 + r) = 40 + r := by
  have h3 := hS.2.2.2.2.2.2.1
  have h4 := hS.2.2.2.2.2.2.2.1
  exact (hS.2.2.2.2.2.2.2.2 (by omega)).2 r hr
theorem w_ialdM (hm : mM M = true) (hdec : decode (mC M) pc = .ok (.iaload, 1)) (hr : r < 38) (ht : mty r = 0) (hi : vp_in i (mln r)) (kk : Wq G M (pc + 1) ls (.int (gI w 40 r i.toNatClampNeg) :: rest) q w Q) : Wq G M pc ls (.int i :: .ref (80 + r) :: rest) q w Q := by
  intro fl p e s m args below meth c Z hmm C F d0 la H locs hd hlv hS hlk h1 h2
  have hK := mode_at hS (hmm hm) hr
  have hat := sim_cell hS hK (by omega) (by omega)
  rw [cell_mA G hK, if_neg (by omega), if_neg (by omega)] at hat
  have hKK : va_K (xD G) vwCl (tysL G) (s.setDrawn d0) := C.2.2.2.2.2.2.2.2.1
  exact va_iald C.1 C.2.1 hKK (P1 hat) 0 0 rfl rfl hi hdec (kk fl p e s m args below meth c Z hmm C F d0 la H locs hd hlv hS hlk h1 h2)
theorem w_zaldM (hm : mM M = true) (hdec : decode (mC M) pc = .ok (.baload, 1)) (hr : r < 38) (ht : mty r = 3) (hi : vp_in i (mln r)) (kk : Wq G M (pc + 1) ls (.int (gI w 40 r i.toNatClampNeg) :: rest) q w Q) : Wq G M pc ls (.int i :: .ref (80 + r) :: rest) q w Q := by
  intro fl p e s m args below meth c Z hmm C F d0 la H locs hd hlv hS hlk h1 h2
  have hK := mode_at hS (hmm hm) hr
  have hat := sim_cell hS hK (by omega) (by omega)
  rw [cell_mA G hK, if_neg (by omega), if_pos ht] at hat
  have hKK : va_K (xD G) vwCl (tysL G) (s.setDrawn d0) := C.2.2.2.2.2.2.2.2.1
  exact va_zald C.1 C.2.1 hKK (P1 hat) 0 2 rfl rfl hi hdec (kk fl p e s m args below meth c Z hmm C F d0 la H locs hd hlv hS hlk h1 h2)
theorem w_laldM (hm : mM M = true) (hdec : decode (mC M) pc = .ok (.laload, 1)) (hr : r < 38) (ht : mty r = 1) (hi : vp_in i (mln r)) (kk : Wq G M (pc + 1) ls (.long (gJ w 40 r i.toNatClampNeg) :: rest) q w Q) : Wq G M pc ls (.int i :: .ref (80 + r) :: rest) q w Q := by
  intro fl p e s m args below meth c Z hmm C F d0 la H locs hd hlv hS hlk h1 h2
  have hK := mode_at hS (hmm hm) hr
  have hat := sim_cell hS hK (by omega) (by omega)
  rw [cell_mA G hK, if_pos ht] at hat
  have hKK : va_K (xD G) vwCl (tysL G) (s.setDrawn d0) := C.2.2.2.2.2.2.2.2.1
  exact va_lald C.1 C.2.1 hKK (P1 hat) 0 1 rfl rfl hi hdec (kk fl p e s m args below meth c Z hmm C F d0 la H locs hd hlv hS hlk h1 h2)
theorem w_alen (hdec : decode (mC M) pc = .ok (.arraylength, 1)) (hK : gN w 0 a = 20 ∨ gN w 0 a = 21 ∨ gN w 0 a = 22 ∨ refK (gN w 0 a) = true ∨ a = 0) (kk : Wq G M (pc + 1) ls (.int (nI (gN w 1 a)) :: rest) q w Q) : Wq G M pc ls (.ref a :: rest) q w Q := by
  intro fl p e s m args below meth c Z hmm C F d0 la H locs hd hlv hS hlk h1 h2
  have hT := C.2.2.2.2.2.2.2.2
  have hKK : va_K (xD G) vwCl (tysL G) (s.setDrawn d0) := hT.1
  have K := kk fl p e s m args below meth c Z hmm C F d0 la H locs hd hlv hS hlk h1 h2
  rcases hK with h | h | h | h | rfl
  · have hat := sim_cell hS h (by omega) (by omega)
    rw [cell_I G h] at hat
    exact va_alen C.1 C.2.1 hKK (P1 hat) 0 0 rfl rfl rfl hdec K
  · have hat := sim_cell hS h (by omega) (by omega)
    rw [cell_J G h] at hat
    exact va_alen C.1 C.2.1 hKK (P1 hat) 0 1 rfl rfl rfl hdec K
  · have hat := sim_cell hS h (by omega) (by omega)
    rw [cell_Z G h] at hat
    exact va_alen C.1 C.2.1 hKK (P1 hat) 0 2 rfl rfl rfl hdec K
  · obtain ⟨u, -, ht, -, g1, g2⟩ := refK_ty G h
    have hat := sim_cell hS (k := gN w 0 a) rfl (by omega) (by omega)
    rw [cell_R G rfl g1 (by omega)] at hat
    exact va_alen C.1 C.2.1 hKK (P1 hat) 0 _ rfl ht rfl hdec K
  · have hlow := hS.2.2.2.2.1
    have hX : va_X (xS G).1 (xS G).2.1 (xS G).2.2 (s.setDrawn d0) (xH G) := hT.2.2.2.2.1
    have hb : (xS G).1 < (xH G).size := by obtain ⟨scr, h, -⟩ := hX; exact (Array.getElem?_eq_some_iff.mp h).1
    have hvS : va_S (fun q => (xH G).size ≤ q) (xH G) H locs := ⟨by have h3 := hS.1; have h4 := hlow.1; omega, fun q h3 _ => hS.2.1 q h3, hlk⟩
    rw [hlow.2.2.2.1] at K
    exact va_slen C.1 C.2.1 hX hb (Nat.not_le.mpr hb) hvS hdec K
theorem lk_app {G : qGX} {locs : List Loc} {o k : Nat} (h : qLk G locs) (ho : (xH G).size ≤ o) : qLk G (locs ++ [⟨o, k⟩]) := fun y hy => by
  rcases List.mem_append.mp hy with h1 | h1
  · exact h y h1
  · rw [List.mem_singleton.mp h1]; exact ho
theorem not_in {i : Int32} {n : Nat} (h : vp_in i n) {cA : ClassId} {f : Nat → Value} : ¬ (i < 0 ∨ (arrV cA n f).slots.size ≤ i.toNatClampNeg) := by rw [arrV_size]; exact h
theorem upd_arr {α : Type} (mk : α → Value) (f : Nat → Nat → Nat → α) (r k j : Nat) (v : α) : updV (fun i => mk (f r k i)) j (mk v) = fun i => mk (u3 f r k j v r k i) := by
  funext i
  by_cases h : i = j
  · subst h; simp [updV, u3]
  · simp [updV, u3, h]
theorem w_iast {n : Int32} (hdec : decode (mC M) pc = .ok (.iastore, 1)) (hK : gN w 0 a = 20) (hi : vp_in i (gN w 1 a)) (kk : Wq G M (pc + 1) ls rest q (sI w 20 a i.toNatClampNeg n) Q) : Wq G M pc ls (.int n :: .int i :: .ref a :: rest) q w Q := by
  intro fl p e s m args below meth c Z hmm C F d0 la H locs hd hlv hS hlk h1 h2
  have hin := sim_in hS hK (by omega) (by omega)
  have hat := sim_cell hS hK (by omega) (by omega)
  rw [cell_I G hK] at hat
  have hKK : va_K (xD G) vwCl (tysL G) (s.setDrawn d0) := C.2.2.2.2.2.2.2.2.1
  refine W.iast (s := s.setDrawn d0) C.1 C.2.1 hat ((hKK.2 0 _ rfl).1 _ _) (fun q => by cases q) (not_in hi) rfl rfl hdec fun H1 e1 z oq => ?_
  refine kk fl p e s m args below meth c Z hmm C F d0 la H1 _ hd hlv ?_ (lk_app hlk (loc_big hin.1)) h1 h2
  refine sim_upd hS hin.1 ?_ z oq rfl (fun b hb => same_I n (Or.inr ⟨rfl, hb⟩)) (zero_I hS.2.2.2.1 n fun b hb => ⟨fun q => by omega, fun q => by omega⟩) ⟨?_, ?_⟩
  · rw [cell_I G (show gN (sI w 20 a i.toNatClampNeg n) 0 a = 20 from hK)]
    show H1[loc G a]? = some (vp_cell _ _)
    rw [e1, vp_cell_i]
    exact congrArg some ((arrV_store _ _ _ _ _).trans (congrArg _ (upd_arr Value.int w.1 20 a i.toNatClampNeg n)))
  · funext j; show u3 w.1 20 a _ n 20 0 j = w.1 20 0 j; exact u3_off _ _ (fun q => by omega)
  · funext j; show u3 w.1 20 a _ n 20 1 j = w.1 20 1 j; exact u3_off _ _ (fun q => by omega)
theorem w_zast {n : Int32} (hn : n &&& 1 = n) (hdec : decode (mC M) pc = .ok (.bastore, 1)) (hK : gN w 0 a = 22) (hi : vp_in i (gN w 1 a)) (kk : Wq G M (pc + 1) ls rest q (sI w 20 a i.toNatClampNeg n) Q) : Wq G M pc ls (.int n :: .int i :: .ref a :: rest) q w Q := by
  intro fl p e s m args below meth c Z hmm C F d0 la H locs hd hlv hS hlk h1 h2
  have hin := sim_in hS hK (by omega) (by omega)
  have hat := sim_cell hS hK (by omega) (by omega)
  rw [cell_Z G hK] at hat
  have hKK : va_K (xD G) vwCl (tysL G) (s.setDrawn d0) := C.2.2.2.2.2.2.2.2.1
  refine W.zast (s := s.setDrawn d0) C.1 C.2.1 hat ((hKK.2 2 _ rfl).1 _ _) (fun q => by cases q) (not_in hi) rfl rfl hdec fun H1 e1 z oq => ?_
  refine kk fl p e s m args below meth c Z hmm C F d0 la H1 _ hd hlv ?_ (lk_app hlk (loc_big hin.1)) h1 h2
  rw [nar_bool hn] at e1
  refine sim_upd hS hin.1 ?_ z oq rfl (fun b hb => same_I n (Or.inr ⟨rfl, hb⟩)) (zero_I hS.2.2.2.1 n fun b hb => ⟨fun q => by omega, fun q => by omega⟩) ⟨?_, ?_⟩
  · rw [cell_Z G (show gN (sI w 20 a i.toNatClampNeg n) 0 a = 22 from hK)]
    show H1[loc G a]? = some (vp_cell _ _)
    rw [e1, vp_cell_i]
    exact congrArg some ((arrV_store _ _ _ _ _).trans (congrArg _ (upd_arr Value.int w.1 20 a i.toNatClampNeg n)))
  · funext j; show u3 w.1 20 a _ n 20 0 j = w.1 20 0 j; exact u3_off _ _ (fun q => by omega)
  · funext j; show u3 w.1 20 a _ n 20 1 j = w.1 20 1 j; exact u3_off _ _ (fun q => by omega)
theorem w_last {n : Int64} (hdec : decode (mC M) pc = .ok (.lastore, 1)) (hK : gN w 0 a = 21) (hi : vp_in i (gN w 1 a)) (kk : Wq G M (pc + 1) ls rest q (sJ w 21 a i.toNatClampNeg n) Q) : Wq G M pc ls (.long n :: .int i :: .ref a :: rest) q w Q := by
  intro fl p e s m args below meth c Z hmm C F d0 la H locs hd hlv hS hlk h1 h2
  have hin := sim_in hS hK (by omega) (by omega)
  have hat := sim_cell hS hK (by omega) (by omega)
  rw [cell_J G hK] at hat
  have hKK : va_K (xD G) vwCl (tysL G) (s.setDrawn d0) := C.2.2.2.2.2.2.2.2.1
  refine W.last (s := s.setDrawn d0) C.1 C.2.1 hat ((hKK.2 1 _ rfl).1 _ _) (fun q => by cases q) (not_in hi) rfl rfl hdec fun H1 e1 z oq => ?_
  refine kk fl p e s m args below meth c Z hmm C F d0 la H1 _ hd hlv ?_ (lk_app hlk (loc_big hin.1)) h1 h2
  refine sim_upd hS hin.1 ?_ z oq rfl (fun b hb => same_J n (Or.inr ⟨rfl, hb⟩)) (zero_J hS.2.2.2.1 n fun b hb => ⟨fun q => by omega, fun q => by omega⟩) ⟨rfl, rfl⟩
  rw [cell_J G (show gN (sJ w 21 a i.toNatClampNeg n) 0 a = 21 from hK)]
  show H1[loc G a]? = some (vp_cell _ _)
  rw [e1, vp_cell_l]
  exact congrArg some ((arrV_store _ _ _ _ _).trans (congrArg _ (upd_arr Value.long w.2.1 21 a i.toNatClampNeg n)))
end QA
