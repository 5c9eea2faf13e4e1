/-! ===== rows of the walk: references stored, the model's arrays written, new cells ===== -/
section QN
variable {G : qGX} {M : qMH} {Q : Option Value → qSt → Prop} {pc idx : Nat} {ls : List (Option Value)} {rest : List Value} {q : Nat × Nat} {w : qSt} {a k x r : Nat} {i : Int32}
theorem upd_arrR (G : qGX) (f : Nat → Nat → Nat → Option Nat) (r k j : Nat) (v : Option Nat) : updV (fun i => va_rf (rr G (f r k i))) j (va_rf (rr G v)) = fun i => va_rf (rr G (u3 f r k j v r k i)) := by
  funext i
  by_cases h : i = j
  · subst h; simp [updV, u3]
  · simp [updV, u3, h]
/-- an object of the element class, or null, comes into an array of references -/
theorem w_aast {b : Nat} (hdec : decode (mC M) pc = .ok (.aastore, 1)) (hr : refK x = true) (hK : gN w 0 a = x) (hi : vp_in i (gN w 1 a)) (hb : gN w 0 b + 23 = x) (kk : Wq G M (pc + 1) ls rest q (sR w 23 a i.toNatClampNeg (some b)) Q) : Wq G M pc ls (.ref b :: .int i :: .ref a :: rest) q w Q := by
  intro fl p e s m args below meth c Z hmm C F d0 la H locs hd hlv hS hlk h1 h2
  obtain ⟨u, hu, ht, -, g1, g2⟩ := refK_ty G hr
  have hin := sim_in hS hK (by omega) (by omega)
  have hat := sim_cell hS hK (by omega) (by omega)
  rw [cell_R G hK g1 (by omega)] at hat
  have hKb : gN w 0 b = x - 23 := by omega
  have hbt := sim_cell hS hKb (by omega) (by omega)
  rw [cell_obj G hKb (by omega)] at hbt
  have hKK : va_K (xD G) vwCl (tysL G) (s.setDrawn d0) := C.2.2.2.2.2.2.2.2.1
  obtain ⟨r', hr', cellV, v1, v2, v3, -⟩ := hbt
  have hcls := (hKK.1 _ u hu).2
  obtain ⟨kA, comp, k1, k2, k3, -⟩ := (hKK.2 _ _ ht).2
  have hcomp : comp = (xD G).1 (x - 23) := Option.some.inj (k3.symm.trans hcls.1)
  subst hcomp
  obtain ⟨kC, hkC, -⟩ := hcls.2
  have hlt : i.toNatClampNeg < gN w 1 a := Nat.not_le.mp fun q => hi (Or.inr q)
  have h0 : ¬ i < 0 := fun q => hi (Or.inl q)
  refine W.aast (s := s.setDrawn d0) C.1 C.2.1 hat (fun q h => by cases h) (fun h => by cases h) k1 k2 rfl hkC ⟨h0, by show _ < (arrV _ _ _).slots.size; rw [arrV_size]; exact hlt⟩ v1 (fun q h => by rw [v3] at h; cases h) (by rw [v2]; exact hkC) (by rw [v2]; exact va_assign hcls) rfl rfl hdec fun H1 e1 z oq => ?_
  refine kk fl p e s m args below meth c Z hmm C F d0 la H1 _ hd hlv ?_ (lk_app hlk (loc_big hin.1)) h1 h2
  refine sim_upd hS hin.1 ?_ z oq rfl (fun b hb => same_R _ (Or.inr ⟨rfl, hb⟩)) (zero_R hS.2.2.2.1 _ fun b hb => ⟨fun q => by omega, fun q => by omega⟩) ⟨rfl, rfl⟩
  rw [cell_R G (show gN (sR w 23 a i.toNatClampNeg (some b)) 0 a = x from hK) g1 (by omega)]
  show H1[loc G a]? = some (vp_cell _ _)
  rw [e1, vp_cell_q]
  exact congrArg some ((arrV_store _ _ _ _ _).trans (congrArg _ (upd_arrR G w.2.2.1 23 a i.toNatClampNeg (some b))))
theorem sim_mod {fl : Nat} {H H1 : Heap} {w' : qSt} (hS : qSim G fl w H) (hfl : fl = 1) (hr : r < 38) (hN : w'.2.2.2 = w.2.2.2) (hc : va_at (xD G) vwCl (loc G (80 + r), cellOf G w' (80 + r)) H1) (z : H1.size = H.size) (oq : ∀ q : Nat, q ≠ loc G (80 + r) → H1[q]? = H[q]?) (ho : ∀ b, gN w 0 b ≠ 40 + r → cellOf G w' b = cellOf G w b) (hz : qZero w') (hl : gI w' 20 0 = gI w 20 0 ∧ gI w' 20 1 = gI w 20 1) : qSim G fl w' H1 :=
  sim_upd hS (by omega) hc z oq hN (fun b hb => ho b (fun h => hb (hS.2.2.2.2.2.1.2 b r hr h))) hz hl
theorem w_iastM {n : Int32} (hm : mM M = true) (hdec : decode (mC M) pc = .ok (.iastore, 1)) (hr : r < 38) (ht : mty r = 0) (hi : vp_in i (mln r)) (kk : Wq G M (pc + 1) ls rest q (sI w 40 r i.toNatClampNeg n) Q) : Wq G M pc ls (.int n :: .int i :: .ref (80 + r) :: rest) q w Q := by
  intro fl p e s m args below meth c Z hmm C F d0 la H locs hd hlv hS hlk h1 h2
  have hK := mode_at hS (hmm hm) hr
  have hat := sim_cell hS hK (by omega) (by omega)
  rw [cell_mA G hK, if_neg (by omega), if_neg (by omega)] at hat
  have hKK : va_K (xD G) vwCl (tysL G) (s.setDrawn d0) := C.2.2.2.2.2.2.2.2.1
  refine W.iast (s := s.setDrawn d0) C.1 C.2.1 hat ((hKK.2 0 _ rfl).1 _ _) (fun q => by cases q) (not_in hi) rfl rfl hdec fun H1 e1 z oq => ?_
  refine kk fl p e s m args below meth c Z hmm C F d0 la H1 _ hd hlv ?_ (lk_app hlk (loc_big (by omega))) h1 h2
  refine sim_mod hS (hmm hm) hr rfl ?_ z oq (fun b hb => same_aI n hb) (zero_I hS.2.2.2.1 n fun b hb => ⟨fun q => by omega, fun q => by omega⟩) ⟨?_, ?_⟩
  · rw [cell_mA G (show gN (sI w 40 r i.toNatClampNeg n) 0 (80 + r) = 40 + r from hK), if_neg (by omega), if_neg (by omega)]
    show H1[loc G (80 + r)]? = some (vp_cell _ _)
    rw [e1, vp_cell_i]
    exact congrArg some ((arrV_store _ _ _ _ _).trans (congrArg _ (upd_arr Value.int w.1 40 r i.toNatClampNeg n)))
  · funext j; show u3 w.1 40 r i.toNatClampNeg n 20 0 j = w.1 20 0 j; exact u3_off _ _ (fun q => by omega)
  · funext j; show u3 w.1 40 r i.toNatClampNeg n 20 1 j = w.1 20 1 j; exact u3_off _ _ (fun q => by omega)
theorem w_zastM {n : Int32} (hm : mM M = true) (hn : n &&& 1 = n) (hdec : decode (mC M) pc = .ok (.bastore, 1)) (hr : r < 38) (ht : mty r = 3) (hi : vp_in i (mln r)) (kk : Wq G M (pc + 1) ls rest q (sI w 40 r i.toNatClampNeg n) Q) : Wq G M pc ls (.int n :: .int i :: .ref (80 + r) :: rest) q w Q := by
  intro fl p e s m args below meth c Z hmm C F d0 la H locs hd hlv hS hlk h1 h2
  have hK := mode_at hS (hmm hm) hr
  have hat := sim_cell hS hK (by omega) (by omega)
  rw [cell_mA G hK, if_neg (by omega), if_pos ht] at hat
  have hKK : va_K (xD G) vwCl (tysL G) (s.setDrawn d0) := C.2.2.2.2.2.2.2.2.1
  refine W.zast (s := s.setDrawn d0) C.1 C.2.1 hat ((hKK.2 2 _ rfl).1 _ _) (fun q => by cases q) (not_in hi) rfl rfl hdec fun H1 e1 z oq => ?_
  refine kk fl p e s m args below meth c Z hmm C F d0 la H1 _ hd hlv ?_ (lk_app hlk (loc_big (by omega))) h1 h2
  rw [nar_bool hn] at e1
  refine sim_mod hS (hmm hm) hr rfl ?_ z oq (fun b hb => same_aI n hb) (zero_I hS.2.2.2.1 n fun b hb => ⟨fun q => by omega, fun q => by omega⟩) ⟨?_, ?_⟩
  · rw [cell_mA G (show gN (sI w 40 r i.toNatClampNeg n) 0 (80 + r) = 40 + r from hK), if_neg (by omega), if_pos ht]
    show H1[loc G (80 + r)]? = some (vp_cell _ _)
    rw [e1, vp_cell_i]
    exact congrArg some ((arrV_store _ _ _ _ _).trans (congrArg _ (upd_arr Value.int w.1 40 r i.toNatClampNeg n)))
  · funext j; show u3 w.1 40 r i.toNatClampNeg n 20 0 j = w.1 20 0 j; exact u3_off _ _ (fun q => by omega)
  · funext j; show u3 w.1 40 r i.toNatClampNeg n 20 1 j = w.1 20 1 j; exact u3_off _ _ (fun q => by omega)
theorem w_lastM {n : Int64} (hm : mM M = true) (hdec : decode (mC M) pc = .ok (.lastore, 1)) (hr : r < 38) (ht : mty r = 1) (hi : vp_in i (mln r)) (kk : Wq G M (pc + 1) ls rest q (sJ w 40 r i.toNatClampNeg n) Q) : Wq G M pc ls (.long n :: .int i :: .ref (80 + r) :: rest) q w Q := by
  intro fl p e s m args below meth c Z hmm C F d0 la H locs hd hlv hS hlk h1 h2
  have hK := mode_at hS (hmm hm) hr
  have hat := sim_cell hS hK (by omega) (by omega)
  rw [cell_mA G hK, if_pos ht] at hat
  have hKK : va_K (xD G) vwCl (tysL G) (s.setDrawn d0) := C.2.2.2.2.2.2.2.2.1
  refine W.last (s := s.setDrawn d0) C.1 C.2.1 hat ((hKK.2 1 _ rfl).1 _ _) (fun q => by cases q) (not_in hi) rfl rfl hdec fun H1 e1 z oq => ?_
  refine kk fl p e s m args below meth c Z hmm C F d0 la H1 _ hd hlv ?_ (lk_app hlk (loc_big (by omega))) h1 h2
  refine sim_mod hS (hmm hm) hr rfl ?_ z oq (fun b hb => same_aJ n hb) (zero_J hS.2.2.2.1 n fun b hb => ⟨fun q => by omega, fun q => by omega⟩) ⟨rfl, rfl⟩
  rw [cell_mA G (show gN (sJ w 40 r i.toNatClampNeg n) 0 (80 + r) = 40 + r from hK), if_pos ht]
  show H1[loc G (80 + r)]? = some (vp_cell _ _)
  rw [e1, vp_cell_l]
  exact congrArg some ((arrV_store _ _ _ _ _).trans (congrArg _ (upd_arr Value.long w.2.1 40 r i.toNatClampNeg n)))
/-- a cell more -/
theorem sim_new {fl : Nat} {H H1 : Heap} {f1 : Nat → Nat} (hS : qSim G fl w H) {w' : qSt} (hx : x ≠ 12 ∧ x < 40 ∧ x ≠ 19)
    (e1 : w'.1 = w.1 ∧ w'.2.1 = w.2.1 ∧ w'.2.2.1 = w.2.2.1) (n0 : ∀ b, gN w' 0 b = if b = gN w 2 0 then x else gN w 0 b) (n1 : ∀ b, b ≠ gN w 2 0 → gN w' 1 b = gN w 1 b) (n2 : gN w' 2 0 = gN w 2 0 + 1) (n4 : gN w' 4 0 = gN w 4 0)
    (hc : va_at (xD G) vwCl (H.size, cellOf G w' (gN w 2 0)) H1) (z : H1.size = H.size + 1) (oq : ∀ b : Nat, b < H.size → H1[b]? = H[b]?) : qSim G fl w' H1 := by
  obtain ⟨g1, g2, g3, g4, g5, g6, g7, g8, g9⟩ := hS
  have hge : 2 ≤ gN w 2 0 := g5.1
  have hloc : loc G (gN w 2 0) = H.size := by rw [loc_ge hge]; omega
  have eI : gI w' = gI w := e1.1
  have eJ : gJ w' = gJ w := e1.2.1
  have eR : gR w' = gR w := e1.2.2
  have hsame : ∀ b, b ≠ gN w 2 0 → cellOf G w' b = cellOf G w b := by
    intro b hb
    unfold cellOf flds fv mfl mfv
    rw [n0 b, if_neg hb, n1 b hb, eI, eJ, eR]
  refine ⟨by rw [z, n2]; omega, fun b hb => ?_, fun b h2 hb => ?_, fun b hb => ?_, ?_, ⟨fun b hb => ?_, fun b r hr hb => ?_⟩, by rw [n4]; exact g7, by rw [n4]; exact g8, fun h => ?_⟩
  · rw [oq b (by omega)]; exact g2 b hb
  · by_cases e : b = gN w 2 0
    · rw [e, hloc]; exact hc
    · rw [hsame b e]
      rw [n2] at hb
      have := g3 b h2 (by omega)
      exact this.kept (oq _ this.lt)
  · rw [n2] at hb
    obtain ⟨q1, q2, q3⟩ := g4 b (by omega)
    rw [n0 b, if_neg (by omega), eI, eJ, eR]
    exact ⟨q1, q2, q3⟩
  · unfold qLow at g5 ⊢
    obtain ⟨l1, l2, l3, l4, l5, l6, l7⟩ := g5
    rw [n2, n0 0, n0 1, n1 0 (by omega), n1 1 (by omega), if_neg (by omega), if_neg (by omega), eI]
    exact ⟨by omega, l2, l3, l4, l5, l6, l7⟩
  · rw [n0 b] at hb
    split at hb
    · omega
    · exact g6.1 b hb
  · rw [n0 b] at hb
    split at hb
    · omega
    · exact g6.2 b r hr hb
  · rw [n4] at h
    obtain ⟨m1, m2⟩ := g9 h
    refine ⟨?_, fun r hr => ?_⟩
    · rw [n0, if_neg]
      · exact m1
      · intro e
        have := (g4 79 (by omega)).1
        omega
    · rw [n0, if_neg]
      · exact m2 r hr
      · intro e
        have := (g4 (80 + r) (by omega)).1
        have := m2 r hr
        omega
theorem nwO_n0 (w : qSt) (x b : Nat) : gN (nwO w x) 0 b = if b = gN w 2 0 then x else gN w 0 b := by
  show u2 (u2 w.2.2.2 0 (gN w 2 0) x) 2 0 (gN w 2 0 + 1) 0 b = _
  rw [u2_off _ _ (by omega)]
  by_cases h : b = gN w 2 0
  · rw [if_pos h, h, u2_at]
  · rw [if_neg h, u2_off _ _ (fun q => h q.2)]
theorem nwA_n0 (w : qSt) (x n b : Nat) : gN (nwA w x n) 0 b = if b = gN w 2 0 then x else gN w 0 b := by
  show u2 (u2 (u2 w.2.2.2 1 (gN w 2 0) n) 0 (gN w 2 0) x) 2 0 (gN w 2 0 + 1) 0 b = _
  rw [u2_off _ _ (by omega)]
  by_cases h : b = gN w 2 0
  · rw [if_pos h, h, u2_at]
  · rw [if_neg h, u2_off _ _ (fun q => h q.2), u2_off _ _ (by omega)]
theorem w_new {n : Nat} {u : vw_C} (hdec : decode (mC M) pc = .ok (.new idx, 3)) (hx : vwCl[x]? = some u) (hcl : Cond.classLink (mY M).cls idx u.1 ∈ wTG) (hinst : Cond.instantiable u.1 (nf x) ∈ wTG) (hini : Cond.initialized u.1 ∈ wTG)
    (hq : q.1 + 1 ≤ (mR M).cells ∧ q.2 + nf x ≤ (mR M).slots) (hn : gN w 2 0 = n) (kk : Wq G M (pc + 3) ls (.ref n :: rest) (q.1 + 1, q.2 + nf x) (nwO w x) Q) : Wq G M pc ls rest q w Q := by
  intro fl p e s m args below meth c Z hmm C F d0 la H locs hd hlv hS hlk h1 h2
  subst hn
  have ht := dr_words C.2.2.2.2.1 d0
  have hown : (s.setDrawn d0).vm.findClass (mY M).cls = some m.cls := C.2.2.2.1
  have hKK : va_K (xD G) vwCl (tysL G) (s.setDrawn d0) := C.2.2.2.2.2.2.2.2.1
  have hKn := hKK.1 x _ hx
  have hx12 := vw_lt hx
  have hge : 2 ≤ gN w 2 0 := hS.2.2.2.2.1.1
  have hloc : loc G (gN w 2 0) = H.size := by rw [loc_ge hge]; have := hS.1; omega
  refine W.newcK (s := s.setDrawn d0) C.1 C.2.1 hown (ht _ (List.mem_cons_of_mem _ hcl)) (ht _ (List.mem_cons_of_mem _ hinst)) (ht _ (List.mem_cons_of_mem _ hini)) rfl hdec hq.1 hq.2 hKn.2.1 rfl fun H1 kC hkC e1 z1 o1 => ?_
  have K := kk fl p e s m args below meth c Z hmm C F d0 la H1 locs hd hlv (sim_new (x := x) (f1 := fun _ => 0) hS ⟨by omega, by omega, by omega⟩ ⟨rfl, rfl, rfl⟩ (nwO_n0 w x) (fun b hb => ?_) ?_ ?_ ?_ z1 o1) hlk hq.1 hq.2
  · have e2 : (Value.ref (gN w 2 0) :: rest).map (rv G) = .ref H.size :: rest.map (rv G) := by
      show Value.ref (loc G (gN w 2 0)) :: _ = _
      rw [hloc]
    rw [e2] at K
    exact K
  · show u2 (u2 w.2.2.2 0 (gN w 2 0) x) 2 0 (gN w 2 0 + 1) 1 b = _
    rw [u2_off _ _ (by omega), u2_off _ _ (by omega)]
  · rfl
  · show u2 (u2 w.2.2.2 0 (gN w 2 0) x) 2 0 (gN w 2 0 + 1) 4 0 = _
    rw [u2_off _ _ (by omega), u2_off _ _ (by omega)]
  · rw [cell_obj G (show gN (nwO w x) 0 (gN w 2 0) = x by rw [nwO_n0, if_pos rfl]) hx12]
    refine ⟨u, hx, (u_born (vty x) ht (fun w hw => List.mem_cons_of_mem _ (uws_in hx w hw)) hKn hkC e1 (vty_ok x u hx)).to fun j hj => ?_⟩
    have hjn : j < nf x := by rw [← nf_ok x u hx]; exact hj
    have h53 : j < 53 := Nat.lt_of_lt_of_le hjn (nf_le ⟨x, hx12⟩)
    have hzero := (hS.2.2.2.1 (gN w 2 0) (Nat.le_refl _)).2.1 x j hx12
    rw [vp_flds G (nwO w x) _ hjn]
    show defaultValue (vty x j) = _
    rw [vty_dv ⟨x, hx12⟩ ⟨j, h53⟩ hjn]
    unfold fv
    rw [show gI (nwO w x) x j (gN w 2 0) = 0 from hzero.1, show gJ (nwO w x) x j (gN w 2 0) = 0 from hzero.2.1, show gR (nwO w x) x j (gN w 2 0) = none from hzero.2.2]
    rfl
theorem nwA_facts (w : qSt) (x n : Nat) : (∀ b, b ≠ gN w 2 0 → gN (nwA w x n) 1 b = gN w 1 b) ∧ gN (nwA w x n) 2 0 = gN w 2 0 + 1 ∧ gN (nwA w x n) 4 0 = gN w 4 0 ∧ gN (nwA w x n) 1 (gN w 2 0) = n := by
  refine ⟨fun b hb => ?_, ?_, ?_, ?_⟩
  · show u2 (u2 (u2 w.2.2.2 1 (gN w 2 0) n) 0 (gN w 2 0) x) 2 0 (gN w 2 0 + 1) 1 b = _
    rw [u2_off _ _ (by omega), u2_off _ _ (by omega), u2_off _ _ (fun q => hb q.2)]
  · rfl
  · show u2 (u2 (u2 w.2.2.2 1 (gN w 2 0) n) 0 (gN w 2 0) x) 2 0 (gN w 2 0 + 1) 4 0 = _
    rw [u2_off _ _ (by omega), u2_off _ _ (by omega), u2_off _ _ (by omega)]
  · show u2 (u2 (u2 w.2.2.2 1 (gN w 2 0) n) 0 (gN w 2 0) x) 2 0 (gN w 2 0 + 1) 1 (gN w 2 0) = _
    rw [u2_off _ _ (by omega), u2_off _ _ (by omega), u2_at]
/-- the kinds of arrays of numbers -/
def primK (t : ArrayType) : Nat := match t with
  | .int => 20
  | .long => 21
  | .boolean => 22
  | _ => 0
theorem w_newa {t : ArrayType} {n : Int32} {o : Nat} (hdec : decode (mC M) pc = .ok (.newarray t, 2)) (ht : primK t ≠ 0) (hac : Cond.arrayClass (newarray.typeOf t) ∈ wTG) (hn : ¬ n < 0) (hn2 : n.toNatClampNeg ≤ 65536)
    (hq : q.1 + 1 ≤ (mR M).cells ∧ q.2 + n.toNatClampNeg ≤ (mR M).slots) (ho : gN w 2 0 = o) (kk : Wq G M (pc + 2) ls (.ref o :: rest) (q.1 + 1, q.2 + n.toNatClampNeg) (nwA w (primK t) n.toNatClampNeg) Q) : Wq G M pc ls (.int n :: rest) q w Q := by
  intro fl p e s m args below meth c Z hmm C F d0 la H locs hd hlv hS hlk h1 h2
  subst ho
  have hts := dr_words C.2.2.2.2.1 d0
  have hKK : va_K (xD G) vwCl (tysL G) (s.setDrawn d0) := C.2.2.2.2.2.2.2.2.1
  have hge : 2 ≤ gN w 2 0 := hS.2.2.2.2.1.1
  have hloc : loc G (gN w 2 0) = H.size := by rw [loc_ge hge]; have := hS.1; omega
  have hty : t = .int ∨ t = .long ∨ t = .boolean := by cases t <;> first | (exact absurd rfl ht) | simp
  have hbytes : n.toNatClampNeg * componentBytes (newarray.typeOf t) ≤ 536870912 := by
    have : componentBytes (newarray.typeOf t) ≤ 8 := by rcases hty with rfl | rfl | rfl <;> decide
    exact Nat.le_trans (Nat.mul_le_mul hn2 this) (by decide)
  obtain ⟨f1, f2, f3, f4⟩ := nwA_facts w (primK t) n.toNatClampNeg
  refine W.newa (s := s.setDrawn d0) C.1 C.2.1 (hts _ (List.mem_cons_of_mem _ hac)) rfl hdec rfl hn hbytes hq.1 hq.2 fun cA kA comp c1 c2 c3 => ?_
  generalize hH1 : H.push ({ cls := cA, slots := Array.replicate n.toNatClampNeg (defaultValue (newarray.typeOf t)), vm := .none } : Cell) = H1
  have z1 : H1.size = H.size + 1 := by rw [← hH1, Array.size_push]
  have e1 : H1[H.size]? = some (arrV cA n.toNatClampNeg (fun _ => defaultValue (newarray.typeOf t))) := by rw [← hH1, Array.getElem?_push_size, ← arrV_new]
  have o1 : ∀ b : Nat, b < H.size → H1[b]? = H[b]? := fun b hb => by rw [← hH1, Array.getElem?_push, if_neg (Nat.ne_of_lt hb)]
  have hpk : primK t ≠ 12 ∧ primK t < 40 ∧ primK t ≠ 19 := by rcases hty with rfl | rfl | rfl <;> decide
  have K := kk fl p e s m args below meth c Z hmm C F d0 la H1 locs hd hlv (sim_new (x := primK t) (f1 := fun _ => 0) hS hpk ⟨rfl, rfl, rfl⟩ (nwA_n0 w _ _) f1 f2 f3 ?_ z1 o1) hlk hq.1 hq.2
  · have e2 : (Value.ref (gN w 2 0) :: rest).map (rv G) = .ref H.size :: rest.map (rv G) := by
      show Value.ref (loc G (gN w 2 0)) :: _ = _
      rw [hloc]
    rw [e2] at K
    exact K
  · have hk : gN (nwA w (primK t) n.toNatClampNeg) 0 (gN w 2 0) = primK t := by rw [nwA_n0, if_pos rfl]
    have hz := (hS.2.2.2.1 (gN w 2 0) (Nat.le_refl _)).2.2
    rcases hty with rfl | rfl | rfl
    · rw [cell_I G hk, f4]
      show H1[H.size]? = some (vp_cell _ _)
      rw [e1, vp_cell_i]
      have : cA = xA G 0 := Option.some.inj (c1.symm.trans (hKK.2 0 _ rfl).2)
      subst this
      exact congrArg some (congrArg _ (funext fun j => congrArg Value.int (hz j).1.symm))
    · rw [cell_J G hk, f4]
      show H1[H.size]? = some (vp_cell _ _)
      rw [e1, vp_cell_l]
      have : cA = xA G 1 := Option.some.inj (c1.symm.trans (hKK.2 1 _ rfl).2)
      subst this
      exact congrArg some (congrArg _ (funext fun j => congrArg Value.long (hz j).2.1.symm))
    · rw [cell_Z G hk, f4]
      show H1[H.size]? = some (vp_cell _ _)
      rw [e1, vp_cell_i]
      have : cA = xA G 2 := Option.some.inj (c1.symm.trans (hKK.2 2 _ rfl).2)
      subst this
      exact congrArg some (congrArg _ (funext fun j => congrArg Value.int (hz j).1.symm))
theorem w_anew {n : Int32} {o : Nat} {C' : String} (hdec : decode (mC M) pc = .ok (.anewarray idx, 3)) (hr : refK x = true) (hC : (vwCl[x - 23]?).map (fun u => u.1) = some C') (hcl : Cond.classLink (mY M).cls idx C' ∈ wTG) (hn : ¬ n < 0) (hn2 : n.toNatClampNeg ≤ 65536)
    (hq : q.1 + 1 ≤ (mR M).cells ∧ q.2 + n.toNatClampNeg ≤ (mR M).slots) (ho : gN w 2 0 = o) (kk : Wq G M (pc + 3) ls (.ref o :: rest) (q.1 + 1, q.2 + n.toNatClampNeg) (nwA w x n.toNatClampNeg) Q) : Wq G M pc ls (.int n :: rest) q w Q := by
  intro fl p e s m args below meth c Z hmm C F d0 la H locs hd hlv hS hlk h1 h2
  subst ho
  have hts := dr_words C.2.2.2.2.1 d0
  have hT := C.2.2.2.2.2.2.2.2
  have hKK : va_K (xD G) vwCl (tysL G) (s.setDrawn d0) := hT.1
  have hown : (s.setDrawn d0).vm.findClass (mY M).cls = some m.cls := C.2.2.2.1
  have hge : 2 ≤ gN w 2 0 := hS.2.2.2.2.1.1
  have hloc : loc G (gN w 2 0) = H.size := by rw [loc_ge hge]; have := hS.1; omega
  obtain ⟨u, hu, hty, hov, g1, g2⟩ := refK_ty G hr
  rw [hu] at hC
  have hCu : u.1 = C' := Option.some.inj hC
  subst hCu
  have hover : va_AO u.1 (s.setDrawn d0) := hT.2.2.1 _ hov
  obtain ⟨f1, f2, f3, f4⟩ := nwA_facts w x n.toNatClampNeg
  refine W.anew (s := s.setDrawn d0) C.1 C.2.1 hown (hts _ (List.mem_cons_of_mem _ hcl)) (va_AO.use hover) rfl hdec rfl hn (Nat.le_trans (Nat.mul_le_mul_right 4 hn2) (by decide)) hq.1 hq.2 fun cA kA comp c1 c2 c3 c4 => ?_
  generalize hH1 : H.push ({ cls := cA, slots := Array.replicate n.toNatClampNeg .null, vm := .none } : Cell) = H1
  have z1 : H1.size = H.size + 1 := by rw [← hH1, Array.size_push]
  have e1 : H1[H.size]? = some (arrV cA n.toNatClampNeg (fun _ => .null)) := by rw [← hH1, Array.getElem?_push_size, ← arrV_new]
  have o1 : ∀ b : Nat, b < H.size → H1[b]? = H[b]? := fun b hb => by rw [← hH1, Array.getElem?_push, if_neg (Nat.ne_of_lt hb)]
  have K := kk fl p e s m args below meth c Z hmm C F d0 la H1 locs hd hlv (sim_new (x := x) (f1 := fun _ => 0) hS ⟨by omega, by omega, by omega⟩ ⟨rfl, rfl, rfl⟩ (nwA_n0 w _ _) f1 f2 f3 ?_ z1 o1) hlk hq.1 hq.2
  · have e2 : (Value.ref (gN w 2 0) :: rest).map (rv G) = .ref H.size :: rest.map (rv G) := by
      show Value.ref (loc G (gN w 2 0)) :: _ = _
      rw [hloc]
    rw [e2] at K
    exact K
  · have hk : gN (nwA w x n.toNatClampNeg) 0 (gN w 2 0) = x := by rw [nwA_n0, if_pos rfl]
    have hz := (hS.2.2.2.1 (gN w 2 0) (Nat.le_refl _)).2.2
    obtain ⟨kA', comp', k1, k2, k3, k4⟩ := (hKK.2 _ _ hty).2
    rw [cell_R G hk g1 (by omega), f4]
    show H1[H.size]? = some (vp_cell _ _)
    rw [e1, vp_cell_q]
    have : cA = xA G (x - 20) := Option.some.inj (c1.symm.trans k4)
    subst this
    refine congrArg some (congrArg _ (funext fun j => ?_))
    show Value.null = va_rf (rr G (gR w 23 (gN w 2 0) j))
    rw [(hz j).2.2]; rfl
end QN
