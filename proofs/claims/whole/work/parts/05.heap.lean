/-! ===== the heap behind the abstract state: reads, writes, new cells ===== -/
def vtyL : List (Nat → FieldType) := [tyX0, tyX1, tyX3, tyX4, tyX5, tyX6, tyX7, tyX8, tyX9, tyX10, tyX11, tyX12]
def vty (c k : Nat) : FieldType := (vtyL.getD c tyX0) k
theorem vw_cases {P : Nat → vw_C → Prop} (h0 : P 0 (RX0, TX0, 2)) (h1 : P 1 (RX1, TX1, 3)) (h2 : P 2 (RX3, TX3, 9)) (h3 : P 3 (RX4, TX4, 5)) (h4 : P 4 (RX5, TX5, 8)) (h5 : P 5 (RX6, TX6, 4)) (h6 : P 6 (RX7, TX7, 3)) (h7 : P 7 (RX8, TX8, 16)) (h8 : P 8 (RX9, TX9, 2)) (h9 : P 9 (RX10, TX10, 6)) (h10 : P 10 (RX11, TX11, 12)) (h11 : P 11 (RX12, TX12, 53)) :
    ∀ (c : Nat) (q : vw_C), vwCl[c]? = some q → P c q := by
  intro c q h
  have hc : c < 12 := (List.getElem?_eq_some_iff.mp h).1
  match c, hc, h with
  | 0, _, h => cases h; exact h0
  | 1, _, h => cases h; exact h1
  | 2, _, h => cases h; exact h2
  | 3, _, h => cases h; exact h3
  | 4, _, h => cases h; exact h4
  | 5, _, h => cases h; exact h5
  | 6, _, h => cases h; exact h6
  | 7, _, h => cases h; exact h7
  | 8, _, h => cases h; exact h8
  | 9, _, h => cases h; exact h9
  | 10, _, h => cases h; exact h10
  | 11, _, h => cases h; exact h11
theorem vty_ok : ∀ (c : Nat) (q : vw_C), vwCl[c]? = some q → ∀ k, k < q.2.2 → parseFieldDescriptor (q.2.1 k).2.2.1 = some (vty c k) := by
  refine vw_cases (P := fun c q => ∀ k, k < q.2.2 → parseFieldDescriptor (q.2.1 k).2.2.1 = some (vty c k)) ?_ ?_ ?_ ?_ ?_ ?_ ?_ ?_ ?_ ?_ ?_ ?_ <;> (intro k hk; first | exact tyX0_ok k hk | exact tyX1_ok k hk | exact tyX3_ok k hk | exact tyX4_ok k hk | exact tyX5_ok k hk | exact tyX6_ok k hk | exact tyX7_ok k hk | exact tyX8_ok k hk | exact tyX9_ok k hk | exact tyX10_ok k hk | exact tyX11_ok k hk | exact tyX12_ok k hk)
theorem vnm_ok : ∀ (c : Nat) (q : vw_C), vwCl[c]? = some q → ∀ a, a < q.2.2 → ∀ b, b < q.2.2 → a ≠ b → (q.2.1 a).2.1 ≠ (q.2.1 b).2.1 :=
  vw_cases (P := fun _ q => ∀ a, a < q.2.2 → ∀ b, b < q.2.2 → a ≠ b → (q.2.1 a).2.1 ≠ (q.2.1 b).2.1) nmX0 nmX1 nmX3 nmX4 nmX5 nmX6 nmX7 nmX8 nmX9 nmX10 nmX11 nmX12
theorem vty_tc : ∀ c : Fin 12, ∀ k : Fin 53, k.val < nf c.val → (tc c.val k.val = 0 → vty c.val k.val = .int) ∧ (tc c.val k.val = 1 → vty c.val k.val = .long) ∧ (tc c.val k.val = 3 → vty c.val k.val = .boolean) ∧ (tc c.val k.val = 2 → (vty c.val k.val).isReference = true) ∧ tc c.val k.val < 4 := by decide +kernel
theorem vty_dv : ∀ c : Fin 12, ∀ k : Fin 53, k.val < nf c.val → defaultValue (vty c.val k.val) = (if tc c.val k.val = 1 then .long 0 else if tc c.val k.val = 2 then .null else .int 0) := by decide +kernel
theorem nf_le : ∀ c : Fin 12, nf c.val ≤ 53 := by decide +kernel
theorem vw_get {c : Nat} (hc : c < 12) : ∃ q : vw_C, vwCl[c]? = some q ∧ q.2.2 = nf c := by
  have h : c < vwCl.length := hc
  exact ⟨vwCl[c], List.getElem?_eq_getElem h, nf_ok c _ (List.getElem?_eq_getElem h)⟩
def uwsP : List Nat := [854, 856, 764, 766, 768, 475, 477, 479, 481, 483, 485, 487, 489, 491, 934, 936, 938, 940, 942, 266, 268, 270, 272, 274, 276, 278, 280, 604, 606, 608, 610, 238, 240, 242, 168, 170, 172, 174, 176, 178, 180, 182, 184, 186, 188, 190, 192, 194, 196, 198, 107, 109, 213, 215, 217, 219, 221, 223, 300, 302, 304, 306, 308, 310, 312, 314, 316, 318, 320, 322, 1086, 1088, 1090, 1092, 1094, 1096, 1098, 1100, 1102, 1104, 1106, 1108, 1110, 1112, 1114, 1116, 1118, 1120, 1122, 1124, 1126, 1128, 1130, 1132, 1134, 1136, 1138, 1140, 1142, 1144, 1146, 1148, 1150, 1152, 1154, 1156, 1158, 1160, 1162, 1164, 1166, 1168, 1170, 1172, 1174, 1176, 1178, 1180, 1182, 1184, 1186, 1188, 1190]
theorem uws_eq : (vwCl.map (fun q => u_ws q.1 q.2.1 q.2.2)).flatten = uwsP.filterMap (fun i => lw_tbl[i]?) := by decide +kernel
theorem uws_good : (vwCl.map (fun q => u_ws q.1 q.2.1 q.2.2)).flatten.all goodWord = true := by decide +kernel
theorem uws_in {c : Nat} {q : vw_C} (h : vwCl[c]? = some q) : ∀ w ∈ u_ws q.1 q.2.1 q.2.2, w ∈ wTG := by
  intro w hw
  have h1 : w ∈ (vwCl.map (fun q => u_ws q.1 q.2.1 q.2.2)).flatten := List.mem_flatten.mpr ⟨_, List.mem_map.mpr ⟨q, List.mem_of_getElem? h, rfl⟩, hw⟩
  refine List.mem_filter.mpr ⟨?_, List.all_eq_true.mp uws_good w h1⟩
  rw [uws_eq] at h1
  obtain ⟨i, -, hi⟩ := List.mem_filterMap.mp h1
  exact List.mem_of_getElem? hi
theorem flds_at (G : qGX) (w : qSt) {c k : Nat} (a : Nat) (h : k < nf c) : (flds G w c a)[k]? = some (fv G w c a k) := by simp [flds, h]
theorem vp_flds (G : qGX) (w : qSt) {c k : Nat} (a : Nat) (h : k < nf c) : vp_V (flds G w c a) k = fv G w c a k := by simp [vp_V, flds_at G w a h]
theorem mfl_at (G : qGX) (w : qSt) {k : Nat} (h : k < 53) : (mfl G w)[k]? = some (mfv G w k) := by simp [mfl, h]
theorem vp_mfl (G : qGX) (w : qSt) {k : Nat} (h : k < 53) : vp_V (mfl G w) k = mfv G w k := by simp [vp_V, mfl_at G w h]
theorem cell_obj (G : qGX) {w : qSt} {a c : Nat} (h : gN w 0 a = c) (hc : c < 12) : cellOf G w a = .inr (c, flds G w c a) := by
  unfold cellOf; rw [h, if_pos hc]
theorem cell_mod (G : qGX) {w : qSt} {a : Nat} (h : gN w 0 a = 12) : cellOf G w a = .inr (11, mfl G w) := by
  unfold cellOf; rw [h]; simp
theorem cell_I (G : qGX) {w : qSt} {a : Nat} (h : gN w 0 a = 20) : cellOf G w a = .inl (xA G 0, gN w 1 a, .inl (gI w 20 a)) := by
  unfold cellOf; rw [h]; simp
theorem cell_J (G : qGX) {w : qSt} {a : Nat} (h : gN w 0 a = 21) : cellOf G w a = .inl (xA G 1, gN w 1 a, .inr (.inl (gJ w 21 a))) := by
  unfold cellOf; rw [h]; simp
theorem cell_Z (G : qGX) {w : qSt} {a : Nat} (h : gN w 0 a = 22) : cellOf G w a = .inl (xA G 2, gN w 1 a, .inl (gI w 20 a)) := by
  unfold cellOf; rw [h]; simp
theorem cell_R (G : qGX) {w : qSt} {a x : Nat} (h : gN w 0 a = x) (h1 : 23 ≤ x) (h2 : x < 40) : cellOf G w a = .inl (xA G (x - 20), gN w 1 a, .inr (.inr (.inr (.inr (fun j => rr G (gR w 23 a j)))))) := by
  unfold cellOf; rw [h, if_neg (by omega), if_neg (by omega), if_neg (by omega), if_neg (by omega), if_neg (by omega), if_pos h2]
theorem cell_mA (G : qGX) {w : qSt} {a r : Nat} (h : gN w 0 a = 40 + r) : cellOf G w a = if mty r = 1 then .inl (xA G 1, mln r, .inr (.inl (gJ w 40 r))) else if mty r = 3 then .inl (xA G 2, mln r, .inl (gI w 40 r)) else .inl (xA G 0, mln r, .inl (gI w 40 r)) := by
  unfold cellOf
  rw [h, if_neg (by omega), if_neg (by omega), if_neg (by omega), if_neg (by omega), if_neg (by omega), if_neg (by omega), show 40 + r - 40 = r by omega]
/-- the same cell, where what it is made of is the same -/
theorem cell_same (G : qGX) {w w' : qSt} {b : Nat} (hN : w'.2.2.2 = w.2.2.2) (h1 : gN w 0 b < 12 → ∀ k, gI w' (gN w 0 b) k b = gI w (gN w 0 b) k b ∧ gJ w' (gN w 0 b) k b = gJ w (gN w 0 b) k b ∧ gR w' (gN w 0 b) k b = gR w (gN w 0 b) k b)
    (h2 : gN w 0 b = 12 → ∀ k, gI w' 12 k 0 = gI w 12 k 0 ∧ gJ w' 12 k 0 = gJ w 12 k 0) (h3 : gI w' 20 b = gI w 20 b) (h4 : gJ w' 21 b = gJ w 21 b) (h5 : ∀ j, gR w' 23 b j = gR w 23 b j)
    (h6 : 40 ≤ gN w 0 b → gI w' 40 (gN w 0 b - 40) = gI w 40 (gN w 0 b - 40) ∧ gJ w' 40 (gN w 0 b - 40) = gJ w 40 (gN w 0 b - 40)) : cellOf G w' b = cellOf G w b := by
  unfold cellOf
  rw [show gN w' = gN w from hN]
  by_cases c1 : gN w 0 b < 12
  · rw [if_pos c1, if_pos c1]
    congr 2
    unfold flds
    refine List.map_congr_left fun k _ => ?_
    obtain ⟨e1, e2, e3⟩ := h1 c1 k
    unfold fv
    rw [e1, e2, e3]
  · rw [if_neg c1, if_neg c1]
    by_cases c2 : gN w 0 b = 12
    · rw [if_pos c2, if_pos c2]
      congr 2
      unfold mfl
      refine List.map_congr_left fun k _ => ?_
      obtain ⟨e1, e2⟩ := h2 c2 k
      unfold mfv
      rw [e1, e2]
    · rw [if_neg c2, if_neg c2, h3, h4]
      by_cases c3 : 40 ≤ gN w 0 b
      · obtain ⟨e1, e2⟩ := h6 c3
        rw [e1, e2]
        simp only [h5]
      · have c4 : gN w 0 b < 40 := by omega
        simp only [if_pos c4, h5]
/-- a cell is written: all else stays -/
theorem sim_upd {G : qGX} {fl : Nat} {w w' : qSt} {H H1 : Heap} {a : Nat} (h : qSim G fl w H) (ha : 2 ≤ a) (hc : va_at (xD G) vwCl (loc G a, cellOf G w' a) H1) (z : H1.size = H.size) (oq : ∀ q : Nat, q ≠ loc G a → H1[q]? = H[q]?)
    (hN : w'.2.2.2 = w.2.2.2) (ho : ∀ b, b ≠ a → cellOf G w' b = cellOf G w b) (hz : qZero w') (hl : gI w' 20 0 = gI w 20 0 ∧ gI w' 20 1 = gI w 20 1) : qSim G fl w' H1 := by
  have eN : gN w' = gN w := hN
  obtain ⟨g1, g2, g3, g4, g5, g6⟩ := h
  refine ⟨by rw [z, eN]; exact g1, fun q hq => ?_, fun b hb hbn => ?_, hz, ?_, by rw [eN]; exact g6⟩
  · rw [oq q (by rw [loc_ge ha]; omega)]
    exact g2 q hq
  · by_cases e : b = a
    · rw [e]; exact hc
    · rw [ho b e]
      rw [eN] at hbn
      exact (g3 b hb hbn).kept (oq _ (fun q => e (loc_inj hb ha q)))
  · unfold qLow at g5 ⊢
    rw [eN, hl.1, hl.2]
    exact g5
