/-! ===== the model, once made, is taken as the model ===== -/
def absW (w : qSt) : qSt := (fun r k i => if r = 12 then gI w 11 k 79 else if r = 40 then gI w 20 (80 + k) i else gI w r k i, fun r k i => if r = 12 then gJ w 11 k 79 else if r = 40 then gJ w 21 (80 + k) i else gJ w r k i, gR w,
  fun r k => if r = 0 then (if k = 79 then 12 else if 80 ≤ k ∧ k < 118 then 40 + (k - 80) else gN w 0 k) else if r = 4 ∧ k = 0 then 1 else gN w r k)
def AbOK (w : qSt) : Prop := gN w 2 0 = 118 ∧ gN w 4 0 = 0 ∧ gN w 0 79 = 11 ∧ (∀ r, r < 38 → gN w 0 (80 + r) = kdM r ∧ gN w 1 (80 + r) = mln r) ∧ (∀ k, k < 53 → tc 11 k = 2 → gR w 11 k 79 = some (80 + mrk k)) ∧ ∀ a, 2 ≤ a → a < 79 → gN w 0 a < 40 ∧ gN w 0 a ≠ 12
section
variable {G : qGX} {w : qSt}
theorem abI {r k i : Nat} (h1 : r ≠ 12) (h2 : r ≠ 40) : gI (absW w) r k i = gI w r k i := by
  show (if r = 12 then _ else if r = 40 then _ else _) = _
  rw [if_neg h1, if_neg h2]
theorem abJ {r k i : Nat} (h1 : r ≠ 12) (h2 : r ≠ 40) : gJ (absW w) r k i = gJ w r k i := by
  show (if r = 12 then _ else if r = 40 then _ else _) = _
  rw [if_neg h1, if_neg h2]
theorem ab_o {a : Nat} (h : a < 79 ∨ 118 ≤ a) : gN (absW w) 0 a = gN w 0 a := by
  show (if a = 79 then 12 else if 80 ≤ a ∧ a < 118 then 40 + (a - 80) else gN w 0 a) = _
  rw [if_neg (by omega), if_neg (by omega)]
theorem ab_79 : gN (absW w) 0 79 = 12 := rfl
theorem ab_r {r : Nat} (h : r < 38) : gN (absW w) 0 (80 + r) = 40 + r := by
  show (if 80 + r = 79 then 12 else if 80 ≤ 80 + r ∧ 80 + r < 118 then 40 + (80 + r - 80) else gN w 0 (80 + r)) = _
  rw [if_neg (by omega), if_pos (by omega)]; omega
theorem ab_1 (a : Nat) : gN (absW w) 1 a = gN w 1 a := rfl
theorem ab_2 : gN (absW w) 2 0 = gN w 2 0 := rfl
theorem ab_4 : gN (absW w) 4 0 = 1 := rfl
theorem ab_cell (h : AbOK w) {a : Nat} (h2 : 2 ≤ a) (h3 : a < 118) : cellOf G (absW w) a = cellOf G w a := by
  obtain ⟨g1, g2, g3, g4, g5, g6⟩ := h
  by_cases e : a = 79
  · subst e
    rw [cell_mod G ab_79, cell_obj G g3 (by omega)]
    congr 2
    unfold mfl flds
    show (List.range 53).map _ = (List.range (nf 11)).map _
    rw [show nf 11 = 53 by decide]
    refine List.map_congr_left fun k hk => ?_
    have hk := List.mem_range.mp hk
    unfold mfv fv
    by_cases t1 : tc 11 k = 1
    · rw [if_pos t1, if_pos t1]; rfl
    · rw [if_neg t1, if_neg t1]
      by_cases t2 : tc 11 k = 2
      · rw [if_pos t2, if_pos t2, g5 k hk t2]; rfl
      · rw [if_neg t2, if_neg t2]; rfl
  · by_cases e2 : a < 79
    · obtain ⟨k40, k12⟩ := g6 a h2 e2
      have en : gN (absW w) 0 a = gN w 0 a := ab_o (Or.inl e2)
      unfold cellOf
      rw [en, ab_1]
      by_cases c1 : gN w 0 a < 12
      · rw [if_pos c1, if_pos c1]
        congr 2
        unfold flds
        refine List.map_congr_left fun k _ => ?_
        unfold fv
        rw [abI (by omega) (by omega), abJ (by omega) (by omega)]; rfl
      · rw [if_neg c1, if_neg c1]
        rw [if_neg k12, if_neg k12]
        by_cases c3 : gN w 0 a < 21
        · rw [if_pos c3, if_pos c3]; rfl
        · rw [if_neg c3, if_neg c3]
          by_cases c4 : gN w 0 a = 21
          · rw [if_pos c4, if_pos c4]; rfl
          · rw [if_neg c4, if_neg c4]
            by_cases c5 : gN w 0 a = 22
            · rw [if_pos c5, if_pos c5]; rfl
            · rw [if_neg c5, if_neg c5, if_pos k40, if_pos k40]; rfl
    · obtain ⟨r, rfl⟩ : ∃ r, a = 80 + r := ⟨a - 80, by omega⟩
      have hr : r < 38 := by omega
      obtain ⟨q1, q2⟩ := g4 r hr
      rw [cell_mA G (ab_r hr)]
      unfold kdM at q1
      by_cases t1 : mty r = 1
      · rw [if_pos t1] at q1 ⊢
        rw [cell_J G q1, q2]; rfl
      · rw [if_neg t1] at q1 ⊢
        by_cases t3 : mty r = 3
        · rw [if_pos t3] at q1 ⊢
          rw [cell_Z G q1, q2]; rfl
        · rw [if_neg t3] at q1 ⊢
          rw [cell_I G q1, q2]; rfl
theorem ab_sim {fl : Nat} {H : Heap} (h : AbOK w) (hS : qSim G fl w H) : qSim G fl (absW w) H := by
  obtain ⟨s1, s2, s3, s4, s5, s6, s7, s8, s9⟩ := hS
  obtain ⟨g1, g2, g3, g4, g5, g6⟩ := id h
  refine ⟨s1, s2, fun a h2 h3 => ?_, fun a ha => ?_, s5, ⟨fun a ha => ?_, fun a r hr ha => ?_⟩, ?_, ?_, fun _ => ⟨ab_79, fun r hr => ab_r hr⟩⟩
  · rw [ab_2] at h3
    rw [ab_cell h h2 (by omega)]
    exact s3 a h2 h3
  · rw [ab_2] at ha
    obtain ⟨z1, z2, z3⟩ := s4 a ha
    refine ⟨(ab_o (by omega)).trans z1, fun r k hr => ⟨(abI (by omega) (by omega)).trans (z2 r k hr).1, (abJ (by omega) (by omega)).trans (z2 r k hr).2.1, (z2 r k hr).2.2⟩, fun j => ⟨(abI (by omega) (by omega)).trans (z3 j).1, (abJ (by omega) (by omega)).trans (z3 j).2.1, (z3 j).2.2⟩⟩
  · by_cases e : a = 79
    · exact e
    · by_cases e2 : 80 ≤ a ∧ a < 118
      · obtain ⟨r, rfl⟩ : ∃ r, a = 80 + r := ⟨a - 80, by omega⟩
        rw [ab_r (by omega)] at ha; omega
      · rw [ab_o (by omega)] at ha
        exact s6.1 a ha
  · by_cases e : a = 79
    · rw [e, ab_79] at ha; omega
    · by_cases e2 : 80 ≤ a ∧ a < 118
      · obtain ⟨q, rfl⟩ : ∃ q, a = 80 + q := ⟨a - 80, by omega⟩
        rw [ab_r (by omega)] at ha; omega
      · rw [ab_o (by omega)] at ha
        exact s6.2 a r hr ha
  · rw [ab_4]; omega
  · rw [ab_4]; omega
theorem Wq.ab {M : qMH} {pc : Nat} {ls : List (Option Value)} {st : List Value} {q : Nat × Nat} {Q : Option Value → qSt → Prop} (h : AbOK w) (hk : Wq G M pc ls st q (absW w) Q) : Wq G M pc ls st q w Q :=
  fun fl p e s m args below meth c Z hfl C hF d0 la H locs hd hl hS hlk h1 h2 => hk fl p e s m args below meth c Z hfl C hF d0 la H locs hd hl (ab_sim h hS) hlk h1 h2
/-- what the class is keeps standing -/
theorem ab_agree {u w : qSt} (hw : gN w 2 0 = 79) (mk : Mkg w u 118) : Agree w (absW u) := by
  intro a ha
  have h79 : a < 79 := by
    rcases Nat.lt_or_ge a 79 with q | q
    · exact q
    · exact absurd (mk.2.2.2.2.2.k (by omega)) ha
  refine (mk.1 a ha).tr ⟨ab_o (Or.inl h79), ab_1 a, fun r k hr => ⟨abI (by omega) (by omega), abJ (by omega) (by omega), rfl⟩, fun j => ⟨abI (by omega) (by omega), abJ (by omega) (by omega), rfl⟩⟩
theorem ab_zero {u : qSt} (hu : gN u 2 0 = 118) (hz : qZero u) : qZero (absW u) := by
  intro a ha
  rw [ab_2] at ha
  obtain ⟨z1, z2, z3⟩ := hz a ha
  exact ⟨(ab_o (by omega)).trans z1, fun r k hr => ⟨(abI (by omega) (by omega)).trans (z2 r k hr).1, (abJ (by omega) (by omega)).trans (z2 r k hr).2.1, (z2 r k hr).2.2⟩, fun j => ⟨(abI (by omega) (by omega)).trans (z3 j).1, (abJ (by omega) (by omega)).trans (z3 j).2.1, (z3 j).2.2⟩⟩
theorem ab_ini {u w : qSt} (hw : gN w 2 0 = 79) (h : MI w u 38 (-1) (-1)) : IniM (absW (sI (sI u 20 80 8 1) 20 81 8 (-1))) := by
  obtain ⟨mk, k0, hk, hr, hi, hj, hz⟩ := h
  refine ⟨fun k => ?_, fun r i => ?_, fun r i => (hz (80 + r) i (by omega)).2⟩
  · show gI u 11 k 79 = _
    rw [hi]
    by_cases e1 : k = 1
    · rw [if_pos e1, if_pos e1]
    · rw [if_neg e1, if_neg e1]
      by_cases e2 : k = 35
      · rw [if_pos e2, if_pos (Or.inl e2)]
      · rw [if_neg e2]
        by_cases e3 : k = 51
        · rw [if_pos e3, if_pos (Or.inr e3)]
        · rw [if_neg e3, if_neg (by omega)]
  · show gI (sI (sI u 20 80 8 1) 20 81 8 (-1)) 20 (80 + r) i = _
    by_cases e1 : r = 1 ∧ i = 8
    · obtain ⟨rfl, rfl⟩ := e1
      rw [gI_at, if_neg (by omega), if_pos ⟨rfl, rfl⟩]
    · rw [gI_ne (by omega), if_neg e1]
      by_cases e0 : r = 0 ∧ i = 8
      · obtain ⟨rfl, rfl⟩ := e0
        rw [gI_at, if_pos ⟨rfl, rfl⟩]
      · rw [gI_ne (by omega), if_neg e0]
        exact (hz (80 + r) i (by omega)).1
theorem ab_ok {u w : qSt} (hw : gN w 2 0 = 79) (h4 : gN w 4 0 = 0) (hc : Cl0 w) (h : MI w u 38 (-1) (-1)) : AbOK (sI (sI u 20 80 8 1) 20 81 8 (-1)) := by
  obtain ⟨mk, k0, hk, hr, hi, hj, hz⟩ := h
  refine ⟨mk.2.2.2.1, mk.2.2.1.2.trans h4, k0, fun r q => hk r q, fun k h1 h2 => hr k h1 h2 ?_, fun a h1 h2 => ?_⟩
  · have key : ∀ x : _root_.Fin 53, mrk x.val < 38 := by decide
    exact key ⟨k, h1⟩
  · show gN u 0 a < 40 ∧ gN u 0 a ≠ 12
    obtain ⟨⟨f2, f3, f4, f59, f60, f71, f72, f73, f74, f75, f76, f77, f78, -⟩, -, ty, -⟩ := hc
    have key : gN w 0 a < 40 ∧ gN w 0 a ≠ 12 := by
      rcases (show a = 2 ∨ a = 3 ∨ a = 4 ∨ (5 ≤ a ∧ a < 59) ∨ a = 59 ∨ (60 ≤ a ∧ a < 71) ∨ a = 71 ∨ a = 72 ∨ a = 73 ∨ a = 74 ∨ a = 75 ∨ a = 76 ∨ a = 77 ∨ a = 78 by omega) with e | e | e | e | e | e | e | e | e | e | e | e | e | e
      · rw [e]; omega
      · rw [e]; omega
      · rw [e]; omega
      · obtain ⟨⟨k0, k1, k2, k3, k4, k5⟩, -⟩ := (ty ((a - 5) / 6) (by omega)).2
        rcases (show a = 5 + 6 * ((a - 5) / 6) ∨ a = 5 + 6 * ((a - 5) / 6) + 1 ∨ a = 5 + 6 * ((a - 5) / 6) + 2 ∨ a = 5 + 6 * ((a - 5) / 6) + 3 ∨ a = 5 + 6 * ((a - 5) / 6) + 4 ∨ a = 5 + 6 * ((a - 5) / 6) + 5 by omega) with z | z | z | z | z | z <;> rw [z] <;> omega
      · rw [e]; omega
      · have := f60 (a - 60) (by omega)
        rw [show 60 + (a - 60) = a by omega] at this; omega
      · rw [e]; omega
      · rw [e]; omega
      · rw [e]; omega
      · rw [e]; omega
      · rw [e]; omega
      · rw [e]; omega
      · rw [e]; omega
      · rw [e]; omega
    rw [(mk.1 a (by omega)).1]; exact key
end
