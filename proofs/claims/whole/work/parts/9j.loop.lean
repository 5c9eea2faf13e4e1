/-! ===== the law's loop and beginning ===== -/
section
variable {G : qGX} {Q : Option Value → qSt → Prop}
theorem lw_loop (hL : (xS G).2.1 ≤ 448) (hQ : ∀ w, Q (some (.int 1)) w) : ∀ (n j q1 q2 : Nat) (w : qSt), j + n = 65 → LwI w → q1 ≤ 200 + 20 * j → q2 ≤ 72000 + 2000 * j → Wq G ML_law 18 [some (.ref 0), some (.ref 2), some (.ref 79), some (.int (nI (7 * j)))] [] (q1, q2) w Q := by
  intro n
  induction n with
  | zero =>
    intro j q1 q2 w hj h hq1 hq2
    refine Wq.low (fun lo => ?_)
    have e7 : (nI (xS G).2.1 - 7 : Int32).toInt = ((xS G).2.1 : Int) - 7 := by
      have i7 : (7 : Int32).toInt = 7 := rfl
      rw [i32_sub] <;> rw [nI_t (by omega), i7] <;> omega
    refine Wq.go okL_law_0 20 [204, 253, 266, 299, 332, 355, 388, 421, 490, 543, 576, 609, 632, 665, 698, 731, 765, 838, 882, 965, 1024, 1058, 1071, 1115, 1188, 1231, 1264, 1277, 1311, 1335, 1348, 1459, 1502, 1525, 1538, 1562, 1585, 1608, 1621, 1635, 1641] ?_
    refine And.intro (Or.inr (Or.inr (Or.inr (Or.inr rfl)))) (And.intro (fun _ => ?_) (fun (z : ¬ nI (gN w 1 0) - 7 < nI (7 * j)) => ?_))
    · exact Wq.go okL_law_29 10 [] (And.intro rfl (hQ w))
    · rw [lo.2.2.2.1, i32_lt, e7, nI_t (by omega)] at z; omega
  | succ n ih =>
    intro j q1 q2 w hj h hq1 hq2
    refine Wq.low (fun lo => ?_)
    have e7 : (nI (xS G).2.1 - 7 : Int32).toInt = ((xS G).2.1 : Int) - 7 := by
      have i7 : (7 : Int32).toInt = 7 := rfl
      rw [i32_sub] <;> rw [nI_t (by omega), i7] <;> omega
    have back : ∀ w1 r1 r2, LwI w1 → r1 ≤ q1 + 20 → r2 ≤ q2 + 2000 → Wq G ML_law 1635 [some (.ref 0), some (.ref 2), some (.ref 79), some (.int (nI (7 * j)))] [] (r1, r2) w1 Q := by
      intro w1 r1 r2 h1 hr1 hr2
      have a1 : r1 ≤ 200 + 20 * (j + 1) := by clear lo e7 h h1 ih; omega
      have a2 : r2 ≤ 72000 + 2000 * (j + 1) := Nat.le_trans hr2 (Nat.le_trans (Nat.add_le_add_right hq2 2000) (Nat.le_of_eq (by rw [Nat.mul_add_one, Nat.add_assoc])))
      refine Wq.go okL_law_29 10 [18] ?_
      show Wq G ML_law 18 [some (.ref 0), some (.ref 2), some (.ref 79), some (.int (nI (7 * j) + nI 7))] [] (r1, r2) w1 Q
      rw [nI_add, show 7 * j + 7 = 7 * (j + 1) by omega]
      exact ih (j + 1) r1 r2 w1 (by omega) h1 a1 a2
    refine Wq.go okL_law_0 20 [204, 253, 266, 299, 332, 355, 388, 421, 490, 543, 576, 609, 632, 665, 698, 731, 765, 838, 882, 965, 1024, 1058, 1071, 1115, 1188, 1231, 1264, 1277, 1311, 1335, 1348, 1459, 1502, 1525, 1538, 1562, 1585, 1608, 1621, 1635, 1641] ?_
    refine And.intro (Or.inr (Or.inr (Or.inr (Or.inr rfl)))) (And.intro (fun _ => ?_) (fun (z : ¬ nI (gN w 1 0) - 7 < nI (7 * j)) => ?_))
    · exact Wq.go okL_law_29 10 [] (And.intro rfl (hQ w))
    rw [lo.2.2.2.1, i32_lt, e7, nI_t (by omega)] at z
    have hi : 7 * j + 7 ≤ (xS G).2.1 := by omega
    refine And.intro (Or.inl lo.2.1) (And.intro (v_in0 lo hi hL) (And.intro ⟨fun _ => lw_cls hi hL h (by omega) (by omega) back, fun _ => lw_face hi hL h (by omega) (by omega) back, fun _ => lw_under hi hL h (by omega) (by omega) back, fun _ => lw_variable hi hL h (by omega) (by omega) back, fun _ => lw_row hi hL h (by omega) (by omega) back, fun _ => lw_erased hi hL h (by omega) (by omega) back, fun _ => lw_is hi hL h (by omega) (by omega) back, fun _ => lw_field hi hL h (by omega) (by omega) back, fun _ => lw_method hi hL h (by omega) (by omega) back, fun _ => lw_found hi hL h (by omega) (by omega) back, fun _ => lw_seen hi hL h (by omega) (by omega) back, fun _ => lw_thing hi hL h (by omega) (by omega) back, fun _ => lw_things hi hL h (by omega) (by omega) back, fun _ => lw_kind hi hL h (by omega) (by omega) back, fun _ => lw_isA hi hL h (by omega) (by omega) back, fun _ => lw_read hi hL h (by omega) (by omega) back, fun _ => lw_write hi hL h (by omega) (by omega) back, fun _ => lw_readAs hi hL h (by omega) (by omega) back, fun _ => lw_writeAs hi hL h (by omega) (by omega) back, fun _ => lw_handle hi hL h (by omega) (by omega) back, fun _ => lw_get hi hL h (by omega) (by omega) back, fun _ => lw_lane hi hL h (by omega) (by omega) back, fun _ => lw_getAs hi hL h (by omega) (by omega) back, fun _ => lw_set hi hL h (by omega) (by omega) back, fun _ => lw_column hi hL h (by omega) (by omega) back, fun _ => lw_fill hi hL h (by omega) (by omega) back, fun _ => lw_filled hi hL h (by omega) (by omega) back, fun _ => lw_cell hi hL h (by omega) (by omega) back, fun _ => lw_sum hi hL h (by omega) (by omega) back, fun _ => lw_query hi hL h (by omega) (by omega) back, fun _ => lw_test hi hL h (by omega) (by omega) back, fun _ => lw_run hi hL h (by omega) (by omega) back, fun _ => lw_hit hi hL h (by omega) (by omega) back, fun _ => lw_failed hi hL h (by omega) (by omega) back, fun _ => lw_total hi hL h (by omega) (by omega) back, fun _ => lw_trace hi hL h (by omega) (by omega) back, fun _ => lw_told hi hL h (by omega) (by omega) back, fun _ => lw_status hi hL h (by omega) (by omega) back, fun _ => lw_digest hi hL h (by omega) (by omega) back, trivial⟩ (fun _ => back w q1 q2 h (by omega) (by omega))))
theorem lw_begin (hL : (xS G).2.1 ≤ 448) (hQ : ∀ w, Q (some (.int 1)) w) {w0 : qSt} (h2 : gN w0 2 0 = 2) (h4 : gN w0 4 0 = 0) (hz : qZero w0) : Wq G ML_law 0 [some (.ref 0), none, none, none] [] (0, 0) w0 Q := by
  refine Wq.low (fun lo => ?_)
  refine Wq.go okL_law_0 20 [7] ?_
  refine And.intro ⟨by decide, by decide⟩ (fun a ha => ?_)
  have ha : gN w0 2 0 = a := ha
  rw [h2] at ha
  subst ha
  refine And.intro ⟨by decide, by decide⟩ ?_
  refine c11_init h2 hz lo.2.1 ⟨lo.2.2.1, lo.2.2.2.2.1⟩ lo.2.2.2.2.2.2 (fun u mk cl => ?_)
  have bu : gN u 2 0 = 79 := mk.2.2.2.1
  have u4 : gN u 4 0 = 0 := mk.2.2.1.2.trans h4
  refine Wq.go okL_law_0 20 [15] ?_
  refine And.intro ⟨by decide, by decide⟩ (fun a ha => ?_)
  have ha : gN u 2 0 = a := ha
  rw [bu] at ha
  subst ha
  refine And.intro ⟨by decide, by decide⟩ ?_
  refine c12_init bu mk.2.1 (fun v hv => ?_)
  have hok := ab_ok bu u4 cl hv
  have hini := ab_ini bu hv
  have mk2 : Mkg u (sI (sI v 20 80 8 1) 20 81 8 (-1)) 118 := (hv.1.AI (by omega) (by omega)).AI (by omega) (by omega)
  refine Wq.ab hok ?_
  have hag := ab_agree bu mk2
  have hzz := ab_zero mk2.2.2.2.1 mk2.2.1
  have hl : LwI (absW (sI (sI v 20 80 8 1) 20 81 8 (-1))) := ⟨A0, (cl.rep hini).agree hag, hini.inv2, hzz, ab_4⟩
  show Wq G ML_law 15 [some (.ref 0), some (.ref 2), none, none] [.ref 79] (116, 71329) (absW (sI (sI v 20 80 8 1) 20 81 8 (-1))) Q
  generalize absW (sI (sI v 20 80 8 1) 20 81 8 (-1)) = x at hl
  refine Wq.go okL_law_0 20 [18] ?_
  exact lw_loop hL hQ 65 0 116 71329 x rfl hl (by omega) (by omega)
end
