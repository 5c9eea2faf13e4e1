/-! ===== compares ===== -/
noncomputable def odL (b : Int64) : Int64 := cIf (b < 0) (-9223372036854775808 - b) b
theorem odL_key (u : UInt64) : (odL u.toInt64).toInt = FP.Core.key FP.Core.b64 u.toNat := by
  have hu : u.toNat < 2 ^ 64 := u.toNat_lt
  have e : u.toInt64.toInt = if 2 * u.toNat < 2 ^ 64 then (u.toNat : Int) else (u.toNat : Int) - 2 ^ 64 := by
    show u.toBitVec.toInt = _
    rw [BitVec.toInt_eq_toNat_cond]; rfl
  rw [key64]
  unfold odL
  have e64 : (Int64.size : Nat) = 2 ^ 64 := rfl
  by_cases c : 2 ^ 63 ≤ u.toNat
  · rw [if_neg (by omega)] at e
    rw [if_pos c, cIf_t (by rw [i64_lt, e]; show _ < (0 : Int); omega)]
    rw [Int64.toInt_sub, e]
    show ((-9223372036854775808 : Int) - _).bmod (2 ^ 64) = _
    rw [show ((-9223372036854775808 : Int) - ((u.toNat : Int) - 2 ^ 64)) = -((u.toNat % 2 ^ 63 : Nat) : Int) by omega, Int.bmod_eq_of_le (by omega) (by omega)]
  · rw [if_pos (by omega)] at e
    rw [if_neg c, cIf_f (by rw [i64_lt, e]; show ¬ _ < (0 : Int); omega), e]
    omega
theorem no_nan (u : UInt64) : ((9218868437227405312 : Int64) < u.toInt64 &&& 9223372036854775807) ↔ FP.Core.dIsNaN u = true := by
  rw [i64_lt, and63, nan64]
  show (9218868437227405312 : Int) < ((u.toNat % 9223372036854775808 : Nat) : Int) ↔ _
  omega
theorem l2d_nn (v : Int64) : ¬ FP.Core.dIsNaN (FP.l2d v) = true := by
  have hs := szL_lt v
  have hr := rdN_lt (n := szL v) (fr := 52) (bias := 1023) (by omega)
  rw [nan64, l2d_bits v]
  split <;> omega
theorem dB_n {u : UInt64} (h : ¬ FP.Core.dIsNaN u = true) : dB u = u.toInt64 := by unfold dB; rw [cIf_f h]
section
variable {G : qGX} {w : qSt} {Q : Option Value → qSt → Prop}
theorem c2_isSo {x : Int32} {op : Nat} (ho : op ≤ 5) (h : Q (some (.int (bI (hlP op (x < 0) (x = 0) (0 < x))))) w) : Con G M2_isSo [.int x, .int (nI op)] w Q := by
  have key : ∀ b : Int32, b = bI (hlP op (x < 0) (x = 0) (0 < x)) → Q (some (.int b)) w := fun b e => by rw [e]; exact h
  have hx := i32_b x
  have z0 : (0 : Int32).toInt = 0 := rfl
  refine Con.go hw2_isSo ok2_isSo 30 [] rfl ?_
  refine And.intro (And.intro (fun c => ?_) (And.intro (fun c => ?_) (And.intro (fun c => ?_) (And.intro (fun c => ?_) (And.intro (fun c => ?_) trivial))))) (fun c => ?_)
  · have e : op = 0 := (nI_eqI (by omega) (by omega)).mp c
    refine And.intro (fun c2 => And.intro rfl (key 0 (bI_f ?_).symm)) (fun c2 => And.intro rfl (key 1 (bI_t ?_).symm))
    all_goals (unfold hlP; rw [i32_lt, i32_eq, i32_lt, z0]; rw [i32_le, z0] at c2; omega)
  · have e : op = 1 := (nI_eqI (by omega) (by omega)).mp c
    refine And.intro (fun c2 => And.intro rfl (key 0 (bI_f ?_).symm)) (fun c2 => And.intro rfl (key 1 (bI_t ?_).symm))
    all_goals (unfold hlP; rw [i32_lt, i32_eq, i32_lt, z0]; rw [i32_lt, z0] at c2; omega)
  · have e : op = 2 := (nI_eqI (by omega) (by omega)).mp c
    refine And.intro (fun c2 => And.intro rfl (key 0 (bI_f ?_).symm)) (fun c2 => And.intro rfl (key 1 (bI_t ?_).symm))
    all_goals (unfold hlP; rw [i32_lt, i32_eq, i32_lt, z0]; rw [i32_eq, z0] at c2; omega)
  · have e : op = 3 := (nI_eqI (by omega) (by omega)).mp c
    refine And.intro (fun c2 => And.intro rfl (key 0 (bI_f ?_).symm)) (fun c2 => And.intro rfl (key 1 (bI_t ?_).symm))
    all_goals (unfold hlP; rw [i32_lt, i32_eq, i32_lt, z0]; rw [i32_eq, z0] at c2; omega)
  · have e : op = 4 := (nI_eqI (by omega) (by omega)).mp c
    refine And.intro (fun c2 => And.intro rfl (key 0 (bI_f ?_).symm)) (fun c2 => And.intro rfl (key 1 (bI_t ?_).symm))
    all_goals (unfold hlP; rw [i32_lt, i32_eq, i32_lt, z0]; rw [i32_lt, z0] at c2; omega)
  · have c : (nI op).toInt < 0 ∨ (4 : Int) < (nI op).toInt := c
    rw [nI_t (by omega)] at c
    have e : op = 5 := by omega
    refine And.intro (fun c2 => And.intro rfl (key 0 (bI_f ?_).symm)) (fun c2 => And.intro rfl (key 1 (bI_t ?_).symm))
    all_goals (unfold hlP; rw [i32_lt, i32_eq, i32_lt, z0]; rw [i32_le, z0] at c2; omega)
theorem c2_ordered {b : Int64} (h : Q (some (.long (odL b))) w) : Con G M2_ordered [.long b] w Q := by
  unfold odL at h
  refine Con.go hw2_ordered ok2_ordered 20 [] rfl ?_
  refine And.intro (fun c => ?_) (fun c => ?_)
  · have c : 0 ≤ lg_cmp b 0 := c
    rw [lg_ge0] at c
    rw [cIf_f (by rw [i64_lt]; rw [i64_le] at c; omega)] at h
    exact h
  · have c : ¬ 0 ≤ lg_cmp b 0 := c
    rw [lg_ge0] at c
    rw [cIf_t (by rw [i64_lt]; rw [i64_le] at c; omega)] at h
    exact h
theorem hlP_c {op : Nat} {a b c a' b' c' : Prop} (h1 : a ↔ a') (h2 : b ↔ b') (h3 : c ↔ c') : hlP op a b c = hlP op a' b' c' := by rw [propext h1, propext h2, propext h3]
theorem c2_compares {L op : Nat} {V v : Int64} (hL : L < 8) (ho : op ≤ 5) (hV : L = 6 → kp 6 V = V) (h : Q (some (.int (bI (cpP L V op v)))) w) : Con G M2_compares [.long V, .int (nI L), .int (nI op), .long v] w Q := by
  unfold cpP at h
  refine Con.go hw2_compares ok2_compares 30 [] rfl ?_
  refine And.intro (fun c => ?_) (fun c => ?_)
  · have c : nI 6 ≤ nI L := c
    rw [nI_leI (by omega) (by omega)] at c
    rw [cIf_f (by omega)] at h
    refine c2_widened (f := L) (t := 7) hL (by omega) hV (by unfold wdP; omega) ?_
    have hwd : (¬ FP.Core.dIsNaN (dbV L V) = true → wd L 7 V = (dbV L V).toInt64) ∧ (((9218868437227405312 : Int64) < wd L 7 V &&& 9223372036854775807) ↔ FP.Core.dIsNaN (dbV L V) = true) := by
      unfold wd dbV
      by_cases e : L = 6
      · rw [cIf_f (by omega), cIf_f (by omega), cIf_t e, if_pos e]
        refine ⟨fun z => dB_n z, ?_⟩
        by_cases z : FP.Core.dIsNaN (FP.f2d V.toInt32.toUInt32) = true
        · unfold dB; rw [cIf_t z]; exact ⟨fun _ => z, fun _ => by decide⟩
        · rw [dB_n z]; exact no_nan _
      · rw [cIf_t (by omega), if_neg e]
        exact ⟨fun _ => rfl, no_nan V.toUInt64⟩
    refine c2_isNoNumber ?_
    refine And.intro (fun c2 => ?_) (fun c2 => ?_)
    · rw [bI_0, hwd.2] at c2
      have e1 := hwd.1 c2
      refine c2_ordered (c2_longAsDouble (c2_ordered (cJ_compare (c2_isSo ho ?_))))
      refine And.intro (bI_and _) ?_
      rw [e1, dB_n (l2d_nn v)]
      rw [hlP_c (a' := FP.dcmp (dbV L V) (FP.l2d v) = some .lt) (b' := FP.dcmp (dbV L V) (FP.l2d v) = some .eq) (c' := FP.dcmp (dbV L V) (FP.l2d v) = some .gt) ?_ ?_ ?_]
      · exact h
      · rw [lg_lt0, i64_lt, odL_key, odL_key, dcmp_bits c2 (l2d_nn v), Option.some.injEq]
        exact Int.compare_eq_lt.symm
      · rw [lg_eq0, i64_eq, odL_key, odL_key, dcmp_bits c2 (l2d_nn v), Option.some.injEq]
        exact Int.compare_eq_eq.symm
      · rw [lg_gt0, i64_lt, odL_key, odL_key, dcmp_bits c2 (l2d_nn v), Option.some.injEq]
        exact Int.compare_eq_gt.symm
    · rw [bI_n0, hwd.2] at c2
      have en : FP.dcmp (dbV L V) (FP.l2d v) = none := (FP.Core.dcmp_none _ _).mpr (Or.inl ((FP.Core.dIsNaN_iff _).mp c2))
      rw [en] at h
      refine And.intro (fun c3 => ?_) (fun c3 => ?_)
      · have c3 : ¬ nI op = nI 3 := c3
        rw [nI_eqI (by omega) (by omega)] at c3
        rw [bI_f (by unfold hlP; simp; exact c3)] at h; exact And.intro rfl h
      · have c3 : nI op = nI 3 := c3
        rw [nI_eqI (by omega) (by omega)] at c3
        rw [bI_t (by unfold hlP; simp; exact c3)] at h; exact And.intro rfl h
  · have c : ¬ nI 6 ≤ nI L := c
    rw [nI_leI (by omega) (by omega)] at c
    rw [cIf_t (by omega)] at h
    refine cJ_compare (c2_isSo ho ?_)
    refine And.intro (bI_and _) ?_
    rw [hlP_c (a' := V < v) (b' := V = v) (c' := v < V) lg_lt0 lg_eq0 lg_gt0]
    exact h
end
