/-! ===== words for the model's state, small rows ===== -/
abbrev tn (x : Int32) : Nat := x.toNatClampNeg
abbrev mi (m : qSt) (k : Nat) : Int32 := gI m 12 k 0
abbrev mj (m : qSt) (k : Nat) : Int64 := gJ m 12 k 0
abbrev ma (m : qSt) (r i : Nat) : Int32 := gI m 40 r i
abbrev ml (m : qSt) (r i : Nat) : Int64 := gJ m 40 r i
noncomputable def bI (p : Prop) : Int32 := @ite Int32 p (Classical.propDecidable p) 1 0
theorem bI_t {p : Prop} (h : p) : bI p = 1 := by unfold bI; rw [if_pos h]
theorem bI_f {p : Prop} (h : ¬ p) : bI p = 0 := by unfold bI; rw [if_neg h]
theorem bI_0 {p : Prop} : bI p = 0 ↔ ¬ p := by
  by_cases h : p
  · rw [bI_t h]; exact ⟨fun q => absurd q (by decide), fun q => absurd h q⟩
  · rw [bI_f h]; exact ⟨fun _ => h, fun _ => rfl⟩
theorem bI_n0 {p : Prop} : ¬ bI p = 0 ↔ p := by rw [bI_0]; exact Classical.not_not
theorem bI_1 {p : Prop} : bI p = 1 ↔ p := by
  by_cases h : p
  · rw [bI_t h]; exact ⟨fun _ => h, fun _ => rfl⟩
  · rw [bI_f h]; exact ⟨fun q => absurd q (by decide), fun q => absurd q h⟩
theorem bI_and (p : Prop) : bI p &&& 1 = bI p := by
  by_cases h : p
  · rw [bI_t h]; rfl
  · rw [bI_f h]; rfl
theorem bI_c {p q : Prop} (h : p ↔ q) : bI p = bI q := by rw [propext h]
theorem i32_eq (a b : Int32) : a = b ↔ a.toInt = b.toInt := ⟨fun h => by rw [h], fun h => Int32.toInt_inj.mp h⟩
theorem i32_lt (a b : Int32) : a < b ↔ a.toInt < b.toInt := Int32.lt_iff_toInt_lt
theorem i32_le (a b : Int32) : a ≤ b ↔ a.toInt ≤ b.toInt := Int32.le_iff_toInt_le
theorem i64_eq (a b : Int64) : a = b ↔ a.toInt = b.toInt := ⟨fun h => by rw [h], fun h => Int64.toInt_inj.mp h⟩
theorem i64_lt (a b : Int64) : a < b ↔ a.toInt < b.toInt := Int64.lt_iff_toInt_lt
theorem i64_le (a b : Int64) : a ≤ b ↔ a.toInt ≤ b.toInt := Int64.le_iff_toInt_le
theorem i32_b (a : Int32) : -2147483648 ≤ a.toInt ∧ a.toInt < 2147483648 := ⟨a.le_toInt, a.toInt_lt⟩
theorem i64_b (a : Int64) : -9223372036854775808 ≤ a.toInt ∧ a.toInt < 9223372036854775808 := ⟨a.le_toInt, a.toInt_lt⟩
theorem nI_t {n : Nat} (h : n < 2147483648) : (nI n).toInt = (n : Int) := nI_toInt h
theorem tn_nI {n : Nat} (h : n < 2147483648) : tn (nI n) = n := nI_clamp h
theorem i32_wide (a : Int32) : a.toInt64.toInt = a.toInt := by simp
theorem i32_sub {a b : Int32} (h1 : -2147483648 ≤ a.toInt - b.toInt) (h2 : a.toInt - b.toInt < 2147483648) : (a - b).toInt = a.toInt - b.toInt := by
  rw [Int32.toInt_sub]
  exact Int.bmod_eq_of_le (by omega) (by omega)
theorem i32_add {a b : Int32} (h1 : -2147483648 ≤ a.toInt + b.toInt) (h2 : a.toInt + b.toInt < 2147483648) : (a + b).toInt = a.toInt + b.toInt := by
  rw [Int32.toInt_add]
  exact Int.bmod_eq_of_le (by omega) (by omega)
theorem nI_l1 (n : Nat) : nI n + 1 = nI (n + 1) := nI_1 n
theorem nI_m1 (n : Nat) : nI (n + 1) - 1 = nI n := nI_pred n
theorem in_nI {n N : Nat} (h : n < N) (hN : N < 2147483648) : vp_in (nI n) N := vp_in_nI h hN
theorem nI_eqI {a b : Nat} (ha : a < 2147483648) (hb : b < 2147483648) : nI a = nI b ↔ a = b := nI_eq ha hb
theorem lg_lt0 {a b : Int64} : lg_cmp a b < 0 ↔ a < b := by
  unfold lg_cmp
  split
  · next h => exact ⟨fun q => absurd q (by decide), fun q => by rw [i64_lt] at *; rw [gt_iff_lt, i64_lt] at h; omega⟩
  · next h =>
    split
    · next h2 => exact ⟨fun q => absurd q (by decide), fun q => by rw [i64_lt] at q; rw [h2] at q; omega⟩
    · next h2 =>
      refine ⟨fun _ => ?_, fun _ => by decide⟩
      rw [gt_iff_lt, i64_lt] at h
      rw [i64_eq] at h2
      rw [i64_lt]; omega
theorem lg_gt0 {a b : Int64} : 0 < lg_cmp a b ↔ b < a := by
  unfold lg_cmp
  split
  · next h => exact ⟨fun _ => h, fun _ => by decide⟩
  · next h =>
    split
    · next h2 => exact ⟨fun q => absurd q (by decide), fun q => absurd q h⟩
    · next h2 => exact ⟨fun q => absurd q (by decide), fun q => absurd q h⟩
theorem lg_eq0 {a b : Int64} : lg_cmp a b = 0 ↔ a = b := by
  unfold lg_cmp
  split
  · next h => exact ⟨fun q => absurd q (by decide), fun q => by rw [q, gt_iff_lt, i64_lt] at h; omega⟩
  · next h =>
    split
    · next h2 => exact ⟨fun _ => h2, fun _ => rfl⟩
    · next h2 => exact ⟨fun q => absurd q (by decide), fun q => absurd q h2⟩
theorem lg_ge0 {a b : Int64} : 0 ≤ lg_cmp a b ↔ b ≤ a := by
  have h : 0 ≤ lg_cmp a b ↔ ¬ lg_cmp a b < 0 := by rw [i32_le, i32_lt]; omega
  rw [h, lg_lt0, i64_lt, i64_le]; omega
theorem lg_le0 {a b : Int64} : lg_cmp a b ≤ 0 ↔ a ≤ b := by
  have h : lg_cmp a b ≤ 0 ↔ ¬ 0 < lg_cmp a b := by rw [i32_le, i32_lt]; omega
  rw [h, lg_gt0, i64_lt, i64_le]; omega
section
variable {G : qGX} {w : qSt} {Q : Option Value → qSt → Prop}
theorem c12_fail {v : Int32} (h : Q (some (.int v)) (sI w 12 0 0 v)) : Con G M12_fail [.ref 79, .int v] w Q := Con.go hw12_fail ok12_fail 20 [] rfl h
theorem c12_good {v : Int32} (h : Q (some (.int v)) (sI w 12 0 0 0)) : Con G M12_good [.ref 79, .int v] w Q := Con.go hw12_good ok12_good 20 [] rfl h
theorem c12_lost {v : Int32} (h : Q (some (.long (-9223372036854775808))) (sI w 12 0 0 v)) : Con G M12_lost [.ref 79, .int v] w Q := Con.go hw12_lost ok12_lost 20 [] rfl h
theorem c12_told0 {v : Int64} (h : Q (some (.long v)) (sI w 12 0 0 0)) : Con G M12_told0 [.ref 79, .long v] w Q := Con.go hw12_told0 ok12_told0 20 [] rfl h
theorem c12_in {v a b : Int64} (h : Q (some (.int (bI (a ≤ v ∧ v ≤ b)))) w) : Con G M12_in [.long v, .long a, .long b] w Q := by
  refine Con.go hw12_in ok12_in 20 [] rfl ?_
  refine And.intro (fun c1 => ?_) (fun c1 => ?_)
  · rw [lg_lt0, i64_lt] at c1
    rw [bI_f (by rw [i64_le, i64_le]; omega)] at h
    exact ⟨rfl, h⟩
  · rw [lg_lt0, i64_lt] at c1
    refine And.intro (fun c2 => ?_) (fun c2 => ?_)
    · rw [lg_gt0, i64_lt] at c2
      rw [bI_f (by rw [i64_le, i64_le]; omega)] at h
      exact ⟨rfl, h⟩
    · rw [lg_gt0, i64_lt] at c2
      rw [bI_t (by rw [i64_le, i64_le]; omega)] at h
      exact ⟨rfl, h⟩
/-- a long or int between two numbers, as ints -/
theorem c12_inI {v a b : Int64} {x y z : Int} (hv : v.toInt = x) (ha : a.toInt = y) (hb : b.toInt = z) (h : Q (some (.int (bI (y ≤ x ∧ x ≤ z)))) w) : Con G M12_in [.long v, .long a, .long b] w Q := by
  refine c12_in ?_
  rw [i64_le, i64_le, ha, hv, hb]
  exact h
end
/-- the types there are -/
def nT (m : qSt) : Nat := tn (mi m 1)
def TyOK (m : qSt) : Prop := mi m 1 = nI (nT m) ∧ 9 ≤ nT m ∧ nT m ≤ 100
def isT (m : qSt) (t : Int32) : Prop := ∃ j, t = nI j ∧ j < nT m
theorem isT_iff {m : qSt} (h : TyOK m) (t : Int32) : isT m t ↔ 0 ≤ t.toInt ∧ t.toInt ≤ (nT m : Int) - 1 := by
  have h1 := h.2.2
  constructor
  · rintro ⟨j, rfl, hj⟩
    rw [nI_t (by omega)]; omega
  · intro hq
    refine ⟨t.toInt.toNat, ?_, by omega⟩
    rw [i32_eq, nI_t (by omega)]; omega
section
variable {G : qGX} {w : qSt} {Q : Option Value → qSt → Prop}
theorem c12_isType {t : Int32} (hT : TyOK w) (h : Q (some (.int (bI (isT w t)))) w) : Con G M12_isType [.ref 79, .int t] w Q := by
  refine Con.go hw12_isType ok12_isType 20 [] rfl ?_
  have hz : (mi w 1 - 1 : Int32).toInt = (nT w : Int) - 1 := by
    have := hT.2
    rw [hT.1, i32_sub] <;> rw [nI_t (by omega)] <;> simp <;> omega
  refine c12_inI (x := t.toInt) (y := 0) (z := (nT w : Int) - 1) (i32_wide t) rfl ((i32_wide _).trans hz) ?_
  rw [← isT_iff hT]
  exact ⟨bI_and _, h⟩
end
