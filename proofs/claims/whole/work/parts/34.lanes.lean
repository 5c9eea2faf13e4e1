/-! ===== values by their bits, as the model reckons with them ===== -/
theorem nan64 (a : UInt64) : FP.Core.dIsNaN a = true ↔ 9218868437227405312 < a.toNat % 2 ^ 63 := FP.Core.isNaN_bits a
theorem nan32 (a : UInt32) : FP.Core.fIsNaN a = true ↔ 2139095040 < a.toNat % 2 ^ 31 := FP.Core.isNaN_bits32 a
theorem n64_iff (b : UInt64) : isNaN64 b = true ↔ FP.Core.dIsNaN b = true := by
  rw [isNaN64_iff, nan64, show (0x7fffffffffffffff : Nat) = 2 ^ 63 - 1 from rfl, Nat.and_two_pow_sub_one_eq_mod]
theorem alk {u x : UInt64} (h : alike64 u x = true) : u = x ∨ (FP.Core.dIsNaN u = true ∧ FP.Core.dIsNaN x = true) := by
  unfold alike64 at h
  rcases Bool.or_eq_true_iff.mp h with q | q
  · exact Or.inl (of_decide_eq_true q)
  · rw [Bool.and_eq_true, n64_iff, n64_iff] at q
    exact Or.inr q
theorem fself (a : UInt32) : Op.cmpValue (FP.fcmp a a) .l = 0 ↔ ¬ FP.Core.fIsNaN a = true := by
  by_cases h : FP.Core.fIsNaN a = true
  · rw [show FP.fcmp a a = none from (FP.Core.fcmp_none a a).mpr (Or.inl ((FP.Core.fIsNaN_iff a).mp h))]
    exact ⟨fun q => absurd q (by decide), fun q => absurd h q⟩
  · rw [show FP.fcmp a a = some .eq from FP.Core.fcmp_self (fun q => h ((FP.Core.fIsNaN_iff a).mpr q))]
    exact ⟨fun _ => h, fun _ => rfl⟩
theorem dself (a : UInt64) : Op.cmpValue (FP.dcmp a a) .l = 0 ↔ ¬ FP.Core.dIsNaN a = true := by
  by_cases h : FP.Core.dIsNaN a = true
  · rw [show FP.dcmp a a = none from (FP.Core.dcmp_none a a).mpr (Or.inl ((FP.Core.dIsNaN_iff a).mp h))]
    exact ⟨fun q => absurd q (by decide), fun q => absurd h q⟩
  · rw [show FP.dcmp a a = some .eq from FP.Core.dcmp_self (fun q => h ((FP.Core.dIsNaN_iff a).mpr q))]
    exact ⟨fun _ => h, fun _ => rfl⟩
/-- the order of two doubles that are numbers -/
theorem dcmp_bits {a b : UInt64} (ha : ¬ FP.Core.dIsNaN a = true) (hb : ¬ FP.Core.dIsNaN b = true) : FP.dcmp a b = some (compare (FP.Core.key FP.Core.b64 a.toNat) (FP.Core.key FP.Core.b64 b.toNat)) :=
  FP.Core.cmp_key FP.Core.good_b64 (FP.Core.lt_full64 a) (FP.Core.lt_full64 b) (fun q => ha ((FP.Core.dIsNaN_iff a).mpr q)) (fun q => hb ((FP.Core.dIsNaN_iff b).mpr q))
theorem key64 (a : UInt64) : FP.Core.key FP.Core.b64 a.toNat = if 2 ^ 63 ≤ a.toNat then -((a.toNat % 2 ^ 63 : Nat) : Int) else ((a.toNat % 2 ^ 63 : Nat) : Int) := by
  unfold FP.Core.key FP.Core.signed
  rw [FP.Core.mag_toNat64, FP.Core.half_b64]
  by_cases h : 2 ^ 63 ≤ a.toNat
  · rw [if_pos h, if_pos (decide_eq_true h)]
  · rw [if_neg h, if_neg (by simpa using h)]
noncomputable def fB (a : UInt32) : Int32 := cIf (FP.Core.fIsNaN a = true) 2143289344 a.toInt32
noncomputable def dB (a : UInt64) : Int64 := cIf (FP.Core.dIsNaN a = true) 9221120237041090560 a.toInt64
/-- what a place of a lane keeps of a number -/
noncomputable def kp (L : Nat) (b : Int64) : Int64 := match L with
  | 0 => cIf (b = 0) 0 1
  | 1 => b.toInt32.toInt8.toInt32.toInt64
  | 2 => b.toInt32.toInt16.toInt32.toInt64
  | 3 => (b.toInt32.toUInt32 % 65536).toInt32.toInt64
  | 4 => b.toInt32.toInt64
  | 5 => b
  | 6 => cIf ((2139095040 : Int32) < b.toInt32 &&& 2147483647) 2143289344 b.toInt32.toInt64
  | _ => cIf ((9218868437227405312 : Int64) < b &&& 9223372036854775807) 9221120237041090560 b
def wdP (f t : Nat) : Prop := f = t ∨ (f ≠ 0 ∧ 2 ≤ t ∧ t ≠ 3 ∧ f < t ∧ (t ≠ 2 ∨ f = 1))
noncomputable def wd (f t : Nat) (b : Int64) : Int64 := cIf (f = t ∨ t ≤ 5) b (cIf (t = 6) (fB (FP.l2f b)).toInt64 (cIf (f = 6) (dB (FP.f2d b.toInt32.toUInt32)) (dB (FP.l2d b))))
/-- a value as a double -/
def dbR (L : Nat) (b : Int64) (u : UInt64) : Prop := (L = 6 → alike64 u (FP.f2d b.toInt32.toUInt32) = true) ∧ (L ≠ 6 → u = b.toUInt64)
def finB (u : UInt64) : Prop := u.toNat % 2 ^ 63 < 9218868437227405312
theorem f2d_nn (a : UInt32) : FP.Core.dIsNaN (FP.f2d a) = FP.Core.fIsNaN a := Jvm.FP.f2d_nan a
/-- a value that can be taken as float or double bits -/
def okB (L : Nat) (b : Int64) : Prop := (L = 6 → vn_sni2f b.toInt32 = false) ∧ (L = 7 → vn_snl2d b = false)
section
variable {G : qGX} {w : qSt} {Q : Option Value → qSt → Prop}
theorem cJ_isNaNF {a : UInt32} (h : Q (some (.int (bI (FP.Core.fIsNaN a = true)))) w) : Con G MJ_isNaNF [.float a] w Q := by
  refine Con.go hwJ_isNaNF okJ_isNaNF 20 [] rfl ?_
  refine And.intro (fun c => ?_) (fun c => ?_) <;> rw [fself] at c
  · rw [bI_f c] at h
    exact And.intro rfl h
  · rw [Classical.not_not] at c
    rw [bI_t c] at h
    exact And.intro rfl h
theorem cJ_isNaN {a : UInt64} (h : Q (some (.int (bI (FP.Core.dIsNaN a = true)))) w) : Con G MJ_isNaN [.double a] w Q := by
  refine Con.go hwJ_isNaN okJ_isNaN 20 [] rfl ?_
  refine And.intro (fun c => ?_) (fun c => ?_) <;> rw [dself] at c
  · rw [bI_f c] at h
    exact And.intro rfl h
  · rw [Classical.not_not] at c
    rw [bI_t c] at h
    exact And.intro rfl h
theorem c12_floatBits {a : UInt32} (h : Q (some (.int (fB a))) w) : Con G M12_floatBits [.float a] w Q := by
  unfold fB at h
  refine Con.go hw12_floatBits ok12_floatBits 20 [] rfl ?_
  refine And.intro (fun c => ?_) (fun c => ?_) <;> rw [fself] at c
  · rw [cIf_f c] at h
    refine Con.go hwJ_floatToIntBits okJ_floatToIntBits 20 [] rfl ?_
    refine cJ_isNaNF (And.intro (fun c2 => absurd (bI_n0.mp c2) c) (fun _ => h))
  · rw [Classical.not_not] at c
    rw [cIf_t c] at h
    exact h
theorem c12_doubleBits {a : UInt64} (h : Q (some (.long (dB a))) w) : Con G M12_doubleBits [.double a] w Q := by
  unfold dB at h
  refine Con.go hw12_doubleBits ok12_doubleBits 20 [] rfl ?_
  refine And.intro (fun c => ?_) (fun c => ?_) <;> rw [dself] at c
  · rw [cIf_f c] at h
    refine Con.go hwJ_doubleToLongBits okJ_doubleToLongBits 20 [] rfl ?_
    refine cJ_isNaN (And.intro (fun c2 => absurd (bI_n0.mp c2) c) (fun _ => h))
  · rw [Classical.not_not] at c
    rw [cIf_t c] at h
    exact h
theorem c12_kept {L : Nat} {b : Int64} (hL : L < 8) (h : Q (some (.long (kp L b))) w) : Con G M12_kept [.int (nI L), .long b] w Q := by
  have ne : ∀ {k : Nat} {P : Prop}, k < 8 → L ≠ k → (nI L = nI k → P) := fun hk hn q => absurd ((nI_eqI (by omega) (by omega)).mp q) hn
  have df : ∀ {P : Prop}, L ≤ 6 → (((nI L).toInt < 0 ∨ (6 : Int) < (nI L).toInt) → P) := fun hl q => by
    rw [nI_t (by omega)] at q; omega
  refine Con.go hw12_kept ok12_kept 30 [] rfl ?_
  refine And.intro (And.intro (fun c => ?_) (And.intro (fun c => ?_) (And.intro (fun c => ?_) (And.intro (fun c => ?_) (And.intro (fun c => ?_) (And.intro (fun c => ?_) (And.intro (fun c => ?_) trivial))))))) (fun c => ?_)
  · have e : L = 0 := (nI_eqI (by omega) (by omega)).mp c
    subst e
    have h : Q (some (.long (cIf (b = 0) 0 1))) w := h
    refine And.intro (fun c2 => ?_) (fun c2 => ?_) <;> rw [lg_eq0] at c2
    · rw [cIf_t c2] at h; exact h
    · rw [cIf_f c2] at h; exact h
  · have e : L = 1 := (nI_eqI (by omega) (by omega)).mp c
    subst e; exact h
  · have e : L = 2 := (nI_eqI (by omega) (by omega)).mp c
    subst e; exact h
  · have e : L = 3 := (nI_eqI (by omega) (by omega)).mp c
    subst e; exact h
  · have e : L = 4 := (nI_eqI (by omega) (by omega)).mp c
    subst e; exact h
  · have e : L = 5 := (nI_eqI (by omega) (by omega)).mp c
    subst e; exact h
  · have e : L = 6 := (nI_eqI (by omega) (by omega)).mp c
    subst e
    have h : Q (some (.long (cIf ((2139095040 : Int32) < b.toInt32 &&& 2147483647) 2143289344 b.toInt32.toInt64))) w := h
    refine And.intro (fun (c2 : b.toInt32 &&& 2147483647 ≤ 2139095040) => ?_) (fun (c2 : ¬ b.toInt32 &&& 2147483647 ≤ 2139095040) => ?_)
    · rw [cIf_f (by rw [i32_lt]; rw [i32_le] at c2; omega)] at h; exact h
    · rw [cIf_t (by rw [i32_lt]; rw [i32_le] at c2; omega)] at h; exact h
  · have c : (nI L).toInt < 0 ∨ (6 : Int) < (nI L).toInt := c
    rw [nI_t (by omega)] at c
    have e : L = 7 := by omega
    subst e
    have h : Q (some (.long (cIf ((9218868437227405312 : Int64) < b &&& 9223372036854775807) 9221120237041090560 b))) w := h
    refine And.intro (fun c2 => ?_) (fun c2 => ?_) <;> rw [lg_le0] at c2
    · rw [cIf_f (by rw [i64_lt]; rw [i64_le] at c2; omega)] at h; exact h
    · rw [cIf_t (by rw [i64_lt]; rw [i64_le] at c2; omega)] at h; exact h
theorem c12_widens {f t : Nat} (hf : f < 1000) (ht : t < 1000) (h : Q (some (.int (bI (wdP f t)))) w) : Con G M12_widens [.int (nI f), .int (nI t)] w Q := by
  have yes : wdP f t → ((1 : Int32) &&& 1 = 1 ∧ Q (some (.int 1)) w) := fun q => by rw [bI_t q] at h; exact ⟨rfl, h⟩
  have no : ¬ wdP f t → ((0 : Int32) &&& 1 = 0 ∧ Q (some (.int 0)) w) := fun q => by rw [bI_f q] at h; exact ⟨rfl, h⟩
  refine Con.go hw12_widens ok12_widens 30 [] rfl ?_
  refine And.intro (fun (c : ¬ nI f = nI t) => ?_) (fun (c : nI f = nI t) => ?_) <;> rw [nI_eqI (by omega) (by omega)] at c
  · refine And.intro (fun (c2 : nI f = 0) => ?_) (fun (c2 : ¬ nI f = 0) => And.intro (fun (c3 : nI t < 2) => ?_) (fun (c3 : ¬ nI t < 2) => And.intro (fun (c4 : ¬ nI t = 3) => And.intro (fun (c5 : nI t ≤ nI f) => ?_) (fun (c5 : ¬ nI t ≤ nI f) => And.intro (fun (c6 : ¬ nI t = 2) => ?_) (fun (c6 : nI t = 2) => And.intro (fun (c7 : ¬ nI f = 1) => ?_) (fun (c7 : nI f = 1) => ?_)))) (fun (c4 : nI t = 3) => ?_)))
    · rw [show (0 : Int32) = nI 0 from rfl, nI_eqI (by omega) (by omega)] at c2
      exact no (fun q => q.elim c (fun q => q.1 c2))
    · rw [i32_lt, nI_t (by omega)] at c3
      have c3' : (t : Int) < 2 := c3
      exact no (fun q => q.elim c (fun q => by have := q.2.1; omega))
    · rw [nI_leI (by omega) (by omega)] at c5
      exact no (fun q => q.elim c (fun q => by have := q.2.2.2.1; omega))
    · rw [show (0 : Int32) = nI 0 from rfl, nI_eqI (by omega) (by omega)] at c2
      rw [i32_lt, nI_t (by omega)] at c3
      have c3' : ¬ (t : Int) < 2 := c3
      rw [c_3, nI_eqI (by omega) (by omega)] at c4
      rw [nI_leI (by omega) (by omega)] at c5
      rw [c_2, nI_eqI (by omega) (by omega)] at c6
      exact yes (Or.inr ⟨c2, by omega, c4, by omega, Or.inl c6⟩)
    · rw [c_2, nI_eqI (by omega) (by omega)] at c6
      rw [c_1, nI_eqI (by omega) (by omega)] at c7
      exact no (fun q => q.elim c (fun q => q.2.2.2.2.elim (fun z => z c6) c7))
    · rw [show (0 : Int32) = nI 0 from rfl, nI_eqI (by omega) (by omega)] at c2
      rw [i32_lt, nI_t (by omega)] at c3
      have c3' : ¬ (t : Int) < 2 := c3
      rw [c_3, nI_eqI (by omega) (by omega)] at c4
      rw [nI_leI (by omega) (by omega)] at c5
      rw [c_1, nI_eqI (by omega) (by omega)] at c7
      exact yes (Or.inr ⟨c2, by omega, c4, by omega, Or.inr c7⟩)
    · rw [c_3, nI_eqI (by omega) (by omega)] at c4
      exact no (fun q => q.elim c (fun q => q.2.2.1 c4))
  · exact yes (Or.inl c)
theorem dB_u {u x : UInt64} (h : alike64 u x = true) : dB u = dB x := by
  rcases alk h with e | ⟨h1, h2⟩
  · rw [e]
  · unfold dB; rw [cIf_t h1, cIf_t h2]
theorem c12_widened {f t : Nat} {b : Int64} (hf : f < 1000) (ht : t < 1000) (hb : f = 6 → vn_sni2f b.toInt32 = false) (h : Q (some (.long (wd f t b))) w) : Con G M12_widened [.int (nI f), .int (nI t), .long b] w Q := by
  unfold wd at h
  refine Con.go hw12_widened ok12_widened 30 [10] rfl ?_
  refine And.intro (fun (c : nI f = nI t) => ?_) (fun (c : ¬ nI f = nI t) => And.intro (fun (c2 : 5 < nI t) => ?_) (fun (c2 : ¬ 5 < nI t) => ?_)) <;> rw [nI_eqI (by omega) (by omega)] at c
  · rw [cIf_t (Or.inl c)] at h
    exact Wq.go ok12_widened 20 [] h
  · rw [i32_lt, nI_t (by omega)] at c2
    have c2' : (5 : Int) < t := c2
    rw [cIf_f (fun q => q.elim c (fun q => by omega))] at h
    refine And.intro (fun (c3 : ¬ nI t = 6) => ?_) (fun (c3 : nI t = 6) => ?_) <;> rw [c_6, nI_eqI (by omega) (by omega)] at c3
    · rw [cIf_f c3] at h
      refine And.intro (fun (c4 : ¬ nI f = 6) => ?_) (fun (c4 : nI f = 6) => ?_) <;> rw [c_6, nI_eqI (by omega) (by omega)] at c4
      · rw [cIf_f c4] at h
        exact c12_doubleBits h
      · rw [cIf_t c4] at h
        refine And.intro (hb c4) (fun u hu => c12_doubleBits ?_)
        rw [dB_u hu]
        exact h
    · rw [cIf_t c3] at h
      exact c12_floatBits h
  · rw [i32_lt, nI_t (by omega)] at c2
    have c2' : ¬ (5 : Int) < t := c2
    rw [cIf_t (Or.inr (by omega))] at h
    exact Wq.go ok12_widened 20 [] h
theorem c12_asDouble {L : Nat} {b : Int64} (hL : L < 1000) (hb : okB L b) (h7 : L = 6 ∨ L = 7) (h : ∀ u, dbR L b u → Q (some (.double u)) w) : Con G M12_asDouble [.int (nI L), .long b] w Q := by
  refine Con.go hw12_asDouble ok12_asDouble 30 [] rfl ?_
  refine And.intro (fun (c3 : ¬ nI L = 6) => ?_) (fun (c3 : nI L = 6) => ?_) <;> rw [c_6, nI_eqI (by omega) (by omega)] at c3
  · exact And.intro (hb.2 (h7.elim (fun q => absurd q c3) id)) (h _ ⟨fun q => absurd q c3, fun _ => rfl⟩)
  · exact And.intro (hb.1 c3) (fun u hu => h u ⟨fun _ => hu, fun q => absurd c3 q⟩)
theorem cmpv0 (r : Option Ordering) (op : CmpOp) : Op.cmpValue r op = 0 ↔ r = some .eq := by
  rcases r with _ | o
  · cases op <;> exact ⟨fun q => absurd q (by decide), fun q => by cases q⟩
  · cases o <;> cases op <;> first | exact ⟨fun _ => rfl, fun _ => rfl⟩ | exact ⟨fun q => absurd q (by decide), fun q => by cases q⟩
theorem c12_isFinite {u : UInt64} (h : Q (some (.int (bI (finB u)))) w) : Con G M12_isFinite [.double u] w Q := by
  have hu := FP.Core.lt_full64 u
  rw [FP.Core.half_b64] at hu
  have no : ¬ finB u → ((0 : Int32) &&& 1 = 0 ∧ Q (some (.int 0)) w) := fun q => by rw [bI_f q] at h; exact ⟨rfl, h⟩
  have i1 : ¬ FP.Core.dIsNaN (9218868437227405312 : UInt64) = true := by rw [nan64]; decide
  have i2 : ¬ FP.Core.dIsNaN (18442240474082181120 : UInt64) = true := by rw [nan64]; decide
  refine Con.go hw12_isFinite ok12_isFinite 30 [] rfl ?_
  refine And.intro (fun c => ?_) (fun c => And.intro (fun c2 => ?_) (fun c2 => And.intro (fun c3 => ?_) (fun c3 => ?_))) <;> rw [dself] at c
  · rw [Classical.not_not, nan64] at c
    exact no (fun q => by unfold finB at q; omega)
  · rw [cmpv0] at c2
    refine no (fun q => ?_)
    have c2 : FP.dcmp u 9218868437227405312 = some .eq := c2
    rw [dcmp_bits c i1] at c2
    have e := Int.compare_eq_eq.mp (Option.some.inj c2)
    rw [key64, key64] at e
    unfold finB at q
    have : (9218868437227405312 : UInt64).toNat = 9218868437227405312 := rfl
    rw [this] at e
    split at e <;> split at e <;> omega
  · rw [cmpv0] at c3
    refine no (fun q => ?_)
    have c3 : FP.dcmp u 18442240474082181120 = some .eq := c3
    rw [dcmp_bits c i2] at c3
    have e := Int.compare_eq_eq.mp (Option.some.inj c3)
    rw [key64, key64] at e
    unfold finB at q
    have : (18442240474082181120 : UInt64).toNat = 18442240474082181120 := rfl
    rw [this] at e
    split at e <;> split at e <;> omega
  · rw [cmpv0] at c2 c3
    have q : finB u := by
      unfold finB
      rw [nan64] at c
      have n1 : ¬ FP.dcmp u 9218868437227405312 = some .eq := c2
      have n2 : ¬ FP.dcmp u 18442240474082181120 = some .eq := c3
      have cn : ¬ FP.Core.dIsNaN u = true := by rw [nan64]; exact c
      rw [dcmp_bits cn i1, key64, key64, show (9218868437227405312 : UInt64).toNat = 9218868437227405312 from rfl] at n1
      rw [dcmp_bits cn i2, key64, key64, show (18442240474082181120 : UInt64).toNat = 18442240474082181120 from rfl] at n2
      by_cases hs : 2 ^ 63 ≤ u.toNat
      · rw [if_pos hs, if_pos (by decide)] at n2
        have n2 : ¬ -((u.toNat % 2 ^ 63 : Nat) : Int) = -((18442240474082181120 % 2 ^ 63 : Nat) : Int) := fun e => n2 (by rw [e]; exact congrArg some (Int.compare_eq_eq.mpr rfl))
        omega
      · rw [if_neg hs, if_neg (by decide)] at n1
        have n1 : ¬ ((u.toNat % 2 ^ 63 : Nat) : Int) = ((9218868437227405312 % 2 ^ 63 : Nat) : Int) := fun e => n1 (by rw [e]; exact congrArg some (Int.compare_eq_eq.mpr rfl))
        omega
    rw [bI_t q] at h
    exact ⟨rfl, h⟩
end
