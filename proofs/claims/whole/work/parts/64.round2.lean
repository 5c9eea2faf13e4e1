/-! ===== rounded: whole numbers as float and double ===== -/
theorem zN_toInt {n : Nat} (h : n < 2 ^ 63) : (lN n).toInt = (n : Int) := by
  have e64 : (Int64.size : Nat) = 2 ^ 64 := rfl
  show (Int64.ofNat n).toInt = _
  rw [Int64.toInt_ofNat', e64, Int.bmod_eq_of_le (by omega) (by omega)]
theorem zN_lt {a b : Nat} (ha : a < 2 ^ 63) (hb : b < 2 ^ 63) : lN a < lN b ↔ a < b := by rw [i64_lt, zN_toInt ha, zN_toInt hb]; omega
theorem zN_le {a b : Nat} (ha : a < 2 ^ 63) (hb : b < 2 ^ 63) : lN a ≤ lN b ↔ a ≤ b := by rw [i64_le, zN_toInt ha, zN_toInt hb]; omega
theorem nI_64 {n : Nat} (h : n < 2147483648) : (nI n).toInt64 = lN n := by
  apply Int64.toInt_inj.mp
  rw [i32_wide, nI_t h, zN_toInt (by omega)]
theorem nI_subI {a b : Nat} (h : b ≤ a) (ha : a < 2147483648) : nI a - nI b = nI (a - b) := by
  apply Int32.toInt_inj.mp
  rw [i32_sub (by rw [nI_t ha, nI_t (by omega)]; omega) (by rw [nI_t ha, nI_t (by omega)]; omega), nI_t ha, nI_t (by omega), nI_t (by omega)]; omega
section
variable {G : qGX} {w : qSt} {Q : Option Value → qSt → Prop}
theorem c2_rounded {v : Int64} {fr bias : Nat} (hfr : fr ≤ 52) (hfr1 : 1 ≤ fr) (hb : bias ≤ 2000) (hb1 : 1 ≤ bias) (h : Q (some (.long (lN (rdN (szL v) fr bias)))) w) : Con G M2_rounded [.long v, .int (nI fr), .int (nI bias)] w Q := by
  have hs := szL_lt v
  have es := lN_szL v
  generalize hn : szL v = n at *
  have fin : ∀ K x9 x10 x11 x12 x13 a b, n ≠ 0 → K = kpN n fr → Wq G M2_rounded 110 [some (.long v), none, some (.int (nI fr)), some (.int (nI bias)), some (.long (lN n)), none, some (.int (nI (Nat.log2 n))), some (.long (lN K)), none, x9, x10, x11, x12, x13] [] (a, b) w Q := by
    intro K x9 x10 x11 x12 x13 a b h0 hK
    have hl : Nat.log2 n < 64 := (Nat.log2_lt h0).mpr (by omega)
    unfold rdN at h
    rw [if_neg h0, ← hK] at h
    refine Wq.go ok2_rounded 30 [] ?_
    show Q (some (.long ((nI (Nat.log2 n) + nI bias - nI 1).toInt64 <<< ((nI fr).toInt64 &&& 63) + lN K))) w
    rw [nI_add, nI_subI (by omega) (by omega), nI_64 (by omega), wb_shl _ (by omega), zN_add]
    exact h
  have key : ∀ a b, Wq G M2_rounded 14 [some (.long v), none, some (.int (nI fr)), some (.int (nI bias)), some (.long (lN n)), none, none, none, none, none, none, none, none, none] [] (a, b) w Q := by
    intro a b
    refine Wq.go ok2_rounded 60 [47, 110] ?_
    refine c11_topBit (by omega) ?_
    unfold tbN
    by_cases h0 : n = 0
    · rw [if_pos h0]
      unfold rdN at h
      rw [if_pos h0] at h
      refine And.intro (fun c => absurd c (by decide)) (fun _ => h)
    · rw [if_neg h0]
      have hl : Nat.log2 n < 64 := (Nat.log2_lt h0).mpr (by omega)
      refine And.intro (fun c => ?_) (fun c => absurd (by rw [c_0']; exact (nI_leI (by omega) (by omega)).mpr (by omega)) c)
      refine cJ_max ?_
      refine And.intro (fun c2 => ?_) (fun c2 => ?_)
      · have c2 : nI (Nat.log2 n) ≤ nI fr := c2
        rw [nI_leI (by omega) (by omega)] at c2
        show Wq G M2_rounded 110 [some (.long v), none, some (.int (nI fr)), some (.int (nI bias)), some (.long (lN n)), none, some (.int (nI (Nat.log2 n))), some (.long (lN n <<< ((cIf (nI fr - nI (Nat.log2 n) < 0) 0 (nI fr - nI (Nat.log2 n))).toInt64 &&& 63))), none, none, none, none, none, none] [] (a, b) w Q
        rw [nI_subI c2 (by omega), cIf_f (by rw [c_0', nI_ltI (by omega) (by omega)]; omega), wb_shl _ (by omega)]
        exact fin _ _ _ _ _ _ _ _ h0 (by unfold kpN; rw [if_pos c2])
      · have c2 : ¬ nI (Nat.log2 n) ≤ nI fr := c2
        rw [nI_leI (by omega) (by omega)] at c2
        have hp := Nat.two_pow_pos (Nat.log2 n - fr)
        have eL : nI (Nat.log2 n) - nI fr = nI (Nat.log2 n - fr) := nI_subI (by omega) (by omega)
        have eL1 : nI (Nat.log2 n) - nI fr - nI 1 = nI (Nat.log2 n - fr - 1) := by rw [eL, nI_subI (by omega) (by omega)]
        have eK : ((lN n).toUInt64 >>> ((nI (Nat.log2 n) - nI fr).toInt64.toUInt64 &&& Int64.toUInt64 63)).toInt64 = lN (n / 2 ^ (Nat.log2 n - fr)) := by rw [eL, wb_shr (by omega) (by omega)]
        have eR : lN n &&& (lN 1 <<< ((nI (Nat.log2 n) - nI fr).toInt64 &&& 63) - lN 1) = lN (n % 2 ^ (Nat.log2 n - fr)) := by
          rw [eL, wb_shl _ (by omega), Nat.one_mul, zN_sub (by omega), wb_mask (by omega) (by omega)]
        have eH : lN 1 <<< ((nI (Nat.log2 n) - nI fr - nI 1).toInt64 &&& 63) = lN (2 ^ (Nat.log2 n - fr - 1)) := by rw [eL1, wb_shl _ (by omega), Nat.one_mul]
        have e2 : 2 ^ (Nat.log2 n - fr) = 2 * 2 ^ (Nat.log2 n - fr - 1) := by rw [Nat.mul_comm, ← Nat.pow_succ]; congr 1; omega
        have h63 : 2 ^ (Nat.log2 n - fr) < 2 ^ 63 := wb_lt2 (by omega)
        have hmod := Nat.mod_lt n hp
        have hdiv : n / 2 ^ (Nat.log2 n - fr) < 2 ^ 63 := by
          refine (Nat.div_lt_iff_lt_mul hp).mpr ?_
          have : 2 ≤ 2 ^ (Nat.log2 n - fr) := by have := Nat.pow_le_pow_right (n := 2) (by decide) (show 1 ≤ Nat.log2 n - fr by omega); omega
          have := Nat.mul_le_mul_left (2 ^ 63) this
          omega
        have up : ∀ x, x = lN (n / 2 ^ (Nat.log2 n - fr) + 1) → 2 ^ (Nat.log2 n - fr - 1) ≤ n % 2 ^ (Nat.log2 n - fr) → (n % 2 ^ (Nat.log2 n - fr) = 2 ^ (Nat.log2 n - fr - 1) → n / 2 ^ (Nat.log2 n - fr) % 2 = 1) → ∀ x9 x10 x12 a b, Wq G M2_rounded 110 [some (.long v), none, some (.int (nI fr)), some (.int (nI bias)), some (.long (lN n)), none, some (.int (nI (Nat.log2 n))), some (.long x), none, x9, x10, none, x12, none] [] (a, b) w Q := by
          intro x ex h1 h2 x9 x10 x12 a b
          rw [ex]
          refine fin _ _ _ _ _ _ _ _ h0 ?_
          unfold kpN FP.Core.nearest
          rw [if_neg c2, if_neg (by omega)]
          by_cases z : 2 ^ (Nat.log2 n - fr) < 2 * (n % 2 ^ (Nat.log2 n - fr))
          · rw [if_pos z]
          · rw [if_neg z, h2 (by omega)]
        have dn : ∀ x, x = lN (n / 2 ^ (Nat.log2 n - fr)) → n % 2 ^ (Nat.log2 n - fr) ≤ 2 ^ (Nat.log2 n - fr - 1) → (n % 2 ^ (Nat.log2 n - fr) = 2 ^ (Nat.log2 n - fr - 1) → n / 2 ^ (Nat.log2 n - fr) % 2 = 0) → ∀ x9 x10 x12 a b, Wq G M2_rounded 110 [some (.long v), none, some (.int (nI fr)), some (.int (nI bias)), some (.long (lN n)), none, some (.int (nI (Nat.log2 n))), some (.long x), none, x9, x10, none, x12, none] [] (a, b) w Q := by
          intro x ex h1 h2 x9 x10 x12 a b
          rw [ex]
          refine fin _ _ _ _ _ _ _ _ h0 ?_
          unfold kpN FP.Core.nearest
          rw [if_neg c2]
          by_cases z : 2 * (n % 2 ^ (Nat.log2 n - fr)) < 2 ^ (Nat.log2 n - fr)
          · rw [if_pos z]
          · rw [if_neg z, if_neg (by omega), h2 (by omega), Nat.add_zero]
        have k79 : ∀ x9 x y z a b, x = lN (n / 2 ^ (Nat.log2 n - fr)) → y = lN (n % 2 ^ (Nat.log2 n - fr)) → z = lN (2 ^ (Nat.log2 n - fr - 1)) → Wq G M2_rounded 79 [some (.long v), none, some (.int (nI fr)), some (.int (nI bias)), some (.long (lN n)), none, some (.int (nI (Nat.log2 n))), some (.long x), none, x9, some (.long y), none, some (.long z), none] [] (a, b) w Q := by
          intro x9 x y z a b ex ey ez
          refine Wq.go ok2_rounded 40 [110] ?_
          refine And.intro (fun c3 => ?_) (fun c3 => And.intro (fun c4 => ?_) (fun c4 => And.intro (fun c5 => ?_) (fun c5 => ?_)))
          · rw [lg_gt0, ey, ez, zN_lt (by omega) (by omega)] at c3
            exact up (x + lN 1) (by rw [ex, zN_add]) (by omega) (by omega) _ _ _ _ _
          all_goals rw [lg_gt0, ey, ez, zN_lt (by omega) (by omega)] at c3
          · have c4 : ¬ lg_cmp y z = 0 := c4
            rw [lg_eq0, ey, ez, zN_eq (by omega) (by omega)] at c4
            exact dn _ ex (by omega) (by omega) _ _ _ _ _
          · have c5 : lg_cmp (x &&& 1) (lN 0) = 0 := c5
            rw [lg_eq0, ex, wb_a1 (by omega), zN_eq (by omega) (by omega)] at c5
            exact dn _ ex (by omega) (fun _ => c5) _ _ _ _ _
          · have c4 : lg_cmp y z = 0 := c4
            rw [lg_eq0, ey, ez, zN_eq (by omega) (by omega)] at c4
            have c5 : ¬ lg_cmp (x &&& 1) (lN 0) = 0 := c5
            rw [lg_eq0, ex, wb_a1 (by omega), zN_eq (by omega) (by omega)] at c5
            exact up (x + lN 1) (by rw [ex, zN_add]) (by omega) (by omega) _ _ _ _ _
        have k47 : ∀ X a b, Wq G M2_rounded 47 [some (.long v), none, some (.int (nI fr)), some (.int (nI bias)), some (.long (lN n)), none, some (.int (nI (Nat.log2 n))), some (.long X), none, none, none, none, none, none] [] (a, b) w Q := by
          intro X a b
          refine Wq.go ok2_rounded 40 [79] ?_
          exact k79 _ _ _ _ _ _ eK eR eH
        exact k47 _ _ _
  have key12 : ∀ x, x = lN n → Wq G M2_rounded 12 [some (.long v), none, some (.int (nI fr)), some (.int (nI bias)), none, none, none, none, none, none, none, none, none, none] [.long x] (0, 0) w Q := by
    intro x ex
    rw [ex]
    exact Wq.go ok2_rounded 20 [14] (key 0 0)
  refine Con.go hw2_rounded ok2_rounded 20 [12] rfl ?_
  refine And.intro (fun c => ?_) (fun c => ?_) <;> rw [lg_ge0] at c
  · rw [if_neg (by rw [i64_lt]; rw [i64_le] at c; omega)] at es
    exact key12 _ es
  · rw [if_pos (by rw [i64_lt]; rw [i64_le] at c; omega)] at es
    exact key12 _ es
/-- what the bits of a rounded whole number are -/
theorem l2d_bits (v : Int64) : (FP.l2d v).toNat = (if v < 0 then 2 ^ 63 else 0) + rdN (szL v) 52 1023 := by
  have hs := szL_lt v
  have hr := rdN_lt (n := szL v) (fr := 52) (bias := 1023) (by omega)
  have e : FP.Core.fromInt FP.Core.b64 v.toInt = (decide (v.toInt < 0)).toNat * FP.Core.half FP.Core.b64 + rdN (szL v) 52 1023 :=
    enc_int FP.Core.good_b64 (fr := 52) (bias := 1023) rfl rfl (by omega) (by omega) (decide (v.toInt < 0)) (n := szL v) (by omega)
  show (UInt64.ofNat (FP.Core.fromInt FP.Core.b64 v.toInt)).toNat = _
  rw [e, FP.Core.half_b64]
  have ed : (decide (v.toInt < 0)).toNat * 2 ^ 63 = (if v < 0 then 2 ^ 63 else 0) := by
    by_cases c : v < 0
    · rw [if_pos c]; rw [i64_lt] at c; rw [decide_eq_true (show v.toInt < 0 from c)]; rfl
    · rw [if_neg c]; rw [i64_lt] at c; rw [decide_eq_false (show ¬ v.toInt < 0 from c)]; rfl
  rw [ed, UInt64.toNat_ofNat', Nat.mod_eq_of_lt]
  split <;> omega
theorem l2f_bits (v : Int64) : (FP.l2f v).toNat = (if v < 0 then 2 ^ 31 else 0) + rdN (szL v) 23 127 := by
  have hs := szL_lt v
  have hr := rdN_lt (n := szL v) (fr := 23) (bias := 127) (by omega)
  have e : FP.Core.fromInt FP.Core.b32 v.toInt = (decide (v.toInt < 0)).toNat * FP.Core.half FP.Core.b32 + rdN (szL v) 23 127 :=
    enc_int FP.Core.good_b32 (fr := 23) (bias := 127) rfl rfl (by omega) (by omega) (decide (v.toInt < 0)) (n := szL v) (by omega)
  show (UInt32.ofNat (FP.Core.fromInt FP.Core.b32 v.toInt)).toNat = _
  rw [e, FP.Core.half_b32]
  have ed : (decide (v.toInt < 0)).toNat * 2 ^ 31 = (if v < 0 then 2 ^ 31 else 0) := by
    by_cases c : v < 0
    · rw [if_pos c]; rw [i64_lt] at c; rw [decide_eq_true (show v.toInt < 0 from c)]; rfl
    · rw [if_neg c]; rw [i64_lt] at c; rw [decide_eq_false (show ¬ v.toInt < 0 from c)]; rfl
  rw [ed, UInt32.toNat_ofNat', Nat.mod_eq_of_lt]
  split <;> omega
theorem u64_lN (u : UInt64) : u.toInt64 = lN u.toNat := wb_inj (by rw [wb_tb]; show u.toBitVec = BitVec.ofNat 64 u.toBitVec.toNat; simp)
theorem u32_lN (u : UInt32) : u.toInt32.toInt64 = lN (if u.toNat < 2 ^ 31 then u.toNat else 2 ^ 64 - 2 ^ 32 + u.toNat) := by
  have hu : u.toNat < 2 ^ 32 := u.toNat_lt
  apply Int64.toInt_inj.mp
  rw [i32_wide]
  have e : u.toInt32.toInt = if 2 * u.toNat < 2 ^ 32 then (u.toNat : Int) else (u.toNat : Int) - 2 ^ 32 := by
    show u.toBitVec.toInt = _
    rw [BitVec.toInt_eq_toNat_cond]; rfl
  rw [e]
  have e64 : (Int64.size : Nat) = 2 ^ 64 := rfl
  by_cases c : u.toNat < 2 ^ 31
  · rw [if_pos c, if_pos (by omega), zN_toInt (by omega)]
  · rw [if_neg c, if_neg (by omega)]
    show _ = (Int64.ofNat _).toInt
    rw [Int64.toInt_ofNat', e64]
    rw [show ((2 ^ 64 - 2 ^ 32 + u.toNat : Nat) : Int) = ((u.toNat : Int) - 2 ^ 32) + (2 ^ 64 : Nat) by omega, Int.add_bmod_right, Int.bmod_eq_of_le (by omega) (by omega)]
theorem c2_longAsDouble {v : Int64} (h : Q (some (.long (dB (FP.l2d v)))) w) : Con G M2_longAsDouble [.long v] w Q := by
  have hs := szL_lt v
  have hr := rdN_lt (n := szL v) (fr := 52) (bias := 1023) (by omega)
  have hb := l2d_bits v
  have e : dB (FP.l2d v) = lN ((if v < 0 then 2 ^ 63 else 0) + rdN (szL v) 52 1023) := by
    unfold dB
    rw [cIf_f, u64_lN, hb]
    rw [nan64, hb]
    split <;> omega
  rw [e] at h
  refine Con.go hw2_longAsDouble ok2_longAsDouble 20 [] rfl ?_
  refine c2_rounded (fr := 52) (bias := 1023) (by omega) (by omega) (by omega) (by omega) ?_
  refine And.intro (fun c => ?_) (fun c => ?_)
  · have c : 0 ≤ lg_cmp v 0 := c
    rw [lg_ge0] at c
    rw [if_neg (by rw [i64_lt]; rw [i64_le] at c; omega), Nat.zero_add] at h
    exact h
  · have c : ¬ 0 ≤ lg_cmp v 0 := c
    rw [lg_ge0] at c
    rw [if_pos (by rw [i64_lt]; rw [i64_le] at c; omega)] at h
    have : lN (2 ^ 63) ||| lN (rdN (szL v) 52 1023) = lN (2 ^ 63 + rdN (szL v) 52 1023) := by
      rw [wb_or (by omega) (by omega)]
      have := Nat.two_pow_add_eq_or_of_lt (i := 63) (b := rdN (szL v) 52 1023) (by omega) 1
      rw [Nat.mul_one] at this; rw [← this]
    rw [← this] at h
    exact h
theorem c2_longAsFloat {v : Int64} (h : Q (some (.long (fB (FP.l2f v)).toInt64)) w) : Con G M2_longAsFloat [.long v] w Q := by
  have hs := szL_lt v
  have hr := rdN_lt (n := szL v) (fr := 23) (bias := 127) (by omega)
  have hb := l2f_bits v
  have e : (fB (FP.l2f v)).toInt64 = lN ((if v < 0 then 2 ^ 64 - 2 ^ 31 else 0) + rdN (szL v) 23 127) := by
    unfold fB
    rw [cIf_f, u32_lN, hb]
    · by_cases c : v < 0
      · rw [if_pos c, if_pos c, if_neg (by omega)]; congr 1; omega
      · rw [if_neg c, if_neg c, if_pos (by omega)]
    · rw [nan32, hb]
      split <;> omega
  rw [e] at h
  refine Con.go hw2_longAsFloat ok2_longAsFloat 20 [] rfl ?_
  refine c2_rounded (fr := 23) (bias := 127) (by omega) (by omega) (by omega) (by omega) ?_
  refine And.intro (fun c => ?_) (fun c => ?_)
  · have c : 0 ≤ lg_cmp v 0 := c
    rw [lg_ge0] at c
    rw [if_neg (by rw [i64_lt]; rw [i64_le] at c; omega), Nat.zero_add] at h
    exact h
  · have c : ¬ 0 ≤ lg_cmp v 0 := c
    rw [lg_ge0] at c
    rw [if_pos (by rw [i64_lt]; rw [i64_le] at c; omega)] at h
    have : lN (2 ^ 64 - 2 ^ 31) ||| lN (rdN (szL v) 23 127) = lN (2 ^ 64 - 2 ^ 31 + rdN (szL v) 23 127) := by
      rw [wb_or (by omega) (by omega)]
      have := Nat.two_pow_add_eq_or_of_lt (i := 31) (b := rdN (szL v) 23 127) (by omega) (2 ^ 33 - 1)
      rw [show 2 ^ 64 - 2 ^ 31 = 2 ^ 31 * (2 ^ 33 - 1) by decide, ← this]
    rw [← this] at h
    exact h
end
