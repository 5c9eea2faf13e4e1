/-! ===== exponent, significand, shiftedOut, packed ===== -/
section
variable {G : qGX} {w : qSt} {Q : Option Value → qSt → Prop}
theorem mx63 {n : Nat} (hn : n < 2 ^ 64) : lN n &&& 9223372036854775807 = lN (n % 2 ^ 63) := wb_mask (k := 63) hn (by decide)
theorem c2_exponent {n : Nat} (hn : n < 2 ^ 64) (h : Q (some (.int (nI (xpN (n % 2 ^ 63) (2 ^ 52))))) w) : Con G M2_exponent [.long (lN n)] w Q := by
  have hm : n % 2 ^ 63 < 2 ^ 63 := Nat.mod_lt _ (by decide)
  refine Con.go hw2_exponent ok2_exponent 20 [] rfl ?_
  refine cJ_max ?_
  show Q (some (.int (cIf (((lN n &&& 9223372036854775807).toUInt64 >>> ((nI 52).toInt64.toUInt64 &&& Int64.toUInt64 63)).toInt64.toInt32 < nI 1) (nI 1) ((lN n &&& 9223372036854775807).toUInt64 >>> ((nI 52).toInt64.toUInt64 &&& Int64.toUInt64 63)).toInt64.toInt32))) w
  rw [mx63 hn, wb_shr (by omega) (by omega), i64_32 (j := n % 2 ^ 63 / 2 ^ 52) (zN_toInt (by omega)) (by omega)]
  unfold xpN at h
  by_cases c : n % 2 ^ 63 / 2 ^ 52 < 1
  · rw [cIf_t (by rw [nI_ltI (by omega) (by omega)]; exact c)]
    rw [Nat.max_eq_right (by omega)] at h; exact h
  · rw [cIf_f (by rw [nI_ltI (by omega) (by omega)]; exact c)]
    rw [Nat.max_eq_left (by omega)] at h; exact h
theorem c2_significand {n : Nat} (hn : n < 2 ^ 64) (h : Q (some (.long (lN (sgN (n % 2 ^ 63) (2 ^ 52))))) w) : Con G M2_significand [.long (lN n)] w Q := by
  have hm : n % 2 ^ 63 < 2 ^ 63 := Nat.mod_lt _ (by decide)
  have e1 : lN n &&& 4503599627370495 = lN (n % 2 ^ 52) := wb_mask (k := 52) hn (by decide)
  unfold sgN at h
  refine Con.go hw2_significand ok2_significand 20 [] rfl ?_
  refine And.intro (fun c => ?_) (fun c => ?_)
  · have c : lg_cmp (lN n &&& 9223372036854775807) (lN (2 ^ 52)) < 0 := c
    rw [lg_lt0, mx63 hn, zN_lt (by omega) (by omega)] at c
    rw [if_pos c] at h
    show Q (some (.long (lN n &&& 4503599627370495))) w
    rw [e1, show n % 2 ^ 52 = n % 2 ^ 63 by omega]; exact h
  · have c : ¬ lg_cmp (lN n &&& 9223372036854775807) (lN (2 ^ 52)) < 0 := c
    rw [lg_lt0, mx63 hn, zN_lt (by omega) (by omega)] at c
    rw [if_neg c] at h
    show Q (some (.long ((lN n &&& 4503599627370495) ||| lN (2 ^ 52)))) w
    rw [e1, wb_or (by omega) (by omega), Nat.or_comm]
    have := Nat.two_pow_add_eq_or_of_lt (i := 52) (b := n % 2 ^ 52) (by omega) 1
    rw [Nat.mul_one] at this
    rw [← this, show n % 2 ^ 52 = n % 2 ^ 63 % 2 ^ 52 by omega]; exact h
theorem c2_shiftedOut {n k : Nat} (hn : n < 2 ^ 60) (hk : k ≤ 3000) (h : Q (some (.long (lN (soN n k)))) w) : Con G M2_shiftedOut [.long (lN n), .int (nI k)] w Q := by
  unfold soN at h
  refine Con.go hw2_shiftedOut ok2_shiftedOut 30 [] rfl ?_
  refine And.intro (fun c => And.intro (fun c2 => And.intro (fun c3 => ?_) (fun c3 => ?_)) (fun c2 => And.intro (fun c3 => ?_) (fun c3 => ?_))) (fun c => ?_)
  all_goals rw [c_0', nI_ltI (by omega) (by omega)] at c
  · have c2 : nI k ≤ nI 60 := c2
    rw [nI_leI (by omega) (by omega)] at c2
    have hp := Nat.two_pow_pos k
    have h63 : 2 ^ k < 2 ^ 63 := wb_lt2 (by omega)
    have hmod := Nat.mod_lt n hp
    have hdiv := Nat.div_le_self n (2 ^ k)
    have c3 : lg_cmp (lN n &&& (lN 1 <<< ((nI k).toInt64 &&& 63) - lN 1)) (lN 0) = 0 := c3
    rw [lg_eq0, wb_shl _ (by omega), Nat.one_mul, zN_sub (by omega), wb_mask (by omega) (by omega), zN_eq (by omega) (by omega)] at c3
    rw [if_pos c3] at h
    show Q (some (.long (((lN n).toUInt64 >>> ((nI k).toInt64.toUInt64 &&& Int64.toUInt64 63)).toInt64 ||| (nI 0).toInt64))) w
    rw [wb_shr (by omega) (by omega), nI_64 (by omega), wb_or (by omega) (by omega)]
    exact h
  · have c2 : nI k ≤ nI 60 := c2
    rw [nI_leI (by omega) (by omega)] at c2
    have hp := Nat.two_pow_pos k
    have h63 : 2 ^ k < 2 ^ 63 := wb_lt2 (by omega)
    have hmod := Nat.mod_lt n hp
    have hdiv := Nat.div_le_self n (2 ^ k)
    have c3 : ¬ lg_cmp (lN n &&& (lN 1 <<< ((nI k).toInt64 &&& 63) - lN 1)) (lN 0) = 0 := c3
    rw [lg_eq0, wb_shl _ (by omega), Nat.one_mul, zN_sub (by omega), wb_mask (by omega) (by omega), zN_eq (by omega) (by omega)] at c3
    rw [if_neg c3] at h
    show Q (some (.long (((lN n).toUInt64 >>> ((nI k).toInt64.toUInt64 &&& Int64.toUInt64 63)).toInt64 ||| (nI 1).toInt64))) w
    rw [wb_shr (by omega) (by omega), nI_64 (by omega), wb_or (by omega) (by omega)]
    exact h
  · have c2 : ¬ nI k ≤ nI 60 := c2
    rw [nI_leI (by omega) (by omega)] at c2
    have h60 : 2 ^ 60 < 2 ^ k := wb_lt2 (by omega)
    have c3 : lg_cmp (lN n) (lN 0) = 0 := c3
    rw [lg_eq0, zN_eq (by omega) (by omega)] at c3
    rw [c3, Nat.zero_div, Nat.zero_mod, if_pos rfl] at h
    exact h
  · have c2 : ¬ nI k ≤ nI 60 := c2
    rw [nI_leI (by omega) (by omega)] at c2
    have h60 : 2 ^ 60 < 2 ^ k := wb_lt2 (by omega)
    have c3 : ¬ lg_cmp (lN n) (lN 0) = 0 := c3
    rw [lg_eq0, zN_eq (by omega) (by omega)] at c3
    rw [Nat.div_eq_of_lt (by omega), Nat.mod_eq_of_lt (by omega), if_neg c3] at h
    exact h
  · rw [show k = 0 by omega, Nat.pow_zero, Nat.mod_one, if_pos rfl, Nat.or_zero, Nat.div_one] at h
    exact h
theorem soN_le (n k : Nat) : soN n k ≤ n / 2 ^ k + 1 := by
  unfold soN
  split
  · rw [Nat.or_zero]; omega
  · rw [or_1]; omega
end
