/-! ===== floats as doubles; what a value is widened to ===== -/
def sgN (m T : Nat) : Nat := if m < T then m else T + m % T
def xpN (m T : Nat) : Nat := max (m / T) 1
theorem dec_fin {f : FP.Core.Fmt} {n : Nat} (h : FP.Core.mag f n < FP.Core.infBits f) : FP.Core.decode f n = .fin (FP.Core.fieldS f n) (sgN (FP.Core.mag f n) f.tails) (f.qmin + ((xpN (FP.Core.mag f n) f.tails : Int) - 1)) := by
  have hm := FP.Core.mag_lt f n
  have ht := FP.Core.tails_pos f
  unfold FP.Core.decode sgN xpN
  rw [FP.Core.fieldE_mag, FP.Core.fieldT_mag, if_neg (fun z => by have := (FP.Core.div_tails_top hm).mp z; omega)]
  by_cases c : FP.Core.mag f n < f.tails
  · rw [if_pos c, Nat.div_eq_of_lt c, if_pos rfl, Nat.mod_eq_of_lt c]
    congr 1
    show f.qmin = f.qmin + (((1 : Nat) : Int) - 1)
    omega
  · have h1 : 1 ≤ FP.Core.mag f n / f.tails := (Nat.le_div_iff_mul_le ht).mpr (by omega)
    rw [if_neg c, if_neg (by omega), Nat.max_eq_left h1]
theorem enc_fit {f : FP.Core.Fmt} {s : Bool} {c : Nat} {q : Int} (hd : FP.Core.fits f (.fin s c q)) : FP.Core.encode f (.fin s c q) = s.toNat * FP.Core.half f + ((q - f.qmin).toNat * f.tails + c) := by
  obtain ⟨h1, h2, h3, h4⟩ := hd
  unfold FP.Core.half
  have hsX : ∀ e t : Nat, FP.Core.assemble f s e t = s.toNat * (f.exps * f.tails) + e * f.tails + t := by
    intro e t
    unfold FP.Core.assemble
    rw [Nat.add_mul, Nat.mul_assoc]
  show (if c < f.tails then FP.Core.assemble f s 0 c else FP.Core.assemble f s ((q - f.qmin).toNat + 1) (c - f.tails)) = _
  by_cases c3 : c < f.tails
  · rw [if_pos c3, hsX, show (q - f.qmin).toNat = 0 by omega]; omega
  · rw [if_neg c3, hsX, Nat.add_mul, Nat.one_mul]; omega
/-- the size of a float as a double -/
def f2N (m : Nat) : Nat := if m = 2139095040 then 9218868437227405312 else if 2 ^ 23 ≤ m then m * 2 ^ 29 + 896 * 2 ^ 52 else if m = 0 then 0 else (Nat.log2 m + 873) * 2 ^ 52 + m * 2 ^ (52 - Nat.log2 m)
theorem f2N_sub {m : Nat} (h0 : m ≠ 0) (h : m < 2 ^ 23) : 2 ^ 52 ≤ m * 2 ^ (52 - Nat.log2 m) ∧ m * 2 ^ (52 - Nat.log2 m) < 2 ^ 53 ∧ Nat.log2 m < 23 := by
  obtain ⟨l1, l2⟩ := log2_b h0
  have hl : Nat.log2 m < 23 := (Nat.log2_lt h0).mpr h
  have e1 : 2 ^ 52 = 2 ^ Nat.log2 m * 2 ^ (52 - Nat.log2 m) := by rw [← Nat.pow_add]; congr 1; omega
  have e2 : 2 ^ 53 = 2 ^ (Nat.log2 m + 1) * 2 ^ (52 - Nat.log2 m) := by rw [← Nat.pow_add]; congr 1; omega
  rw [e1, e2]
  exact ⟨Nat.mul_le_mul_right _ l1, Nat.mul_lt_mul_of_pos_right l2 (Nat.two_pow_pos _), hl⟩
theorem f2N_le {m : Nat} (h : m ≤ 2139095040) : f2N m ≤ 9218868437227405312 := by
  unfold f2N
  by_cases c : m = 2139095040
  · rw [if_pos c]; omega
  · rw [if_neg c]
    by_cases c2 : 2 ^ 23 ≤ m
    · rw [if_pos c2]; omega
    · rw [if_neg c2]
      by_cases c3 : m = 0
      · rw [if_pos c3]; omega
      · rw [if_neg c3]
        obtain ⟨a1, a2, a3⟩ := f2N_sub c3 (by omega)
        omega
theorem f2d_bits {a : UInt32} (h : a.toNat % 2 ^ 31 ≤ 2139095040) : (FP.f2d a).toNat = (if 2 ^ 31 ≤ a.toNat then 2 ^ 63 else 0) + f2N (a.toNat % 2 ^ 31) := by
  have hn : FP.Core.fIsNaN a = false := by
    rw [Bool.eq_false_iff]; intro z; rw [nan32] at z; omega
  have e0 : FP.f2d a = FP.Core.f2d a := Jvm.FP.f2d_core hn
  have hle := f2N_le h
  rw [e0]
  show (UInt64.ofNat (FP.Core.encode FP.Core.b64 (FP.Core.round FP.Core.b64 (FP.Core.decode FP.Core.b32 a.toNat)))).toNat = _
  have hS : FP.Core.fieldS FP.Core.b32 a.toNat = decide (2 ^ 31 ≤ a.toNat) := by rw [FP.Core.fieldS_mag _ (FP.Core.lt_full32 a), FP.Core.half_b32]
  have hT : ∀ s : Bool, s = decide (2 ^ 31 ≤ a.toNat) → s.toNat * FP.Core.half FP.Core.b64 = (if 2 ^ 31 ≤ a.toNat then 2 ^ 63 else 0) := by
    intro s hs
    rw [hs, FP.Core.half_b64]
    by_cases c : 2 ^ 31 ≤ a.toNat
    · rw [if_pos c, decide_eq_true c]; rfl
    · rw [if_neg c, decide_eq_false c]; rfl
  have main : FP.Core.encode FP.Core.b64 (FP.Core.round FP.Core.b64 (FP.Core.decode FP.Core.b32 a.toNat)) = (FP.Core.fieldS FP.Core.b32 a.toNat).toNat * FP.Core.half FP.Core.b64 + f2N (a.toNat % 2 ^ 31) := by
    generalize hs : FP.Core.fieldS FP.Core.b32 a.toNat = s
    unfold f2N
    have em := FP.Core.mag_toNat32 a
    by_cases c : a.toNat % 2 ^ 31 = 2139095040
    · rw [if_pos c, FP.Core.decode_inf (by rw [em, c, FP.Core.infBits_b32]), hs]
      show FP.Core.assemble FP.Core.b64 s (FP.Core.b64.exps - 1) 0 = _
      rw [FP.Core.half_b64]
      cases s <;> decide
    · rw [if_neg c, dec_fin (by rw [em, FP.Core.infBits_b32]; omega), em, hs, FP.Core.tails_b32, FP.Core.qmin_b32]
      generalize hm : a.toNat % 2 ^ 31 = m at *
      show FP.Core.encode FP.Core.b64 (FP.Core.roundRatio FP.Core.b64 s (sgN m (2 ^ 23)) 1 (-149 + ((xpN m (2 ^ 23) : Int) - 1))) = _
      have hqx : FP.Core.b64.qmax = 971 := by decide
      have hq := FP.Core.qmin_b64
      have ht := FP.Core.tails_b64
      by_cases c2 : 2 ^ 23 ≤ m
      · have hx : xpN m (2 ^ 23) = m / 2 ^ 23 := by unfold xpN; omega
        have hc : sgN m (2 ^ 23) = 2 ^ 23 + m % 2 ^ 23 := by unfold sgN; rw [if_neg (by omega)]
        rw [if_pos c2, hx, hc]
        have hfit : FP.Core.fits FP.Core.b64 (.fin s ((2 ^ 23 + m % 2 ^ 23) * 2 ^ 29) (-149 + ((m / 2 ^ 23 : Nat) : Int) - 1 - 29)) := by
          refine ⟨show _ < 2 ^ 53 by omega, by rw [hq]; omega, by rw [hqx]; omega, Or.inr (by rw [ht]; omega)⟩
        rw [FP.Core.roundRatio_exact FP.Core.good_b64 (by decide) hfit, enc_fit hfit, hq, ht]
        · rw [show (-149 + ((m / 2 ^ 23 : Nat) : Int) - 1 - 29 - -1074).toNat = m / 2 ^ 23 + 895 by omega]
          generalize s.toNat * FP.Core.half FP.Core.b64 = X
          omega
        · rw [show (-149 + (((m / 2 ^ 23 : Nat) : Int) - 1) - (-149 + ((m / 2 ^ 23 : Nat) : Int) - 1 - 29)).toNat = 29 by omega, show (-149 + ((m / 2 ^ 23 : Nat) : Int) - 1 - 29 - (-149 + (((m / 2 ^ 23 : Nat) : Int) - 1))).toNat = 0 by omega]
          omega
      · have hx : xpN m (2 ^ 23) = 1 := by unfold xpN; omega
        have hc : sgN m (2 ^ 23) = m := by unfold sgN; rw [if_pos (by omega)]
        rw [if_neg c2, hx, hc]
        by_cases c3 : m = 0
        · rw [if_pos c3, c3]
          show FP.Core.encode FP.Core.b64 (.fin s 0 FP.Core.b64.qmin) = _
          rw [enc_fit ⟨by decide, Int.le_refl _, by decide, Or.inl rfl⟩, hq]; rfl
        · obtain ⟨a1, a2, a3⟩ := f2N_sub c3 (by omega)
          rw [if_neg c3]
          have hfit : FP.Core.fits FP.Core.b64 (.fin s (m * 2 ^ (52 - Nat.log2 m)) ((Nat.log2 m : Int) - 201)) := by
            refine ⟨a2, by rw [hq]; omega, by rw [hqx]; omega, Or.inr (by rw [ht]; exact a1)⟩
          rw [FP.Core.roundRatio_exact FP.Core.good_b64 (by decide) hfit, enc_fit hfit, hq, ht]
          · rw [show ((Nat.log2 m : Int) - 201 - -1074).toNat = Nat.log2 m + 873 by omega]
          · rw [show (-149 + (((1 : Nat) : Int) - 1) - ((Nat.log2 m : Int) - 201)).toNat = 52 - Nat.log2 m by omega, show ((Nat.log2 m : Int) - 201 - (-149 + (((1 : Nat) : Int) - 1))).toNat = 0 by omega]
            omega
  rw [main, hT _ hS, UInt64.toNat_ofNat', Nat.mod_eq_of_lt]
  split <;> omega
section
variable {G : qGX} {w : qSt} {Q : Option Value → qSt → Prop}
theorem sg_or {n : Nat} (h : n < 2 ^ 63) (b : Bool) : lN (if b = true then 2 ^ 63 else 0) ||| lN n = lN ((if b = true then 2 ^ 63 else 0) + n) := by
  by_cases c : b = true
  · rw [if_pos c, wb_or (by omega) (by omega)]
    have := Nat.two_pow_add_eq_or_of_lt (i := 63) (b := n) (by omega) 1
    rw [Nat.mul_one] at this; rw [← this]
  · rw [if_neg c, wb_or (by omega) (by omega), Nat.zero_or, Nat.zero_add]
theorem c2_floatAsDouble {v : Int64} (hv : kp 6 v = v) (h : Q (some (.long (dB (FP.f2d v.toInt32.toUInt32)))) w) : Con G M2_floatAsDouble [.long v] w Q := by
  have hv2 : v.toInt32.toInt64 = v := by
    have hv : cIf ((2139095040 : Int32) < v.toInt32 &&& 2147483647) 2143289344 v.toInt32.toInt64 = v := hv
    by_cases c : (2139095040 : Int32) < v.toInt32 &&& 2147483647
    · rw [cIf_t c] at hv; rw [← hv]; decide
    · rw [cIf_f c] at hv; exact hv
  generalize ea : v.toInt32.toUInt32 = a at *
  have ha : a.toNat < 2 ^ 32 := a.toNat_lt
  have ev : v = lN (if a.toNat < 2 ^ 31 then a.toNat else 2 ^ 64 - 2 ^ 32 + a.toNat) := by rw [← u32_lN, ← ea]; exact hv2.symm
  have em : v &&& 2147483647 = lN (a.toNat % 2 ^ 31) := by
    apply Int64.toInt_inj.mp
    rw [and31L, ea, zN_toInt (by omega)]
  have es : v < 0 ↔ 2 ^ 31 ≤ a.toNat := by
    rw [i64_lt]
    show v.toInt < 0 ↔ _
    have e1 : v.toInt = v.toInt32.toInt := by rw [← i32_wide, hv2]
    have e2 : v.toInt32.toInt = if 2 * a.toNat < 2 ^ 32 then (a.toNat : Int) else (a.toNat : Int) - 2 ^ 32 := by
      rw [← ea]
      show v.toInt32.toBitVec.toInt = _
      rw [BitVec.toInt_eq_toNat_cond]; rfl
    rw [e1, e2]
    split <;> omega
  have hbig : 2139095040 < a.toNat % 2 ^ 31 → dB (FP.f2d a) = 9221120237041090560 := by
    intro z
    unfold dB
    rw [cIf_t]
    rw [f2d_nn, nan32]; exact z
  have hval : a.toNat % 2 ^ 31 ≤ 2139095040 → dB (FP.f2d a) = lN (if decide (2 ^ 31 ≤ a.toNat) = true then 2 ^ 63 else 0) ||| lN (f2N (a.toNat % 2 ^ 31)) := by
    intro z
    have := f2N_le z
    unfold dB
    rw [cIf_f (by rw [f2d_nn, nan32]; omega), u64_lN, f2d_bits z, sg_or (by omega)]
    congr 2
    by_cases c : 2 ^ 31 ≤ a.toNat
    · rw [if_pos c, if_pos (decide_eq_true c)]
    · rw [if_neg c, if_neg (by simpa using c)]
  have hm31 : a.toNat % 2 ^ 31 < 2 ^ 31 := Nat.mod_lt _ (by decide)
  generalize a.toNat % 2 ^ 31 = m at *
  have hS0 : lN (if decide (2 ^ 31 ≤ a.toNat) = true then 2 ^ 63 else 0) ||| lN 0 = lN (if decide (2 ^ 31 ≤ a.toNat) = true then 2 ^ 63 else 0) := sg_or (by decide) _
  generalize hS : lN (if decide (2 ^ 31 ≤ a.toNat) = true then 2 ^ 63 else 0) = S at *
  generalize dB (FP.f2d a) = R at *
  have k75 : m ≤ 2139095040 → m < 2 ^ 23 → Wq G M2_floatAsDouble 75 [some (.long v), none, some (.long S), none, some (.long (lN m)), none, some (.int (nI 29)), none, none, none] [] (0, 0) w Q := by
    intro z1 z2
    refine Wq.go ok2_floatAsDouble 40 [] ?_
    refine c11_topBit (by omega) ?_
    have hv := hval z1
    unfold f2N at hv
    rw [if_neg (by omega), if_neg (by omega)] at hv
    unfold tbN
    by_cases h0 : m = 0
    · rw [if_pos h0] at hv ⊢
      rw [hS0] at hv
      rw [hv] at h
      exact And.intro (fun c => absurd c (by decide)) (fun _ => h)
    · rw [if_neg h0] at hv ⊢
      obtain ⟨a1, a2, a3⟩ := f2N_sub h0 (by omega)
      refine And.intro (fun c => ?_) (fun c => absurd (by rw [c_0']; exact (nI_leI (by omega) (by omega)).mpr (by omega)) c)
      show Q (some (.long (S ||| (((nI (Nat.log2 m) + nI 1023 - nI 127 + nI 1 - nI 23).toInt64 - lN 1) <<< ((nI 52).toInt64 &&& 63) + lN m <<< ((nI 52 - nI (Nat.log2 m)).toInt64 &&& 63))))) w
      rw [nI_add, nI_subI (by omega) (by omega), nI_add, nI_subI (by omega) (by omega), nI_64 (by omega), zN_sub (by omega), wb_shl _ (by omega), nI_subI (by omega) (by omega), wb_shl _ (by omega), zN_add, show Nat.log2 m + 1023 - 127 + 1 - 23 - 1 = Nat.log2 m + 873 by omega, ← hv]
      exact h
  have k21 : Wq G M2_floatAsDouble 21 [some (.long v), none, some (.long S), none, some (.long (lN m)), none, none, none, none, none] [] (0, 0) w Q := by
    refine Wq.go ok2_floatAsDouble 40 [75] ?_
    refine And.intro (fun c => And.intro (fun c2 => And.intro (fun c3 => ?_) (fun c3 => ?_)) (fun c2 => ?_)) (fun c => ?_)
    · have c : lg_cmp (lN m) (lN 2139095040) ≤ 0 := c
      rw [lg_le0, zN_le (by omega) (by omega)] at c
      have c3 : lg_cmp ((lN m).toUInt64 >>> ((nI 23).toInt64.toUInt64 &&& Int64.toUInt64 63)).toInt64 (lN 0) = 0 := c3
      rw [lg_eq0, wb_shr (by omega) (by omega), zN_eq (by omega) (by omega)] at c3
      exact k75 c (by omega)
    · have c : lg_cmp (lN m) (lN 2139095040) ≤ 0 := c
      rw [lg_le0, zN_le (by omega) (by omega)] at c
      have c2 : ¬ lg_cmp (lN m) (lN 2139095040) = 0 := c2
      rw [lg_eq0, zN_eq (by omega) (by omega)] at c2
      have c3 : ¬ lg_cmp ((lN m).toUInt64 >>> ((nI 23).toInt64.toUInt64 &&& Int64.toUInt64 63)).toInt64 (lN 0) = 0 := c3
      rw [lg_eq0, wb_shr (by omega) (by omega), zN_eq (by omega) (by omega)] at c3
      have hv := hval c
      unfold f2N at hv
      rw [if_neg c2, if_pos (by omega)] at hv
      have e9 : (4035225266123964416 : Int64) = lN (896 * 2 ^ 52) := by decide
      show Q (some (.long (S ||| (lN m <<< ((nI 29).toInt64 &&& 63) + 4035225266123964416)))) w
      rw [e9, wb_shl _ (by omega), zN_add, ← hv]
      exact h
    · have c : lg_cmp (lN m) (lN 2139095040) ≤ 0 := c
      rw [lg_le0, zN_le (by omega) (by omega)] at c
      have c2 : lg_cmp (lN m) (lN 2139095040) = 0 := c2
      rw [lg_eq0, zN_eq (by omega) (by omega)] at c2
      have hv := hval c
      unfold f2N at hv
      rw [if_pos c2] at hv
      rw [hv] at h
      exact h
    · have c : ¬ lg_cmp (lN m) (lN 2139095040) ≤ 0 := c
      rw [lg_le0, zN_le (by omega) (by omega)] at c
      rw [hbig (by omega)] at h
      exact h
  have k13 : ∀ X, X = S → Wq G M2_floatAsDouble 13 [some (.long v), none, none, none, none, none, none, none, none, none] [.long X] (0, 0) w Q := by
    intro X eX
    rw [eX]
    refine Wq.go ok2_floatAsDouble 20 [21] ?_
    show Wq G M2_floatAsDouble 21 [some (.long v), none, some (.long S), none, some (.long (v &&& 2147483647)), none, none, none, none, none] [] (0, 0) w Q
    rw [em]
    exact k21
  refine Con.go hw2_floatAsDouble ok2_floatAsDouble 20 [13] rfl ?_
  refine And.intro (fun c => ?_) (fun c => ?_)
  · have c : 0 ≤ lg_cmp v 0 := c
    rw [lg_ge0] at c
    refine k13 0 ?_
    rw [← hS, if_neg]; rfl
    intro z
    have := es.mpr (of_decide_eq_true z)
    rw [i64_lt] at this; rw [i64_le] at c; omega
  · have c : ¬ 0 ≤ lg_cmp v 0 := c
    rw [lg_ge0] at c
    refine k13 (-9223372036854775808) ?_
    rw [← hS, if_pos]; rfl
    exact decide_eq_true (es.mp (by rw [i64_lt]; rw [i64_le] at c; omega))
theorem c2_widened {f t : Nat} {v : Int64} (hf : f < 8) (ht : t < 8) (hv : f = 6 → kp 6 v = v) (hw : wdP f t) (h : Q (some (.long (wd f t v))) w) : Con G M2_widened [.long v, .int (nI f), .int (nI t)] w Q := by
  unfold wd at h
  have k11 : f = t ∨ t ≤ 5 → Wq G M2_widened 11 [some (.long v), none, some (.int (nI f)), some (.int (nI t))] [] (0, 0) w Q := by
    intro z
    rw [cIf_t z] at h
    exact Wq.go ok2_widened 20 [] h
  refine Con.go hw2_widened ok2_widened 30 [11] rfl ?_
  refine And.intro (fun c => ?_) (fun c => And.intro (fun c2 => And.intro (fun c3 => And.intro (fun c4 => ?_) (fun c4 => ?_)) (fun c3 => ?_)) (fun c2 => ?_))
  · exact k11 (Or.inl ((nI_eqI (by omega) (by omega)).mp c))
  all_goals rw [nI_eqI (by omega) (by omega)] at c
  · have c2 : nI 6 ≤ nI t := c2
    rw [nI_leI (by omega) (by omega)] at c2
    have c4 : ¬ nI t = nI 6 := c4
    have c3 : ¬ nI f = nI 6 := c3
    rw [nI_eqI (by omega) (by omega)] at c3 c4
    rw [cIf_f (by omega), cIf_f c4, cIf_f c3] at h
    exact c2_longAsDouble h
  · have c2 : nI 6 ≤ nI t := c2
    rw [nI_leI (by omega) (by omega)] at c2
    have c4 : nI t = nI 6 := c4
    rw [nI_eqI (by omega) (by omega)] at c4
    rw [cIf_f (by omega), cIf_t c4] at h
    exact c2_longAsFloat h
  · have c2 : nI 6 ≤ nI t := c2
    rw [nI_leI (by omega) (by omega)] at c2
    have c3 : nI f = nI 6 := c3
    rw [nI_eqI (by omega) (by omega)] at c3
    have : t = 7 := by unfold wdP at hw; omega
    rw [cIf_f (by omega), cIf_f (by omega), cIf_t c3] at h
    exact c2_floatAsDouble (hv c3) h
  · have c2 : ¬ nI 6 ≤ nI t := c2
    rw [nI_leI (by omega) (by omega)] at c2
    exact k11 (Or.inr (by omega))
end
