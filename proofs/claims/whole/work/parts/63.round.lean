/-! ===== numbers rounded: encodings of what was settled ===== -/
theorem enc_settle {f : FP.Core.Fmt} (hf : FP.Core.Good f) (s : Bool) {K : Nat} {q : Int} (hq : f.qmin ≤ q) (hK : K ≤ 2 ^ f.p) (hn : q = f.qmin ∨ f.tails ≤ K) :
    FP.Core.encode f (FP.Core.settle f s K q) = s.toNat * FP.Core.half f + min ((q - f.qmin).toNat * f.tails + K) (FP.Core.infBits f) := by
  have h2 := FP.Core.two_tails hf
  have hE := FP.Core.emax_exps hf
  have hE1 := FP.Core.emax_pos hf
  have hqm := FP.Core.qmax_qmin f
  have hT := FP.Core.tails_pos f
  obtain ⟨k, hk⟩ : ∃ k : Nat, q = f.qmin + (k : Int) := ⟨(q - f.qmin).toNat, by omega⟩
  have ek : (q - f.qmin).toNat = k := by omega
  rw [ek]
  unfold FP.Core.half FP.Core.infBits
  have hX : (f.exps - 1) * f.tails = 2 * f.emax * f.tails + f.tails := by
    rw [show f.exps - 1 = 2 * f.emax + 1 by omega, Nat.add_mul, Nat.one_mul]
  have hsX : ∀ e t : Nat, FP.Core.assemble f s e t = s.toNat * (f.exps * f.tails) + e * f.tails + t := by
    intro e t
    unfold FP.Core.assemble
    rw [Nat.add_mul, Nat.mul_assoc]
  unfold FP.Core.settle
  by_cases c : K < 2 ^ f.p
  · rw [if_pos c]
    unfold FP.Core.bound
    by_cases c2 : q ≤ f.qmax
    · rw [if_pos c2]
      have hk2 : k + 1 ≤ 2 * f.emax := by omega
      have hm : (k + 1) * f.tails ≤ 2 * f.emax * f.tails := Nat.mul_le_mul_right _ hk2
      rw [Nat.add_mul, Nat.one_mul] at hm
      show (if K < f.tails then FP.Core.assemble f s 0 K else FP.Core.assemble f s ((q - f.qmin).toNat + 1) (K - f.tails)) = _
      by_cases c3 : K < f.tails
      · rw [if_pos c3, hsX, hX]
        have hk0 : k = 0 := by
          rcases hn with z | z
          · omega
          · omega
        subst hk0
        rw [Nat.zero_mul, Nat.min_eq_left (by omega)]; omega
      · rw [if_neg c3, hsX, hX, ek, Nat.add_mul, Nat.one_mul, Nat.min_eq_left (by omega)]; omega
    · rw [if_neg c2]
      have hk2 : 2 * f.emax ≤ k := by omega
      have hm : 2 * f.emax * f.tails ≤ k * f.tails := Nat.mul_le_mul_right _ hk2
      have hKT : f.tails ≤ K := by
        rcases hn with z | z
        · omega
        · exact z
      show FP.Core.assemble f s (f.exps - 1) 0 = _
      rw [hsX, hX, Nat.min_eq_right (by omega)]; omega
  · rw [if_neg c]
    have hKe : K = 2 * f.tails := by omega
    unfold FP.Core.bound
    by_cases c2 : q + 1 ≤ f.qmax
    · rw [if_pos c2]
      have hk2 : k + 2 ≤ 2 * f.emax := by omega
      have hm : (k + 2) * f.tails ≤ 2 * f.emax * f.tails := Nat.mul_le_mul_right _ hk2
      rw [Nat.add_mul] at hm
      show (if f.tails < f.tails then FP.Core.assemble f s 0 f.tails else FP.Core.assemble f s ((q + 1 - f.qmin).toNat + 1) (f.tails - f.tails)) = _
      rw [if_neg (Nat.lt_irrefl _), hsX, hX, show (q + 1 - f.qmin).toNat + 1 = k + 2 by omega, Nat.add_mul, Nat.min_eq_left (by omega)]; omega
    · rw [if_neg c2]
      have hk2 : 2 * f.emax ≤ k + 1 := by omega
      have hm : 2 * f.emax * f.tails ≤ (k + 1) * f.tails := Nat.mul_le_mul_right _ hk2
      rw [Nat.add_mul, Nat.one_mul] at hm
      show FP.Core.assemble f s (f.exps - 1) 0 = _
      rw [hsX, hX, Nat.min_eq_right (by omega)]; omega
/-- what is kept of a number of more digits than fr + 1 -/
def kpN (n fr : Nat) : Nat := if Nat.log2 n ≤ fr then n * 2 ^ (fr - Nat.log2 n) else FP.Core.nearest n (2 ^ (Nat.log2 n - fr))
def rdN (n fr bias : Nat) : Nat := if n = 0 then 0 else (Nat.log2 n + bias - 1) * 2 ^ fr + kpN n fr
theorem log2_b {n : Nat} (h : n ≠ 0) : 2 ^ Nat.log2 n ≤ n ∧ n < 2 ^ (Nat.log2 n + 1) := ⟨Nat.log2_self_le h, Nat.lt_log2_self⟩
theorem kpN_b {n fr : Nat} (h : n ≠ 0) : 2 ^ fr ≤ kpN n fr ∧ kpN n fr ≤ 2 ^ (fr + 1) := by
  obtain ⟨l1, l2⟩ := log2_b h
  unfold kpN
  by_cases c : Nat.log2 n ≤ fr
  · rw [if_pos c]
    have e : 2 ^ fr = 2 ^ Nat.log2 n * 2 ^ (fr - Nat.log2 n) := by rw [← Nat.pow_add]; congr 1; omega
    have e2 : 2 ^ (fr + 1) = 2 ^ (Nat.log2 n + 1) * 2 ^ (fr - Nat.log2 n) := by rw [← Nat.pow_add]; congr 1; omega
    rw [e, e2]
    exact ⟨Nat.mul_le_mul_right _ l1, Nat.mul_le_mul_right _ (Nat.le_of_lt l2)⟩
  · rw [if_neg c]
    have hp := Nat.two_pow_pos (Nat.log2 n - fr)
    have e : 2 ^ Nat.log2 n = 2 ^ fr * 2 ^ (Nat.log2 n - fr) := by rw [← Nat.pow_add]; congr 1; omega
    have e2 : 2 ^ (Nat.log2 n + 1) = 2 ^ (fr + 1) * 2 ^ (Nat.log2 n - fr) := by rw [← Nat.pow_add]; congr 1; omega
    exact ⟨FP.Core.nearest_ge hp (by rw [← e]; exact l1), FP.Core.nearest_le hp (by rw [← e2]; exact Nat.le_of_lt l2)⟩
theorem lead1 {n : Nat} (h : n ≠ 0) : FP.Core.leading n 1 = (Nat.log2 n : Int) := by
  unfold FP.Core.leading
  have e1 : Nat.log2 1 = 0 := by decide
  rw [e1]
  have e : ((Nat.log2 n : Int) - ((0 : Nat) : Int)).toNat = Nat.log2 n := by omega
  have e2 : (-((Nat.log2 n : Int) - ((0 : Nat) : Int))).toNat = 0 := by omega
  show (if 1 * 2 ^ ((Nat.log2 n : Int) - ((0 : Nat) : Int)).toNat ≤ n * 2 ^ (-((Nat.log2 n : Int) - ((0 : Nat) : Int))).toNat then _ else _) = _
  rw [e, e2, Nat.one_mul, Nat.pow_zero, Nat.mul_one, if_pos (log2_b h).1]
  omega
/-- a whole number as the format keeps it -/
theorem enc_int {f : FP.Core.Fmt} (hf : FP.Core.Good f) {fr bias : Nat} (hp : f.p = fr + 1) (hb : f.emax = bias) (hfr : fr ≤ 52) (hb2 : 64 + fr ≤ bias) (s : Bool) {n : Nat} (hn : n < 2 ^ 64) :
    FP.Core.encode f (FP.Core.roundRatio f s n 1 0) = s.toNat * FP.Core.half f + rdN n fr bias := by
  have hT : f.tails = 2 ^ fr := by unfold FP.Core.Fmt.tails; rw [hp]; rfl
  have hE := FP.Core.emax_exps hf
  by_cases h0 : n = 0
  · subst h0
    unfold FP.Core.roundRatio rdN
    rw [if_pos rfl, if_pos rfl]
    show FP.Core.encode f (.fin s 0 f.qmin) = _
    show (if 0 < f.tails then FP.Core.assemble f s 0 0 else FP.Core.assemble f s ((f.qmin - f.qmin).toNat + 1) (0 - f.tails)) = _
    rw [if_pos (FP.Core.tails_pos f)]
    unfold FP.Core.assemble FP.Core.half
    rw [Nat.add_zero, Nat.add_zero, Nat.mul_assoc]; omega
  · obtain ⟨k1, k2⟩ := kpN_b (fr := fr) h0
    have hl : Nat.log2 n < 64 := (Nat.log2_lt h0).mpr hn
    have hqm : f.qmin = 2 - (bias : Int) - ((fr : Int) + 1) := by unfold FP.Core.Fmt.qmin; rw [hb, hp]; rfl
    unfold FP.Core.roundRatio rdN
    rw [if_neg h0, if_neg h0]
    have hq : FP.Core.quantum f n 1 0 = (Nat.log2 n : Int) - (fr : Int) := by
      unfold FP.Core.quantum
      rw [lead1 h0, hqm, hp]
      omega
    rw [hq]
    unfold FP.Core.roundAt
    have hnear : FP.Core.nearest (FP.Core.unitsNum n 0 ((Nat.log2 n : Int) - (fr : Int))) (FP.Core.unitsDen 1 0 ((Nat.log2 n : Int) - (fr : Int))) = kpN n fr := by
      unfold FP.Core.unitsNum FP.Core.unitsDen kpN
      by_cases c : Nat.log2 n ≤ fr
      · rw [if_pos c, show (0 - ((Nat.log2 n : Int) - (fr : Int))).toNat = fr - Nat.log2 n by omega, show ((Nat.log2 n : Int) - (fr : Int) - 0).toNat = 0 by omega, Nat.pow_zero]
        have := FP.Core.nearest_exact (B := 1) (n * 2 ^ (fr - Nat.log2 n)) (by omega)
        rw [Nat.mul_one] at this
        exact this
      · rw [if_neg c, show (0 - ((Nat.log2 n : Int) - (fr : Int))).toNat = 0 by omega, show ((Nat.log2 n : Int) - (fr : Int) - 0).toNat = Nat.log2 n - fr by omega, Nat.pow_zero, Nat.mul_one, Nat.one_mul]
    rw [hnear, enc_settle hf s (by rw [hqm]; omega) (by rw [hp]; exact k2) (Or.inr (by rw [hT]; exact k1)), hT]
    have e1 : ((Nat.log2 n : Int) - (fr : Int) - f.qmin).toNat = Nat.log2 n + bias - 1 := by rw [hqm]; omega
    rw [e1]
    have hinf : (Nat.log2 n + bias - 1) * 2 ^ fr + kpN n fr ≤ FP.Core.infBits f := by
      unfold FP.Core.infBits
      rw [hT, show f.exps - 1 = 2 * bias + 1 by omega]
      have h3 : (Nat.log2 n + bias - 1 + 2) * 2 ^ fr ≤ (2 * bias + 1) * 2 ^ fr := Nat.mul_le_mul_right _ (by omega)
      rw [Nat.add_mul] at h3
      rw [Nat.pow_succ] at k2
      omega
    rw [Nat.min_eq_left hinf]
theorem rdN_lt {n fr bias : Nat} (hn : n < 2 ^ 64) : rdN n fr bias ≤ (66 + bias) * 2 ^ fr := by
  unfold rdN
  by_cases h0 : n = 0
  · rw [if_pos h0]; omega
  · rw [if_neg h0]
    have hl : Nat.log2 n < 64 := (Nat.log2_lt h0).mpr hn
    obtain ⟨k1, k2⟩ := kpN_b (fr := fr) h0
    rw [Nat.pow_succ] at k2
    have h3 : (Nat.log2 n + bias - 1 + 2) * 2 ^ fr ≤ (66 + bias) * 2 ^ fr := Nat.mul_le_mul_right _ (by omega)
    rw [Nat.add_mul] at h3
    omega
/-- the size of a long -/
def szL (v : Int64) : Nat := v.toInt.natAbs
theorem szL_lt (v : Int64) : szL v ≤ 2 ^ 63 := by
  have := i64_b v
  unfold szL; omega
theorem lN_szL (v : Int64) : (if v < 0 then -v else v) = lN (szL v) := by
  have hb := i64_b v
  unfold szL
  by_cases c : v < 0
  · rw [if_pos c]
    rw [i64_lt] at c
    have c : v.toInt < 0 := c
    apply Int64.toInt_inj.mp
    rw [Int64.toInt_neg]
    show (-v.toInt).bmod (2 ^ 64) = (Int64.ofNat v.toInt.natAbs).toInt
    rw [Int64.toInt_ofNat']
    congr 1
    omega
  · rw [if_neg c]
    rw [i64_lt] at c
    have c : ¬ v.toInt < 0 := c
    have e64 : (Int64.size : Nat) = 2 ^ 64 := rfl
    apply Int64.toInt_inj.mp
    show _ = (Int64.ofNat v.toInt.natAbs).toInt
    rw [Int64.toInt_ofNat', e64, Int.bmod_eq_of_le (by omega) (by omega)]
    omega
