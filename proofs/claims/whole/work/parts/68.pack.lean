/-! ===== the bits of a rounded sum ===== -/
theorem log2_8 {N : Nat} (h : N ≠ 0) : Nat.log2 (8 * N) = Nat.log2 N + 3 := by
  obtain ⟨l1, l2⟩ := log2_b h
  refine (Nat.log2_eq_iff (by omega)).mpr ⟨?_, ?_⟩
  · rw [Nat.pow_add]; omega
  · rw [show Nat.log2 N + 3 + 1 = Nat.log2 N + 1 + 3 by omega, Nat.pow_add]; omega
theorem nr_pk {N B d : Nat} {dn : Int} (hs : stk B d (8 * N)) (hin : ¬ B * 2 ^ d = 8 * N → 2 ≤ d ∧ -1 ≤ dn) : FP.Core.nearest (N * 2 ^ (-((d : Int) + dn)).toNat) (2 ^ ((d : Int) + dn).toNat) = FP.Core.nearest (exB B dn) 8 := by
  have hp := Nat.two_pow_pos
  unfold exB
  by_cases c : B * 2 ^ d = 8 * N
  · by_cases c2 : 0 < dn
    · rw [if_pos c2, nr_so, show (-((d : Int) + dn)).toNat = 0 by omega, show ((d : Int) + dn).toNat = d + dn.toNat by omega, Nat.pow_zero, Nat.mul_one]
      refine FP.Core.nearest_congr (hp _) (Nat.mul_pos (by omega) (hp _)) ?_
      rw [Nat.pow_add, ← Nat.mul_assoc B, c, ← Nat.mul_assoc, Nat.mul_comm N 8]
    · rw [if_neg c2]
      refine FP.Core.nearest_congr (hp _) (by omega) ?_
      have e : d + (-((d : Int) + dn)).toNat = (-dn).toNat + ((d : Int) + dn).toNat := by omega
      have e2 : B * 2 ^ (-dn).toNat * 2 ^ ((d : Int) + dn).toNat = B * 2 ^ d * 2 ^ (-((d : Int) + dn)).toNat := by
        rw [Nat.mul_assoc, ← Nat.pow_add, ← e, Nat.pow_add, Nat.mul_assoc]
      rw [e2, c]
      generalize 2 ^ (-((d : Int) + dn)).toNat = Z
      rw [Nat.mul_assoc, Nat.mul_comm Z 8, ← Nat.mul_assoc, Nat.mul_comm N 8]
  · obtain ⟨hd, hdn⟩ := hin c
    obtain ⟨h1, h2, h3⟩ := hs.resolve_left c
    have e0 : FP.Core.nearest (N * 2 ^ (-((d : Int) + dn)).toNat) (2 ^ ((d : Int) + dn).toNat) = FP.Core.nearest B (4 * 2 ^ (dn + 1).toNat) := by
      rw [← nr_sticky (hp d) (hp (dn + 1).toNat) h1 h2 h3]
      refine FP.Core.nearest_congr (hp _) (Nat.mul_pos (Nat.mul_pos (by omega) (hp _)) (hp _)) ?_
      rw [show (-((d : Int) + dn)).toNat = 0 by omega, Nat.pow_zero, Nat.mul_one]
      have e : (dn + 1).toNat + d = ((d : Int) + dn).toNat + 1 := by omega
      rw [Nat.mul_assoc 4, ← Nat.pow_add, e, Nat.pow_succ]
      generalize 2 ^ ((d : Int) + dn).toNat = Z
      rw [show 4 * (Z * 2) = 8 * Z by omega, ← Nat.mul_assoc, Nat.mul_comm N 8]
    rw [e0]
    by_cases c2 : 0 < dn
    · rw [if_pos c2, nr_so, show (dn + 1).toNat = dn.toNat + 1 by omega, Nat.pow_succ]
      congr 1
      omega
    · rw [if_neg c2]
      refine FP.Core.nearest_congr (Nat.mul_pos (by omega) (hp _)) (by omega) ?_
      rcases (show dn = 0 ∨ dn = -1 by omega) with z | z <;> subst z
      · show B * 8 = B * 2 ^ 0 * (4 * 2 ^ 1); omega
      · show B * 8 = B * 2 ^ 1 * (4 * 2 ^ 0); omega
theorem enc_pk {s : Bool} {N B d x1 x2 : Nat} (hN : N ≠ 0) (hB : 2 ≤ B) (hx2 : 1 ≤ x2) (hx : x1 = x2 + d) (hs : stk B d (8 * N)) (hin : ¬ B * 2 ^ d = 8 * N → 2 ≤ d ∧ 2 ^ 54 ≤ B) :
    FP.Core.encode FP.Core.b64 (FP.Core.roundRatio FP.Core.b64 s N 1 (-1075 + (x2 : Int))) = s.toNat * FP.Core.half FP.Core.b64 + pkB B x1 := by
  have hlog := stk_log hB hs
  rw [log2_8 hN] at hlog
  have hq := FP.Core.qmin_b64
  have ht := FP.Core.tails_b64
  have hpp : (FP.Core.b64.p : Int) = 53 := rfl
  have hqu : FP.Core.quantum FP.Core.b64 N 1 (-1075 + (x2 : Int)) = -1075 + (x1 : Int) + dnI B x1 := by
    unfold FP.Core.quantum dnI
    rw [lead1 hN, hq, hpp]
    omega
  unfold FP.Core.roundRatio
  rw [if_neg hN]
  have hle : FP.Core.nearest (FP.Core.unitsNum N (-1075 + (x2 : Int)) (FP.Core.quantum FP.Core.b64 N 1 (-1075 + (x2 : Int)))) (FP.Core.unitsDen 1 (-1075 + (x2 : Int)) (FP.Core.quantum FP.Core.b64 N 1 (-1075 + (x2 : Int)))) ≤ 2 ^ FP.Core.b64.p := FP.Core.nearest_units_le (by omega) (by omega) _
  rw [hqu] at hle ⊢
  have hnn : FP.Core.nearest (FP.Core.unitsNum N (-1075 + (x2 : Int)) (-1075 + (x1 : Int) + dnI B x1)) (FP.Core.unitsDen 1 (-1075 + (x2 : Int)) (-1075 + (x1 : Int) + dnI B x1)) = FP.Core.nearest (N * 2 ^ (-((d : Int) + dnI B x1)).toNat) (2 ^ ((d : Int) + dnI B x1).toNat) := by
    unfold FP.Core.unitsNum FP.Core.unitsDen
    rw [show (-1075 + (x2 : Int) - (-1075 + (x1 : Int) + dnI B x1)) = -((d : Int) + dnI B x1) by omega, show (-1075 + (x1 : Int) + dnI B x1 - (-1075 + (x2 : Int))) = ((d : Int) + dnI B x1) by omega, Nat.one_mul]
  have hdn1 : 1 - (x1 : Int) ≤ dnI B x1 := by unfold dnI; omega
  unfold FP.Core.roundAt
  rw [hnn] at hle ⊢
  rw [enc_settle FP.Core.good_b64 s (by rw [hq]; omega) hle ?_, hq, ht, FP.Core.infBits_b64]
  · unfold pkB
    rw [nr_pk hs ?_, show (-1075 + (x1 : Int) + dnI B x1 - -1074) = (x1 : Int) + dnI B x1 - 1 by omega]
    intro z
    obtain ⟨z1, z2⟩ := hin z
    have : 54 ≤ Nat.log2 B := (Nat.le_log2 (by omega)).mpr z2
    refine ⟨z1, ?_⟩
    unfold dnI; omega
  · by_cases c : dnI B x1 = 1 - (x1 : Int)
    · left; rw [hq]; omega
    · right
      have e : dnI B x1 = (Nat.log2 B : Int) - 55 := by unfold dnI at *; omega
      have ek : (d : Int) + dnI B x1 = (Nat.log2 N : Int) - 52 := by omega
      rw [ek, ht]
      have := (kpN_b (fr := 52) hN).1
      unfold kpN at this
      by_cases c2 : Nat.log2 N ≤ 52
      · rw [if_pos c2] at this
        rw [show (-((Nat.log2 N : Int) - 52)).toNat = 52 - Nat.log2 N by omega, show ((Nat.log2 N : Int) - 52).toNat = 0 by omega]
        have e2 := FP.Core.nearest_exact (B := 2 ^ 0) (N * 2 ^ (52 - Nat.log2 N)) (by decide)
        rw [Nat.pow_zero, Nat.mul_one] at e2
        rw [Nat.pow_zero, e2]; exact this
      · rw [if_neg c2] at this
        rw [show (-((Nat.log2 N : Int) - 52)).toNat = 0 by omega, show ((Nat.log2 N : Int) - 52).toNat = Nat.log2 N - 52 by omega, Nat.pow_zero, Nat.mul_one]
        exact this
