/-! ===== added: the bits of a sum of doubles ===== -/
/-- a sticky smaller number put to a larger one -/
theorem stk_add {c1 c2 d : Nat} : stk (8 * c1 + soN (8 * c2) d) d (8 * (c1 * 2 ^ d + c2)) := by
  have e : 8 * (c1 * 2 ^ d + c2) = 8 * c1 * 2 ^ d + 8 * c2 := by rw [Nat.mul_add, Nat.mul_assoc]
  rw [e]
  rcases stk_so (8 * c2) d with h | ⟨h1, h2, h3⟩
  · left; rw [Nat.add_mul, h]
  · right
    generalize soN (8 * c2) d = S at *
    refine ⟨by omega, ?_, ?_⟩
    · rw [show 8 * c1 + S - 1 = 8 * c1 + (S - 1) by omega, Nat.add_mul]; omega
    · rw [show 8 * c1 + S + 1 = 8 * c1 + (S + 1) by omega, Nat.add_mul]; omega
theorem stk_sub {c1 c2 d : Nat} (h : c2 ≤ c1 * 2 ^ d) (hS : soN (8 * c2) d ≤ 8 * c1) : stk (8 * c1 - soN (8 * c2) d) d (8 * (c1 * 2 ^ d - c2)) := by
  have e : 8 * (c1 * 2 ^ d - c2) = 8 * c1 * 2 ^ d - 8 * c2 := by rw [Nat.mul_sub, Nat.mul_assoc]
  rw [e]
  have h8 : 8 * c2 ≤ 8 * c1 * 2 ^ d := by rw [Nat.mul_assoc]; omega
  rcases stk_so (8 * c2) d with g | ⟨h1, h2, h3⟩
  · left; rw [Nat.sub_mul, g]
  · right
    generalize soN (8 * c2) d = S at *
    have hp := Nat.two_pow_pos d
    refine ⟨by omega, ?_, ?_⟩
    · rw [show 8 * c1 - S - 1 = 8 * c1 - (S + 1) by omega, Nat.sub_mul]
      have : (S + 1) * 2 ^ d ≤ 8 * c1 * 2 ^ d := Nat.mul_le_mul_right _ (by omega)
      omega
    · rw [show 8 * c1 - S + 1 = 8 * c1 - (S - 1) by omega, Nat.sub_mul]
      have : (S - 1) * 2 ^ d ≤ 8 * c1 * 2 ^ d := Nat.mul_le_mul_right _ (by omega)
      omega
theorem enc_zero (s : Bool) (q : Int) : FP.Core.encode FP.Core.b64 (FP.Core.roundRatio FP.Core.b64 s 0 1 q) = s.toNat * FP.Core.half FP.Core.b64 := by
  show FP.Core.encode FP.Core.b64 (.fin s 0 FP.Core.b64.qmin) = _
  rw [enc_fit ⟨by decide, Int.le_refl _, by decide, Or.inl rfl⟩, Int.sub_self]
  simp
theorem sgn_al (s : Bool) (a b : Nat) : (FP.Core.signed s a + FP.Core.signed s b).natAbs = a + b ∧ FP.Core.sumSign s s (FP.Core.signed s a + FP.Core.signed s b) = s := by
  unfold FP.Core.sumSign FP.Core.signed
  cases s
  · refine ⟨by simp only [Bool.false_eq_true, if_false]; omega, ?_⟩
    simp only [Bool.false_eq_true, if_false]
    split
    · rfl
    · exact decide_eq_false (by omega)
  · refine ⟨by simp only [if_true]; omega, ?_⟩
    simp only [if_true]
    split
    · rfl
    · exact decide_eq_true (by omega)
theorem sgn_un (s : Bool) {a b : Nat} (h : b ≤ a) : (FP.Core.signed s a + FP.Core.signed (!s) b).natAbs = a - b ∧ FP.Core.sumSign s (!s) (FP.Core.signed s a + FP.Core.signed (!s) b) = (if a - b = 0 then false else s) := by
  unfold FP.Core.sumSign FP.Core.signed
  cases s
  · simp only [Bool.not_false, Bool.false_eq_true, if_false, if_true]
    refine ⟨by omega, ?_⟩
    by_cases c : a - b = 0
    · rw [if_pos (by omega), if_pos c]; rfl
    · rw [if_neg (by omega), if_neg c]; exact decide_eq_false (by omega)
  · simp only [Bool.not_true, Bool.false_eq_true, if_false, if_true]
    refine ⟨by omega, ?_⟩
    by_cases c : a - b = 0
    · rw [if_pos (by omega), if_pos c]; rfl
    · rw [if_neg (by omega), if_neg c]; exact decide_eq_true (by omega)
theorem soN_0 (n : Nat) : soN n 0 = n := by unfold soN; rw [Nat.pow_zero, Nat.div_one, Nat.mod_one, if_pos rfl, Nat.or_zero]
theorem so_ex {c d : Nat} (h : ¬ soN (8 * c) d * 2 ^ d = 8 * c) : 4 ≤ d := by
  refine Classical.byContradiction fun z => h ?_
  have e : 8 * c % 2 ^ d = 0 := by
    have : d = 0 ∨ d = 1 ∨ d = 2 ∨ d = 3 := by omega
    rcases this with z | z | z | z <;> subst z <;> omega
  unfold soN
  rw [if_pos e, Nat.or_zero]
  exact Nat.div_mul_cancel (Nat.dvd_of_mod_eq_zero e)
theorem sum_bits {s1 s2 : Bool} {c1 c2 x1 x2 d B : Nat} (hc1 : c1 < 2 ^ 53) (hc2 : c2 < 2 ^ 53) (hx2 : 1 ≤ x2) (hx : x1 = x2 + d) (h0 : d = 0 → c2 ≤ c1) (hd : 1 ≤ d → 2 ^ 52 ≤ c1)
    (hB : B = if s1 = s2 then 8 * c1 + soN (8 * c2) d else 8 * c1 - soN (8 * c2) d) :
    soN (8 * c2) d ≤ 8 * c1 ∧ B ≤ 2 ^ 57 - 16 ∧ FP.Core.encode FP.Core.b64 (FP.Core.round FP.Core.b64 (FP.Core.exactSum (.fin s1 c1 (-1075 + (x1 : Int))) (.fin s2 c2 (-1075 + (x2 : Int))))) = if B = 0 then (if s1 = s2 then s1.toNat * FP.Core.half FP.Core.b64 else 0) else s1.toNat * FP.Core.half FP.Core.b64 + pkB B x1 := by
  have hp := Nat.two_pow_pos d
  have hS := soN_le (8 * c2) d
  have hle : c2 ≤ c1 * 2 ^ d := by
    by_cases c : d = 0
    · have := h0 c; subst c; omega
    · have h1 := hd (by omega)
      have h2 : 2 ≤ 2 ^ d := by have := Nat.pow_le_pow_right (n := 2) (by decide) (show 1 ≤ d by omega); omega
      have := Nat.mul_le_mul_left c1 h2
      omega
  have hS1 : soN (8 * c2) d ≤ 8 * c1 ∧ (1 ≤ d → soN (8 * c2) d + 3 ≤ 8 * c1) ∧ (d = 0 → soN (8 * c2) d = 8 * c2) := by
    by_cases c : d = 0
    · have := h0 c; subst c; rw [soN_0]; omega
    · have h1 := hd (by omega)
      have h2 : 2 ≤ 2 ^ d := by have := Nat.pow_le_pow_right (n := 2) (by decide) (show 1 ≤ d by omega); omega
      have h3 : 8 * c2 / 2 ^ d ≤ 8 * c2 / 2 := Nat.div_le_div_left h2 (by omega)
      omega
  have hin : ¬ soN (8 * c2) d * 2 ^ d = 8 * c2 → 2 ≤ d ∧ soN (8 * c2) d ≤ 2 ^ 52 ∧ 2 ^ 55 ≤ 8 * c1 := by
    intro z
    have h4 := so_ex z
    have h1 := hd (by omega)
    have h2 : 16 ≤ 2 ^ d := by have := Nat.pow_le_pow_right (n := 2) (by decide) h4; omega
    have h3 : 8 * c2 / 2 ^ d ≤ 8 * c2 / 16 := Nat.div_le_div_left h2 (by omega)
    omega
  have hsum : FP.Core.exactSum (.fin s1 c1 (-1075 + (x1 : Int))) (.fin s2 c2 (-1075 + (x2 : Int))) = .fin (FP.Core.sumSign s1 s2 (FP.Core.signed s1 (c1 * 2 ^ d) + FP.Core.signed s2 c2)) (FP.Core.signed s1 (c1 * 2 ^ d) + FP.Core.signed s2 c2).natAbs (-1075 + (x2 : Int)) := by
    have emin : min (-1075 + (x1 : Int)) (-1075 + (x2 : Int)) = -1075 + (x2 : Int) := by omega
    have eu : FP.Core.sumUnits s1 c1 (-1075 + (x1 : Int)) s2 c2 (-1075 + (x2 : Int)) (-1075 + (x2 : Int)) = FP.Core.signed s1 (c1 * 2 ^ d) + FP.Core.signed s2 c2 := by
      unfold FP.Core.sumUnits FP.Core.inUnits
      rw [show ((-1075 + (x1 : Int)) - (-1075 + (x2 : Int))).toNat = d by omega, show ((-1075 + (x2 : Int)) - (-1075 + (x2 : Int))).toNat = 0 by omega, Nat.pow_zero, Nat.mul_one]
    show FP.Core.Datum.fin (FP.Core.sumSign s1 s2 (FP.Core.sumUnits s1 c1 (-1075 + (x1 : Int)) s2 c2 (-1075 + (x2 : Int)) (min (-1075 + (x1 : Int)) (-1075 + (x2 : Int))))) (FP.Core.sumUnits s1 c1 (-1075 + (x1 : Int)) s2 c2 (-1075 + (x2 : Int)) (min (-1075 + (x1 : Int)) (-1075 + (x2 : Int)))).natAbs (min (-1075 + (x1 : Int)) (-1075 + (x2 : Int))) = _
    rw [emin, eu]
  refine ⟨hS1.1, ?_, ?_⟩
  · rw [hB]
    by_cases c : d = 0
    · have := hS1.2.2 c; split <;> omega
    · have := hS1.2.1 (by omega); split <;> omega
  rw [hsum]
  show FP.Core.encode FP.Core.b64 (FP.Core.roundRatio FP.Core.b64 (FP.Core.sumSign s1 s2 (FP.Core.signed s1 (c1 * 2 ^ d) + FP.Core.signed s2 c2)) (FP.Core.signed s1 (c1 * 2 ^ d) + FP.Core.signed s2 c2).natAbs 1 (-1075 + (x2 : Int))) = _
  by_cases cs : s1 = s2
  · subst cs
    rw [if_pos rfl] at hB
    obtain ⟨e1, e2⟩ := sgn_al s1 (c1 * 2 ^ d) c2
    rw [e1, e2, if_pos rfl]
    have hst : stk B d (8 * (c1 * 2 ^ d + c2)) := by rw [hB]; exact stk_add
    by_cases cB : B = 0
    · rw [if_pos cB]
      have e3 : c1 = 0 ∧ c2 = 0 := by
        by_cases c : d = 0
        · have := hS1.2.2 c; omega
        · have := hd (by omega); omega
      rw [e3.1, e3.2, Nat.zero_mul]; exact enc_zero _ _
    · rw [if_neg cB]
      refine enc_pk ?_ ?_ hx2 hx hst ?_
      · intro z
        rw [z] at hst
        rcases hst with q | ⟨q1, q2, q3⟩
        · rcases Nat.mul_eq_zero.mp q with q | q <;> omega
        · omega
      · by_cases c : d = 0
        · have := hS1.2.2 c; omega
        · have := hd (by omega); omega
      · intro z
        have := hin (fun q => z (by rw [hB, Nat.add_mul, q, Nat.mul_add, Nat.mul_assoc]))
        omega
  · have e2 : s2 = !s1 := by cases s1 <;> cases s2 <;> simp_all
    subst e2
    rw [if_neg cs] at hB
    obtain ⟨e1, e2⟩ := sgn_un s1 hle
    rw [e1, e2, if_neg cs]
    have hst : stk B d (8 * (c1 * 2 ^ d - c2)) := by rw [hB]; exact stk_sub hle hS1.1
    by_cases cB : B = 0
    · rw [if_pos cB]
      have e3 : c1 * 2 ^ d - c2 = 0 := by
        rcases hst with q | ⟨q1, q2, q3⟩
        · rw [cB, Nat.zero_mul] at q; omega
        · omega
      rw [e3, if_pos rfl, enc_zero]; simp
    · rw [if_neg cB]
      have hN : ¬ c1 * 2 ^ d - c2 = 0 := by
        intro z
        rw [z] at hst
        rcases hst with q | ⟨q1, q2, q3⟩
        · rcases Nat.mul_eq_zero.mp q with q | q <;> omega
        · omega
      rw [if_neg hN]
      refine enc_pk hN ?_ hx2 hx hst ?_
      · by_cases c : d = 0
        · have := hS1.2.2 c; omega
        · have := hS1.2.1 (by omega); omega
      · intro z
        have := hin (fun q => z (by rw [hB, Nat.sub_mul, q, Nat.mul_sub, Nat.mul_assoc]))
        omega
theorem sg_xp {m : Nat} (h : m < 9218868437227405312) : m = (xpN m (2 ^ 52) - 1) * 2 ^ 52 + sgN m (2 ^ 52) ∧ 1 ≤ xpN m (2 ^ 52) ∧ xpN m (2 ^ 52) ≤ 2046 ∧ sgN m (2 ^ 52) < 2 ^ 53 ∧ (2 ≤ xpN m (2 ^ 52) → 2 ^ 52 ≤ sgN m (2 ^ 52)) := by
  unfold xpN sgN
  by_cases c : m < 2 ^ 52
  · rw [if_pos c]; omega
  · rw [if_neg c]; omega
/-- what the class reckons of two doubles, the larger first -/
theorem dadd_bits {a b : UInt64} (ha : finB a) (hle : b.toNat % 2 ^ 63 ≤ a.toNat % 2 ^ 63) {c1 c2 x1 x2 B : Nat} (ec1 : sgN (a.toNat % 2 ^ 63) (2 ^ 52) = c1) (ec2 : sgN (b.toNat % 2 ^ 63) (2 ^ 52) = c2) (ex1 : xpN (a.toNat % 2 ^ 63) (2 ^ 52) = x1) (ex2 : xpN (b.toNat % 2 ^ 63) (2 ^ 52) = x2)
    (hB : B = if (2 ^ 63 ≤ a.toNat ↔ 2 ^ 63 ≤ b.toNat) then 8 * c1 + soN (8 * c2) (x1 - x2) else 8 * c1 - soN (8 * c2) (x1 - x2)) :
    x2 ≤ x1 ∧ 1 ≤ x1 ∧ x1 ≤ 2046 ∧ c1 < 2 ^ 53 ∧ c2 < 2 ^ 53 ∧ soN (8 * c2) (x1 - x2) ≤ 8 * c1 ∧ B ≤ 2 ^ 57 - 16 ∧ (FP.dadd a b).toNat = if B = 0 then (if (2 ^ 63 ≤ a.toNat ↔ 2 ^ 63 ≤ b.toNat) then (if 2 ^ 63 ≤ a.toNat then 2 ^ 63 else 0) else 0) else (if 2 ^ 63 ≤ a.toNat then 2 ^ 63 else 0) + pkB B x1 := by
  have ha' : a.toNat % 2 ^ 63 < 9218868437227405312 := ha
  obtain ⟨p1, p2, p3, p4, p5⟩ := sg_xp ha'
  obtain ⟨r1, r2, r3, r4, r5⟩ := sg_xp (m := b.toNat % 2 ^ 63) (by omega)
  rw [ec1, ex1] at p1 p5
  rw [ex1] at p2 p3
  rw [ec1] at p4
  rw [ec2, ex2] at r1 r5
  rw [ex2] at r2 r3
  rw [ec2] at r4
  have hx : x2 ≤ x1 := by
    rw [← ex1, ← ex2]
    unfold xpN
    have := Nat.div_le_div_right (c := 2 ^ 52) hle
    omega
  have s1 : FP.Core.fieldS FP.Core.b64 a.toNat = decide (2 ^ 63 ≤ a.toNat) := by rw [FP.Core.fieldS_mag _ (FP.Core.lt_full64 a), FP.Core.half_b64]
  have s2 : FP.Core.fieldS FP.Core.b64 b.toNat = decide (2 ^ 63 ≤ b.toNat) := by rw [FP.Core.fieldS_mag _ (FP.Core.lt_full64 b), FP.Core.half_b64]
  have ess : (decide (2 ^ 63 ≤ a.toNat) = decide (2 ^ 63 ≤ b.toNat)) ↔ (2 ^ 63 ≤ a.toNat ↔ 2 ^ 63 ≤ b.toNat) := by simp
  have hT : (decide (2 ^ 63 ≤ a.toNat)).toNat * FP.Core.half FP.Core.b64 = (if 2 ^ 63 ≤ a.toNat then 2 ^ 63 else 0) := by
    rw [FP.Core.half_b64]
    by_cases c : 2 ^ 63 ≤ a.toNat
    · rw [if_pos c, decide_eq_true c]; rfl
    · rw [if_neg c, decide_eq_false c]; rfl
  have hB2 : B = if decide (2 ^ 63 ≤ a.toNat) = decide (2 ^ 63 ≤ b.toNat) then 8 * c1 + soN (8 * c2) (x1 - x2) else 8 * c1 - soN (8 * c2) (x1 - x2) := by
    rw [hB]
    by_cases c : (2 ^ 63 ≤ a.toNat ↔ 2 ^ 63 ≤ b.toNat)
    · rw [if_pos c, if_pos (ess.mpr c)]
    · rw [if_neg c, if_neg (fun z => c (ess.mp z))]
  obtain ⟨k1, k2, k3⟩ := sum_bits (s1 := decide (2 ^ 63 ≤ a.toNat)) (s2 := decide (2 ^ 63 ≤ b.toNat)) p4 r4 r2 (show x1 = x2 + (x1 - x2) by omega) (fun z => by
      have e : x1 = x2 := by omega
      rw [e] at p1; omega) (fun z => p5 (by omega)) hB2
  refine ⟨hx, p2, p3, p4, r4, k1, k2, ?_⟩
  have d1 : FP.Core.decode FP.Core.b64 a.toNat = .fin (decide (2 ^ 63 ≤ a.toNat)) c1 (-1075 + (x1 : Int)) := by
    rw [dec_fin (by rw [FP.Core.mag_toNat64, FP.Core.infBits_b64]; exact ha'), FP.Core.mag_toNat64, FP.Core.tails_b64, FP.Core.qmin_b64, ec1, ex1, s1]
    congr 1; omega
  have d2 : FP.Core.decode FP.Core.b64 b.toNat = .fin (decide (2 ^ 63 ≤ b.toNat)) c2 (-1075 + (x2 : Int)) := by
    rw [dec_fin (by rw [FP.Core.mag_toNat64, FP.Core.infBits_b64]; omega), FP.Core.mag_toNat64, FP.Core.tails_b64, FP.Core.qmin_b64, ec2, ex2, s2]
    congr 1; omega
  show (UInt64.ofNat (FP.Core.encode FP.Core.b64 (FP.Core.round FP.Core.b64 (FP.Core.exactSum (FP.Core.decode FP.Core.b64 a.toNat) (FP.Core.decode FP.Core.b64 b.toNat))))).toNat = _
  rw [d1, d2, k3, hT]
  have hpk : pkB B x1 ≤ 9218868437227405312 := Nat.min_le_right _ _
  rw [UInt64.toNat_ofNat', Nat.mod_eq_of_lt]
  · by_cases cB : B = 0
    · rw [if_pos cB, if_pos cB]
      by_cases c : (2 ^ 63 ≤ a.toNat ↔ 2 ^ 63 ≤ b.toNat)
      · rw [if_pos c, if_pos (ess.mpr c)]
      · rw [if_neg c, if_neg (fun z => c (ess.mp z))]
    · rw [if_neg cB, if_neg cB]
  · by_cases cB : B = 0
    · rw [if_pos cB]; split <;> (try split) <;> omega
    · rw [if_neg cB]; split <;> omega
theorem dadd_inf {a b : UInt64} (hn : ¬ FP.Core.dIsNaN a = true) (ha : ¬ finB a) (hb : finB b) : FP.dadd a b = a := by
  have hm : a.toNat % 2 ^ 63 = 9218868437227405312 := by
    rw [nan64] at hn
    have : ¬ a.toNat % 2 ^ 63 < 9218868437227405312 := ha
    omega
  have e1 : FP.Core.val64 a = .inf (FP.Core.fieldS FP.Core.b64 a.toNat) := FP.Core.decode_inf (by rw [FP.Core.mag_toNat64, hm, FP.Core.infBits_b64])
  obtain ⟨s, c, q, e2⟩ := fin_val hb
  have hnan : FP.Core.val64 a ≠ .nan := by rw [e1]; intro z; cases z
  refine (FP.Core.val64_inj hnan ?_).symm
  show _ = FP.Core.val64 (FP.Core.dadd a b)
  rw [FP.Core.val64_dadd, e1, e2]
  rfl
