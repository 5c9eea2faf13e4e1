/-! ===== sums of doubles: what is shifted out is kept as one bit ===== -/
theorem nr_sticky {X B D H : Nat} (hD : 0 < D) (hH : 0 < H) (ho : B % 2 = 1) (h1 : (B - 1) * D < X) (h2 : X < (B + 1) * D) : FP.Core.nearest X (4 * H * D) = FP.Core.nearest B (4 * H) := by
  have h4 : 0 < 4 * H := by omega
  have hdm := Nat.div_add_mod B (4 * H)
  have hr := Nat.mod_lt B h4
  have hrodd : B % (4 * H) % 2 = 1 := by
    rw [Nat.mod_mod_of_dvd _ ⟨2 * H, by omega⟩]; exact ho
  unfold FP.Core.nearest
  generalize B / (4 * H) = q at *
  generalize B % (4 * H) = r at *
  have e1 : (B - 1) * D = 4 * H * D * q + (r - 1) * D := by
    rw [show B - 1 = 4 * H * q + (r - 1) by omega, Nat.add_mul]
    congr 1
    rw [Nat.mul_assoc, Nat.mul_comm q D, ← Nat.mul_assoc]
  have e2 : (B + 1) * D = 4 * H * D * q + (r + 1) * D := by
    rw [show B + 1 = 4 * H * q + (r + 1) by omega, Nat.add_mul]
    congr 1
    rw [Nat.mul_assoc, Nat.mul_comm q D, ← Nat.mul_assoc]
  rw [e1] at h1
  rw [e2] at h2
  have h3 : (r + 1) * D ≤ 4 * H * D := Nat.mul_le_mul_right _ (by omega)
  obtain ⟨y, hy⟩ : ∃ y, X = 4 * H * D * q + y := ⟨X - 4 * H * D * q, by omega⟩
  have hylt : y < 4 * H * D := by omega
  have ediv : X / (4 * H * D) = q := by
    rw [hy, Nat.mul_add_div (by omega), Nat.div_eq_of_lt hylt, Nat.add_zero]
  have emod : X % (4 * H * D) = y := by
    rw [hy, Nat.mul_add_mod, Nat.mod_eq_of_lt hylt]
  rw [ediv, emod]
  by_cases c : r < 2 * H
  · have : (r + 1) * D ≤ 2 * H * D := Nat.mul_le_mul_right _ (by omega)
    have e : 4 * H * D = 2 * (2 * H * D) := by rw [← Nat.mul_assoc, ← Nat.mul_assoc]
    rw [if_pos (by omega), if_pos (by omega)]
  · have : 2 * H * D ≤ (r - 1) * D := Nat.mul_le_mul_right _ (by omega)
    have e : 4 * H * D = 2 * (2 * H * D) := by rw [← Nat.mul_assoc, ← Nat.mul_assoc]
    rw [if_neg (by omega), if_pos (by omega), if_neg (by omega), if_pos (by omega)]
def stk (B d X : Nat) : Prop := B * 2 ^ d = X ∨ (B % 2 = 1 ∧ (B - 1) * 2 ^ d < X ∧ X < (B + 1) * 2 ^ d)
def soN (n k : Nat) : Nat := n / 2 ^ k ||| (if n % 2 ^ k = 0 then 0 else 1)
theorem or_1 (h : Nat) : h ||| 1 = 2 * (h / 2) + 1 := by
  have e := Nat.two_pow_add_eq_or_of_lt (i := 1) (b := 1) (by decide) (h / 2)
  rw [Nat.pow_one] at e
  rw [e]
  rcases Nat.mod_two_eq_zero_or_one h with z | z
  · rw [show 2 * (h / 2) = h by omega]
  · have e2 : h = 2 * (h / 2) ||| 1 := by rw [← e]; omega
    rw [← e2]
    rw [e2, Nat.or_assoc, Nat.or_self]
theorem stk_so (n k : Nat) : stk (soN n k) k n := by
  have hp := Nat.two_pow_pos k
  have hdm := Nat.div_add_mod n (2 ^ k)
  have hr := Nat.mod_lt n hp
  unfold stk soN
  by_cases c : n % 2 ^ k = 0
  · rw [if_pos c, Nat.or_zero]
    left
    rw [Nat.mul_comm]; omega
  · rw [if_neg c, or_1]
    right
    generalize n / 2 ^ k = h at *
    generalize n % 2 ^ k = r at *
    generalize 2 ^ k = D at *
    refine ⟨by omega, ?_, ?_⟩
    · have : (2 * (h / 2) + 1 - 1) * D ≤ h * D := Nat.mul_le_mul_right _ (by omega)
      rw [Nat.mul_comm D h] at hdm; omega
    · have : (h + 1) * D ≤ (2 * (h / 2) + 1 + 1) * D := Nat.mul_le_mul_right _ (by omega)
      rw [Nat.add_mul, Nat.one_mul] at this
      rw [Nat.mul_comm D h] at hdm; omega
theorem stk_log {B d X : Nat} (hB : 2 ≤ B) (h : stk B d X) : Nat.log2 X = Nat.log2 B + d := by
  obtain ⟨l1, l2⟩ := log2_b (n := B) (by omega)
  have hl : 1 ≤ Nat.log2 B := (Nat.le_log2 (by omega)).mpr (by omega)
  have hp := Nat.two_pow_pos d
  rcases h with h | ⟨h1, h2, h3⟩
  · have hX : X ≠ 0 := by
      rw [← h]; exact Nat.ne_of_gt (Nat.mul_pos (by omega) hp)
    refine (Nat.log2_eq_iff hX).mpr ⟨?_, ?_⟩
    · rw [← h, Nat.pow_add]; exact Nat.mul_le_mul_right _ l1
    · rw [← h, show Nat.log2 B + d + 1 = Nat.log2 B + 1 + d by omega, Nat.pow_add]; exact Nat.mul_lt_mul_of_pos_right l2 hp
  · have e1 : 2 ^ Nat.log2 B = 2 * 2 ^ (Nat.log2 B - 1) := by rw [Nat.mul_comm, ← Nat.pow_succ]; congr 1; omega
    rw [Nat.pow_succ] at l2
    refine (Nat.log2_eq_iff (by omega)).mpr ⟨?_, ?_⟩
    · have := Nat.mul_le_mul_right (2 ^ d) (show 2 ^ Nat.log2 B ≤ B - 1 by omega)
      rw [Nat.pow_add]; omega
    · have := Nat.mul_le_mul_right (2 ^ d) (show B + 1 ≤ 2 ^ Nat.log2 B * 2 by omega)
      rw [show Nat.log2 B + d + 1 = Nat.log2 B + 1 + d by omega, Nat.pow_add, Nat.pow_succ]; omega
def dnI (B x : Nat) : Int := max ((Nat.log2 B : Int) - 55) (1 - (x : Int))
def exB (B : Nat) (dn : Int) : Nat := if 0 < dn then soN B dn.toNat else B * 2 ^ (-dn).toNat
def pkB (B x : Nat) : Nat := min (((x : Int) + dnI B x - 1).toNat * 2 ^ 52 + FP.Core.nearest (exB B (dnI B x)) 8) 9218868437227405312
theorem nr_so (B k : Nat) : FP.Core.nearest (soN B k) 8 = FP.Core.nearest B (8 * 2 ^ k) := by
  have hp := Nat.two_pow_pos k
  rcases stk_so B k with h | ⟨h1, h2, h3⟩
  · refine FP.Core.nearest_congr (by omega) (by omega) ?_
    generalize soN B k = S at *
    rw [← h, Nat.mul_comm 8, Nat.mul_assoc]
  · exact (nr_sticky (H := 2) hp (by omega) h1 h2 h3).symm
