/-! ===== rows of kit/laws (BITS, COUNTS), pasted ===== -/
theorem wb_tb (n : Nat) : (lN n).toBitVec = BitVec.ofNat 64 n := rfl
theorem wb_inj {a b : Int64} (h : a.toBitVec = b.toBitVec) : a = b := Int64.toBitVec_inj.mp h
theorem wb_tn {n : Nat} (h : n < 2 ^ 64) : (lN n).toBitVec.toNat = n := by rw [wb_tb, BitVec.toNat_ofNat, Nat.mod_eq_of_lt h]
theorem wb_of (x : Int64) : ∃ n, n < 2 ^ 64 ∧ x = lN n := ⟨x.toBitVec.toNat, x.toBitVec.isLt, wb_inj (by rw [wb_tb]; simp)⟩
theorem wb_of32 (x : Int32) : ∃ n, n < 2 ^ 32 ∧ x = nI n := ⟨x.toBitVec.toNat, x.toBitVec.isLt, Int32.toBitVec_inj.mp (by show _ = BitVec.ofNat 32 _; simp)⟩
theorem wb_c : ∀ k, k < 64 → ((nI k).toInt64 &&& 63) = lN k := by decide +kernel
theorem wb_cu : ∀ k, k < 64 → ((nI k).toInt64.toUInt64 &&& Int64.toUInt64 63) = UInt64.ofNat k := by decide +kernel
theorem wb_sm : ∀ k, k < 64 → (BitVec.ofNat 64 k).smod 64 = BitVec.ofNat 64 k := by decide +kernel
theorem wb_pw {a b : Nat} (h : a ≤ b) : 2 ^ b = 2 ^ a * 2 ^ (b - a) := by rw [← Nat.pow_add]; congr 1; omega
theorem wb_lt2 {a b : Nat} (h : a < b) : 2 ^ a < 2 ^ b := Nat.pow_lt_pow_right (by decide) h
theorem wb_mod (n : Nat) : lN n = lN (n % 2 ^ 64) := wb_inj (by rw [wb_tb, wb_tb]; apply BitVec.eq_of_toNat_eq; rw [BitVec.toNat_ofNat, BitVec.toNat_ofNat, Nat.mod_mod])
theorem wb_shr {n k : Nat} (hn : n < 2 ^ 64) (hk : k < 64) : ((lN n).toUInt64 >>> ((nI k).toInt64.toUInt64 &&& Int64.toUInt64 63)).toInt64 = lN (n / 2 ^ k) := by
  rw [wb_cu k hk]
  apply wb_inj
  apply BitVec.eq_of_toNat_eq
  show ((lN n).toUInt64 >>> UInt64.ofNat k).toNat = (BitVec.ofNat 64 _).toNat
  have h1 : (UInt64.ofNat k).toNat = k := by
    show (BitVec.ofNat 64 k).toNat = k
    rw [BitVec.toNat_ofNat, Nat.mod_eq_of_lt (by omega)]
  have h2 : (lN n).toUInt64.toNat = n := wb_tn hn
  rw [UInt64.toNat_shiftRight, h1, h2, Nat.mod_eq_of_lt hk, Nat.shiftRight_eq_div_pow, BitVec.toNat_ofNat, Nat.mod_eq_of_lt (Nat.lt_of_le_of_lt (Nat.div_le_self _ _) hn)]
theorem wb_shl (n : Nat) {k : Nat} (hk : k < 64) : lN n <<< ((nI k).toInt64 &&& 63) = lN (n * 2 ^ k) := by
  rw [wb_c k hk]
  apply wb_inj
  rw [Int64.toBitVec_shiftLeft, wb_tb, wb_tb, wb_tb, wb_sm k hk]
  apply BitVec.eq_of_toNat_eq
  rw [BitVec.shiftLeft_eq', BitVec.toNat_shiftLeft, BitVec.toNat_ofNat, BitVec.toNat_ofNat, BitVec.toNat_ofNat, Nat.mod_eq_of_lt (show k < 2 ^ 64 by omega), Nat.shiftLeft_eq, Nat.mul_mod, Nat.mod_mod, ← Nat.mul_mod]
theorem wb_and {a b : Nat} (ha : a < 2 ^ 64) (hb : b < 2 ^ 64) : lN a &&& lN b = lN (a &&& b) := by
  apply wb_inj
  rw [Int64.toBitVec_and, wb_tb, wb_tb, wb_tb]
  apply BitVec.eq_of_toNat_eq
  rw [BitVec.toNat_and, BitVec.toNat_ofNat, BitVec.toNat_ofNat, BitVec.toNat_ofNat, Nat.mod_eq_of_lt ha, Nat.mod_eq_of_lt hb, Nat.mod_eq_of_lt (Nat.and_lt_two_pow _ hb)]
theorem wb_or {a b : Nat} (ha : a < 2 ^ 64) (hb : b < 2 ^ 64) : lN a ||| lN b = lN (a ||| b) := by
  apply wb_inj
  rw [Int64.toBitVec_or, wb_tb, wb_tb, wb_tb]
  apply BitVec.eq_of_toNat_eq
  rw [BitVec.toNat_or, BitVec.toNat_ofNat, BitVec.toNat_ofNat, BitVec.toNat_ofNat, Nat.mod_eq_of_lt ha, Nat.mod_eq_of_lt hb, Nat.mod_eq_of_lt (Nat.or_lt_two_pow ha hb)]
theorem wb_mask {n k : Nat} (hn : n < 2 ^ 64) (hk : k < 64) : lN n &&& lN (2 ^ k - 1) = lN (n % 2 ^ k) := by
  rw [wb_and hn (by have := wb_lt2 hk; omega), Nat.and_two_pow_sub_one_eq_mod]
theorem wb_a1 {n : Nat} (hn : n < 2 ^ 64) : lN n &&& 1 = lN (n % 2) := wb_mask (k := 1) hn (by decide)
theorem wb_bit {n k : Nat} (hn : n < 2 ^ 64) (hk : k < 64) : ((lN n).toUInt64 >>> ((nI k).toInt64.toUInt64 &&& Int64.toUInt64 63)).toInt64 &&& 1 = lN (n / 2 ^ k % 2) := by
  rw [wb_shr hn hk, wb_a1 (Nat.lt_of_le_of_lt (Nat.div_le_self _ _) hn)]
def fb_ct (p : Nat → Bool) : Nat → Nat
  | 0 => 0
  | n + 1 => fb_ct p n + (if p n then 1 else 0)
theorem fb_ct_succ (p : Nat → Bool) (n : Nat) : fb_ct p (n + 1) = fb_ct p n + (if p n then 1 else 0) := rfl
theorem fb_ct_le (p : Nat → Bool) : ∀ n, fb_ct p n ≤ n
  | 0 => Nat.le_refl _
  | n + 1 => by
    have h := fb_ct_le p n
    rw [fb_ct_succ]
    split <;> omega
theorem fb_ct_step (p : Nat → Bool) (m : Nat) : ∀ n, fb_ct p m ≤ fb_ct p (m + n)
  | 0 => Nat.le_refl _
  | n + 1 => by
    have h := fb_ct_step p m n
    show fb_ct p m ≤ fb_ct p (m + n + 1)
    rw [fb_ct_succ]
    omega
theorem fb_ct_mono (p : Nat → Bool) {m n : Nat} (h : m ≤ n) : fb_ct p m ≤ fb_ct p n := by
  have := fb_ct_step p m (n - m)
  rwa [Nat.add_sub_cancel' h] at this
theorem fb_ct_cong {p q : Nat → Bool} : ∀ {n : Nat}, (∀ k, k < n → p k = q k) → fb_ct p n = fb_ct q n
  | 0, _ => rfl
  | n + 1, h => by
    rw [fb_ct_succ, fb_ct_succ, fb_ct_cong (fun k hk => h k (by omega)), h n (by omega)]
/-- one place changed -/
theorem fb_ct_out (p : Nat → Bool) (b : Bool) {i n : Nat} (h : n ≤ i) : fb_ct (fun k => if k = i then b else p k) n = fb_ct p n :=
  fb_ct_cong fun k hk => if_neg (by omega)
theorem fb_ct_upd (p : Nat → Bool) (b : Bool) {i : Nat} : ∀ {n : Nat}, i < n → fb_ct (fun k => if k = i then b else p k) n + (if p i then 1 else 0) = fb_ct p n + (if b then 1 else 0)
  | 0, h => absurd h (Nat.not_lt_zero i)
  | n + 1, h => by
    rw [fb_ct_succ, fb_ct_succ]
    rcases Nat.lt_or_ge i n with q | q
    · have := fb_ct_upd p b q
      have e : (if n = i then b else p n) = p n := if_neg (by omega)
      rw [e]
      omega
    · have e : i = n := by omega
      subst e
      rw [fb_ct_out p b (Nat.le_refl _)]
      simp only [if_true]
      omega
theorem fb_ct_sub {p q : Nat → Bool} : ∀ {n : Nat}, (∀ k, k < n → p k = true → q k = true) → fb_ct p n ≤ fb_ct q n
  | 0, _ => Nat.le_refl _
  | n + 1, h => by
    have h1 := fb_ct_sub (n := n) (p := p) (q := q) (fun k hk => h k (by omega))
    have h2 := h n (by omega)
    rw [fb_ct_succ, fb_ct_succ]
    cases hp : p n <;> cases hq : q n <;> simp_all <;> omega
theorem fb_ct_or {p q : Nat → Bool} : ∀ {n : Nat}, (∀ k, k < n → ¬ (p k = true ∧ q k = true)) → fb_ct (fun k => p k || q k) n = fb_ct p n + fb_ct q n
  | 0, _ => rfl
  | n + 1, h => by
    have h1 := fb_ct_or (n := n) (p := p) (q := q) (fun k hk => h k (by omega))
    have h2 := h n (by omega)
    rw [fb_ct_succ, fb_ct_succ, fb_ct_succ, h1]
    cases hp : p n <;> cases hq : q n <;> simp_all <;> omega
theorem fb_ct_not (p : Nat → Bool) : ∀ n, fb_ct p n + fb_ct (fun k => !p k) n = n
  | 0 => rfl
  | n + 1 => by
    have h := fb_ct_not p n
    rw [fb_ct_succ, fb_ct_succ]
    cases p n <;> simp <;> omega
theorem fb_ct_split (p : Nat → Bool) (m : Nat) : ∀ n, fb_ct p (m + n) = fb_ct p m + fb_ct (fun k => p (m + k)) n
  | 0 => rfl
  | n + 1 => by
    have h := fb_ct_split p m n
    show fb_ct p (m + n + 1) = _
    rw [fb_ct_succ, fb_ct_succ, h, Nat.add_assoc]
theorem fb_ct_zero {p : Nat → Bool} : ∀ {n : Nat}, fb_ct p n = 0 ↔ ∀ k, k < n → p k = false
  | 0 => ⟨fun _ k hk => absurd hk (Nat.not_lt_zero k), fun _ => rfl⟩
  | n + 1 => by
    have h := fb_ct_zero (p := p) (n := n)
    rw [fb_ct_succ]
    constructor
    · intro e k hk
      have e1 : fb_ct p n = 0 := by omega
      rcases Nat.lt_or_ge k n with q | q
      · exact h.mp e1 k q
      · have ek : k = n := by omega
        subst ek
        cases hp : p k
        · rfl
        · simp [hp] at e
    · intro a
      rw [h.mpr (fun k hk => a k (by omega)), a n (by omega)]
      rfl
theorem fb_ct_pos {p : Nat → Bool} {n : Nat} : 0 < fb_ct p n ↔ ∃ k, k < n ∧ p k = true := by
  constructor
  · intro h
    refine Classical.byContradiction fun hx => ?_
    have := fb_ct_zero.mpr (fun k hk => by
      cases hp : p k
      · rfl
      · exact absurd ⟨k, hk, hp⟩ hx : ∀ k, k < n → p k = false)
    omega
  · rintro ⟨k, hk, hp⟩
    rcases Nat.eq_zero_or_pos (fb_ct p n) with e | e
    · have := fb_ct_zero.mp e k hk
      rw [this] at hp
      cases hp
    · exact e
/-! ===== words as numbers ===== -/
def uL (x : Int64) : Nat := x.toBitVec.toNat
theorem uL_lt (x : Int64) : uL x < 2 ^ 64 := x.toBitVec.isLt
theorem lN_uL (x : Int64) : lN (uL x) = x := wb_inj (by rw [wb_tb]; unfold uL; simp)
theorem uL_lN {n : Nat} (h : n < 2 ^ 64) : uL (lN n) = n := wb_tn h
theorem zN_add (a b : Nat) : lN a + lN b = lN (a + b) := by
  apply wb_inj
  rw [Int64.toBitVec_add, wb_tb, wb_tb, wb_tb]
  exact (BitVec.ofNat_add ..).symm
theorem zN_sub {a b : Nat} (h : b ≤ a) : lN a - lN b = lN (a - b) := by
  have : lN a = lN (a - b) + lN b := by rw [zN_add]; congr 1; omega
  rw [this, Int64.add_sub_cancel]
theorem zN_eq {a b : Nat} (ha : a < 2 ^ 64) (hb : b < 2 ^ 64) : lN a = lN b ↔ a = b := by
  refine ⟨fun h => ?_, fun h => by rw [h]⟩
  rw [← uL_lN ha, h, uL_lN hb]
/-- bit i of a word -/
def tbit (x : Int64) (i : Nat) : Bool := (uL x).testBit i
theorem tbit_or (x y : Int64) (i : Nat) : tbit (x ||| y) i = (tbit x i || tbit y i) := by
  unfold tbit uL; rw [Int64.toBitVec_or, BitVec.toNat_or, Nat.testBit_or]
theorem tbit_and (x y : Int64) (i : Nat) : tbit (x &&& y) i = (tbit x i && tbit y i) := by
  unfold tbit uL; rw [Int64.toBitVec_and, BitVec.toNat_and, Nat.testBit_and]
theorem tbit_not (x : Int64) {i : Nat} (hi : i < 64) : tbit (x ^^^ (-1)) i = !tbit x i := by
  unfold tbit uL
  rw [Int64.toBitVec_xor, BitVec.toNat_xor, Nat.testBit_xor]
  have : ∀ i : Fin 64, ((-1 : Int64).toBitVec.toNat).testBit i.val = true := by decide +kernel
  rw [this ⟨i, hi⟩]
  cases (x.toBitVec.toNat).testBit i <;> rfl
theorem tbit_1 {j i : Nat} (hj : j < 64) : tbit (lN (1 * 2 ^ j)) i = decide (j = i) := by
  unfold tbit
  rw [uL_lN (by rw [Nat.one_mul]; exact wb_lt2 hj), Nat.one_mul, Nat.testBit_two_pow]
theorem tbit_big (x : Int64) {i : Nat} (h : 64 ≤ i) : tbit x i = false := Nat.testBit_lt_two_pow (Nat.lt_of_lt_of_le (uL_lt x) (Nat.pow_le_pow_right (by decide) h))
theorem tbit_0 (i : Nat) : tbit 0 i = false := Nat.zero_testBit i
/-! ===== counting bits, byte by byte ===== -/
def mk (m : Nat) : Nat → Nat
  | 0 => 0
  | k + 1 => m + 256 * mk m k
def by8 (f : Nat → Nat) : Nat → Nat → Nat
  | 0, _ => 0
  | k + 1, n => f (n % 256) + 256 * by8 f k (n / 256)
theorem land_sp {m : Nat} (hm : m < 256) (n M : Nat) : n &&& (m + 256 * M) = (n % 256 &&& m) + 256 * (n / 256 &&& M) := by
  have h1 : (n &&& (m + 256 * M)) % 256 = n % 256 &&& (m + 256 * M) % 256 := Nat.and_mod_two_pow (n := 8)
  have h2 : (n &&& (m + 256 * M)) / 256 = n / 256 &&& (m + 256 * M) / 256 := Nat.and_div_two_pow (n := 8)
  rw [show (m + 256 * M) % 256 = m by omega] at h1
  rw [show (m + 256 * M) / 256 = M by omega] at h2
  have h3 := Nat.div_add_mod (n &&& (m + 256 * M)) 256
  rw [h1, h2] at h3
  omega
theorem land_lo {m s : Nat} (hm : m < 2 ^ s) (x : Nat) : x &&& m = x % 2 ^ s &&& m := by
  have h1 : (x &&& m) % 2 ^ s = x % 2 ^ s &&& m % 2 ^ s := Nat.and_mod_two_pow
  rw [Nat.mod_eq_of_lt hm, Nat.mod_eq_of_lt (Nat.lt_of_le_of_lt Nat.and_le_right hm)] at h1
  exact h1
theorem land_mk {m : Nat} (hm : m < 256) : ∀ (k n : Nat), n &&& mk m k = by8 (fun b => b &&& m) k n
  | 0, n => Nat.and_zero n
  | k + 1, n => by
    show n &&& (m + 256 * mk m k) = (n % 256 &&& m) + 256 * by8 _ k (n / 256)
    rw [land_sp hm, land_mk hm]
theorem land_sh {m s : Nat} (hs : s ≤ 8) (hm : m < 2 ^ (8 - s)) : ∀ (k n : Nat), (n / 2 ^ s) &&& mk m k = by8 (fun b => (b / 2 ^ s) &&& m) k n
  | 0, n => Nat.and_zero _
  | k + 1, n => by
    have h256 : m < 256 := Nat.lt_of_lt_of_le hm (Nat.pow_le_pow_right (by decide) (by omega) : 2 ^ (8 - s) ≤ 2 ^ 8)
    show n / 2 ^ s &&& (m + 256 * mk m k) = (n % 256 / 2 ^ s &&& m) + 256 * by8 _ k (n / 256)
    rw [land_sp h256]
    have e1 : n / 2 ^ s / 256 = n / 256 / 2 ^ s := by rw [Nat.div_div_eq_div_mul, Nat.div_div_eq_div_mul, Nat.mul_comm]
    have e2 : n / 2 ^ s % 256 &&& m = n % 256 / 2 ^ s &&& m := by
      have e3 : n % 256 / 2 ^ s = n / 2 ^ s % 2 ^ (8 - s) := by
        have := Nat.mod_mul_right_div_self (m := n) (n := 2 ^ s) (k := 2 ^ (8 - s))
        rw [← Nat.pow_add, show s + (8 - s) = 8 by omega] at this
        exact this
      rw [e3, land_lo hm, ← land_lo hm]
      rw [land_lo hm (n / 2 ^ s % 256), land_lo hm (n / 2 ^ s % 2 ^ (8 - s)), Nat.mod_mod]
      congr 1
      exact Nat.mod_mod_of_dvd _ (Nat.pow_dvd_pow 2 (by omega) : 2 ^ (8 - s) ∣ 2 ^ 8)
    rw [e1, e2, land_sh hs hm]
theorem by8_id : ∀ (k n : Nat), n < 256 ^ k → by8 (fun b => b) k n = n
  | 0, n, h => by rw [Nat.pow_zero] at h; show 0 = n; omega
  | k + 1, n, h => by
    rw [Nat.pow_succ] at h
    show n % 256 + 256 * by8 _ k (n / 256) = n
    rw [by8_id k (n / 256) (by omega)]; omega
theorem by8_sub {f g : Nat → Nat} (h : ∀ b, b < 256 → g b ≤ f b) : ∀ (k n : Nat), by8 g k n ≤ by8 f k n ∧ by8 f k n - by8 g k n = by8 (fun b => f b - g b) k n
  | 0, n => ⟨Nat.le_refl _, rfl⟩
  | k + 1, n => by
    obtain ⟨h1, h2⟩ := by8_sub h k (n / 256)
    have h3 := h (n % 256) (by omega)
    show g (n % 256) + 256 * by8 g k (n / 256) ≤ f (n % 256) + 256 * by8 f k (n / 256) ∧ f (n % 256) + 256 * by8 f k (n / 256) - (g (n % 256) + 256 * by8 g k (n / 256)) = (f (n % 256) - g (n % 256)) + 256 * by8 (fun b => f b - g b) k (n / 256)
    rw [← h2]; omega
theorem by8_add {f g : Nat → Nat} : ∀ (k n : Nat), by8 f k n + by8 g k n = by8 (fun b => f b + g b) k n
  | 0, n => rfl
  | k + 1, n => by
    have h2 := by8_add (f := f) (g := g) k (n / 256)
    show f (n % 256) + 256 * by8 f k (n / 256) + (g (n % 256) + 256 * by8 g k (n / 256)) = (f (n % 256) + g (n % 256)) + 256 * by8 (fun b => f b + g b) k (n / 256)
    rw [← h2]; omega
theorem by8_comp {f g : Nat → Nat} (h : ∀ b, b < 256 → g b < 256) : ∀ (k n : Nat), by8 f k (by8 g k n) = by8 (fun b => f (g b)) k n
  | 0, n => rfl
  | k + 1, n => by
    have h1 := h (n % 256) (by omega)
    show f ((g (n % 256) + 256 * by8 g k (n / 256)) % 256) + 256 * by8 f k ((g (n % 256) + 256 * by8 g k (n / 256)) / 256) = f (g (n % 256)) + 256 * by8 _ k (n / 256)
    rw [show (g (n % 256) + 256 * by8 g k (n / 256)) % 256 = g (n % 256) by omega, show (g (n % 256) + 256 * by8 g k (n / 256)) / 256 = by8 g k (n / 256) by omega, by8_comp h]
theorem by8_lo {f : Nat → Nat} (h : ∀ b, b < 256 → f b % 16 ≤ 4) : ∀ (k n : Nat), by8 f k n % 16 ≤ 4
  | 0, n => by show 0 % 16 ≤ 4; omega
  | k + 1, n => by
    have := h (n % 256) (by omega)
    show (f (n % 256) + 256 * by8 f k (n / 256)) % 16 ≤ 4
    omega
theorem by8_nib {f : Nat → Nat} (h : ∀ b, b < 256 → f b ≤ 68 ∧ f b % 16 ≤ 4) : ∀ (k n : Nat), (by8 f k n + by8 f k n / 16) &&& mk 15 k = by8 (fun b => (f b + f b / 16) % 16) k n
  | 0, n => Nat.and_zero _
  | k + 1, n => by
    have h1 := h (n % 256) (by omega)
    have h2 := by8_lo (fun b hb => (h b hb).2) k (n / 256)
    have h3 := by8_nib h k (n / 256)
    show ((f (n % 256) + 256 * by8 f k (n / 256)) + (f (n % 256) + 256 * by8 f k (n / 256)) / 16) &&& (15 + 256 * mk 15 k) = (f (n % 256) + f (n % 256) / 16) % 16 + 256 * by8 _ k (n / 256)
    rw [land_sp (by omega)]
    generalize by8 f k (n / 256) = Y at h2 h3 ⊢
    rw [show ((f (n % 256) + 256 * Y) + (f (n % 256) + 256 * Y) / 16) / 256 = Y + Y / 16 by omega, h3]
    have e : ((f (n % 256) + 256 * Y) + (f (n % 256) + 256 * Y) / 16) % 256 &&& 15 = (f (n % 256) + f (n % 256) / 16) % 16 := by
      have : ∀ x : Nat, x &&& 15 = x % 16 := fun x => Nat.and_two_pow_sub_one_eq_mod x 4
      rw [this]; omega
    rw [e]
def pc8 (b : Nat) : Nat := fb_ct (fun i => b.testBit i) 8
def s1B (b : Nat) : Nat := b - (b / 2 &&& 85)
def s2B (b : Nat) : Nat := (s1B b &&& 51) + (s1B b / 4 &&& 51)
theorem s_all : ∀ b, b < 256 → (b / 2 &&& 85 ≤ b ∧ s1B b < 256) ∧ (s2B b ≤ 68 ∧ s2B b % 16 ≤ 4) ∧ (s2B b + s2B b / 16) % 16 = pc8 b ∧ pc8 b ≤ 8 := by decide +kernel
theorem by8_cong {f g : Nat → Nat} (h : ∀ b, b < 256 → f b = g b) : ∀ (k n : Nat), by8 f k n = by8 g k n
  | 0, n => rfl
  | k + 1, n => by show f (n % 256) + 256 * by8 f k (n / 256) = g (n % 256) + 256 * by8 g k (n / 256); rw [h _ (by omega), by8_cong h]
def sum8 : Nat → Nat → Nat
  | 0, _ => 0
  | k + 1, n => pc8 (n % 256) + sum8 k (n / 256)
theorem ct_sum8 : ∀ (k n : Nat), fb_ct (fun i => n.testBit i) (8 * k) = sum8 k n
  | 0, n => rfl
  | k + 1, n => by
    rw [show 8 * (k + 1) = 8 + 8 * k by omega]
    have h := ct_sum8 k (n / 256)
    have sp : fb_ct (fun i => n.testBit i) (8 + 8 * k) = fb_ct (fun i => n.testBit i) 8 + fb_ct (fun i => n.testBit (8 + i)) (8 * k) := by
      have key : ∀ j, fb_ct (fun i => n.testBit i) (8 + j) = fb_ct (fun i => n.testBit i) 8 + fb_ct (fun i => n.testBit (8 + i)) j := by
        intro j
        induction j with
        | zero => rfl
        | succ j ih =>
          rw [show fb_ct (fun i => n.testBit i) (8 + (j + 1)) = fb_ct (fun i => n.testBit i) (8 + j) + (if n.testBit (8 + j) then 1 else 0) from rfl, show fb_ct (fun i => n.testBit (8 + i)) (j + 1) = fb_ct (fun i => n.testBit (8 + i)) j + (if n.testBit (8 + j) then 1 else 0) from rfl, ih]; omega
      exact key _
    show _ = pc8 (n % 256) + sum8 k (n / 256)
    rw [sp, ← h]
    have e1 : fb_ct (fun i => n.testBit i) 8 = pc8 (n % 256) := fb_ct_cong (fun i hi => by
      show n.testBit i = (n % 2 ^ 8).testBit i
      rw [Nat.testBit_mod_two_pow]; simp [hi])
    have e2 : fb_ct (fun i => n.testBit (8 + i)) (8 * k) = fb_ct (fun i => (n / 256).testBit i) (8 * k) := fb_ct_cong (fun i hi => by
      show n.testBit (8 + i) = (n / 2 ^ 8).testBit i
      rw [Nat.testBit_div_two_pow, Nat.add_comm])
    rw [e1, e2]
def bA1 (n : Nat) : Nat := n - (n / 2 ^ 1 &&& 6148914691236517205)
def bA2 (n : Nat) : Nat := (bA1 n &&& 3689348814741910323) + (bA1 n / 2 ^ 2 &&& 3689348814741910323)
def bA3 (n : Nat) : Nat := (bA2 n + bA2 n / 2 ^ 4) &&& 1085102592571150095
def bA4 (n : Nat) : Nat := bA3 n + bA3 n / 2 ^ 8
def bA5 (n : Nat) : Nat := bA4 n + bA4 n / 2 ^ 16
def bA6 (n : Nat) : Nat := bA5 n + bA5 n / 2 ^ 32
theorem sp_256 {c X : Nat} (h : c < 256) : (c + 256 * X) / 256 = X := by omega
theorem bA_4 (c0 c1 c2 c3 c4 c5 c6 c7 : Nat) (h0 : c0 < 256) : (c0 + 256 * (c1 + 256 * (c2 + 256 * (c3 + 256 * (c4 + 256 * (c5 + 256 * (c6 + 256 * c7))))))) + (c0 + 256 * (c1 + 256 * (c2 + 256 * (c3 + 256 * (c4 + 256 * (c5 + 256 * (c6 + 256 * c7))))))) / 256 = (c0 + c1) + 256 * ((c1 + c2) + 256 * ((c2 + c3) + 256 * ((c3 + c4) + 256 * ((c4 + c5) + 256 * ((c5 + c6) + 256 * ((c6 + c7) + 256 * c7)))))) := by
  rw [sp_256 h0]; omega
theorem bA_5 (c0 c1 c2 c3 c4 c5 c6 c7 : Nat) (h0 : c0 < 256) (h1 : c1 < 256) : (c0 + 256 * (c1 + 256 * (c2 + 256 * (c3 + 256 * (c4 + 256 * (c5 + 256 * (c6 + 256 * c7))))))) + (c0 + 256 * (c1 + 256 * (c2 + 256 * (c3 + 256 * (c4 + 256 * (c5 + 256 * (c6 + 256 * c7))))))) / 65536 = (c0 + c2) + 256 * ((c1 + c3) + 256 * ((c2 + c4) + 256 * ((c3 + c5) + 256 * ((c4 + c6) + 256 * ((c5 + c7) + 256 * (c6 + 256 * c7)))))) := by
  rw [show (65536 : Nat) = 256 * 256 from rfl, ← Nat.div_div_eq_div_mul, sp_256 h0, sp_256 h1]; omega
theorem bA_6 (c0 c1 c2 c3 c4 c5 c6 c7 : Nat) (h0 : c0 ≤ 32) (h1 : c1 ≤ 32) (h2 : c2 ≤ 32) (h3 : c3 ≤ 32) (h4 : c4 ≤ 32) (h5 : c5 ≤ 32) (h6 : c6 ≤ 32) (h7 : c7 ≤ 32) :
    (c0 + 256 * (c1 + 256 * (c2 + 256 * (c3 + 256 * (c4 + 256 * (c5 + 256 * (c6 + 256 * c7))))))) + (c0 + 256 * (c1 + 256 * (c2 + 256 * (c3 + 256 * (c4 + 256 * (c5 + 256 * (c6 + 256 * c7))))))) / 4294967296 < 18446744073709551616 ∧ ((c0 + 256 * (c1 + 256 * (c2 + 256 * (c3 + 256 * (c4 + 256 * (c5 + 256 * (c6 + 256 * c7))))))) + (c0 + 256 * (c1 + 256 * (c2 + 256 * (c3 + 256 * (c4 + 256 * (c5 + 256 * (c6 + 256 * c7))))))) / 4294967296) % 128 = c0 + c4 := by
  rw [show (4294967296 : Nat) = 256 * 256 * 256 * 256 from rfl, ← Nat.div_div_eq_div_mul, ← Nat.div_div_eq_div_mul, ← Nat.div_div_eq_div_mul, sp_256 (by omega), sp_256 (by omega), sp_256 (by omega), sp_256 (by omega)]
  refine ⟨by omega, ?_⟩
  have e : c0 + 256 * (c1 + 256 * (c2 + 256 * (c3 + 256 * (c4 + 256 * (c5 + 256 * (c6 + 256 * c7)))))) + (c4 + 256 * (c5 + 256 * (c6 + 256 * c7))) = (c0 + c4) + 128 * (2 * ((c1 + 256 * (c2 + 256 * (c3 + 256 * (c4 + 256 * (c5 + 256 * (c6 + 256 * c7)))))) + (c5 + 256 * (c6 + 256 * c7)))) := by omega
  rw [e, Nat.add_mul_mod_self_left]
  omega
theorem by8_8 (f : Nat → Nat) (n : Nat) : by8 f 8 n = f (n % 256) + 256 * (f (n / 256 % 256) + 256 * (f (n / 256 / 256 % 256) + 256 * (f (n / 256 / 256 / 256 % 256) + 256 * (f (n / 256 / 256 / 256 / 256 % 256) + 256 * (f (n / 256 / 256 / 256 / 256 / 256 % 256) + 256 * (f (n / 256 / 256 / 256 / 256 / 256 / 256 % 256) + 256 * f (n / 256 / 256 / 256 / 256 / 256 / 256 / 256 % 256))))))) := by
  show f (n % 256) + 256 * (f (n / 256 % 256) + 256 * (f (n / 256 / 256 % 256) + 256 * (f (n / 256 / 256 / 256 % 256) + 256 * (f (n / 256 / 256 / 256 / 256 % 256) + 256 * (f (n / 256 / 256 / 256 / 256 / 256 % 256) + 256 * (f (n / 256 / 256 / 256 / 256 / 256 / 256 % 256) + 256 * (f (n / 256 / 256 / 256 / 256 / 256 / 256 / 256 % 256) + 256 * 0))))))) = _
  rw [Nat.mul_zero, Nat.add_zero]
theorem sum8_8 (n : Nat) : sum8 8 n = pc8 (n % 256) + (pc8 (n / 256 % 256) + (pc8 (n / 256 / 256 % 256) + (pc8 (n / 256 / 256 / 256 % 256) + (pc8 (n / 256 / 256 / 256 / 256 % 256) + (pc8 (n / 256 / 256 / 256 / 256 / 256 % 256) + (pc8 (n / 256 / 256 / 256 / 256 / 256 / 256 % 256) + pc8 (n / 256 / 256 / 256 / 256 / 256 / 256 / 256 % 256))))))) := by
  show _ + (_ + (_ + (_ + (_ + (_ + (_ + (_ + 0))))))) = _
  rw [Nat.add_zero]
theorem by8_lt {f : Nat → Nat} (h : ∀ b, b < 256 → f b ≤ 68) : ∀ (k n : Nat), by8 f k n * 3 < 256 ^ k ∨ k = 0
  | 0, n => Or.inr rfl
  | k + 1, n => by
    have h1 := h (n % 256) (by omega)
    refine Or.inl ?_
    show (f (n % 256) + 256 * by8 f k (n / 256)) * 3 < 256 ^ (k + 1)
    rw [Nat.pow_succ]
    rcases by8_lt h k (n / 256) with q | q
    · omega
    · subst q
      show (f (n % 256) + 256 * 0) * 3 < 256 ^ 0 * 256
      omega
theorem bA_1 {n : Nat} (h : n < 2 ^ 64) : (n / 2 ^ 1 &&& 6148914691236517205) ≤ n ∧ bA1 n = by8 s1B 8 n := by
  have m1 : (6148914691236517205 : Nat) = mk 85 8 := by decide +kernel
  have hid := by8_id 8 n (by rw [show (256 : Nat) ^ 8 = 2 ^ 64 by decide +kernel]; exact h)
  have a1 : (n / 2 ^ 1 &&& mk 85 8) = by8 (fun b => b / 2 ^ 1 &&& 85) 8 n := land_sh (by omega) (by decide) 8 n
  obtain ⟨s1, s2⟩ := by8_sub (f := fun b => b) (g := fun b => b / 2 ^ 1 &&& 85) (fun b hb => (s_all b hb).1.1) 8 n
  rw [hid] at s1 s2
  unfold bA1
  rw [m1, a1, s2]
  exact ⟨s1, rfl⟩
theorem bA_2 {n : Nat} (h : n < 2 ^ 64) : bA2 n = by8 s2B 8 n := by
  have m2 : (3689348814741910323 : Nat) = mk 51 8 := by decide +kernel
  have a1 : (bA1 n &&& mk 51 8) = by8 (fun b => b &&& 51) 8 (bA1 n) := land_mk (by omega) 8 _
  have a2 : (bA1 n / 2 ^ 2 &&& mk 51 8) = by8 (fun b => b / 2 ^ 2 &&& 51) 8 (bA1 n) := land_sh (by omega) (by decide) 8 _
  unfold bA2
  rw [m2, a1, a2, by8_add, (bA_1 h).2, by8_comp (fun b hb => (s_all b hb).1.2)]
  rfl
theorem bA_3 {n : Nat} (h : n < 2 ^ 64) : bA3 n = by8 pc8 8 n := by
  have m3 : (1085102592571150095 : Nat) = mk 15 8 := by decide +kernel
  have a1 := by8_nib (fun b hb => (s_all b hb).2.1) 8 n
  unfold bA3
  rw [m3, bA_2 h, show (2 : Nat) ^ 4 = 16 from rfl, a1]
  exact by8_cong (fun b hb => (s_all b hb).2.2.1) 8 n
theorem bA_456 (c0 c1 c2 c3 c4 c5 c6 c7 A : Nat) (d0 : c0 ≤ 8) (d1 : c1 ≤ 8) (d2 : c2 ≤ 8) (d3 : c3 ≤ 8) (d4 : c4 ≤ 8) (d5 : c5 ≤ 8) (d6 : c6 ≤ 8) (d7 : c7 ≤ 8)
    (hA : A = c0 + 256 * (c1 + 256 * (c2 + 256 * (c3 + 256 * (c4 + 256 * (c5 + 256 * (c6 + 256 * c7))))))) : ∃ B, A + A / 256 + (A + A / 256) / 65536 = B ∧ B + B / 4294967296 < 18446744073709551616 ∧ (B + B / 4294967296) % 128 = c0 + (c1 + (c2 + (c3 + (c4 + (c5 + (c6 + c7)))))) := by
  have h4 := bA_4 c0 c1 c2 c3 c4 c5 c6 c7 (by omega)
  rw [← hA] at h4
  have h5 := bA_5 (c0 + c1) (c1 + c2) (c2 + c3) (c3 + c4) (c4 + c5) (c5 + c6) (c6 + c7) c7 (by omega) (by omega)
  rw [← h4] at h5
  have h6 := bA_6 (c0 + c1 + (c2 + c3)) (c1 + c2 + (c3 + c4)) (c2 + c3 + (c4 + c5)) (c3 + c4 + (c5 + c6)) (c4 + c5 + (c6 + c7)) (c5 + c6 + c7) (c6 + c7) c7 (by omega) (by omega) (by omega) (by omega) (by omega) (by omega) (by omega) (by omega)
  rw [← h5] at h6
  exact ⟨_, rfl, h6.1, h6.2.trans (by clear h4 h5 h6 hA; omega)⟩
theorem bA_ok {n : Nat} (h : n < 2 ^ 64) : (n / 2 ^ 1 &&& 6148914691236517205) ≤ n ∧ bA1 n < 2 ^ 64 ∧ bA2 n + bA2 n / 2 ^ 4 < 2 ^ 64 ∧ bA6 n < 2 ^ 64 ∧ bA6 n % 128 = fb_ct (fun i => n.testBit i) 64 := by
  refine ⟨(bA_1 h).1, Nat.lt_of_le_of_lt (Nat.sub_le _ _) h, ?_, ?_⟩
  · rw [bA_2 h]
    rcases by8_lt (fun b hb => (s_all b hb).2.1.1) 8 n with q | q
    · rw [show (256 : Nat) ^ 8 = 2 ^ 64 by decide +kernel] at q
      have := Nat.div_le_self (by8 s2B 8 n) (2 ^ 4)
      generalize by8 s2B 8 n / 2 ^ 4 = u at this ⊢
      generalize by8 s2B 8 n = v at this q ⊢
      omega
    · omega
  · have hc := fun x : Nat => (s_all (x % 256) (by omega)).2.2.2
    obtain ⟨B, e, e1, e2⟩ := bA_456 _ _ _ _ _ _ _ _ (by8 pc8 8 n) (hc n) (hc (n / 256)) (hc (n / 256 / 256)) (hc (n / 256 / 256 / 256)) (hc (n / 256 / 256 / 256 / 256)) (hc (n / 256 / 256 / 256 / 256 / 256)) (hc (n / 256 / 256 / 256 / 256 / 256 / 256)) (hc (n / 256 / 256 / 256 / 256 / 256 / 256 / 256)) (by8_8 pc8 n)
    rw [← sum8_8, ← ct_sum8] at e2
    have e5 : bA5 n = B := by
      unfold bA5 bA4
      rw [bA_3 h]
      exact e
    have e6 : bA6 n = B + B / 4294967296 := by
      unfold bA6
      rw [e5]
    rw [e6]
    exact ⟨e1, e2⟩
/-- the number of bits of a word -/
def pcL (x : Int64) : Nat := fb_ct (fun i => tbit x i) 64
theorem and127 (n : Nat) : (lN n).toInt32 &&& 127 = nI (n % 128) := by
  have : (lN n).toInt32 = nI n := by
    apply Int32.toBitVec_inj.mp
    rw [Int64.toBitVec_toInt32, wb_tb, BitVec.signExtend_eq_setWidth_of_le _ (by omega)]
    show _ = BitVec.ofNat 32 n
    apply BitVec.eq_of_toNat_eq
    rw [BitVec.toNat_setWidth, BitVec.toNat_ofNat, BitVec.toNat_ofNat]
    exact Nat.mod_mod_of_dvd _ (Nat.pow_dvd_pow 2 (by omega))
  rw [this]
  apply Int32.toBitVec_inj.mp
  apply BitVec.eq_of_toNat_eq
  rw [Int32.toBitVec_and, BitVec.toNat_and]
  show (BitVec.ofNat 32 n).toNat &&& (2 ^ 7 - 1) = (BitVec.ofNat 32 (n % 128)).toNat
  rw [Nat.and_two_pow_sub_one_eq_mod, BitVec.toNat_ofNat, BitVec.toNat_ofNat]
  omega
section
variable {G : qGX} {w : qSt} {Q : Option Value → qSt → Prop}
theorem cJ_bitCount {x : Int64} (h : Q (some (.int (nI (pcL x)))) w) : Con G MJ_bitCount [.long x] w Q := by
  obtain ⟨n, hn, rfl⟩ := wb_of x
  obtain ⟨k1, k2, k3, k6, k7⟩ := bA_ok hn
  have hl : ∀ m : Nat, n / 2 ^ 1 &&& 6148914691236517205 ≤ 6148914691236517205 := fun _ => Nat.and_le_right
  refine Con.go hwJ_bitCount okJ_bitCount 60 [] rfl ?_
  have c1 : (6148914691236517205 : Int64) = lN 6148914691236517205 := rfl
  have c2 : (3689348814741910323 : Int64) = lN 3689348814741910323 := rfl
  have c3 : (1085102592571150095 : Int64) = lN 1085102592571150095 := rfl
  have sh : ∀ {m k : Nat}, m < 2 ^ 64 → k < 64 → ((lN m).toUInt64 >>> ((nI k).toInt64.toUInt64 &&& Int64.toUInt64 63)).toInt64 = lN (m / 2 ^ k) := fun a b => wb_shr a b
  have lt : ∀ {m k : Nat}, m < 2 ^ 64 → m / 2 ^ k < 2 ^ 64 := fun a => Nat.lt_of_le_of_lt (Nat.div_le_self _ _) a
  have e1 : lN n - (((lN n).toUInt64 >>> ((nI 1).toInt64.toUInt64 &&& Int64.toUInt64 63)).toInt64 &&& 6148914691236517205) = lN (bA1 n) := by
    rw [sh hn (by omega), c1, wb_and (lt hn) (by decide), zN_sub k1]; rfl
  have e2 : (lN (bA1 n) &&& 3689348814741910323) + (((lN (bA1 n)).toUInt64 >>> ((nI 2).toInt64.toUInt64 &&& Int64.toUInt64 63)).toInt64 &&& 3689348814741910323) = lN (bA2 n) := by
    rw [sh k2 (by omega), c2, wb_and k2 (by decide), wb_and (lt k2) (by decide), zN_add]; rfl
  have l2 : bA2 n < 2 ^ 64 := Nat.lt_of_le_of_lt (Nat.le_add_right _ _) k3
  have e3 : (lN (bA2 n) + ((lN (bA2 n)).toUInt64 >>> ((nI 4).toInt64.toUInt64 &&& Int64.toUInt64 63)).toInt64) &&& 1085102592571150095 = lN (bA3 n) := by
    rw [sh l2 (by omega), zN_add, c3, wb_and k3 (by decide)]; rfl
  have l6 : bA5 n < 2 ^ 64 ∧ bA4 n < 2 ^ 64 ∧ bA3 n < 2 ^ 64 := by
    have g1 : bA5 n ≤ bA6 n := Nat.le_add_right _ _
    have g2 : bA4 n ≤ bA5 n := Nat.le_add_right _ _
    have g3 : bA3 n ≤ bA4 n := Nat.le_add_right _ _
    exact ⟨Nat.lt_of_le_of_lt g1 k6, Nat.lt_of_le_of_lt (Nat.le_trans g2 g1) k6, Nat.lt_of_le_of_lt (Nat.le_trans g3 (Nat.le_trans g2 g1)) k6⟩
  have e4 : lN (bA3 n) + ((lN (bA3 n)).toUInt64 >>> ((nI 8).toInt64.toUInt64 &&& Int64.toUInt64 63)).toInt64 = lN (bA4 n) := by
    rw [sh l6.2.2 (by omega), zN_add]; rfl
  have e5 : lN (bA4 n) + ((lN (bA4 n)).toUInt64 >>> ((nI 16).toInt64.toUInt64 &&& Int64.toUInt64 63)).toInt64 = lN (bA5 n) := by
    rw [sh l6.2.1 (by omega), zN_add]; rfl
  have e6 : lN (bA5 n) + ((lN (bA5 n)).toUInt64 >>> ((nI 32).toInt64.toUInt64 &&& Int64.toUInt64 63)).toInt64 = lN (bA6 n) := by
    rw [sh l6.1 (by omega), zN_add]; rfl
  have hp : pcL (lN n) = fb_ct (fun i => n.testBit i) 64 := by unfold pcL tbit; rw [uL_lN hn]
  rw [hp, ← k7, ← and127, ← e6, ← e5, ← e4, ← e3, ← e2, ← e1] at h
  exact h
end
