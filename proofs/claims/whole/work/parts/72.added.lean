/-! ===== added ===== -/
theorem neg63 (u : UInt64) : u.toInt64 < 0 ↔ 2 ^ 63 ≤ u.toNat := by
  have hu : u.toNat < 2 ^ 64 := u.toNat_lt
  have e : u.toInt64.toInt = if 2 * u.toNat < 2 ^ 64 then (u.toNat : Int) else (u.toNat : Int) - 2 ^ 64 := by
    show u.toBitVec.toInt = _
    rw [BitVec.toInt_eq_toNat_cond]; rfl
  rw [i64_lt, e]
  show _ < (0 : Int) ↔ _
  split <;> omega
theorem xor_neg (x y : Int64) : (x ^^^ y) < 0 ↔ ¬ (x < 0 ↔ y < 0) := by
  have e : ∀ z : Int64, z < 0 ↔ z.toBitVec.msb = true := by
    intro z
    rw [i64_lt, BitVec.msb_eq_toInt]
    show z.toBitVec.toInt < 0 ↔ _
    simp
  rw [e, e, e, Int64.toBitVec_xor, BitVec.msb_xor]
  cases x.toBitVec.msb <;> cases y.toBitVec.msb <;> decide
theorem sg_and {n : Nat} (hn : n < 2 ^ 64) : lN n &&& (-9223372036854775808) = lN (if decide (2 ^ 63 ≤ n) = true then 2 ^ 63 else 0) := by
  have e0 : (-9223372036854775808 : Int64) = lN (2 ^ 63) := by decide
  rw [e0, wb_and hn (by decide)]
  congr 1
  apply Nat.eq_of_testBit_eq
  intro i
  rw [Nat.testBit_and, Nat.testBit_two_pow]
  by_cases ci : 63 = i
  · subst ci
    rw [Nat.testBit_eq_decide_div_mod_eq]
    by_cases c : 2 ^ 63 ≤ n
    · rw [if_pos (decide_eq_true c), decide_eq_true (show n / 2 ^ 63 % 2 = 1 by omega)]; decide
    · rw [if_neg (by simpa using c), decide_eq_false (show ¬ n / 2 ^ 63 % 2 = 1 by omega)]; decide
  · rw [decide_eq_false ci, Bool.and_false]
    by_cases c : 2 ^ 63 ≤ n
    · rw [if_pos (decide_eq_true c), Nat.testBit_two_pow, decide_eq_false ci]
    · rw [if_neg (by simpa using c), Nat.zero_testBit]
section
variable {G : qGX} {w : qSt} {Q : Option Value → qSt → Prop}
theorem c2_shO {n k : Nat} {v : Int64} {i : Int32} (hn : n < 2 ^ 60) (hk : k ≤ 3000) (ev : v = lN n) (ei : i = nI k) (h : Q (some (.long (lN (soN n k)))) w) : Con G M2_shiftedOut [.long v, .int i] w Q := by
  subst ev ei; exact c2_shiftedOut hn hk h
theorem c2_added {a b : UInt64} (ha : ¬ FP.Core.dIsNaN a = true) (hb : finB b) (h : Q (some (.long (FP.dadd a b).toInt64)) w) : Con G M2_added [.long a.toInt64, .long b.toInt64] w Q := by
  have k54 : ∀ (p q : UInt64) (i0 : Int32), finB p → q.toNat % 2 ^ 63 ≤ p.toNat % 2 ^ 63 → FP.dadd p q = FP.dadd a b → Wq G M2_added 54 [some (.long a.toInt64), none, some (.long b.toInt64), none, some (.int i0), some (.long p.toInt64), none, some (.long q.toInt64), none, none, none, none, none, none, none, none] [] (0, 0) w Q := by
    intro p q i0 hp hq hsum
    have hal : (p.toInt64 ^^^ q.toInt64) < 0 ↔ ¬ (2 ^ 63 ≤ p.toNat ↔ 2 ^ 63 ≤ q.toNat) := by rw [xor_neg, neg63, neg63]
    rw [u64_lN p, u64_lN q] at *
    have hp64 : p.toNat < 2 ^ 64 := p.toNat_lt
    have hq64 : q.toNat < 2 ^ 64 := q.toNat_lt
    obtain ⟨c1, ec1⟩ : ∃ c, sgN (p.toNat % 2 ^ 63) (2 ^ 52) = c := ⟨_, rfl⟩
    obtain ⟨c2, ec2⟩ : ∃ c, sgN (q.toNat % 2 ^ 63) (2 ^ 52) = c := ⟨_, rfl⟩
    obtain ⟨x1, ex1⟩ : ∃ c, xpN (p.toNat % 2 ^ 63) (2 ^ 52) = c := ⟨_, rfl⟩
    obtain ⟨x2, ex2⟩ : ∃ c, xpN (q.toNat % 2 ^ 63) (2 ^ 52) = c := ⟨_, rfl⟩
    obtain ⟨B, eB⟩ : ∃ B, B = if (2 ^ 63 ≤ p.toNat ↔ 2 ^ 63 ≤ q.toNat) then 8 * c1 + soN (8 * c2) (x1 - x2) else 8 * c1 - soN (8 * c2) (x1 - x2) := ⟨_, rfl⟩
    obtain ⟨f1, f2, f3, f4, f5, f6, f7, f8⟩ := dadd_bits hp hq ec1 ec2 ex1 ex2 eB
    rw [u64_lN, ← hsum, f8] at h
    have k123 : ∀ (i : Int32) X Y, ((i = 1 ∧ (2 ^ 63 ≤ p.toNat ↔ 2 ^ 63 ≤ q.toNat)) ∨ (i = 0 ∧ ¬ (2 ^ 63 ≤ p.toNat ↔ 2 ^ 63 ≤ q.toNat))) → Wq G M2_added 123 [some (.long a.toInt64), none, some (.long b.toInt64), none, some (.int i0), some (.long (lN p.toNat)), none, some (.long (lN q.toNat)), none, some (.long X), none, some (.long Y), none, some (.int i), some (.long (lN B)), none] [] (0, 0) w Q := by
      intro i X Y hi
      refine Wq.go ok2_added 40 [] ?_
      refine And.intro (fun c => ?_) (fun c => And.intro (fun c2 => ?_) (fun c2 => ?_))
      · have c : ¬ lg_cmp (lN B) (lN 0) = 0 := c
        rw [lg_eq0, zN_eq (by omega) (by omega)] at c
        rw [if_neg c] at h
        refine c2_exponent hp64 ?_
        rw [ex1]
        refine c2_packed (B := B) (x := x1) (by omega) f7 f2 f3 ?_
        show Q (some (.long ((lN p.toNat &&& (-9223372036854775808)) ||| lN (pkB B x1)))) w
        have hpk : pkB B x1 ≤ 9218868437227405312 := Nat.min_le_right _ _
        rw [sg_and hp64, sg_or (by omega)]
        by_cases cs : 2 ^ 63 ≤ p.toNat
        · rw [if_pos (decide_eq_true cs)]; rw [if_pos cs] at h; exact h
        · rw [if_neg (by simpa using cs)]; rw [if_neg cs] at h; exact h
      · have c : lg_cmp (lN B) (lN 0) = 0 := c
        rw [lg_eq0, zN_eq (by omega) (by omega)] at c
        have c2 : i = 0 := c2
        have hs : ¬ (2 ^ 63 ≤ p.toNat ↔ 2 ^ 63 ≤ q.toNat) := by
          rcases hi with ⟨z, _⟩ | ⟨_, z⟩
          · rw [z] at c2; exact absurd c2 (by decide)
          · exact z
        rw [if_pos c, if_neg hs] at h
        exact h
      · have c : lg_cmp (lN B) (lN 0) = 0 := c
        rw [lg_eq0, zN_eq (by omega) (by omega)] at c
        have c2 : ¬ i = 0 := c2
        have hs : (2 ^ 63 ≤ p.toNat ↔ 2 ^ 63 ≤ q.toNat) := by
          rcases hi with ⟨_, z⟩ | ⟨z, _⟩
          · exact z
          · exact absurd z c2
        rw [if_pos c, if_pos hs] at h
        show Q (some (.long (lN p.toNat &&& (-9223372036854775808)))) w
        rw [sg_and hp64]
        by_cases cs : 2 ^ 63 ≤ p.toNat
        · rw [if_pos (decide_eq_true cs)]; rw [if_pos cs] at h; exact h
        · rw [if_neg (by simpa using cs)]; rw [if_neg cs] at h; exact h
    have k103 : ∀ (i : Int32) X Y, X = lN (8 * c1) → Y = lN (soN (8 * c2) (x1 - x2)) → ((i = 1 ∧ (2 ^ 63 ≤ p.toNat ↔ 2 ^ 63 ≤ q.toNat)) ∨ (i = 0 ∧ ¬ (2 ^ 63 ≤ p.toNat ↔ 2 ^ 63 ≤ q.toNat))) → Wq G M2_added 103 [some (.long a.toInt64), none, some (.long b.toInt64), none, some (.int i0), some (.long (lN p.toNat)), none, some (.long (lN q.toNat)), none, some (.long X), none, some (.long Y), none, some (.int i), none, none] [] (0, 0) w Q := by
      intro i X Y eX eY hi
      refine Wq.go ok2_added 40 [123] ?_
      refine And.intro (fun c => ?_) (fun c => ?_)
      · have c : i = 0 := c
        have hs : ¬ (2 ^ 63 ≤ p.toNat ↔ 2 ^ 63 ≤ q.toNat) := by
          rcases hi with ⟨z, _⟩ | ⟨_, z⟩
          · rw [z] at c; exact absurd c (by decide)
          · exact z
        have e : X - Y = lN B := by rw [eX, eY, zN_sub f6, eB, if_neg hs]
        have := k123 i X Y hi
        rw [← e] at this
        exact this
      · have c : ¬ i = 0 := c
        have hs : (2 ^ 63 ≤ p.toNat ↔ 2 ^ 63 ≤ q.toNat) := by
          rcases hi with ⟨_, z⟩ | ⟨z, _⟩
          · exact z
          · exact absurd z c
        have e : X + Y = lN B := by rw [eX, eY, zN_add, eB, if_pos hs]
        have := k123 i X Y hi
        rw [← e] at this
        exact this
    have e8 : ∀ c : Nat, lN c <<< ((nI 3).toInt64 &&& 63) = lN (8 * c) := by
      intro c
      rw [wb_shl _ (by omega), Nat.mul_comm]
    refine Wq.go ok2_added 60 [103] ?_
    refine c2_significand hp64 ?_
    rw [ec1]
    refine c2_significand hq64 ?_
    rw [ec2]
    refine c2_exponent hp64 ?_
    rw [ex1]
    refine c2_exponent hq64 ?_
    rw [ex2]
    refine c2_shO (n := 8 * c2) (k := x1 - x2) (by omega) (by omega) (e8 c2) (nI_subI (by omega) (by omega)) ?_
    refine And.intro (fun c => ?_) (fun c => ?_)
    · have c : lg_cmp (lN p.toNat ^^^ lN q.toNat) 0 < 0 := c
      rw [lg_lt0, hal] at c
      exact k103 0 _ _ (e8 c1) rfl (Or.inr ⟨rfl, c⟩)
    · have c : ¬ lg_cmp (lN p.toNat ^^^ lN q.toNat) 0 < 0 := c
      rw [lg_lt0, hal, Classical.not_not] at c
      exact k103 1 _ _ (e8 c1) rfl (Or.inl ⟨rfl, c⟩)
  have e0 : ∀ u : UInt64, u.toInt64.toUInt64 = u := fun u => rfl
  have k9 : finB a → Wq G M2_added 9 [some (.long a.toInt64), none, some (.long b.toInt64), none, none, none, none, none, none, none, none, none, none, none, none, none] [] (0, 0) w Q := by
    intro hfa
    have hcmp : ∀ u v : UInt64, (u.toInt64 &&& 9223372036854775807) < (v.toInt64 &&& 9223372036854775807) ↔ u.toNat % 2 ^ 63 < v.toNat % 2 ^ 63 := by
      intro u v
      rw [i64_lt, and63, and63]
      show ((u.toNat % 9223372036854775808 : Nat) : Int) < ((v.toNat % 9223372036854775808 : Nat) : Int) ↔ _
      omega
    refine Wq.go ok2_added 60 [54] ?_
    refine And.intro (fun c => And.intro (fun _ => And.intro (fun _ => ?_) (fun z => absurd rfl z)) (fun z => absurd rfl z)) (fun c => And.intro (fun z => absurd z (by decide)) (fun _ => And.intro (fun z => absurd z (by decide)) (fun _ => ?_)))
    · have c : lg_cmp (a.toInt64 &&& 9223372036854775807) (b.toInt64 &&& 9223372036854775807) < 0 := c
      rw [lg_lt0, hcmp] at c
      exact k54 b a 0 hb (by omega) (FP.Core.dadd_comm b a)
    · have c : ¬ lg_cmp (a.toInt64 &&& 9223372036854775807) (b.toInt64 &&& 9223372036854775807) < 0 := c
      rw [lg_lt0, hcmp] at c
      exact k54 a b 1 hfa (by omega) rfl
  refine Con.go hw2_added ok2_added 20 [9] rfl ?_
  refine c2_hasEnd ?_
  refine And.intro (fun c => ?_) (fun c => ?_)
  · have c : ¬ bI (finB a) = 0 := c
    rw [bI_n0] at c
    exact k9 c
  · have c : bI (finB a) = 0 := c
    rw [bI_0] at c
    rw [dadd_inf ha c hb] at h
    exact h
end
