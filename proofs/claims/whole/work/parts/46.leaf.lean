/-! ===== the class's leaves ===== -/
/-- the highest bit -/
def tbN (n : Nat) : Int32 := if n = 0 then -1 else nI (Nat.log2 n)
theorem bI_T : bI True = 1 := bI_t trivial
theorem bI_F : bI False = 0 := bI_f id
theorem lt_n {a : Int32} {n : Nat} (hn : n < 2147483648) : ¬ a < 0 → ¬ nI n ≤ a → ∃ k, a = nI k ∧ k < n := by
  intro h1 h2
  rw [i32_lt, c0i] at h1
  rw [i32_le, nI_t hn] at h2
  refine ⟨a.toInt.toNat, ?_, by omega⟩
  rw [i32_eq, nI_t (by omega)]; omega
section
variable {G : qGX} {w : qSt} {Q : Option Value → qSt → Prop}
theorem c11_isName {t : Int32} (h : Q (some (.int (bI (isN t)))) w) : Con G M11_isName [.int t] w Q := by
  rw [isN_iff] at h
  refine Con.go hw11_isName ok11_isName 20 [] rfl ?_
  refine And.intro (fun c => ?_) (fun c => And.intro (fun c2 => ?_) (fun c2 => ?_))
  · have c : t.toInt < 0 := (i32_lt _ _).mp c
    rw [bI_f (by omega)] at h; exact And.intro rfl h
  · have c2 : (10 : Int) ≤ t.toInt := (i32_le _ _).mp c2
    rw [bI_f (by omega)] at h; exact And.intro rfl h
  · have c : ¬ t.toInt < 0 := fun z => c ((i32_lt _ _).mpr z)
    have c2 : ¬ (10 : Int) ≤ t.toInt := fun z => c2 ((i32_le _ _).mpr z)
    rw [bI_t (by omega)] at h; exact And.intro rfl h
theorem c11_isLane {t : Int32} (h : Q (some (.int (bI (isL t)))) w) : Con G M11_isLane [.int t] w Q := by
  rw [isL_iff] at h
  refine Con.go hw11_isLane ok11_isLane 20 [] rfl ?_
  refine And.intro (fun c => ?_) (fun c => And.intro (fun c2 => ?_) (fun c2 => ?_))
  · have c : t.toInt < 0 := (i32_lt _ _).mp c
    rw [bI_f (by omega)] at h; exact And.intro rfl h
  · have c2 : (7 : Int) < t.toInt := (i32_lt _ _).mp c2
    rw [bI_f (by omega)] at h; exact And.intro rfl h
  · have c : ¬ t.toInt < 0 := fun z => c ((i32_lt _ _).mpr z)
    have c2 : ¬ (7 : Int) < t.toInt := fun z => c2 ((i32_lt _ _).mpr z)
    rw [bI_t (by omega)] at h; exact And.intro rfl h
theorem c11_isColumn {t : Int32} (h : Q (some (.int (bI (isK t)))) w) : Con G M11_isColumn [.int t] w Q := by
  have e : isK t ↔ 0 ≤ t.toInt ∧ t.toInt ≤ (6 : Nat) - 1 := rng_iff (by omega) t
  rw [e] at h
  refine Con.go hw11_isColumn ok11_isColumn 20 [] rfl ?_
  refine And.intro (fun c => ?_) (fun c => And.intro (fun c2 => ?_) (fun c2 => ?_))
  · have c : t.toInt < 0 := (i32_lt _ _).mp c
    rw [bI_f (by omega)] at h; exact And.intro rfl h
  · have c2 : (6 : Int) ≤ t.toInt := (i32_le _ _).mp c2
    rw [bI_f (by omega)] at h; exact And.intro rfl h
  · have c : ¬ t.toInt < 0 := fun z => c ((i32_lt _ _).mpr z)
    have c2 : ¬ (6 : Int) ≤ t.toInt := fun z => c2 ((i32_le _ _).mpr z)
    rw [bI_t (by omega)] at h; exact And.intro rfl h
theorem c11_isNoThing0 {t : Int32} (h : Q (some (.int (bI (¬ t = -1)))) w) : Con G M11_isNoThing [.int t, .null] w Q := by
  refine Con.go hw11_isNoThing ok11_isNoThing 20 [] rfl ?_
  refine And.intro (fun c => ?_) (fun c => ?_)
  · rw [bI_f (fun z => z c)] at h; exact And.intro rfl h
  · rw [bI_t c] at h; exact And.intro rfl h
theorem c11_isNoThing1 {t : Int32} {a : Nat} (h : Q (some (.int 0)) w) : Con G M11_isNoThing [.int t, .ref a] w Q := by
  refine Con.go hw11_isNoThing ok11_isNoThing 20 [] rfl ?_
  exact And.intro rfl h
theorem c11_holdsValue {b d : Int32} (h : Q (some (.int (bI (d = 0 ∧ b < 8)))) w) : Con G M11_holdsValue [.int b, .int d] w Q := by
  refine Con.go hw11_holdsValue ok11_holdsValue 20 [] rfl ?_
  refine And.intro (fun c => ?_) (fun c => And.intro (fun c2 => ?_) (fun c2 => ?_))
  · rw [bI_f (fun z => c z.1)] at h; exact And.intro rfl h
  · have c2 : (8 : Int32) ≤ b := c2
    rw [bI_f (fun z => by have := z.2; rw [i32_le] at c2; rw [i32_lt] at this; omega)] at h; exact And.intro rfl h
  · have c2 : ¬ (8 : Int32) ≤ b := c2
    rw [bI_t ⟨c, by rw [i32_le] at c2; rw [i32_lt]; omega⟩] at h; exact And.intro rfl h
theorem c11_answered {v : Int32} (hk : gN w 0 2 = 10) (h : Q (some (.int v)) (sI w 10 11 2 (cIf (v < 0) v 0))) : Con G M11_answered [.ref 2, .int v] w Q := by
  refine Con.go hw11_answered ok11_answered 20 [] rfl ?_
  refine And.intro (fun c => ?_) (fun c => ?_)
  · rw [cIf_f (nlt0 c)] at h; exact And.intro hk h
  · rw [cIf_t (lt0 c)] at h; exact And.intro hk h
theorem c11_lostOr {v : Int32} {x : Int64} (hk : gN w 0 2 = 10) (h : Q (some (.long (cIf (v = 0) x (-9223372036854775808)))) (sI w 10 11 2 v)) : Con G M11_lostOr [.ref 2, .int v, .long x] w Q := by
  refine Con.go hw11_lostOr ok11_lostOr 20 [] rfl ?_
  refine And.intro hk (And.intro (fun c => ?_) (fun c => ?_))
  · rw [cIf_f c] at h; exact h
  · rw [cIf_t c] at h; exact h
theorem cJ_compare {a b : Int64} (h : Q (some (.int (lg_cmp a b))) w) : Con G MJ_compare [.long a, .long b] w Q := by
  refine Con.go hwJ_compare okJ_compare 20 [] rfl ?_
  refine And.intro (fun c => And.intro (fun c2 => ?_) (fun c2 => ?_)) (fun c => ?_)
  · rw [lg_ge0, i64_le] at c
    rw [lg_eq0] at c2
    have : lg_cmp a b = 1 := by
      unfold lg_cmp
      rw [if_pos (by rw [gt_iff_lt, i64_lt]; rw [i64_eq] at c2; omega)]
    rw [this] at h; exact h
  · rw [c2] at h; exact h
  · rw [lg_ge0, i64_le] at c
    have : lg_cmp a b = -1 := by
      unfold lg_cmp
      rw [if_neg (by rw [gt_iff_lt, i64_lt]; omega), if_neg (fun z => by rw [z] at c; omega)]
    rw [this] at h; exact h
theorem cJ_max {a b : Int32} (h : Q (some (.int (cIf (a < b) b a))) w) : Con G MJ_max [.int a, .int b] w Q := by
  refine Con.go hwJ_max okJ_max 20 [] rfl ?_
  refine And.intro (fun c => ?_) (fun c => ?_)
  · rw [cIf_t c] at h; exact h
  · rw [cIf_f c] at h; exact h
theorem cJ_min {a b : Int32} (h : Q (some (.int (cIf (b < a) b a))) w) : Con G MJ_min [.int a, .int b] w Q := by
  refine Con.go hwJ_min okJ_min 20 [] rfl ?_
  refine And.intro (fun c => ?_) (fun c => ?_)
  · rw [cIf_t c] at h; exact h
  · rw [cIf_f c] at h; exact h
theorem cJ_minL {a b : Int64} (h : Q (some (.long (cIf (b < a) b a))) w) : Con G MJ_minL [.long a, .long b] w Q := by
  refine Con.go hwJ_minL okJ_minL 20 [] rfl ?_
  refine And.intro (fun c => ?_) (fun c => ?_) <;> rw [lg_gt0] at c
  · rw [cIf_t c] at h; exact h
  · rw [cIf_f c] at h; exact h
theorem c11_topBit {n : Nat} (hn : n < 2 ^ 64) (h : Q (some (.int (tbN n))) w) : Con G M11_topBit [.long (lN n)] w Q := by
  unfold tbN at h
  have dv : ∀ j, j ≤ 6 → nI (2 ^ j / 2) / (2 : Int32) = nI (2 ^ j / 2 / 2) := fun j hj => pk_div (d := 2) (by have : 2 ^ j ≤ 2 ^ 6 := Nat.pow_le_pow_right (by decide) hj; omega) (by decide) (by decide)
  have zero : n = 0 → ∀ j, j ≤ 6 → Wq G M11_topBit 18 [some (.long (lN n)), none, some (.int (-1)), some (.long (lN 0)), none, some (.int (nI (2 ^ j / 2)))] [] (0, 0) w Q := by
    intro h0 j
    rw [if_pos h0] at h
    induction j with
    | zero =>
      intro _
      refine Wq.go ok11_topBit 20 [] ?_
      exact And.intro (fun _ => h) (fun c => absurd (by decide) c)
    | succ j ih =>
      intro hj
      have hp : 2 ^ j ≤ 2 ^ 5 := Nat.pow_le_pow_right (by decide) (by omega)
      have hp0 := Nat.two_pow_pos j
      have e : 2 ^ (j + 1) / 2 = 2 ^ j := by rw [Nat.pow_succ]; omega
      have ed := dv (j + 1) hj
      rw [e] at ed
      rw [e]
      refine Wq.go ok11_topBit 20 [18] ?_
      refine And.intro (fun c => ?_) (fun _ => And.intro (fun _ => And.intro (by decide) ?_) (fun c => ?_))
      · have c : nI (2 ^ j) ≤ 0 := c
        rw [c_0', nI_leI (by omega) (by omega)] at c; omega
      · show Wq G M11_topBit 18 [some (.long (lN n)), none, some (.int (-1)), some (.long (lN 0)), none, some (.int (nI (2 ^ j) / 2))] [] (0, 0) w Q
        rw [ed]; exact ih (by omega)
      · rw [lg_eq0] at c
        exact absurd (by rw [wb_shr (by decide) (by omega), Nat.zero_div]; rfl) c
  have main : n ≠ 0 → ∀ (j t r : Nat), j ≤ 6 → r = n / 2 ^ t → 0 < r → r < 2 ^ (2 ^ j) → Wq G M11_topBit 18 [some (.long (lN n)), none, some (.int (nI t)), some (.long (lN r)), none, some (.int (nI (2 ^ j / 2)))] [] (0, 0) w Q := by
    intro h0 j
    rw [if_neg h0] at h
    induction j with
    | zero =>
      intro t r _ hr hr0 hr1
      refine Wq.go ok11_topBit 20 [] ?_
      refine And.intro (fun _ => ?_) (fun c => absurd (by decide) c)
      have hr2 : r < 2 := hr1
      have e : n / 2 ^ t = 1 := by omega
      have hl : Nat.log2 n = t := by
        have hpos := Nat.two_pow_pos t
        have h1 := Nat.div_add_mod n (2 ^ t)
        have h2 := Nat.mod_lt n hpos
        rw [e, Nat.mul_one] at h1
        refine (Nat.log2_eq_iff h0).mpr ⟨by omega, ?_⟩
        rw [Nat.pow_succ]; omega
      rw [hl] at h
      exact h
    | succ j ih =>
      intro t r hj hr hr0 hr1
      have hp : 2 ^ j ≤ 2 ^ 5 := Nat.pow_le_pow_right (by decide) (by omega)
      have hp0 := Nat.two_pow_pos j
      have e : 2 ^ (j + 1) / 2 = 2 ^ j := by rw [Nat.pow_succ]; omega
      have ed := dv (j + 1) hj
      rw [e] at ed
      have hrn : r < 2 ^ 64 := Nat.lt_of_le_of_lt (by rw [hr]; exact Nat.div_le_self _ _) hn
      have esh := wb_shr hrn (show 2 ^ j < 64 by omega)
      have hB : 2 ^ (2 ^ (j + 1)) = 2 ^ (2 ^ j) * 2 ^ (2 ^ j) := by rw [← Nat.pow_add, Nat.pow_succ]; congr 1; omega
      have hlt : r / 2 ^ (2 ^ j) < 2 ^ 64 := Nat.lt_of_le_of_lt (Nat.div_le_self _ _) hrn
      rw [e]
      refine Wq.go ok11_topBit 30 [18] ?_
      refine And.intro (fun c => ?_) (fun _ => And.intro (fun c => And.intro (by decide) ?_) (fun c => And.intro (by decide) ?_))
      · have c : nI (2 ^ j) ≤ 0 := c
        rw [c_0', nI_leI (by omega) (by omega)] at c; omega
      · rw [lg_eq0, esh, show (0 : Int64) = lN 0 from rfl, zN_eq hlt (by decide)] at c
        show Wq G M11_topBit 18 [some (.long (lN n)), none, some (.int (nI t)), some (.long (lN r)), none, some (.int (nI (2 ^ j) / 2))] [] (0, 0) w Q
        rw [ed]
        exact ih t r (by omega) hr hr0 (by rcases Nat.div_eq_zero_iff.mp c with q | q
                                           · have := Nat.two_pow_pos (2 ^ j); omega
                                           · exact q)
      · rw [lg_eq0, esh, show (0 : Int64) = lN 0 from rfl, zN_eq hlt (by decide)] at c
        show Wq G M11_topBit 18 [some (.long (lN n)), none, some (.int (nI t + nI (2 ^ j))), some (.long ((lN r).toUInt64 >>> ((nI (2 ^ j)).toInt64.toUInt64 &&& Int64.toUInt64 63)).toInt64), none, some (.int (nI (2 ^ j) / 2))] [] (0, 0) w Q
        rw [ed, esh, nI_add]
        refine ih (t + 2 ^ j) (r / 2 ^ (2 ^ j)) (by omega) ?_ (Nat.pos_of_ne_zero c) ?_
        · rw [hr, Nat.div_div_eq_div_mul, ← Nat.pow_add]
        · rw [hB] at hr1
          exact Nat.div_lt_of_lt_mul hr1
  refine Con.go hw11_topBit ok11_topBit 30 [18] rfl ?_
  refine And.intro (fun c => ?_) (fun c => ?_) <;> rw [lg_eq0, show (0 : Int64) = lN 0 from rfl, zN_eq hn (by decide)] at c
  · exact main c 6 0 n (by omega) (by rw [Nat.pow_zero, Nat.div_one]) (Nat.pos_of_ne_zero c) hn
  · have := zero c 6 (by omega)
    subst c
    exact this
end
/-! sets of types -/
def bt2 (lo hi : Int64) (j : Nat) : Bool := if j < 64 then tbit lo j else tbit hi (j - 64)
def tS (w : qSt) (u j : Nat) : Bool := bt2 (gJ w 8 0 u) (gJ w 8 1 u) j
def sS (w : qSt) (u : Nat) (lo hi : Int64) : qSt := sJ (sJ w 8 0 u lo) 8 1 u hi
theorem sJ_self (w : qSt) (r k i : Nat) : sJ w r k i (gJ w r k i) = w := by
  refine st_ext rfl ?_ rfl rfl
  funext r' k' i'
  show u3 w.2.1 r k i (w.2.1 r k i) r' k' i' = w.2.1 r' k' i'
  by_cases e : r' = r ∧ k' = k ∧ i' = i
  · obtain ⟨rfl, rfl, rfl⟩ := e
    rw [u3_at]
  · rw [u3_off _ _ e]
theorem sJ_cm (w : qSt) {r k i r' k' i' : Nat} (a b : Int64) (h : ¬ (r = r' ∧ k = k' ∧ i = i')) : sJ (sJ w r k i a) r' k' i' b = sJ (sJ w r' k' i' b) r k i a := by
  refine st_ext rfl ?_ rfl rfl
  funext x y z
  show u3 (u3 w.2.1 r k i a) r' k' i' b x y z = u3 (u3 w.2.1 r' k' i' b) r k i a x y z
  by_cases e : x = r ∧ y = k ∧ z = i
  · obtain ⟨rfl, rfl, rfl⟩ := e
    rw [u3_at, u3_off _ _ h, u3_at]
  · rw [u3_off (u3 w.2.1 r' k' i' b) a e]
    by_cases e2 : x = r' ∧ y = k' ∧ z = i'
    · obtain ⟨rfl, rfl, rfl⟩ := e2
      rw [u3_at, u3_at]
    · rw [u3_off _ _ e2, u3_off _ _ e2, u3_off _ _ e]
theorem sS_lo (w : qSt) (u : Nat) (lo : Int64) : sJ w 8 0 u lo = sS w u lo (gJ w 8 1 u) := by
  unfold sS
  rw [sJ_cm _ _ _ (by omega), sJ_self]
theorem sS_hi (w : qSt) (u : Nat) (hi : Int64) : sJ w 8 1 u hi = sS w u (gJ w 8 0 u) hi := by
  unfold sS
  rw [sJ_self]
theorem tS_at (w : qSt) (u : Nat) (lo hi : Int64) (j : Nat) : tS (sS w u lo hi) u j = bt2 lo hi j := by
  unfold tS sS
  rw [show gJ (sJ (sJ w 8 0 u lo) 8 1 u hi) 8 0 u = lo from (gJ_ne (by omega)).trans (gJ_at _ _ _ _ _), gJ_at]
theorem tS_ne (w : qSt) {u v : Nat} (lo hi : Int64) (h : v ≠ u) (j : Nat) : tS (sS w u lo hi) v j = tS w v j := by
  unfold tS sS
  rw [show gJ (sJ (sJ w 8 0 u lo) 8 1 u hi) 8 0 v = gJ w 8 0 v from (gJ_ne (by omega)).trans (gJ_ne (by omega)), show gJ (sJ (sJ w 8 0 u lo) 8 1 u hi) 8 1 v = gJ w 8 1 v from (gJ_ne (by omega)).trans (gJ_ne (by omega))]
theorem and63n : ∀ j, j < 128 → nI j &&& (63 : Int32) = nI (j % 64) := by decide +kernel
section
variable {G : qGX} {w : qSt} {Q : Option Value → qSt → Prop}
theorem c9_has {u j : Nat} (hk : gN w 0 u = 8) (hj : j < 128) (h : Q (some (.int (bI (tS w u j = true)))) w) : Con G M9_has [.ref u, .int (nI j)] w Q := by
  have bit : ∀ (x : Int64) (k : Nat), k < 64 → nI j &&& 63 = nI k → (lg_cmp ((x.toUInt64 >>> ((nI j &&& 63).toInt64.toUInt64 &&& Int64.toUInt64 63)).toInt64 &&& 1) 0 = 0 ↔ tbit x k = false) := by
    intro x k hk2 e
    rw [e, lg_eq0]
    obtain ⟨n, hn, rfl⟩ := wb_of x
    rw [wb_bit hn hk2, show (0 : Int64) = lN 0 from rfl, zN_eq (by have := Nat.mod_lt (n / 2 ^ k) (show 0 < 2 by decide); omega) (by decide)]
    unfold tbit
    rw [uL_lN hn, Nat.testBit_eq_decide_div_mod_eq]
    have := Nat.mod_lt (n / 2 ^ k) (show 0 < 2 by decide)
    constructor
    · intro q; rw [q]; rfl
    · intro q
      have := of_decide_eq_false q
      omega
  have fin : ∀ (x : Int64) (k : Nat), k < 64 → nI j &&& 63 = nI k → tS w u j = tbit x k → Wq G M9_has 17 [some (.ref u), some (.int (nI j)), none, none] [.long x] (0, 0) w Q := by
    intro x k hk2 e et
    rw [et] at h
    refine Wq.go ok9_has 20 [] ?_
    refine And.intro (fun c => ?_) (fun c => ?_) <;> rw [bit x k hk2 e] at c
    · rw [c, bI_f (by decide)] at h; exact And.intro rfl h
    · have c : tbit x k = true := by cases hx : tbit x k; exact absurd hx c; rfl
      rw [c, bI_t rfl] at h; exact And.intro rfl h
  refine Con.go hw9_has ok9_has 20 [17] rfl ?_
  refine And.intro (fun c => And.intro hk ?_) (fun c => And.intro hk ?_)
  · have c : (64 : Int32) ≤ nI j := c
    rw [show (64 : Int32) = nI 64 from rfl, nI_leI (by omega) (by omega)] at c
    refine fin _ (j - 64) (by omega) (by rw [and63n j hj]; congr 1; omega) ?_
    unfold tS bt2
    rw [if_neg (by omega)]
  · have c : ¬ (64 : Int32) ≤ nI j := c
    rw [show (64 : Int32) = nI 64 from rfl, nI_leI (by omega) (by omega)] at c
    refine fin _ j (by omega) (by rw [and63n j hj]; congr 1; omega) ?_
    unfold tS bt2
    rw [if_pos (by omega)]
theorem c9_add {u j : Nat} (hk : gN w 0 u = 8) (hj : j < 128) (h : ∀ lo hi, (∀ i, i < 128 → bt2 lo hi i = (tS w u i || decide (i = j))) → Q none (sS w u lo hi)) : Con G M9_add [.ref u, .int (nI j)] w Q := by
  have em : ∀ k, k < 64 → nI j &&& 63 = nI k → (1 : Int64) <<< ((nI j &&& 63).toInt64 &&& 63) = lN (1 * 2 ^ k) := by
    intro k hk2 e
    rw [e]; exact wb_shl 1 hk2
  refine Con.go hw9_add ok9_add 20 [] rfl ?_
  refine And.intro (fun c => And.intro hk (And.intro hk ?_)) (fun c => And.intro hk (And.intro hk ?_))
  · have c : (64 : Int32) ≤ nI j := c
    rw [show (64 : Int32) = nI 64 from rfl, nI_leI (by omega) (by omega)] at c
    show Q none (sJ w 8 1 u (gJ w 8 1 u ||| ((1 : Int64) <<< ((nI j &&& 63).toInt64 &&& 63))))
    rw [em (j - 64) (by omega) (by rw [and63n j hj]; congr 1; omega), sS_hi]
    refine h _ _ (fun i hi => ?_)
    unfold tS bt2
    by_cases q : i < 64
    · rw [if_pos q, if_pos q, show decide (i = j) = false from decide_eq_false (by omega), Bool.or_false]
    · rw [if_neg q, if_neg q, tbit_or, tbit_1 (by omega)]
      congr 1
      exact decide_eq_decide.mpr (by omega)
  · have c : ¬ (64 : Int32) ≤ nI j := c
    rw [show (64 : Int32) = nI 64 from rfl, nI_leI (by omega) (by omega)] at c
    show Q none (sJ w 8 0 u (gJ w 8 0 u ||| ((1 : Int64) <<< ((nI j &&& 63).toInt64 &&& 63))))
    rw [em j (by omega) (by rw [and63n j hj]; congr 1; omega), sS_lo]
    refine h _ _ (fun i hi => ?_)
    unfold tS bt2
    by_cases q : i < 64
    · rw [if_pos q, if_pos q, tbit_or, tbit_1 (by omega)]
      congr 1
      exact decide_eq_decide.mpr (by omega)
    · rw [if_neg q, if_neg q, show decide (i = j) = false from decide_eq_false (by omega), Bool.or_false]
theorem c9_addAll {u v : Nat} (hk : gN w 0 u = 8) (hv : gN w 0 v = 8) (h : ∀ lo hi, (∀ i, i < 128 → bt2 lo hi i = (tS w u i || tS w v i)) → Q none (sS w u lo hi)) : Con G M9_addAll [.ref u, .ref v] w Q := by
  refine Con.go hw9_addAll ok9_addAll 20 [] rfl ?_
  refine And.intro hk (And.intro hv (And.intro hk (And.intro hk (And.intro hv (And.intro hk ?_)))))
  show Q none (sS w u (gJ w 8 0 u ||| gJ w 8 0 v) (gJ w 8 1 u ||| gJ w 8 1 v))
  refine h _ _ (fun i hi => ?_)
  unfold tS bt2
  by_cases q : i < 64
  · rw [if_pos q, if_pos q, if_pos q, tbit_or]
  · rw [if_neg q, if_neg q, if_neg q, tbit_or]
theorem c9_removeAll {u v : Nat} (hk : gN w 0 u = 8) (hv : gN w 0 v = 8) (h : ∀ lo hi, (∀ i, i < 128 → bt2 lo hi i = (tS w u i && !tS w v i)) → Q none (sS w u lo hi)) : Con G M9_removeAll [.ref u, .ref v] w Q := by
  refine Con.go hw9_removeAll ok9_removeAll 30 [] rfl ?_
  refine And.intro hk (And.intro hv (And.intro hk (And.intro hk (And.intro hv (And.intro hk ?_)))))
  show Q none (sS w u (gJ w 8 0 u &&& (gJ w 8 0 v ^^^ (-1))) (gJ w 8 1 u &&& (gJ w 8 1 v ^^^ (-1))))
  refine h _ _ (fun i hi => ?_)
  unfold tS bt2
  by_cases q : i < 64
  · rw [if_pos q, if_pos q, if_pos q, tbit_and, tbit_not _ q]
  · rw [if_neg q, if_neg q, if_neg q, tbit_and, tbit_not _ (by omega)]
theorem c9_becomeBoth {u v x : Nat} (hk : gN w 0 u = 8) (hv : gN w 0 v = 8) (hx : gN w 0 x = 8) (hux : x ≠ u) (huv : v ≠ u) (h : ∀ lo hi, (∀ i, i < 128 → bt2 lo hi i = (tS w v i && tS w x i)) → Q none (sS w u lo hi)) : Con G M9_becomeBoth [.ref u, .ref v, .ref x] w Q := by
  refine Con.go hw9_becomeBoth ok9_becomeBoth 30 [] rfl ?_
  refine And.intro hv (And.intro hx (And.intro hk (And.intro hv (And.intro hx (And.intro hk ?_)))))
  show Q none (sS w u (gJ w 8 0 v &&& gJ w 8 0 x) (gJ w 8 1 v &&& gJ w 8 1 x))
  refine h _ _ (fun i hi => ?_)
  unfold tS bt2
  by_cases q : i < 64
  · rw [if_pos q, if_pos q, if_pos q, tbit_and]
  · rw [if_neg q, if_neg q, if_neg q, tbit_and]
theorem ct_bt2 (lo hi : Int64) : pcL lo + pcL hi = fb_ct (fun i => bt2 lo hi i) 128 := by
  have h1 : fb_ct (fun i => bt2 lo hi i) 64 = pcL lo := fb_ct_cong (fun i hi2 => by show bt2 lo hi i = _; unfold bt2; rw [if_pos hi2])
  have h2 : ∀ j, fb_ct (fun i => bt2 lo hi i) (64 + j) = fb_ct (fun i => bt2 lo hi i) 64 + fb_ct (fun i => tbit hi i) j := by
    intro j
    induction j with
    | zero => rfl
    | succ j ih =>
      rw [show fb_ct (fun i => bt2 lo hi i) (64 + (j + 1)) = fb_ct (fun i => bt2 lo hi i) (64 + j) + (if bt2 lo hi (64 + j) then 1 else 0) from rfl, show fb_ct (fun i => tbit hi i) (j + 1) = fb_ct (fun i => tbit hi i) j + (if tbit hi j then 1 else 0) from rfl, ih]
      have : bt2 lo hi (64 + j) = tbit hi j := by unfold bt2; rw [if_neg (by omega), Nat.add_sub_cancel_left]
      rw [this]; omega
  have := h2 64
  rw [h1] at this
  exact this.symm
theorem c9_size {u : Nat} (hk : gN w 0 u = 8) (h : Q (some (.int (nI (fb_ct (fun i => tS w u i) 128)))) w) : Con G M9_size [.ref u] w Q := by
  have e := ct_bt2 (gJ w 8 0 u) (gJ w 8 1 u)
  have h : Q (some (.int (nI (fb_ct (fun i => bt2 (gJ w 8 0 u) (gJ w 8 1 u) i) 128)))) w := h
  rw [← e, ← nI_add] at h
  refine Con.go hw9_size ok9_size 20 [] rfl ?_
  refine And.intro hk (cJ_bitCount (And.intro hk (cJ_bitCount h)))
/-- the last of a set: none, or its highest -/
theorem c9_last {u : Nat} (hk : gN w 0 u = 8) (h : (∀ i, i < 128 → tS w u i = false) → Q (some (.int (-1))) w) (h2 : ∀ j, j < 128 → tS w u j = true → Q (some (.int (nI j))) w) : Con G M9_last [.ref u] w Q := by
  obtain ⟨n, hn, en⟩ := wb_of (gJ w 8 0 u)
  obtain ⟨m, hm, em⟩ := wb_of (gJ w 8 1 u)
  have tb : ∀ k, k ≠ 0 → k < 2 ^ 64 → Nat.log2 k < 64 ∧ k.testBit (Nat.log2 k) = true := by
    intro k hk0 hk1
    have := Nat.log2_lt hk0 |>.mpr hk1
    exact ⟨this, Nat.testBit_log2 hk0⟩
  refine Con.go hw9_last ok9_last 20 [] rfl ?_
  refine And.intro hk (And.intro (fun c => And.intro hk ?_) (fun c => And.intro hk ?_)) <;> rw [lg_eq0] at c
  · have c : gJ w 8 1 u = 0 := c
    show Con G M11_topBit [.long (gJ w 8 0 u)] w _
    rw [en]
    refine c11_topBit hn ?_
    unfold tbN
    by_cases h0 : n = 0
    · rw [if_pos h0]
      refine h (fun i hi => ?_)
      unfold tS bt2
      rw [c, en, h0]
      by_cases q : i < 64
      · rw [if_pos q]; exact tbit_0 i
      · rw [if_neg q]; exact tbit_0 _
    · rw [if_neg h0]
      obtain ⟨t1, t2⟩ := tb n h0 hn
      refine h2 _ (by omega) ?_
      unfold tS bt2 tbit
      rw [if_pos t1, en, uL_lN hn]
      exact t2
  · have c : ¬ gJ w 8 1 u = 0 := c
    show Con G M11_topBit [.long (gJ w 8 1 u)] w _
    rw [em] at c ⊢
    have h0 : m ≠ 0 := fun z => c (by rw [z]; rfl)
    refine c11_topBit hm ?_
    unfold tbN
    rw [if_neg h0]
    obtain ⟨t1, t2⟩ := tb m h0 hm
    show Q (some (.int (nI 64 + nI (Nat.log2 m)))) w
    rw [nI_add]
    refine h2 _ (by omega) ?_
    unfold tS bt2 tbit
    rw [if_neg (by omega), em, uL_lN hm, Nat.add_sub_cancel_left]
    exact t2
end
