section
variable {G : qGX} {w : qSt} {Q : Option Value → qSt → Prop}
theorem c2_packed {B x : Nat} (hB : 1 ≤ B) (hB2 : B ≤ 2 ^ 57 - 16) (hx : 1 ≤ x) (hx2 : x ≤ 2046) (h : Q (some (.long (lN (pkB B x)))) w) : Con G M2_packed [.long (lN B), .int (nI x)] w Q := by
  have hl : Nat.log2 B < 57 := (Nat.log2_lt (by omega)).mpr (by omega)
  have hdn1 : 1 - (x : Int) ≤ dnI B x := by unfold dnI; omega
  have hdn2 : dnI B x ≤ 1 := by unfold dnI; omega
  have hdn3 : (Nat.log2 B : Int) - 55 ≤ dnI B x := by unfold dnI; omega
  obtain ⟨l1, l2⟩ := log2_b (n := B) (by omega)
  have hex : exB B (dnI B x) ≤ 2 ^ 56 := by
    unfold exB
    by_cases c : 0 < dnI B x
    · rw [if_pos c, show (dnI B x).toNat = 1 by omega]
      have := soN_le B 1
      omega
    · rw [if_neg c]
      have e : 2 ^ (Nat.log2 B + 1) * 2 ^ (-dnI B x).toNat ≤ 2 ^ 56 := by
        rw [← Nat.pow_add]; exact Nat.pow_le_pow_right (by decide) (by omega)
      have := Nat.mul_le_mul_right (2 ^ (-dnI B x).toNat) (Nat.le_of_lt l2)
      omega
  have hK : FP.Core.nearest (exB B (dnI B x)) 8 ≤ 2 ^ 53 := FP.Core.nearest_le (by decide) (by omega)
  have hbits : ((x : Int) + dnI B x - 1).toNat * 2 ^ 52 + FP.Core.nearest (exB B (dnI B x)) 8 < 2 ^ 63 := by
    by_cases c : 0 < dnI B x
    · have : FP.Core.nearest (exB B (dnI B x)) 8 ≤ 2 ^ 53 - 1 := by
        unfold exB
        rw [if_pos c, show (dnI B x).toNat = 1 by omega, nr_so]
        exact FP.Core.nearest_le (by decide) (by omega)
      omega
    · omega
  unfold pkB at h
  generalize hdd : dnI B x = dn at *
  generalize hKK : FP.Core.nearest (exB B dn) 8 = K at *
  have hD : ∀ D : Int32, D.toInt = dn → (D ≤ 0 ↔ dn ≤ 0) ∧ (0 < dn → D = nI dn.toNat) ∧ (dn ≤ 0 → -D = nI (-dn).toNat) ∧ nI x + D - nI 1 = nI ((x : Int) + dn - 1).toNat := by
    intro D e
    have z0 : (0 : Int32).toInt = 0 := rfl
    refine ⟨by rw [i32_le, e, z0], fun z => ?_, fun z => ?_, ?_⟩
    · rw [i32_eq, e, nI_t (by omega)]; omega
    · rw [i32_eq, nI_t (by omega), Int32.toInt_neg, e, Int.bmod_eq_of_le (by omega) (by omega)]; omega
    · have e1 : (nI x + D).toInt = (x : Int) + dn := by rw [i32_add (by rw [nI_t (by omega), e]; omega) (by rw [nI_t (by omega), e]; omega), nI_t (by omega), e]
      have e2 : (nI 1).toInt = 1 := rfl
      rw [i32_eq, i32_sub (by rw [e1, e2]; omega) (by rw [e1, e2]; omega), e1, e2, nI_t (by omega)]; omega
  have k87 : ∀ E D X y, D.toInt = dn → Wq G M2_packed 87 [some (.long (lN B)), none, some (.int (nI x)), some (.int E), some (.int D), some (.long X), none, some (.long (lN K)), none, some (.long y), none, none, none] [] (0, 0) w Q := by
    intro E D X y hd
    refine Wq.go ok2_packed 30 [] ?_
    refine cJ_minL ?_
    show Q (some (.long (cIf (lN 9218868437227405312 < (nI x + D - nI 1).toInt64 <<< ((nI 52).toInt64 &&& 63) + lN K) (lN 9218868437227405312) ((nI x + D - nI 1).toInt64 <<< ((nI 52).toInt64 &&& 63) + lN K)))) w
    rw [(hD D hd).2.2.2, nI_64 (by omega), wb_shl _ (by omega), zN_add]
    by_cases c : 9218868437227405312 < ((x : Int) + dn - 1).toNat * 2 ^ 52 + K
    · rw [cIf_t (by rw [zN_lt (by omega) (by omega)]; exact c)]
      rw [Nat.min_eq_right (by omega)] at h; exact h
    · rw [cIf_f (by rw [zN_lt (by omega) (by omega)]; exact c)]
      rw [Nat.min_eq_left (by omega)] at h; exact h
  have k40 : ∀ E D, D.toInt = dn → Wq G M2_packed 40 [some (.long (lN B)), none, some (.int (nI x)), some (.int E), some (.int D), some (.long (lN (exB B dn))), none, none, none, none, none, none, none] [] (0, 0) w Q := by
    intro E D hd
    have k54 : ∀ X y z, X = lN (exB B dn) → y = lN (exB B dn / 2 ^ 3) → z = lN (exB B dn % 2 ^ 3) → Wq G M2_packed 54 [some (.long (lN B)), none, some (.int (nI x)), some (.int E), some (.int D), some (.long X), none, some (.long y), none, some (.long z), none, none, none] [] (0, 0) w Q := by
      intro X y z eX ey ez
      have up : exB B dn / 2 ^ 3 + 1 = K → Wq G M2_packed 87 [some (.long (lN B)), none, some (.int (nI x)), some (.int E), some (.int D), some (.long X), none, some (.long (y + lN 1)), none, some (.long z), none, none, none] [] (0, 0) w Q := by
        intro q
        rw [ey, zN_add, q]
        exact k87 _ _ _ _ hd
      have dn' : exB B dn / 2 ^ 3 = K → Wq G M2_packed 87 [some (.long (lN B)), none, some (.int (nI x)), some (.int E), some (.int D), some (.long X), none, some (.long y), none, some (.long z), none, none, none] [] (0, 0) w Q := by
        intro q
        rw [ey, q]
        exact k87 _ _ _ _ hd
      have hK2 := hKK
      unfold FP.Core.nearest at hK2
      refine Wq.go ok2_packed 40 [87] ?_
      refine And.intro (fun c3 => ?_) (fun c3 => And.intro (fun c4 => ?_) (fun c4 => And.intro (fun c5 => ?_) (fun c5 => ?_)))
      · have c3 : 0 < lg_cmp z (lN 4) := c3
        rw [lg_gt0, ez, zN_lt (by omega) (by omega)] at c3
        refine up ?_
        rw [if_neg (by omega), if_pos (by omega)] at hK2
        omega
      all_goals
        have c3 : ¬ 0 < lg_cmp z (lN 4) := c3
        rw [lg_gt0, ez, zN_lt (by omega) (by omega)] at c3
      · have c4 : ¬ lg_cmp z (lN 4) = 0 := c4
        rw [lg_eq0, ez, zN_eq (by omega) (by omega)] at c4
        refine dn' ?_
        rw [if_pos (by omega)] at hK2
        omega
      · have c4 : lg_cmp z (lN 4) = 0 := c4
        rw [lg_eq0, ez, zN_eq (by omega) (by omega)] at c4
        have c5 : lg_cmp (y &&& 1) (lN 0) = 0 := c5
        rw [lg_eq0, ey, wb_a1 (by omega), zN_eq (by omega) (by omega)] at c5
        refine dn' ?_
        rw [if_neg (by omega), if_neg (by omega)] at hK2
        omega
      · have c4 : lg_cmp z (lN 4) = 0 := c4
        rw [lg_eq0, ez, zN_eq (by omega) (by omega)] at c4
        have c5 : ¬ lg_cmp (y &&& 1) (lN 0) = 0 := c5
        rw [lg_eq0, ey, wb_a1 (by omega), zN_eq (by omega) (by omega)] at c5
        refine up ?_
        rw [if_neg (by omega), if_neg (by omega)] at hK2
        omega
    refine Wq.go ok2_packed 30 [54] ?_
    exact k54 _ _ _ rfl (wb_shr (k := 3) (by omega) (by omega)) (wb_mask (k := 3) (by omega) (by omega))
  have k19 : ∀ E D, D.toInt = dn → Wq G M2_packed 19 [some (.long (lN B)), none, some (.int (nI x)), some (.int E), some (.int D), none, none, none, none, none, none, none, none] [] (0, 0) w Q := by
    intro E D hd
    obtain ⟨d1, d2, d3, d4⟩ := hD D hd
    refine Wq.go ok2_packed 30 [40] ?_
    refine And.intro (fun c => ?_) (fun c => ?_)
    · have c : D ≤ 0 := c
      rw [d1] at c
      show Wq G M2_packed 40 [some (.long (lN B)), none, some (.int (nI x)), some (.int E), some (.int D), some (.long (lN B <<< ((-D).toInt64 &&& 63))), none, none, none, none, none, none, none] [] (0, 0) w Q
      rw [d3 c, wb_shl _ (by omega)]
      have := k40 E D hd
      unfold exB at this
      rw [if_neg (by omega)] at this
      exact this
    · have c : ¬ D ≤ 0 := c
      rw [d1] at c
      have eD := d2 (by omega)
      subst eD
      refine c2_shiftedOut (by omega) (by omega) ?_
      have := k40 E (nI dn.toNat) hd
      unfold exB at this
      rw [if_pos (by omega)] at this
      exact this
  refine Con.go hw2_packed ok2_packed 30 [19] rfl ?_
  refine c11_topBit (by omega) ?_
  unfold tbN
  rw [if_neg (by omega)]
  refine cJ_max ?_
  refine k19 _ _ ?_
  have e0 : (nI (Nat.log2 B)).toInt = (Nat.log2 B : Int) := nI_t (by omega)
  have e52 : (nI 52).toInt = 52 := rfl
  have e3 : (nI 3).toInt = 3 := rfl
  have e1 : (nI 1).toInt = 1 := rfl
  have ex : (nI x).toInt = (x : Int) := nI_t (by omega)
  have ea : (nI (Nat.log2 B) - nI 52).toInt = (Nat.log2 B : Int) - 52 := by rw [i32_sub (by rw [e0, e52]; omega) (by rw [e0, e52]; omega), e0, e52]
  have eb : (nI (Nat.log2 B) - nI 52 - nI 3).toInt = (Nat.log2 B : Int) - 55 := by rw [i32_sub (by rw [ea, e3]; omega) (by rw [ea, e3]; omega), ea, e3]; omega
  have ec : (nI 1 - nI x).toInt = 1 - (x : Int) := by rw [i32_sub (by rw [e1, ex]; omega) (by rw [e1, ex]; omega), e1, ex]
  show (cIf (nI (Nat.log2 B) - nI 52 - nI 3 < nI 1 - nI x) (nI 1 - nI x) (nI (Nat.log2 B) - nI 52 - nI 3)).toInt = dn
  rw [← hdd]
  unfold dnI
  by_cases c : nI (Nat.log2 B) - nI 52 - nI 3 < nI 1 - nI x
  · rw [cIf_t c, ec]; rw [i32_lt, eb, ec] at c; omega
  · rw [cIf_f c, eb]; rw [i32_lt, eb, ec] at c; omega
end
