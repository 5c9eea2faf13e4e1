/-! ===== looking things up in the class's objects ===== -/
theorem refS {o : Option Nat} {b : Nat} {P : Prop} {K : Nat → Prop} (h : o = some b) (hk : K b) : (o = none → P) ∧ (∀ c, o = some c → K c) := ⟨fun e => (by rw [h] at e; cases e), fun c e => (by rw [h] at e; cases e; exact hk)⟩
theorem refN {o : Option Nat} {P : Prop} {K : Nat → Prop} (h : o = none) (hp : P) : (o = none → P) ∧ (∀ c, o = some c → K c) := ⟨fun _ => hp, fun c e => (by rw [h] at e; cases e)⟩
theorem refK30 : refK 30 = true := by decide
section
variable {G : qGX} {A : qA} {m w : qSt} {Q : Option Value → qSt → Prop}
theorem Rep.cnt (hR : Rep A m w) (hI : TInv m) : gI w 9 3 3 = nI (nT m) := hR.mt.1.trans hI.ty.1
/-- a number that is no type's, and one that is -/
theorem nIn {i : Int32} {n : Nat} (hn : n < 2147483648) (h : ¬ i < 0) (h2 : i < nI n) : ∃ j, i = nI j ∧ j < n := by
  rw [i32_lt, c0i] at h
  rw [i32_lt, nI_t hn] at h2
  refine ⟨i.toInt.toNat, ?_, by omega⟩
  rw [i32_eq, nI_t (by omega)]; omega
theorem nNot {i : Int32} {n : Nat} (hn : n < 2147483648) (h : i < 0 ∨ ¬ i < nI n) : ¬ ∃ j, i = nI j ∧ j < n := by
  rintro ⟨j, rfl, hj⟩
  rw [i32_lt, i32_lt, c0i, nI_t (by omega), nI_t hn] at h
  omega
theorem c10_at {i : Int32} (hR : Rep A m w) (hI : TInv m) (h0 : ¬ isT m i → Q (some .null) w) (h1 : ∀ j, i = nI j → j < nT m → Q (some (.ref (aT A j))) w) : Con G M10_at [.ref 3, .int i] w Q := by
  have h100 := hI.le
  have hc := hR.cnt hI
  obtain ⟨k2, k3, k4, -⟩ := hR.fk
  refine Con.go hw10_at ok10_at 20 [] rfl ?_
  refine And.intro (fun c => h0 (nNot (by omega) (Or.inl c))) (fun c => And.intro k3 (And.intro (fun c2 => ?_) (fun c2 => ?_))) <;> rw [hc] at c2
  · obtain ⟨j, rfl, hj⟩ := nIn (by omega) c c2
    refine And.intro k3 (refS hR.fr.2.2.2.2.2.2.1 ?_)
    refine And.intro (And.intro (by rw [k4.1]; rfl) (by rw [k4.2]; exact in_nI (by omega) (by decide))) ?_
    rw [nI_clamp (by omega)]
    exact refS (hR.tk j hj).1 (h1 j rfl hj)
  · exact h0 (nNot (by omega) (Or.inr c2))
theorem c10_classAt {i : Int32} (hR : Rep A m w) (hI : TInv m) (h0 : ¬ isC m i → Q (some .null) w) (h1 : ∀ j, i = nI j → j < nT m → ma m 0 j = 1 → Q (some (.ref (aT A j))) w) : Con G M10_classAt [.ref 3, .int i] w Q := by
  have h100 := hI.le
  obtain ⟨k2, k3, k4, -⟩ := hR.fk
  refine Con.go hw10_classAt ok10_classAt 20 [] rfl ?_
  refine And.intro k3 (c10_at hR hI (fun c => h0 (fun ⟨j, e, hj, _⟩ => c ⟨j, e, hj⟩)) (fun j e hj => ?_))
  refine And.intro (hR.tk j hj).2.1 (And.intro (fun c => h1 j e hj ?_) (fun c => h0 ?_)) <;> rw [(hR.ts j hj).2.1] at c
  · exact c
  · rintro ⟨k, ek, hk, hs⟩
    rw [e, nI_eqI (by omega) (by omega)] at ek
    subst ek
    exact c hs
theorem c10_faceAt {i : Int32} (hR : Rep A m w) (hI : TInv m) (h0 : ¬ isF m i → Q (some .null) w) (h1 : ∀ j, i = nI j → j < nT m → ma m 0 j = 2 → Q (some (.ref (aT A j))) w) : Con G M10_faceAt [.ref 3, .int i] w Q := by
  have h100 := hI.le
  obtain ⟨k2, k3, k4, -⟩ := hR.fk
  refine Con.go hw10_faceAt ok10_faceAt 20 [] rfl ?_
  refine And.intro k3 (c10_at hR hI (fun c => h0 (fun ⟨j, e, hj, _⟩ => c ⟨j, e, hj⟩)) (fun j e hj => ?_))
  refine And.intro (hR.tk j hj).2.1 (And.intro (fun c => h1 j e hj ?_) (fun c => h0 ?_)) <;> rw [(hR.ts j hj).2.1] at c
  · exact c
  · rintro ⟨k, ek, hk, hs⟩
    rw [e, nI_eqI (by omega) (by omega)] at ek
    subst ek
    exact c hs
theorem c10_ownClassAt {i : Int32} (hR : Rep A m w) (hI : TInv m) (h0 : (i = 8 ∨ ¬ isC m i) → Q (some .null) w) (h1 : ∀ j, i = nI j → j < nT m → ma m 0 j = 1 → j ≠ 8 → Q (some (.ref (aT A j))) w) : Con G M10_ownClassAt [.ref 3, .int i] w Q := by
  have h100 := hI.le
  obtain ⟨k2, k3, k4, -⟩ := hR.fk
  refine Con.go hw10_ownClassAt ok10_ownClassAt 20 [] rfl ?_
  refine And.intro (fun c => And.intro k3 (c10_classAt hR hI (fun c2 => h0 (Or.inr c2)) (fun j e hj hs => h1 j e hj hs (fun z => c ?_)))) (fun c => h0 (Or.inl c))
  rw [e, z]; rfl
theorem c10_memberedAt {i : Int32} (hR : Rep A m w) (hI : TInv m) (h0 : (i = 8 ∨ (¬ isC m i ∧ ¬ isF m i)) → Q (some .null) w) (h1 : ∀ j, i = nI j → j < nT m → hasMb m j → Q (some (.ref (aT A j))) w) : Con G M10_memberedAt [.ref 3, .int i] w Q := by
  have h100 := hI.le
  obtain ⟨k2, k3, k4, -⟩ := hR.fk
  refine Con.go hw10_memberedAt ok10_memberedAt 20 [] rfl ?_
  refine And.intro k3 (c10_faceAt hR hI (fun c => ?_) (fun j e hj hs => h1 j e hj (Or.inl hs)))
  refine And.intro k3 (c10_ownClassAt hR hI (fun c2 => h0 (c2.imp id (fun z => ⟨z, c⟩))) (fun j e hj hs h8 => h1 j e hj (Or.inr ⟨hs, h8⟩)))
theorem Rep.mcnt (hR : Rep A m w) (hI : TInv m) {i : Nat} (hi : i < nT m) : gI w 7 12 (aT A i) = nI (nM m i) := (hR.tm i hi).1.trans (hI.mbs (i := i) (by have := hI.le; omega)).1
theorem has_mb {m : qSt} (hI : TInv m) {i : Nat} (hi : i < nT m) (hj : 0 < nM m i) : hasMb m i := by
  obtain ⟨b1, b2, b3, b4⟩ := hI.mbs (i := i) (by have := hI.le; omega)
  obtain ⟨c1, c2, c3⟩ := b3 hj
  rcases c3 with c | c
  · exact Or.inr ⟨c, by omega⟩
  · exact Or.inl c
theorem c8_memberAt {i : Nat} {n : Int32} (hR : Rep A m w) (hI : TInv m) (hi : i < nT m) (h0 : (¬ ∃ j, n = nI j ∧ j < nM m i) → Q (some .null) w) (h1 : ∀ j, n = nI j → j < nM m i → Q (some (.ref (aB A (10 * i + j)))) w) : Con G M8_memberAt [.ref (aT A i), .int n] w Q := by
  have h100 := hI.le
  obtain ⟨t1, t2, t3, t4, t5, t6, t7⟩ := hR.tk i hi
  obtain ⟨u1, u2, u3, u4, u5, u6, u7, u8, u9, u10, u11, u12, u13, u14, u15⟩ := hR.ts i hi
  obtain ⟨b1, b2, b3, b4⟩ := hI.mbs (i := i) (by omega)
  have hc := hR.mcnt hI hi
  refine Con.go hw8_memberAt ok8_memberAt 20 [] rfl ?_
  refine And.intro (fun c => h0 (nNot (by omega) (Or.inl c))) (fun c => And.intro t2 (And.intro (fun c2 => ?_) (fun c2 => ?_))) <;> rw [hc] at c2
  · obtain ⟨j, rfl, hj⟩ := nIn (by omega) c c2
    refine And.intro t2 (refS u10 ?_)
    refine And.intro (And.intro (by rw [t5]; rfl) (by rw [u13, show mlN m i = 10 from cIf_t (has_mb hI hi (by omega))]; exact in_nI (by omega) (by decide))) ?_
    rw [nI_clamp (by omega)]
    exact refS (hR.bk i j hi hj).1 (h1 j rfl hj)
  · exact h0 (nNot (by omega) (Or.inr c2))
theorem mby_no {m : qSt} (hI : TInv m) {i : Nat} (hi : i < nT m) (h : ¬ hasMb m i) (n f : Int32) : mby m i n f = -1 := by
  rcases mby_cases m i n f with q | ⟨j, h1, h2, -⟩
  · exact q
  · exact absurd (has_mb hI hi (by omega)) h
/-- by name: none, or the member -/
theorem c8_fieldNamed {i : Nat} {n : Nat} (hR : Rep A m w) (hI : TInv m) (hi : i < nT m) (hn : n < 10) (h0 : mby m i (nI n) 1 = -1 → Q (some .null) w) (h1 : ∀ j, mby m i (nI n) 1 = nI j → j < nM m i → Q (some (.ref (aB A (10 * i + j)))) w) : Con G M8_fieldNamed [.ref (aT A i), .int (nI n)] w Q := by
  have h100 := hI.le
  obtain ⟨t1, t2, t3, t4, t5, t6, t7⟩ := hR.tk i hi
  obtain ⟨u1, u2, u3, u4, u5, u6, u7, u8, u9, u10, u11, u12, u13, u14, u15⟩ := hR.ts i hi
  have h10 := (hI.mbs (i := i) (by omega)).2.1
  refine Con.go hw8_fieldNamed ok8_fieldNamed 20 [] rfl ?_
  refine And.intro (fun c => absurd c (nI_pos (by omega))) (fun c => And.intro t2 (refS u11 (And.intro (Or.inr (Or.inr (Or.inr (Or.inl (by rw [t6]; rfl))))) (And.intro (fun c2 => ?_) (fun c2 => ?_)))))
  · have c2 : nI n < nI (gN w 1 (aT A i + 4)) := c2
    rw [u14] at c2
    have hm : hasMb m i := Classical.byContradiction (fun z => by
      rw [show mlN m i = 0 from cIf_f z, nI_ltI (by omega) (by omega)] at c2; omega)
    refine And.intro t2 (refS u11 ?_)
    refine And.intro (And.intro (by rw [t6]; rfl) (by rw [u14, show mlN m i = 10 from cIf_t hm]; exact in_nI (by omega) (by decide))) ?_
    rw [nI_clamp (by omega), (hR.bn i n hi hm hn).1]
    unfold nmR
    rcases mby_cases m i (nI n) 1 with q | ⟨j, g1, g2, -⟩
    · rw [cIf_t q]; exact refN rfl (h0 q)
    · rw [g2, cIf_f (by rw [i32_eq, nI_t (by omega)]; intro z; have : ((-1 : Int32)).toInt = -1 := rfl; omega), tn_nI (by omega)]
      exact refS rfl (h1 j g2 g1)
  · have c2 : ¬ nI n < nI (gN w 1 (aT A i + 4)) := c2
    rw [u14] at c2
    have hm : ¬ hasMb m i := fun z => c2 (by rw [show mlN m i = 10 from cIf_t z, nI_ltI (by omega) (by omega)]; omega)
    exact h0 (mby_no hI hi hm _ _)
theorem c8_methodNamed {i : Nat} {n : Nat} (hR : Rep A m w) (hI : TInv m) (hi : i < nT m) (hn : n < 10) (h0 : mby m i (nI n) 0 = -1 → Q (some .null) w) (h1 : ∀ j, mby m i (nI n) 0 = nI j → j < nM m i → Q (some (.ref (aB A (10 * i + j)))) w) : Con G M8_methodNamed [.ref (aT A i), .int (nI n)] w Q := by
  have h100 := hI.le
  obtain ⟨t1, t2, t3, t4, t5, t6, t7⟩ := hR.tk i hi
  obtain ⟨u1, u2, u3, u4, u5, u6, u7, u8, u9, u10, u11, u12, u13, u14, u15⟩ := hR.ts i hi
  have h10 := (hI.mbs (i := i) (by omega)).2.1
  refine Con.go hw8_methodNamed ok8_methodNamed 20 [] rfl ?_
  refine And.intro (fun c => absurd c (nI_pos (by omega))) (fun c => And.intro t2 (refS u12 (And.intro (Or.inr (Or.inr (Or.inr (Or.inl (by rw [t7]; rfl))))) (And.intro (fun c2 => ?_) (fun c2 => ?_)))))
  · have c2 : nI n < nI (gN w 1 (aT A i + 5)) := c2
    rw [u15] at c2
    have hm : hasMb m i := Classical.byContradiction (fun z => by
      rw [show mlN m i = 0 from cIf_f z, nI_ltI (by omega) (by omega)] at c2; omega)
    refine And.intro t2 (refS u12 ?_)
    refine And.intro (And.intro (by rw [t7]; rfl) (by rw [u15, show mlN m i = 10 from cIf_t hm]; exact in_nI (by omega) (by decide))) ?_
    rw [nI_clamp (by omega), (hR.bn i n hi hm hn).2]
    unfold nmR
    rcases mby_cases m i (nI n) 0 with q | ⟨j, g1, g2, -⟩
    · rw [cIf_t q]; exact refN rfl (h0 q)
    · rw [g2, cIf_f (by rw [i32_eq, nI_t (by omega)]; intro z; have : ((-1 : Int32)).toInt = -1 := rfl; omega), tn_nI (by omega)]
      exact refS rfl (h1 j g2 g1)
  · have c2 : ¬ nI n < nI (gN w 1 (aT A i + 5)) := c2
    rw [u15] at c2
    have hm : ¬ hasMb m i := fun z => c2 (by rw [show mlN m i = 10 from cIf_t z, nI_ltI (by omega) (by omega)]; omega)
    exact h0 (mby_no hI hi hm _ _)
theorem c3_code {i j : Nat} (hR : Rep A m w) (hI : TInv m) (hi : i < nT m) (hj : j < nM m i) (h : Q (some (.int (nI (100 * i + j)))) w) : Con G M3_code [.ref (aB A (10 * i + j))] w Q := by
  obtain ⟨b1, b2⟩ := hR.bk i j hi hj
  obtain ⟨s1, s2, -⟩ := hR.bs i j hi hj
  refine Con.go hw3_code ok3_code 20 [] rfl ?_
  refine And.intro b2 (refS s1 (And.intro (hR.tk i hi).2.1 (And.intro b2 ?_)))
  show Q (some (.int ((100 : Int32) * gI w 7 0 (aT A i) + gI w 2 1 (aB A (10 * i + j))))) w
  rw [(hR.ts i hi).1, s2, show (100 : Int32) = nI 100 from rfl, pk_mul, nI_add]
  exact h
theorem c3_isField {i j : Nat} (hR : Rep A m w) (hi : i < nT m) (hj : j < nM m i) (h : Q (some (.int (bI (¬ ma m 8 (10 * i + j) = 0)))) w) : Con G M3_isField [.ref (aB A (10 * i + j))] w Q := by
  obtain ⟨b1, b2⟩ := hR.bk i j hi hj
  obtain ⟨s1, s2, s3, s4, -⟩ := hR.bs i j hi hj
  refine Con.go hw3_isField ok3_isField 20 [] rfl ?_
  refine And.intro b2 ?_
  by_cases c : ma m 8 (10 * i + j) = 0
  · rw [cIf_t c] at s4
    rw [bI_f (fun z => z c)] at h
    exact refN s4 (And.intro rfl h)
  · rw [cIf_f c] at s4
    rw [bI_t c] at h
    exact refS s4 (And.intro rfl h)
theorem c3_isPlaced {i j : Nat} (hR : Rep A m w) (hi : i < nT m) (hj : j < nM m i) (h : Q (some (.int (bI (isP m (10 * i + j))))) w) : Con G M3_isPlaced [.ref (aB A (10 * i + j))] w Q := by
  obtain ⟨b1, b2⟩ := hR.bk i j hi hj
  obtain ⟨s1, s2, s3, s4, s5, -⟩ := hR.bs i j hi hj
  refine Con.go hw3_isPlaced ok3_isPlaced 20 [] rfl ?_
  refine And.intro b2 ?_
  by_cases c : ma m 8 (10 * i + j) = 0
  · rw [cIf_t c] at s4
    rw [bI_f (fun z => z.1 c)] at h
    exact refN s4 (And.intro rfl h)
  · rw [cIf_f c] at s4 s5
    refine refS s4 (And.intro b2 (And.intro (fun c2 => ?_) (fun c2 => ?_))) <;> rw [s5] at c2
    · rw [bI_f (fun z => c2 z.2)] at h; exact And.intro rfl h
    · rw [bI_t ⟨c, c2⟩] at h; exact And.intro rfl h
/-- of what type a lane is -/
theorem lane_ty {m : qSt} (hI : TInv m) {t : Nat} (ht : t < nT m) : (dpN m t = 0 ∧ baN m t < 8) ↔ t < 8 := by
  constructor
  · intro h
    rcases Nat.lt_or_ge t 8 with q | q
    · exact q
    · exfalso
      by_cases hs : ma m 0 t = 3 ∨ ma m 0 t = 4
      · rcases hs with hs | hs
        · -- a variable: its bound is no lane
          have key : ∀ t, t < nT m → ma m 0 t = 3 → dpN m t = 0 → ¬ baN m t < 8 := by
            intro t
            induction t using Nat.strongRecOn with
            | _ t ih =>
              intro ht hs hd hb
              have h9 : 9 ≤ t := by
                rcases Nat.lt_or_ge t 9 with z | z
                · rcases Nat.lt_or_ge t 8 with y | y
                  · rw [hI.lane y] at hs; exact absurd hs (by decide)
                  · have : t = 8 := by omega
                    rw [this, hI.any] at hs; exact absurd hs (by decide)
                · exact z
              rcases hI.kind h9 ht with k | k | k | k
              · rw [k.1] at hs; exact absurd hs (by decide)
              · rw [k] at hs; exact absurd hs (by decide)
              · obtain ⟨k1, k2, k3, k4, k5, k6, k7, k8⟩ := k
                rw [dpN_3 hI ht hs] at hd
                rw [baN_of hI ht (Or.inl hs)] at hb
                by_cases h3 : ma m 0 (ofN m t) = 3
                · exact ih _ k8 (by omega) h3 hd hb
                · by_cases h4 : ma m 0 (ofN m t) = 4
                  · rw [dpN_4 hI (by omega) h4] at hd; omega
                  · rw [baN_self (fun z => z.elim h3 h4)] at hb; omega
              · rw [k.1] at hs; exact absurd hs (by decide)
          exact key t ht hs h.1 h.2
        · have := dpN_4 hI ht hs; omega
      · have := baN_self hs; omega
  · intro h
    have hs : ¬ (ma m 0 t = 3 ∨ ma m 0 t = 4) := by rw [hI.lane h]; decide
    rw [dpN_0 hs, baN_self hs]; exact ⟨rfl, h⟩
theorem ty_hv {m : qSt} (hI : TInv m) {t : Nat} (ht : t < nT m) : (nI (dpN m t) = 0 ∧ nI (baN m t) < 8) ↔ t < 8 := by
  have h100 := hI.le
  have hb := baN_le hI t ht
  rw [← lane_ty hI ht, c_0', nI_eqI (by omega) (by omega), c_8, nI_ltI (by omega) (by omega)]
theorem c3_firstHeld {i j : Nat} (hR : Rep A m w) (hI : TInv m) (hi : i < nT m) (hj : j < nM m i) (h : Q (some (.long (cIf (ma m 8 (10 * i + j) = 0) 0 (laneV (ma m 10 (10 * i + j)))))) w) : Con G M3_firstHeld [.ref (aB A (10 * i + j))] w Q := by
  have h100 := hI.le
  obtain ⟨b1, b2⟩ := hR.bk i j hi hj
  obtain ⟨s1, s2, s3, s4, -⟩ := hR.bs i j hi hj
  obtain ⟨g1, g2, g3, g4⟩ := hI.mbs (i := i) (by omega)
  refine Con.go hw3_firstHeld ok3_firstHeld 30 [] rfl ?_
  refine And.intro b2 ?_
  by_cases c : ma m 8 (10 * i + j) = 0
  · rw [cIf_t c] at s4 h
    exact refN s4 h
  · rw [cIf_f c] at s4 h
    obtain ⟨t1, t2⟩ : ma m 10 (10 * i + j) = nI (tyN m (10 * i + j)) ∧ tyN m (10 * i + j) < nT m := by
      rcases (g4 j hj).2.2.2 with q | q
      · exact ⟨q.2.2.1, q.2.2.2⟩
      · exact absurd q.1 c
    have hk := (hR.tk _ t2).2.1
    obtain ⟨u1, u2, u3, u4, u5, u6, u7, -⟩ := hR.ts _ t2
    refine refS s4 (And.intro b2 (refS s4 (And.intro hk (And.intro b2 (refS s4 (And.intro hk ?_))))))
    refine c11_holdsValue ?_
    rw [u6, u7, ty_hv hI t2]
    unfold laneV at h
    rw [t1, isL_nI (by omega)] at h
    refine And.intro (fun c2 => ?_) (fun c2 => ?_)
    · rw [bI_0] at c2
      rw [cIf_f c2] at h; exact h
    · rw [bI_n0] at c2
      rw [cIf_t c2] at h; exact h
end
