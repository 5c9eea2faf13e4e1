/-! ===== digest of the class ===== -/
def gfF (f : Nat → Int64) : Nat → Nat → Int64 → Int64
  | 0, _, h => h
  | n + 1, i, h => gfF f n (i + 1) (mx h (f i))
theorem gf_cg {f g : Nat → Int64} : ∀ (n i j : Nat) (h : Int64), (∀ k, k < n → f (i + k) = g (j + k)) → gfF f n i h = gfF g n j h
  | 0, _, _, _, _ => rfl
  | n + 1, i, j, h, e => by
    show gfF f n (i + 1) (mx h (f i)) = gfF g n (j + 1) (mx h (g j))
    have e0 := e 0 (by omega)
    rw [Nat.add_zero, Nat.add_zero] at e0
    rw [e0]
    exact gf_cg n (i + 1) (j + 1) _ (fun k hk => by
      have := e (k + 1) (by omega)
      rw [show i + 1 + k = i + (k + 1) by omega, show j + 1 + k = j + (k + 1) by omega]; exact this)
theorem it_gf (m : qSt) : ∀ (n p : Nat) (h : Int64), itF m n p h = gfF (ml m 23) n p h
  | 0, _, _ => rfl
  | n + 1, p, h => it_gf m n (p + 1) _
theorem ce_gf (m : qSt) : ∀ (n p : Nat) (h : Int64), ceF m n p h = gfF (ml m 31) n p h
  | 0, _, _ => rfl
  | n + 1, p, h => ce_gf m n (p + 1) _
theorem sh_app (m : qSt) : ∀ (n k a : Nat) (h : Int64), shF m (n + k) a h = shF m k (a + n) (shF m n a h)
  | 0, k, a, h => by rw [Nat.zero_add, Nat.add_zero]; rfl
  | n + 1, k, a, h => by
    rw [show n + 1 + k = (n + k) + 1 by omega]
    show shF m (n + k) (a + 1) _ = _
    rw [sh_app m n k (a + 1), show a + 1 + n = a + (n + 1) by omega]
    rfl
theorem sh_no (m : qSt) : ∀ (n a : Nat) (h : Int64), (∀ x, a ≤ x → x < a + n → ¬ isSh m x) → shF m n a h = h
  | 0, _, _, _ => rfl
  | n + 1, a, h, e => by
    show shF m n (a + 1) (cIf (isSh m a) (mx h (ml m 14 a)) h) = h
    rw [cIf_f (e a (Nat.le_refl _) (by omega))]
    exact sh_no m n (a + 1) h (fun x h1 h2 => e x (by omega) (by omega))
/-- the shared fields of one type -/
theorem sh_ty {m : qSt} {i : Nat} (h10 : nM m i ≤ 10) (h : Int64) : shF m 10 (10 * i) h = shF m (nM m i) (10 * i) h := by
  have e := sh_app m (nM m i) (10 - nM m i) (10 * i) h
  rw [show nM m i + (10 - nM m i) = 10 by omega] at e
  rw [e]
  refine sh_no m _ _ _ (fun x h1 h2 q => ?_)
  have := q.1
  rw [show x / 10 = i by omega] at this
  omega
section
variable {G : qGX} {A : qA} {m w : qSt} {Q : Option Value → qSt → Prop}
theorem c11_mixed {h : Int64} {r N : Nat} (k : gN w 0 r = 21) (hN : gN w 1 r = N) (hN2 : N < 2000000000) (hq : Q (some (.long (gfF (gJ w 21 r) N 0 h))) w) : Con G M11_mixed [.long h, .ref r] w Q := by
  have loop : ∀ (n i : Nat) (x : Int64), i + n = N → gfF (gJ w 21 r) n i x = gfF (gJ w 21 r) N 0 h → Wq G M11_mixed 5 [some (.long h), none, some (.ref r), some (.long x), none, some (.int (nI i))] [] (0, 0) w Q := by
    intro n
    induction n with
    | zero =>
      intro i x hi e
      refine Wq.go ok11_mixed 20 [] ?_
      refine And.intro (Or.inr (Or.inl k)) (And.intro (fun _ => ?_) (fun (z : ¬ nI (gN w 1 r) ≤ nI i) => ?_))
      · rw [← e] at hq; exact hq
      · rw [hN, nI_leI (by omega) (by omega)] at z; omega
    | succ n ih =>
      intro i x hi e
      refine Wq.go ok11_mixed 20 [5] ?_
      refine And.intro (Or.inr (Or.inl k)) (And.intro (fun (z : nI (gN w 1 r) ≤ nI i) => ?_) (fun _ => And.intro k (And.intro (by rw [hN]; exact in_nI (by omega) (by omega)) ?_)))
      · rw [hN, nI_leI (by omega) (by omega)] at z; omega
      · rw [nI_clamp (by omega)]
        show Wq G M11_mixed 5 [some (.long h), none, some (.ref r), some (.long (mx x (gJ w 21 r i))), none, some (.int (nI i + 1))] [] (0, 0) w Q
        rw [nI_1]
        exact ih (i + 1) _ (by omega) e
  refine Con.go hw11_mixed ok11_mixed 20 [5] rfl ?_
  exact loop N 0 h (Nat.zero_add _) rfl
theorem c7_mixedInto {h : Int64} (hR : Rep A m w) (hX : XInv m) (hq : Q (some (.long (xF m (nX m) 0 h))) w) : Con G M7_mixedInto [.ref 71, .long h] w Q := by
  have h60 := hX.2.1
  have hc : gI w 6 2 71 = nI (nX m) := hR.mt.2.2.2.1.trans hX.1
  have k72 := hR.fk.2.2.2.2.2.2.1
  have r1 : gR w 6 1 71 = some 72 := hR.fr.2.2.2.2.2.2.2.2.2.2.2.1
  have loop : ∀ (n i : Nat) (x : Int64) (l6 : Option Value), i + n = nX m → xF m n i x = xF m (nX m) 0 h → Wq G M7_mixedInto 5 [some (.ref 71), some (.long h), none, some (.long x), none, some (.int (nI i)), l6] [] (0, 0) w Q := by
    intro n
    induction n with
    | zero =>
      intro i x l6 hi e
      refine Wq.ls (ls' := [some (.ref 71), some (.long h), none, some (.long x), none, some (.int (nI i)), none]) ⟨rfl, rfl, rfl, rfl, by cases l6 <;> trivial⟩ ?_
      refine Wq.go ok7_mixedInto 20 [] ?_
      refine And.intro hR.k71 (And.intro (fun _ => ?_) (fun (z : ¬ gI w 6 2 71 ≤ nI i) => ?_))
      · rw [← e] at hq; exact hq
      · rw [hc, nI_leI (by omega) (by omega)] at z; omega
    | succ n ih =>
      intro i x l6 hi e
      obtain ⟨x1, x2, x3⟩ := hR.xk.1 i (by omega)
      obtain ⟨y1, y2, y3, y4, y5⟩ := hR.xs i (by omega)
      have hsz := hX.sz (show i < nX m by omega)
      refine Wq.ls (ls' := [some (.ref 71), some (.long h), none, some (.long x), none, some (.int (nI i)), none]) ⟨rfl, rfl, rfl, rfl, by cases l6 <;> trivial⟩ ?_
      refine Wq.go ok7_mixedInto 40 [5] ?_
      refine And.intro hR.k71 (And.intro (fun (z : gI w 6 2 71 ≤ nI i) => ?_) (fun _ => And.intro hR.k71 (refS r1 (And.intro (And.intro (by rw [k72.1]; rfl) (by rw [k72.2]; exact in_nI (by omega) (by decide))) ?_))))
      · rw [hc, nI_leI (by omega) (by omega)] at z; omega
      rw [nI_clamp (by omega)]
      refine refS x1 (And.intro x2 (And.intro x2 (And.intro x2 (refS y4 ?_))))
      rw [y2, y3]
      refine c11_mixed x3 y5 (by omega) ?_
      show Wq G M7_mixedInto 5 [some (.ref 71), some (.long h), none, some (.long (gfF (gJ w 21 (aX A i + 1)) (sX m i) 0 (mx (mx x (ma m 19 i).toInt64) (ma m 20 i).toInt64))), none, some (.int (nI i + 1)), some (.ref (aX A i))] [] (0, 0) w Q
      rw [nI_1, gf_cg (f := gJ w 21 (aX A i + 1)) (g := ml m 23) (sX m i) 0 (pX m i) _ (fun k hk => by rw [Nat.zero_add]; exact hR.xj i k (by omega) hk), ← it_gf]
      exact ih (i + 1) _ _ (by omega) e
  refine Con.go hw7_mixedInto ok7_mixedInto 20 [5] rfl ?_
  exact loop (nX m) 0 h none (Nat.zero_add _) rfl
theorem c10_sharedMixedInto {h : Int64} (hR : Rep A m w) (hI : TInv m) (hq : Q (some (.long (shF m (10 * nT m) 0 h))) w) : Con G M10_sharedMixedInto [.ref 3, .long h] w Q := by
  have h100 := hI.le
  have hc := hR.cnt hI
  have k4 := hR.fk.2.2.1
  have ra : gR w 9 0 3 = some 4 := hR.fr.2.2.2.2.2.2.1
  have e90 : shF m (10 * nT m) 0 h = shF m (10 * (nT m - 9)) 90 h := by
    have e := sh_app m 90 (10 * (nT m - 9)) 0 h
    rw [show 90 + 10 * (nT m - 9) = 10 * nT m by omega] at e
    rw [e, sh_no m 90 0 h (fun x _ h2 q => ?_)]
    have := (hI.mbs (i := x / 10) (by omega)).2.2.1
    have := q.1
    omega
  rw [e90] at hq
  have inner : ∀ (i : Nat), i < nT m → ∀ (K k : Nat) (x : Int64) (l8 : Option Value), k + K = nM m i → (∀ l, Wq G M10_sharedMixedInto 73 [some (.ref 3), some (.long h), none, some (.long (shF m K (10 * i + k) x)), none, some (.int (nI i)), some (.ref (aT A i)), some (.int (nI (nM m i))), l] [] (0, 0) w Q) →
      Wq G M10_sharedMixedInto 27 [some (.ref 3), some (.long h), none, some (.long x), none, some (.int (nI i)), some (.ref (aT A i)), some (.int (nI k)), l8] [] (0, 0) w Q := by
    intro i hi
    obtain ⟨t1, t2, t3, t4, t5, -⟩ := hR.tk i hi
    have r9 := (hR.ts i hi).2.2.2.2.2.2.2.2.2.1
    have l13 := (hR.ts i hi).2.2.2.2.2.2.2.2.2.2.2.2.1
    obtain ⟨p1, p2, p3, -⟩ := hI.mbs (i := i) (by omega)
    have v1 := (hR.tm i hi).1
    rw [p1] at v1
    intro K
    induction K with
    | zero =>
      intro k x l8 hk hw
      have : k = nM m i := by omega
      subst this
      refine Wq.ls (ls' := [some (.ref 3), some (.long h), none, some (.long x), none, some (.int (nI i)), some (.ref (aT A i)), some (.int (nI (nM m i))), none]) ⟨rfl, rfl, rfl, rfl, rfl, rfl, by cases l8 <;> trivial⟩ ?_
      refine Wq.go ok10_sharedMixedInto 20 [73] ?_
      refine And.intro t2 (And.intro (fun _ => hw none) (fun (z : ¬ gI w 7 12 (aT A i) ≤ nI (nM m i)) => ?_))
      rw [v1, nI_leI (by omega) (by omega)] at z; omega
    | succ K ih =>
      intro k x l8 hk hw
      obtain ⟨b1, b2⟩ := hR.bk i k hi (by omega)
      obtain ⟨q1, q2, q3, q4, q5, -⟩ := hR.bs i k hi (by omega)
      have hmb : hasMb m i := by
        have := p3 (by omega)
        rcases this.2.2 with z | z
        · exact Or.inr ⟨z, by omega⟩
        · exact Or.inl z
      have l10 : mlN m i = 10 := by unfold mlN; rw [cIf_t hmb]
      rw [l10] at l13
      have hsh : isSh m (10 * i + k) ↔ ¬ gI w 2 4 (aB A (10 * i + k)) = 0 := by
        unfold isSh
        rw [q5, show (10 * i + k) % 10 = k by omega, show (10 * i + k) / 10 = i by omega]
        by_cases c8 : ma m 8 (10 * i + k) = 0
        · rw [cIf_t c8]; exact ⟨fun z => absurd c8 z.2.1, fun z => absurd rfl z⟩
        · rw [cIf_f c8]; exact ⟨fun z => z.2.2, fun z => ⟨by omega, c8, z⟩⟩
      have nx : ∀ (y : Int64) (l : Option Value), y = cIf (isSh m (10 * i + k)) (mx x (ml m 14 (10 * i + k))) x → Wq G M10_sharedMixedInto 67 [some (.ref 3), some (.long h), none, some (.long y), none, some (.int (nI i)), some (.ref (aT A i)), some (.int (nI k)), l] [] (0, 0) w Q := by
        intro y l ey
        refine Wq.ls (ls' := [some (.ref 3), some (.long h), none, some (.long y), none, some (.int (nI i)), some (.ref (aT A i)), some (.int (nI k)), none]) ⟨rfl, rfl, rfl, rfl, rfl, rfl, by cases l <;> trivial⟩ ?_
        refine Wq.go ok10_sharedMixedInto 20 [27] ?_
        show Wq G M10_sharedMixedInto 27 [some (.ref 3), some (.long h), none, some (.long y), none, some (.int (nI i)), some (.ref (aT A i)), some (.int (nI k + 1)), none] [] (0, 0) w Q
        rw [nI_1]
        refine ih (k + 1) y none (by omega) (fun l => ?_)
        have := hw l
        rw [ey]
        exact this
      refine Wq.ls (ls' := [some (.ref 3), some (.long h), none, some (.long x), none, some (.int (nI i)), some (.ref (aT A i)), some (.int (nI k)), none]) ⟨rfl, rfl, rfl, rfl, rfl, rfl, by cases l8 <;> trivial⟩ ?_
      refine Wq.go ok10_sharedMixedInto 40 [67] ?_
      refine And.intro t2 (And.intro (fun (z : gI w 7 12 (aT A i) ≤ nI k) => ?_) (fun _ => And.intro t2 (refS r9 (And.intro (And.intro (by rw [t5]; rfl) (by rw [l13]; exact in_nI (by omega) (by decide))) ?_))))
      · rw [v1, nI_leI (by omega) (by omega)] at z; omega
      rw [nI_clamp (by omega)]
      refine refS b1 (And.intro b2 (And.intro (fun (z : gI w 2 4 (aB A (10 * i + k)) = 0) => nx x _ ?_) (fun (z : ¬ gI w 2 4 (aB A (10 * i + k)) = 0) => And.intro b2 (nx _ _ ?_))))
      · rw [cIf_f (fun q => (hsh.mp q) z)]
      · have hs := hsh.mpr z
        rw [cIf_t hs, hR.bj i k hi (by omega) hs.2.1]; rfl
  have outer : ∀ (N i : Nat) (x : Int64) (l6 l7 l8 : Option Value), i + N = nT m → 9 ≤ i → shF m (10 * N) (10 * i) x = shF m (10 * (nT m - 9)) 90 h → Wq G M10_sharedMixedInto 6 [some (.ref 3), some (.long h), none, some (.long x), none, some (.int (nI i)), l6, l7, l8] [] (0, 0) w Q := by
    intro N
    induction N with
    | zero =>
      intro i x l6 l7 l8 hi h9 e
      refine Wq.ls (ls' := [some (.ref 3), some (.long h), none, some (.long x), none, some (.int (nI i)), none, none, none]) ⟨rfl, rfl, rfl, rfl, by cases l6 <;> cases l7 <;> cases l8 <;> trivial⟩ ?_
      refine Wq.go ok10_sharedMixedInto 20 [] ?_
      refine And.intro hR.k3 (And.intro (fun _ => ?_) (fun (z : ¬ gI w 9 3 3 ≤ nI i) => ?_))
      · rw [← e] at hq; exact hq
      · rw [hc, nI_leI (by omega) (by omega)] at z; omega
    | succ N ih =>
      intro i x l6 l7 l8 hi h9 e
      have hi2 : i < nT m := by omega
      have t1 := (hR.tk i hi2).1
      have n10 := (hI.mbs (i := i) (by omega)).2.1
      refine Wq.ls (ls' := [some (.ref 3), some (.long h), none, some (.long x), none, some (.int (nI i)), none, none, none]) ⟨rfl, rfl, rfl, rfl, by cases l6 <;> cases l7 <;> cases l8 <;> trivial⟩ ?_
      refine Wq.go ok10_sharedMixedInto 20 [27] ?_
      refine And.intro hR.k3 (And.intro (fun (z : gI w 9 3 3 ≤ nI i) => ?_) (fun _ => And.intro hR.k3 (refS ra (And.intro (And.intro (by rw [k4.1]; rfl) (by rw [k4.2]; exact in_nI (by omega) (by decide))) ?_))))
      · rw [hc, nI_leI (by omega) (by omega)] at z; omega
      rw [nI_clamp (by omega)]
      refine refS t1 (inner i hi2 (nM m i) 0 x none (Nat.zero_add _) (fun l => ?_))
      refine Wq.ls (ls' := [some (.ref 3), some (.long h), none, some (.long (shF m (nM m i) (10 * i + 0) x)), none, some (.int (nI i)), none, none, none]) ⟨rfl, rfl, rfl, rfl, by cases l <;> trivial⟩ ?_
      refine Wq.go ok10_sharedMixedInto 20 [6] ?_
      show Wq G M10_sharedMixedInto 6 [some (.ref 3), some (.long h), none, some (.long (shF m (nM m i) (10 * i + 0) x)), none, some (.int (nI i + 1)), none, none, none] [] (0, 0) w Q
      rw [nI_1]
      refine ih (i + 1) _ none none none (by omega) (by omega) ?_
      have e2 := sh_app m 10 (10 * N) (10 * i) x
      rw [show 10 + 10 * N = 10 * (N + 1) by omega, show 10 * i + 10 = 10 * (i + 1) by omega, sh_ty n10] at e2
      exact e2.symm.trans e
  refine Con.go hw10_sharedMixedInto ok10_sharedMixedInto 20 [6] rfl ?_
  exact outer (nT m - 9) 9 h none none none (by omega) (Nat.le_refl _) rfl
theorem c11_digest (hR : Rep A m w) (hI : TInv m) (hX : XInv m) (hCi : CInv m) (hz : qZero w) (hq : ∀ A' w', Fin A' (S_digest m).2 w w' → Q (some (.long (S_digest m).1)) w') : Con G M11_digest [.ref 2] w Q := by
  have k76 := hR.k76
  have loop : ∀ (n k : Nat) (x : Int64) (l4 : Option Value), k + n = 6 → coF m n k x = (S_digest m).1 → Wq G M11_digest 22 [some (.ref 2), some (.long x), none, some (.int (nI k)), l4] [] (0, 0) w Q := by
    intro n
    induction n with
    | zero =>
      intro k x l4 hk e
      refine Wq.ls (ls' := [some (.ref 2), some (.long x), none, some (.int (nI k)), none]) ⟨rfl, rfl, rfl, by cases l4 <;> trivial⟩ ?_
      refine Wq.go ok11_digest 20 [] ?_
      refine And.intro (fun _ => And.intro hR.k2 ?_) (fun (z : ¬ nI 6 ≤ nI k) => ?_)
      · rw [← e] at hq; exact los_p hR hz hq
      · rw [nI_leI (by omega) (by omega)] at z; omega
    | succ n ih =>
      intro k x l4 hk e
      have nx : ∀ (y : Int64) (l : Option Value), y = cIf (ma m 28 k = 0) x (ceF m (cN m k) (60 * k) (mx x (ma m 29 k).toInt64)) → Wq G M11_digest 62 [some (.ref 2), some (.long y), none, some (.int (nI k)), l] [] (0, 0) w Q := by
        intro y l ey
        refine Wq.ls (ls' := [some (.ref 2), some (.long y), none, some (.int (nI k)), none]) ⟨rfl, rfl, rfl, by cases l <;> trivial⟩ ?_
        refine Wq.go ok11_digest 20 [22] ?_
        show Wq G M11_digest 22 [some (.ref 2), some (.long y), none, some (.int (nI k + 1)), none] [] (0, 0) w Q
        rw [nI_1]
        refine ih (k + 1) y none (by omega) ?_
        rw [ey]; exact e
      refine Wq.ls (ls' := [some (.ref 2), some (.long x), none, some (.int (nI k)), none]) ⟨rfl, rfl, rfl, by cases l4 <;> trivial⟩ ?_
      refine Wq.go ok11_digest 40 [62] ?_
      refine And.intro (fun (z : nI 6 ≤ nI k) => ?_) (fun _ => And.intro hR.k2 (refS hR.r4 (And.intro (And.intro (by rw [k76.1]; rfl) (by rw [k76.2]; exact in_nI (by omega) (by decide))) ?_)))
      · rw [nI_leI (by omega) (by omega)] at z; omega
      rw [nI_clamp (by omega)]
      rcases hR.col (show k < 6 by omega) with ⟨c0, e0⟩ | ⟨c0, e0, e1, e2, e3, e4, e5⟩
      · exact refN e0 (nx x _ (by rw [cIf_t c0]))
      · have o4 := ((hCi k (by omega)).2 c0).2.2.2.1
        refine refS e0 (And.intro e1 (And.intro e1 (refS e4 (c11_mixed e2 e5 (by omega) (nx _ _ ?_)))))
        rw [cIf_f c0, ce_gf, e3]
        exact gf_cg _ 0 (60 * k) _ (fun j hj => by rw [Nat.zero_add]; exact hR.cj k j (by omega) c0 hj)
  refine Con.go hw11_digest ok11_digest 40 [22] rfl ?_
  refine And.intro hR.k2 (refS hR.r2 (And.intro hR.k71 (c7_mixedInto hR hX (And.intro hR.k2 (refS hR.r1 (And.intro hR.k3 (c10_sharedMixedInto hR hI ?_)))))))
  exact loop 6 0 _ none rfl rfl
end
