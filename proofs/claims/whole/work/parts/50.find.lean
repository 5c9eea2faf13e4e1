/-! ===== bodies and fields found by the class ===== -/
theorem ct_two {p : Nat → Bool} : ∀ {n : Nat}, 1 < fb_ct p n → ∃ a b, a < n ∧ b < n ∧ a ≠ b ∧ p a = true ∧ p b = true
  | 0, h => absurd h (by show ¬ 1 < 0; omega)
  | n + 1, h => by
    rw [fb_ct_succ] at h
    cases hp : p n with
    | false =>
      rw [hp] at h
      obtain ⟨a, b, h1, h2, h3⟩ := ct_two (p := p) (n := n) (by simpa using h)
      exact ⟨a, b, by omega, by omega, h3⟩
    | true =>
      rw [hp] at h
      obtain ⟨k, hk, hk2⟩ := fb_ct_pos.mp (show 0 < fb_ct p n by simp at h; omega)
      exact ⟨k, n, by omega, by omega, by omega, hk2, hp⟩
theorem ct_one {p : Nat → Bool} {n a b : Nat} (h : fb_ct p n ≤ 1) (ha : a < n) (hb : b < n) (pa : p a = true) (pb : p b = true) : a = b := by
  have key : ∀ x y : Nat, x < y → y < n → p x = true → p y = true → False := by
    intro x y hxy hy hx hpy
    have h1 := fb_ct_mono p (show x + 1 ≤ y from hxy)
    have h2 := fb_ct_mono p (show y + 1 ≤ n from hy)
    rw [fb_ct_succ, hx] at h1
    rw [fb_ct_succ, hpy] at h2
    simp at h1 h2
    omega
  rcases Nat.lt_trichotomy a b with q | q | q
  · exact (key a b q hb pa pb).elim
  · exact q
  · exact (key b a q ha pb pa).elim
/-- w' is w but for the set of candidates -/
def Cd (w w' : qSt) : Prop := ∃ lo hi, w' = sS w 70 lo hi
theorem Cd.rf (w : qSt) : Cd w w := ⟨gJ w 8 0 70, gJ w 8 1 70, by unfold sS; rw [sJ_self, sJ_self]⟩
theorem sJ_sJ (w : qSt) (r k i : Nat) (a b : Int64) : sJ (sJ w r k i a) r k i b = sJ w r k i b := by
  refine st_ext rfl ?_ rfl rfl
  funext r' k' i'
  show u3 (u3 w.2.1 r k i a) r k i b r' k' i' = u3 w.2.1 r k i b r' k' i'
  by_cases e : r' = r ∧ k' = k ∧ i' = i
  · obtain ⟨rfl, rfl, rfl⟩ := e
    rw [u3_at, u3_at]
  · rw [u3_off _ _ e, u3_off _ _ e, u3_off _ _ e]
theorem sS_sS (w : qSt) (u : Nat) (a b c d : Int64) : sS (sS w u a b) u c d = sS w u c d := by
  unfold sS
  rw [sJ_cm (sJ w 8 0 u a) b c (by omega), sJ_sJ, sJ_sJ]
theorem Cd.tr {a b c : qSt} (h : Cd a b) (h' : Cd b c) : Cd a c := by
  obtain ⟨l, k, rfl⟩ := h
  obtain ⟨l', k', rfl⟩ := h'
  exact ⟨l', k', sS_sS _ _ _ _ _ _⟩
/-- faces are among no faces of their own -/
def AInv (m : qSt) : Prop := ∀ f, ¬ FO1 m f f
theorem tyU_ne {A : qA} {m w : qSt} (hR : Rep A m w) {i : Nat} (hi : i < nT m) : aT A i + 1 ≠ 70 ∧ aT A i + 2 ≠ 70 := by
  obtain ⟨t1, t2, -⟩ := hR.tk i hi
  have k60 := hR.fk.2.2.2.2.1
  refine ⟨fun z => ?_, fun z => ?_⟩
  · have := k60 9 (by omega)
    rw [show 60 + 9 = aT A i by omega, t2] at this; omega
  · have := k60 8 (by omega)
    rw [show 60 + 8 = aT A i by omega, t2] at this; omega
theorem Rep.cd {A : qA} {m w w' : qSt} (hR : Rep A m w) (h : Cd w w') : Rep A m w' := by
  obtain ⟨lo, hi, rfl⟩ := h
  obtain ⟨f1, f2, f3, f4, f5, f6, f7, f8, f9, f10, f11, f12⟩ := id hR
  refine ⟨f1, f2, f3, f4, f5, fun i hi2 j hj => ?_, f7, f8, f9, f10, fun n hn f hf => ?_, f12⟩
  · obtain ⟨n1, n2⟩ := tyU_ne hR hi2
    rw [tS_ne _ _ _ n1, tS_ne _ _ _ n2]
    exact f6 i hi2 j hj
  · rw [tS_ne _ _ _ (by omega)]
    exact f11 n hn f hf
/-- what was found, as it is told -/
noncomputable def cdI (v : Int32) : Int32 := cIf (v < 0) v (nI (tld2 (tn v)))
section
variable {G : qGX} {A : qA} {m w : qSt} {Q : Option Value → qSt → Prop}
theorem c10_isUnder {s ds t dt : Nat} (hR : Rep A m w) (hI : TInv m) (hs : s < nT m) (ht : t < nT m) (hds : ds < 1000) (hdt : dt < 1000) (h : Q (some (.int (bI (soP m s ds t dt)))) w) : Con G M10_isUnder [.ref 3, .int (nI s), .int (nI ds), .int (nI t), .int (nI dt)] w Q := by
  have h100 := hI.le
  obtain ⟨k2, k3, k4, -⟩ := hR.fk
  have yes : soP m s ds t dt → ((1 : Int32) &&& 1 = 1 ∧ Q (some (.int 1)) w) := fun q => by rw [bI_t q] at h; exact ⟨rfl, h⟩
  have no : ¬ soP m s ds t dt → ((0 : Int32) &&& 1 = 0 ∧ Q (some (.int 0)) w) := fun q => by rw [bI_f q] at h; exact ⟨rfl, h⟩
  refine Con.go hw10_isUnder ok10_isUnder 40 [] rfl ?_
  refine And.intro (fun (c : nI ds = nI dt) => ?_) (fun (c : ¬ nI ds = nI dt) => And.intro (fun (c2 : nI ds ≤ nI dt) => ?_) (fun (c2 : ¬ nI ds ≤ nI dt) => And.intro (fun (c3 : ¬ nI t = 8) => ?_) (fun (c3 : nI t = 8) => ?_))) <;> rw [nI_eqI (by omega) (by omega)] at c
  · refine And.intro (fun (c2 : ¬ nI s = nI t) => ?_) (fun (c2 : nI s = nI t) => ?_) <;> rw [nI_eqI (by omega) (by omega)] at c2
    · refine And.intro k3 (c10_at hR hI (fun z => absurd ⟨s, rfl, hs⟩ z) (fun j ej hj => ?_))
      rw [nI_eqI (by omega) (by omega)] at ej
      subst ej
      refine And.intro (fun (c3 : nI s < 8) => ?_) (fun (c3 : ¬ nI s < 8) => And.intro (fun (c4 : 8 ≤ nI t) => And.intro (fun (c5 : nI t = 8) => ?_) (fun (c5 : ¬ nI t = 8) => ?_)) (fun (c4 : ¬ 8 ≤ nI t) => ?_)) <;> rw [c_8, nI_ltI (by omega) (by omega)] at c3
      · exact no (fun z => by rcases z with z | ⟨-, z | z⟩ <;> omega)
      · rw [c_8, nI_leI (by omega) (by omega)] at c4
        rw [c_8, nI_eqI (by omega) (by omega)] at c5
        exact yes (Or.inr ⟨c, Or.inr ⟨by omega, c4, Or.inl c5⟩⟩)
      · rw [c_8, nI_leI (by omega) (by omega)] at c4
        rw [c_8, nI_eqI (by omega) (by omega)] at c5
        have tk := hR.tk s hs
        refine And.intro tk.2.1 (refS (hR.ts s hs).2.2.2.2.2.2.2.1 (And.intro tk.2.2.1 ?_))
        refine c9_has tk.2.2.1 (by omega) (And.intro (fun z => ?_) (fun z => ?_))
        · rw [bI_0, (hR.tu s hs t (by omega)).1] at z
          exact no (fun y => by
            rcases y with y | ⟨-, y | ⟨-, -, y | y⟩⟩
            · omega
            · exact c2 y
            · exact c5 y
            · exact z y)
        · rw [bI_n0, (hR.tu s hs t (by omega)).1] at z
          exact yes (Or.inr ⟨c, Or.inr ⟨by omega, c4, Or.inr z⟩⟩)
      · rw [c_8, nI_leI (by omega) (by omega)] at c4
        exact no (fun z => by rcases z with z | ⟨-, z | z⟩ <;> omega)
    · exact yes (Or.inr ⟨c, Or.inl c2⟩)
  · rw [nI_leI (by omega) (by omega)] at c2
    exact no (fun z => by rcases z with z | z <;> omega)
  · rw [nI_leI (by omega) (by omega)] at c2
    rw [c_8, nI_eqI (by omega) (by omega)] at c3
    exact no (fun z => by rcases z with z | z <;> omega)
  · rw [nI_leI (by omega) (by omega)] at c2
    rw [c_8, nI_eqI (by omega) (by omega)] at c3
    exact yes (Or.inl ⟨c, by omega, c3⟩)
theorem Rep.xcnt (hR : Rep A m w) (hX : XInv m) : gI w 6 2 71 = nI (nX m) := hR.mt.2.2.2.1.trans hX.1
theorem c7_at {i : Int32} (hR : Rep A m w) (hX : XInv m) (h0 : ¬ isX m i → Q (some .null) w) (h1 : ∀ j, i = nI j → j < nX m → Q (some (.ref (aX A j))) w) : Con G M7_at [.ref 71, .int i] w Q := by
  have h60 := hX.2.1
  have hc := hR.xcnt hX
  obtain ⟨k2, k3, k4, k59, k60, k71, k72, -⟩ := hR.fk
  refine Con.go hw7_at ok7_at 20 [] rfl ?_
  refine And.intro (fun c => h0 (nNot (by omega) (Or.inl c))) (fun c => And.intro k71 (And.intro (fun c2 => ?_) (fun c2 => ?_))) <;> rw [hc] at c2
  · obtain ⟨j, rfl, hj⟩ := nIn (by omega) c c2
    refine And.intro k71 (refS hR.fr.2.2.2.2.2.2.2.2.2.2.2.1 ?_)
    refine And.intro (And.intro (by rw [k72.1]; rfl) (by rw [k72.2]; exact in_nI (by omega) (by decide))) ?_
    rw [nI_clamp (by omega)]
    exact refS (hR.xk.1 j hj).1 (h1 j rfl hj)
  · exact h0 (nNot (by omega) (Or.inr c2))
theorem c5_handleAt {i : Int32} (hR : Rep A m w) (hH : HInv m) (h0 : ¬ isH m i → Q (some .null) w) (h1 : ∀ j, i = nI j → j < nH m → Q (some (.ref (aH A j))) w) : Con G M5_handleAt [.ref 73, .int i] w Q := by
  have h40 := hH.2.1
  have hc : gI w 4 4 73 = nI (nH m) := hR.mt.2.2.2.2.trans hH.1
  obtain ⟨k2, k3, k4, k59, k60, k71, k72, k73, k74, -⟩ := hR.fk
  refine Con.go hw5_handleAt ok5_handleAt 20 [] rfl ?_
  refine And.intro (fun c => h0 (nNot (by omega) (Or.inl c))) (fun c => And.intro k73 (And.intro (fun c2 => ?_) (fun c2 => ?_))) <;> rw [hc] at c2
  · obtain ⟨j, rfl, hj⟩ := nIn (by omega) c c2
    refine And.intro k73 (refS hR.fr.2.2.2.2.2.2.2.2.2.2.2.2.2.2.1 ?_)
    refine And.intro (And.intro (by rw [k74.1]; rfl) (by rw [k74.2]; exact in_nI (by omega) (by decide))) ?_
    rw [nI_clamp (by omega)]
    exact refS (hR.hd j hj).1 (h1 j rfl hj)
  · exact h0 (nNot (by omega) (Or.inr c2))
theorem c11_queryAt {i : Int32} (hR : Rep A m w) (hQ : QInv m) (h0 : ¬ isQ m i → Q (some .null) w) (h1 : ∀ j, i = nI j → j < nQ m → Q (some (.ref (aY A j))) w) : Con G M11_queryAt [.ref 2, .int i] w Q := by
  have h20 := hQ.2.1
  have hc : gI w 10 6 2 = nI (nQ m) := hR.mq.1.trans hQ.1
  obtain ⟨k2, k3, k4, k59, k60, k71, k72, k73, k74, k75, k76, k77, -⟩ := hR.fk
  refine Con.go hw11_queryAt ok11_queryAt 20 [] rfl ?_
  refine And.intro (fun c => h0 (nNot (by omega) (Or.inl c))) (fun c => And.intro k2 (And.intro (fun c2 => ?_) (fun c2 => ?_))) <;> rw [hc] at c2
  · obtain ⟨j, rfl, hj⟩ := nIn (by omega) c c2
    refine And.intro k2 (refS hR.fr.2.2.2.2.1 ?_)
    refine And.intro (And.intro (by rw [k77.1]; rfl) (by rw [k77.2]; exact in_nI (by omega) (by decide))) ?_
    rw [nI_clamp (by omega)]
    exact refS (hR.qk.1 j hj).1 (h1 j rfl hj)
  · exact h0 (nNot (by omega) (Or.inr c2))
theorem c10_isThingUnder {x t : Nat} (hR : Rep A m w) (hI : TInv m) (hX : XInv m) (hx : x < nX m) (ht : t < nT m) (h : Q (some (.int (bI (soP m (bX m x) (dX m x) (baN m t) (dpN m t))))) w) : Con G M10_isThingUnder [.ref 3, .ref (aX A x), .ref (aT A t)] w Q := by
  have h100 := hI.le
  obtain ⟨k2, k3, k4, -⟩ := hR.fk
  obtain ⟨x1, x2, x3⟩ := hR.xk.1 x hx
  obtain ⟨y1, y2, y3, -⟩ := hR.xs x hx
  obtain ⟨z1, z2, z3, z4, z5, -⟩ := hX.2.2.2 x hx
  obtain ⟨u1, u2, u3, u4, u5, u6, u7, -⟩ := hR.ts t ht
  have tk := (hR.tk t ht).2.1
  have hb := baN_le hI t ht
  refine Con.go hw10_isThingUnder ok10_isThingUnder 20 [] rfl ?_
  refine And.intro x2 (And.intro x2 (And.intro tk (And.intro tk (And.intro k3 ?_))))
  show Con G M10_isUnder [.ref 3, .int (gI w 5 1 (aX A x)), .int (gI w 5 2 (aX A x)), .int (gI w 7 5 (aT A t)), .int (gI w 7 6 (aT A t))] w _
  rw [y2, y3, u6, u7, z1, z4]
  exact c10_isUnder hR hI z2 (by omega) (by omega) (by omega) (And.intro (bI_and _) h)
theorem c10_fieldFrom {c n : Nat} (hR : Rep A m w) (hI : TInv m) (hc : c < nT m) (hs : ma m 0 c = 1) (hn : n < 10) (h0 : seeN m c (nI n) = none → Q (some .null) w) (h1 : ∀ d j, seeN m c (nI n) = some (10 * d + j) → d < nT m → j < nM m d → d ∈ abvs m c → Q (some (.ref (aB A (10 * d + j)))) w) : Con G M10_fieldFrom [.ref 3, .ref (aT A c), .int (nI n)] w Q := by
  have h100 := hI.le
  have loop : ∀ (k d : Nat) (l4 : Option Value), d < k → d < nT m → ma m 0 d = 1 → d ∈ abvs m c → fsF m (nI n) 1 (abvs m d) = seeN m c (nI n) → Wq G M10_fieldFrom 2 [some (.ref 3), some (.ref (aT A c)), some (.int (nI n)), some (.ref (aT A d)), l4] [] (0, 0) w Q := by
    intro k
    induction k with
    | zero => intro d l4 hk; omega
    | succ k ih =>
      intro d l4 hk hd hsd hdc he
      have tk := (hR.tk d hd).2.1
      refine Wq.ls (ls' := [some (.ref 3), some (.ref (aT A c)), some (.int (nI n)), some (.ref (aT A d)), none]) ⟨rfl, rfl, rfl, rfl, by cases l4 <;> trivial⟩ ?_
      refine Wq.go ok10_fieldFrom 20 [2] ?_
      refine And.intro tk (c8_fieldNamed hR hI hd hn (fun e => ?_) (fun j e hj => ?_))
      · by_cases h8 : d = 8
        · have hf : gR w 7 2 (aT A d) = none := by
            rw [(hR.ts d hd).2.2.1]; unfold frA; rw [cIf_t hsd, cIf_t h8]
          refine And.intro tk (refN hf ?_)
          refine Wq.go ok10_fieldFrom 20 [] (h0 ?_)
          rw [← he, h8, abvs_8]
          rw [h8] at e
          show cIf (mby m 8 (nI n) 1 = -1) _ _ = none
          rw [cIf_t e]; rfl
        · obtain ⟨u1, u2, u3, u4⟩ := hI.up hd hsd h8
          have hf : gR w 7 2 (aT A d) = some (aT A (upN m d)) := by
            rw [(hR.ts d hd).2.2.1]; unfold frA; rw [cIf_t hsd, cIf_f h8]
          refine And.intro tk (refS hf ?_)
          refine ih (upN m d) _ (by omega) (by omega) u4 ?_ ?_
          · refine abvs_tr hI _ hc hs d hdc _ ?_
            rw [abvs_c hI hd hsd h8]
            exact List.mem_cons_of_mem _ (abvs_self m _)
          · rw [← he, abvs_c hI hd hsd h8]
            exact (cIf_t e).symm
      · refine h1 d j ?_ hd hj hdc
        rw [← he]
        have h10 := (hI.mbs (i := d) (by omega)).2.1
        have : abvs m d = d :: (abvs m d).tail := rfl
        rw [this]
        show cIf (mby m d (nI n) 1 = -1) _ _ = _
        rw [e, cIf_f (by rw [i32_eq, nI_t (by omega)]; intro z; have : ((-1 : Int32)).toInt = -1 := rfl; omega), tn_nI (by omega)]
  refine Con.go hw10_fieldFrom ok10_fieldFrom 20 [2] rfl ?_
  exact loop (c + 1) c none (by omega) hc hs (abvs_self m c) rfl
theorem c10_memberOf {i j : Nat} (hR : Rep A m w) (hI : TInv m) (hi : i < nT m) (hj : j < nM m i) (h : Q (some (.ref (aB A (10 * i + j)))) w) : Con G M10_memberOf [.ref 3, .int (nI (100 * i + j))] w Q := by
  have h100 := hI.le
  have h10 := (hI.mbs (i := i) (by omega)).2.1
  obtain ⟨k2, k3, k4, -⟩ := hR.fk
  have ed : nI (100 * i + j) / (100 : Int32) = nI i := (pk_div (d := 100) (by omega) (by decide) (by decide)).trans (by congr 1; omega)
  have er : nI (100 * i + j) - nI (100 * i + j) / (100 : Int32) * 100 = nI j := (pk_rem (d := 100) (by omega) (by decide) (by decide)).trans (by congr 1; omega)
  refine Con.go hw10_memberOf ok10_memberOf 20 [] rfl ?_
  refine And.intro (by decide) (And.intro k3 ?_)
  show Con G M10_at [.ref 3, .int (nI (100 * i + j) / (100 : Int32))] w _
  rw [ed]
  refine c10_at hR hI (fun z => absurd ⟨i, rfl, hi⟩ z) (fun k ek hk => ?_)
  rw [nI_eqI (by omega) (by omega)] at ek
  subst ek
  refine And.intro (by decide) (And.intro (hR.tk i hi).2.1 ?_)
  show Con G M8_memberAt [.ref (aT A i), .int (nI (100 * i + j) - nI (100 * i + j) / (100 : Int32) * 100)] w _
  rw [er]
  refine c8_memberAt hR hI hi (fun z => absurd ⟨j, rfl, hj⟩ z) (fun k ek hk2 => ?_)
  rw [nI_eqI (by omega) (by omega)] at ek
  subst ek
  exact h
theorem c10_lentBodyFor {c n : Nat} (hR : Rep A m w) (hI : TInv m) (hA : AInv m) (hc : c < nT m) (hs : ma m 0 c = 1) (hn : n < 10) (h : ∀ w', Cd w w' → Q (some (.int (cdI (lendN m c (nI n))))) w') : Con G M10_lentBodyFor [.ref 3, .ref (aT A c), .int (nI n)] w Q := by
  have h100 := hI.le
  obtain ⟨k2, k3, k4, k59, k60, -⟩ := hR.fk
  have tk := hR.tk c hc
  obtain ⟨ne1, ne2⟩ := tyU_ne hR hc
  have k70 : gN w 0 70 = 8 := k60 10 (by omega)
  have hvl : ∀ g, Hv m c (nI n) g → 9 ≤ g ∧ g < nT m ∧ ma m 0 g = 2 := fun g hg => FOf.in_ hI hc hg.1
  have fo2 : ∀ f g, ma m 0 f = 2 → (FOf m f g ↔ FO1 m f g) := by
    intro f g hf
    unfold FOf
    rw [hf]
    exact ⟨fun z => z.elim (fun z => z.2) (fun z => absurd z.1 (by decide)), fun z => Or.inl ⟨rfl, z⟩⟩
  -- behind the loop
  have fin : ∀ (lo hi : Int64) (f : Nat), (∀ g, g < 128 → bt2 lo hi g = true → Hv m c (nI n) g) → (∀ g, Hv m c (nI n) g → bt2 lo hi g = true ∨ ∃ f', f' < 128 ∧ bt2 lo hi f' = true ∧ FOf m f' g) → (∀ f', f' < f → bt2 lo hi f' = true → ∀ g, g < 128 → bt2 lo hi g = true → ¬ FOf m f' g) → (nT m ≤ f ∨ fb_ct (fun i => bt2 lo hi i) 128 ≤ 1) →
      Wq G M10_lentBodyFor 72 [some (.ref 3), some (.ref (aT A c)), some (.int (nI n)), some (.int (nI f)), none] [] (0, 0) (sS w 70 lo hi) Q := by
    intro lo hi f ha hb hcc hd
    have hRc : Rep A m (sS w 70 lo hi) := hR.cd ⟨lo, hi, rfl⟩
    have hq := h _ ⟨lo, hi, rfl⟩
    have etS : ∀ j, tS (sS w 70 lo hi) 70 j = bt2 lo hi j := tS_at w 70 lo hi
    have ect : fb_ct (fun i => tS (sS w 70 lo hi) 70 i) 128 = fb_ct (fun i => bt2 lo hi i) 128 := fb_ct_cong (fun i _ => etS i)
    have hle := fb_ct_le (fun i => bt2 lo hi i) 128
    refine Wq.go ok10_lentBodyFor 40 [] ?_
    refine And.intro k3 (refS hR.fr.2.2.2.2.2.2.2.2.1 (And.intro k70 (c9_size (w := sS w 70 lo hi) k70 ?_)))
    rw [ect]
    refine And.intro (fun (z : nI (fb_ct (fun i => bt2 lo hi i) 128) ≤ 1) => ?_) (fun (z : ¬ nI (fb_ct (fun i => bt2 lo hi i) 128) ≤ 1) => ?_) <;> rw [c_1, nI_leI (by omega) (by omega)] at z
    · refine And.intro k3 (refS hR.fr.2.2.2.2.2.2.2.2.1 (And.intro k70 (c9_last (w := sS w 70 lo hi) k70 (fun e => ?_) (fun j hj e => ?_))))
      · have hno : ∀ g, ¬ Hv m c (nI n) g := by
          intro g hg
          have g1 := hvl g hg
          rcases hb g hg with y | ⟨f', y1, y2, -⟩
          · rw [← etS, e g (by omega)] at y; cases y
          · rw [← etS, e f' y1] at y2; cases y2
        rw [lend_0 (fun f q => hno f q.1)] at hq
        refine And.intro k3 (c10_at hRc hI (fun _ => ?_) (fun k ek hk => ?_))
        · have e17 : cdI (-17) = -17 := cIf_t (by decide)
          rw [e17] at hq
          exact hq
        · rw [i32_eq, nI_t (by omega)] at ek
          have : ((-1 : Int32)).toInt = -1 := rfl
          omega
      · rw [etS] at e
        have hj1 := ha j hj e
        have hj2 := hvl j hj1
        have mx : Mx m c (nI n) j := by
          refine ⟨hj1, fun g hg hne hfo => ?_⟩
          rcases hb g hg with y | ⟨f', y1, y2, y3⟩
          · exact hne (ct_one z (by have := hvl g hg; omega) hj y e)
          · have e2 : f' = j := ct_one z y1 hj y2 e
            subst e2
            rw [fo2 _ _ hj2.2.2] at y3
            rw [fo2 _ _ (hvl g hg).2.2] at hfo
            exact hA _ (y3.tr hfo)
        have mu : ∀ g, Mx m c (nI n) g → g = j := by
          intro g hg
          rcases hb g hg.1 with y | ⟨f', y1, y2, y3⟩
          · exact ct_one z (by have := hvl g hg.1; omega) hj y e
          · have e2 : f' = j := ct_one z y1 hj y2 e
            subst e2
            exact Classical.byContradiction (fun ne => hg.2 f' hj1 (fun q => ne q.symm) y3)
        rw [lend_1 mx mu] at hq
        have hm10 := (hI.mbs (i := j) (by omega)).2.1
        refine And.intro k3 (c10_at hRc hI (fun y => absurd ⟨j, rfl, hj2.2.1⟩ y) (fun k ek hk => ?_))
        rw [nI_eqI (by omega) (by omega)] at ek
        subst ek
        refine And.intro (hRc.tk j hk).2.1 (c8_methodNamed hRc hI hk hn (fun y => absurd y hj1.2.1) (fun i ei hi2 => ?_))
        refine And.intro (hRc.bk j i hk hi2).2 (c3_code hRc hI hk hi2 ?_)
        have e3 : cdI (nI (codeN m (nI n) j)) = nI (100 * j + i) := by
          unfold cdI codeN
          rw [ei, tn_nI (by omega), cIf_f (nI_pos (by omega)), tn_nI (by omega)]
          unfold tld2
          congr 1; omega
        rw [e3] at hq
        exact hq
    · obtain ⟨a, b, a1, b1, ab, a2, b2⟩ := ct_two (p := fun i => bt2 lo hi i) (n := 128) (by omega)
      have hnf : nT m ≤ f := hd.resolve_right (by omega)
      have mx : ∀ g, g < 128 → bt2 lo hi g = true → Mx m c (nI n) g := by
        intro g hg eg
        refine ⟨ha g hg eg, fun x hx hne hfo => ?_⟩
        rcases hb x hx with y | ⟨f', y1, y2, y3⟩
        · exact hcc x (by have := hvl x hx; omega) y g hg eg hfo
        · refine hcc f' (by have := hvl f' (ha f' y1 y2); omega) y2 g hg eg ?_
          have hf2 := (hvl f' (ha f' y1 y2)).2.2
          rw [fo2 _ _ hf2] at y3 ⊢
          rw [fo2 _ _ (hvl x hx).2.2] at hfo
          exact y3.tr hfo
      rw [lend_2 ab (mx a a1 a2) (mx b b1 b2)] at hq
      have e19 : cdI (-19) = -19 := cIf_t (by decide)
      rw [e19] at hq
      exact hq
  have loop : ∀ (k f : Nat) (lo hi : Int64), f + k = nT m → (∀ g, g < 128 → bt2 lo hi g = true → Hv m c (nI n) g) → (∀ g, Hv m c (nI n) g → bt2 lo hi g = true ∨ ∃ f', f' < 128 ∧ bt2 lo hi f' = true ∧ FOf m f' g) → (∀ f', f' < f → bt2 lo hi f' = true → ∀ g, g < 128 → bt2 lo hi g = true → ¬ FOf m f' g) →
      Wq G M10_lentBodyFor 20 [some (.ref 3), some (.ref (aT A c)), some (.int (nI n)), some (.int (nI f)), none] [] (0, 0) (sS w 70 lo hi) Q := by
    intro k
    induction k with
    | zero =>
      intro f lo hi hf ha hb hcc
      have hcnt : gI (sS w 70 lo hi) 9 3 3 = nI (nT m) := hR.cnt hI
      refine Wq.go ok10_lentBodyFor 20 [72] ?_
      refine And.intro k3 (And.intro (fun _ => fin lo hi f ha hb hcc (Or.inl (by omega))) (fun z => absurd (by rw [hcnt, nI_leI (by omega) (by omega)]; omega) z))
    | succ k ih =>
      intro f lo hi hf ha hb hcc
      have hRc : Rep A m (sS w 70 lo hi) := hR.cd ⟨lo, hi, rfl⟩
      have hcnt : gI (sS w 70 lo hi) 9 3 3 = nI (nT m) := hR.cnt hI
      have etS : ∀ j, tS (sS w 70 lo hi) 70 j = bt2 lo hi j := tS_at w 70 lo hi
      have ect : fb_ct (fun i => tS (sS w 70 lo hi) 70 i) 128 = fb_ct (fun i => bt2 lo hi i) 128 := fb_ct_cong (fun i _ => etS i)
      have hle := fb_ct_le (fun i => bt2 lo hi i) 128
      have hfT : f < nT m := by omega
      have tf := hR.tk f hfT
      refine Wq.go ok10_lentBodyFor 40 [66, 72] ?_
      refine And.intro k3 (And.intro (fun z => ?_) (fun z => And.intro k3 (refS hR.fr.2.2.2.2.2.2.2.2.1 (And.intro k70 (c9_size (w := sS w 70 lo hi) k70 ?_)))))
      · have z : gI (sS w 70 lo hi) 9 3 3 ≤ nI f := z
        rw [hcnt, nI_leI (by omega) (by omega)] at z; omega
      rw [ect]
      refine And.intro (fun (z2 : nI (fb_ct (fun i => bt2 lo hi i) 128) ≤ 1) => ?_) (fun (z2 : ¬ nI (fb_ct (fun i => bt2 lo hi i) 128) ≤ 1) => ?_)
      · rw [c_1, nI_leI (by omega) (by omega)] at z2
        exact fin lo hi f ha hb hcc (Or.inr z2)
      · have nx : ∀ (l2 h2 : Int64), (∀ g, g < 128 → bt2 l2 h2 g = true → Hv m c (nI n) g) → (∀ g, Hv m c (nI n) g → bt2 l2 h2 g = true ∨ ∃ f', f' < 128 ∧ bt2 l2 h2 f' = true ∧ FOf m f' g) → (∀ f', f' < f + 1 → bt2 l2 h2 f' = true → ∀ g, g < 128 → bt2 l2 h2 g = true → ¬ FOf m f' g) →
            Wq G M10_lentBodyFor 66 [some (.ref 3), some (.ref (aT A c)), some (.int (nI n)), some (.int (nI f)), none] [] (0, 0) (sS w 70 l2 h2) Q := by
          intro l2 h2 xa xb xc
          refine Wq.go ok10_lentBodyFor 20 [20] ?_
          show Wq G M10_lentBodyFor 20 [some (.ref 3), some (.ref (aT A c)), some (.int (nI n)), some (.int (nI f + 1)), none] [] (0, 0) (sS w 70 l2 h2) Q
          rw [nI_1]
          exact ih (f + 1) l2 h2 (by omega) xa xb xc
        refine And.intro k3 (refS hR.fr.2.2.2.2.2.2.2.2.1 (And.intro k70 (c9_has (w := sS w 70 lo hi) k70 (by omega) ?_)))
        rw [etS]
        refine And.intro (fun z3 => ?_) (fun z3 => ?_)
        · rw [bI_0] at z3
          refine nx lo hi ha hb (fun f' hf' ef' => ?_)
          rcases Nat.lt_or_ge f' f with y | y
          · exact hcc f' y ef'
          · have : f' = f := by omega
            subst this
            exact absurd ef' z3
        · rw [bI_n0] at z3
          have hvf := ha f (by omega) z3
          have hf2 := (hvl f hvf).2.2
          refine And.intro k3 (refS hR.fr.2.2.2.2.2.2.2.2.1 (And.intro k3 (refS hR.fr.2.2.2.2.2.2.1 ?_)))
          refine And.intro (And.intro (show refK (gN w 0 4) = true by rw [k4.1]; rfl) (show vp_in (nI f) (gN w 1 4) by rw [k4.2]; exact in_nI (by omega) (by decide))) ?_
          rw [nI_clamp (by omega)]
          refine refS (show gR (sS w 70 lo hi) 23 4 f = some (aT A f) from tf.1) (And.intro tf.2.1 (refS (hR.ts f hfT).2.2.2.2.2.2.2.1 (And.intro k70 ?_)))
          obtain ⟨nf1, nf2⟩ := tyU_ne hR hfT
          refine c9_removeAll (w := sS w 70 lo hi) k70 tf.2.2.1 (fun l2 h2 hb2 => ?_)
          rw [sS_sS]
          have hb3 : ∀ g, g < 128 → bt2 l2 h2 g = (bt2 lo hi g && !tS w (aT A f + 1) g) := by
            intro g hg
            rw [hb2 g hg, etS, tS_ne _ _ _ nf1]
          have up : ∀ g, g < 128 → (tS w (aT A f + 1) g = true ↔ FO1 m f g) := by
            intro g hg
            rw [(hR.tu f hfT g hg).1]
            unfold UpP
            rw [fo2 _ _ hf2, hf2]
            exact ⟨fun y => y.elim (fun y => absurd y.1 (by decide)) id, Or.inr⟩
          have sub : ∀ g, g < 128 → (bt2 l2 h2 g = true ↔ bt2 lo hi g = true ∧ ¬ FO1 m f g) := by
            intro g hg
            rw [hb3 g hg, Bool.and_eq_true, ← up g hg]
            cases tS w (aT A f + 1) g <;> simp
          refine nx l2 h2 (fun g hg eg => ha g hg ((sub g hg).mp eg).1) (fun g hg => ?_) (fun f' hf' ef' g hg eg => ?_)
          · have hg1 := hvl g hg
            have ff : bt2 l2 h2 f = true := (sub f (by omega)).mpr ⟨z3, hA f⟩
            by_cases y : FO1 m f g
            · exact Or.inr ⟨f, by omega, ff, (fo2 f g hf2).mpr y⟩
            · rcases hb g hg with q | ⟨f', q1, q2, q3⟩
              · exact Or.inl ((sub g (by omega)).mpr ⟨q, y⟩)
              · have hf'2 := (hvl f' (ha f' q1 q2)).2.2
                by_cases y2 : FO1 m f f'
                · exact absurd (y2.tr ((fo2 f' g hf'2).mp q3)) y
                · exact Or.inr ⟨f', q1, (sub f' q1).mpr ⟨q2, y2⟩, q3⟩
          · rcases Nat.lt_or_ge f' f with y | y
            · exact hcc f' y ((sub f' (by omega)).mp ef').1 g hg ((sub g hg).mp eg).1
            · have : f' = f := by omega
              subst this
              rw [fo2 _ _ hf2]
              exact ((sub g hg).mp eg).2
  refine Con.go hw10_lentBodyFor ok10_lentBodyFor 40 [20] rfl ?_
  refine And.intro k3 (refS hR.fr.2.2.2.2.2.2.2.2.1 (And.intro tk.2.1 (refS (hR.ts c hc).2.2.2.2.2.2.2.1 (And.intro k3 (refS hR.fr.2.2.2.2.2.2.2.1 ?_)))))
  refine And.intro (And.intro (by rw [k59.1]; rfl) (by rw [k59.2]; exact in_nI (by omega) (by decide))) ?_
  rw [nI_clamp (by omega)]
  refine refS (hR.fr.2.2.2.2.2.2.2.2.2.1 n hn) (And.intro k70 ?_)
  refine c9_becomeBoth k70 tk.2.2.1 (k60 n (by omega)) (by omega) ne1 (fun lo hi hb => ?_)
  have hbe : ∀ g, g < 128 → (bt2 lo hi g = true ↔ Hv m c (nI n) g) := by
    intro g hg
    rw [hb g hg, Bool.and_eq_true, (hR.tu c hc g hg).1, hR.le n hn g hg]
    constructor
    · rintro ⟨y1, y2, y3, y4, y5⟩
      refine ⟨?_, y4, y5⟩
      rcases y1 with y1 | y1
      · have := (abvs_in hI c hc hs g y1.2).2.2
        rw [y3] at this; exact absurd this (by decide)
      · exact y1
    · intro y
      have := hvl g y
      exact ⟨Or.inr y.1, this.2.1, this.2.2, y.2.1, y.2.2⟩
  refine loop (nT m - 9) 9 lo hi (by omega) (fun g hg eg => (hbe g hg).mp eg) (fun g hg => Or.inl ((hbe g (by have := hvl g hg; omega)).mpr hg)) (fun f' hf' ef' => ?_)
  have := hvl f' ((hbe f' (by omega)).mp ef')
  omega
theorem c10_bodyFor {c n : Nat} (hR : Rep A m w) (hI : TInv m) (hA : AInv m) (hc : c < nT m) (hs : ma m 0 c = 1) (hn : n < 10) (h : ∀ w', Cd w w' → Q (some (.int (cdI (fdN m c (nI n))))) w') : Con G M10_bodyFor [.ref 3, .ref (aT A c), .int (nI n)] w Q := by
  have h100 := hI.le
  have lent : fsF m (nI n) 0 (abvs m c) = none → ∀ (l3 : Option Value), Wq G M10_bodyFor 45 [some (.ref 3), some (.ref (aT A c)), some (.int (nI n)), l3, none] [] (0, 0) w Q := by
    intro e l3
    refine Wq.ls (ls' := [some (.ref 3), some (.ref (aT A c)), some (.int (nI n)), none, none]) ⟨rfl, rfl, rfl, by cases l3 <;> trivial⟩ ?_
    refine Wq.go ok10_bodyFor 20 [] ?_
    refine And.intro hR.fk.2.1 (c10_lentBodyFor hR hI hA hc hs hn ?_)
    unfold fdN at h
    rw [e] at h
    exact h
  have loop : ∀ (k d : Nat) (l4 : Option Value), d < k → d < nT m → ma m 0 d = 1 → fsF m (nI n) 0 (abvs m d) = fsF m (nI n) 0 (abvs m c) → Wq G M10_bodyFor 2 [some (.ref 3), some (.ref (aT A c)), some (.int (nI n)), some (.ref (aT A d)), l4] [] (0, 0) w Q := by
    intro k
    induction k with
    | zero => intro d l4 hk; omega
    | succ k ih =>
      intro d l4 hk hd hsd he
      have tk := (hR.tk d hd).2.1
      refine Wq.ls (ls' := [some (.ref 3), some (.ref (aT A c)), some (.int (nI n)), some (.ref (aT A d)), none]) ⟨rfl, rfl, rfl, rfl, by cases l4 <;> trivial⟩ ?_
      refine Wq.go ok10_bodyFor 20 [2] ?_
      refine And.intro tk (c8_methodNamed hR hI hd hn (fun e => ?_) (fun j e hj => ?_))
      · by_cases h8 : d = 8
        · have hf : gR w 7 2 (aT A d) = none := by
            rw [(hR.ts d hd).2.2.1]; unfold frA; rw [cIf_t hsd, cIf_t h8]
          refine And.intro tk (refN hf ?_)
          refine Wq.go ok10_bodyFor 20 [45] ?_
          have e2 : fsF m (nI n) 0 (abvs m c) = none := by
            rw [← he, h8, abvs_8]
            rw [h8] at e
            show cIf (mby m 8 (nI n) 0 = -1) _ _ = none
            rw [cIf_t e]; rfl
          exact Wq.ls (ls' := [some (.ref 3), some (.ref (aT A c)), some (.int (nI n)), none, none]) ⟨rfl, rfl, rfl, trivial⟩ (lent e2 none)
        · obtain ⟨u1, u2, u3, u4⟩ := hI.up hd hsd h8
          have hf : gR w 7 2 (aT A d) = some (aT A (upN m d)) := by
            rw [(hR.ts d hd).2.2.1]; unfold frA; rw [cIf_t hsd, cIf_f h8]
          refine And.intro tk (refS hf ?_)
          refine ih (upN m d) _ (by omega) (by omega) u4 ?_
          rw [← he, abvs_c hI hd hsd h8]
          exact (cIf_t e).symm
      · have h10 := (hI.mbs (i := d) (by omega)).2.1
        have e2 : fsF m (nI n) 0 (abvs m c) = some (10 * d + j) := by
          rw [← he]
          have : abvs m d = d :: (abvs m d).tail := rfl
          rw [this]
          show cIf (mby m d (nI n) 0 = -1) _ _ = _
          rw [e, cIf_f (by rw [i32_eq, nI_t (by omega)]; intro z; have : ((-1 : Int32)).toInt = -1 := rfl; omega), tn_nI (by omega)]
        obtain ⟨b1, b2⟩ := hR.bk d j hd hj
        obtain ⟨s1, s2, s3, s4, s5, s6, s7, s8⟩ := hR.bs d j hd hj
        have h8 : ma m 8 (10 * d + j) = 0 := by
          rcases mby_cases m d (nI n) 0 with q | ⟨i, g1, g2, g3, -⟩
          · rw [q, i32_eq, nI_t (by omega)] at e
            have : ((-1 : Int32)).toInt = -1 := rfl
            omega
          · rw [g2, nI_eqI (by omega) (by omega)] at e
            subst e; exact g3
        rw [cIf_t h8] at s7
        have hq := h w (Cd.rf w)
        unfold fdN at hq
        rw [e2] at hq
        have hq : Q (some (.int (cdI (cIf (ma m 12 (10 * d + j) = 0) (-17) (nI (10 * d + j)))))) w := hq
        refine And.intro b2 (And.intro (fun z => ?_) (fun z => ?_)) <;> rw [s7] at z
        · rw [cIf_f z] at hq
          refine And.intro b2 (c3_code hR hI hd hj ?_)
          have e3 : cdI (nI (10 * d + j)) = nI (100 * d + j) := by
            unfold cdI
            rw [cIf_f (nI_pos (by omega)), tn_nI (by omega)]
            unfold tld2
            congr 1; omega
          rw [e3] at hq
          exact hq
        · rw [cIf_t z] at hq
          have e17 : cdI (-17) = -17 := cIf_t (by decide)
          rw [e17] at hq
          exact hq
  refine Con.go hw10_bodyFor ok10_bodyFor 20 [2] rfl ?_
  exact loop (c + 1) c none (by omega) hc hs rfl
end
