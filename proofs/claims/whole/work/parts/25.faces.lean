/-! ===== the faces of a type ===== -/
theorem fb_holes : ∀ (m n : Nat) (f : Nat → Nat), (∀ i, i < n → f i < m) → (∀ i j, i < j → j < n → f i ≠ f j) → n ≤ m := by
  intro m
  induction m with
  | zero =>
    intro n f h1 _
    rcases Nat.eq_zero_or_pos n with h | h
    · omega
    · exact absurd (h1 0 h) (Nat.not_lt_zero _)
  | succ m ih =>
    intro n f h1 h2
    by_cases hx : ∃ i, i < n ∧ f i = m
    · obtain ⟨a, ha, hfa⟩ := hx
      have hg := ih (n - 1) (fun i => if i < a then f i else f (i + 1)) (by
        intro i hi
        by_cases q : i < a
        · simp only [if_pos q]
          have b1 := h1 i (by omega)
          have b2 := h2 i a q ha
          omega
        · simp only [if_neg q]
          have b1 := h1 (i + 1) (by omega)
          have b2 := h2 a (i + 1) (by omega) (by omega)
          omega) (by
        intro i j hij hj
        by_cases q : i < a
        · by_cases r : j < a
          · simp only [if_pos q, if_pos r]
            exact h2 i j hij (by omega)
          · simp only [if_pos q, if_neg r]
            exact h2 i (j + 1) (by omega) (by omega)
        · have r : ¬ j < a := by omega
          simp only [if_neg q, if_neg r]
          exact h2 (i + 1) (j + 1) (by omega) (by omega))
      omega
    · have hg := ih n f (fun i hi => by
        have b1 := h1 i hi
        have b2 : f i ≠ m := fun e => hx ⟨i, hi, e⟩
        omega) h2
      omega
/-- two of them in one place -/

theorem sub_m1 (x : Int32) : x + (-1) = x - 1 := (Int32.sub_eq_add_neg x 1).symm
/-- the scribbles of the listing of faces alone -/
def sc1 (r k : Nat) : Bool := bif Nat.beq r 12 then Nat.beq k 18 else bif Nat.beq r 40 then Nat.ble 15 k && Nat.ble k 17 else false
def mpf (w : qSt) : qSt := (fun r k i => bif sc1 r k then 0 else gI w r k i, w.2)
def Sf (w w' : qSt) : Prop := mpf w' = mpf w
theorem Sf.rf {w : qSt} : Sf w w := rfl
theorem Sf.tr {a b c : qSt} (h : Sf a b) (h' : Sf b c) : Sf a c := h'.trans h
theorem Sf.I {w w' : qSt} (h : Sf w w') {r k i : Nat} {v : Int32} (hs : sc1 r k = true) (_ : isM r = true) : Sf w (sI w' r k i v) := by
  refine Eq.trans ?_ h
  refine st_ext ?_ rfl rfl rfl
  funext r' k' i'
  show (bif sc1 r' k' then 0 else u3 w'.1 r k i v r' k' i') = (bif sc1 r' k' then 0 else w'.1 r' k' i')
  by_cases e : r' = r ∧ k' = k ∧ i' = i
  · obtain ⟨rfl, rfl, rfl⟩ := e
    simp [hs]
  · rw [u3_off _ _ e]
theorem Sf.c {α : Sort _} {w w' : qSt} (h : Sf w w') (P : qSt → α) (hP : ∀ w, P (mpf w) = P w) : P w' = P w := by rw [← hP w', show mpf w' = mpf w from h, hP]
theorem sc1_sc (r k : Nat) (h : sc1 r k = true) : isM r = true ∧ scI r k = true := by
  unfold sc1 at h
  cases h12 : Nat.beq r 12 with
  | true =>
    simp only [h12, cond_true] at h
    exact ⟨by simp [isM, h12], by simp [scI, h12, h]⟩
  | false =>
    simp only [h12, cond_false] at h
    cases h40 : Nat.beq r 40 with
    | true =>
      simp only [h40, cond_true, Bool.and_eq_true] at h
      refine ⟨by simp [isM, h40], ?_⟩
      have h1 := Nat.le_of_ble_eq_true h.2
      simp [scI, h12, h40, h.1]
      omega
    | false => simp [h40] at h
theorem Sf.toSc {w w' : qSt} (h : Sf w w') : Sc w w' := by
  have h1 : ∀ r k i, sc1 r k = false → gI w' r k i = gI w r k i := by
    intro r k i hs
    have := congrFun (congrFun (congrFun (congrArg (fun w : qSt => w.1) h) r) k) i
    have e : (bif sc1 r k then 0 else gI w' r k i) = (bif sc1 r k then 0 else gI w r k i) := this
    rw [hs] at e
    exact e
  have h2 : w'.2 = w.2 := by
    have h0 : mpf w' = mpf w := h
    have h2' := congrArg (fun w : qSt => w.2) h0
    exact h2'
  constructor
  · refine st_ext ?_ ?_ rfl rfl
    · funext r k i
      show (bif isM r && !scI r k then gI w' r k i else 0) = (bif isM r && !scI r k then gI w r k i else 0)
      cases hs : sc1 r k with
      | true => simp [(sc1_sc r k hs).2]
      | false => rw [h1 r k i hs]
    · show (fun r k i => bif isM r && !scJ r k then gJ w' r k i else 0) = _
      rw [show gJ w' = gJ w by show w'.2.1 = w.2.1; rw [h2]]; rfl
  · refine st_ext ?_ ?_ ?_ ?_
    · funext r k i
      show (bif isM r then 0 else gI w' r k i) = (bif isM r then 0 else gI w r k i)
      cases hs : sc1 r k with
      | true => simp [(sc1_sc r k hs).1]
      | false => rw [h1 r k i hs]
    · show (fun r k i => bif isM r then 0 else gJ w' r k i) = _
      rw [show gJ w' = gJ w by show w'.2.1 = w.2.1; rw [h2]]; rfl
    · show w'.2.2.1 = w.2.2.1; rw [h2]
    · show w'.2.2.2 = w.2.2.2; rw [h2]
def tld (m : qSt) (t g : Nat) : Prop := ∃ k, k < nF m t ∧ fcN m t k = g
/-- f is told of t, or of one told of it, and so on -/
def FO1 (m : qSt) (t f : Nat) : Prop := ∀ P : Nat → Prop, (∀ g, tld m t g → P g) → (∀ a g, P a → tld m a g → P g) → P f
theorem FO1.base {m : qSt} {t g : Nat} (h : tld m t g) : FO1 m t g := fun _ h1 _ => h1 g h
theorem FO1.step {m : qSt} {t a g : Nat} (h : FO1 m t a) (hg : tld m a g) : FO1 m t g := fun P h1 h2 => h2 a g (h P h1 h2) hg
theorem FO1.tr {m : qSt} {t a f : Nat} (h : FO1 m t a) (h' : FO1 m a f) : FO1 m t f := h' (FO1 m t) (fun _ q => h.step q) (fun _ _ p q => p.step q)
/-- f is among the faces of t -/
def FOf (m : qSt) (t f : Nat) : Prop := (ma m 0 t = 2 ∧ FO1 m t f) ∨ (ma m 0 t = 1 ∧ ∃ c ∈ abvs m t, FO1 m c f)
theorem tld_in {m : qSt} (h : TInv m) {t g : Nat} (ht : t < 100) (hg : tld m t g) : 9 ≤ g ∧ g < nT m ∧ ma m 0 g = 2 := by
  obtain ⟨k, hk, rfl⟩ := hg
  exact ((h.fac ht).2.2.2 k hk).2
theorem FO1.in_ {m : qSt} (h : TInv m) {t f : Nat} (ht : t < 100) (hf : FO1 m t f) : 9 ≤ f ∧ f < nT m ∧ ma m 0 f = 2 :=
  hf (fun f => 9 ≤ f ∧ f < nT m ∧ ma m 0 f = 2) (fun _ q => tld_in h ht q) (fun a g p q => tld_in h (by have := h.le; omega) q)
abbrev Lst (w : qSt) (f : Nat) : Prop := ma w 16 f = 1
/-- the list of faces, as it is written -/
def LI (w : qSt) (n : Nat) (l : Nat → Nat) : Prop := mi w 18 = nI n ∧ (∀ k, k < n → ma w 15 k = nI (l k) ∧ 9 ≤ l k ∧ l k < nT w ∧ Lst w (l k)) ∧ (∀ i j, i < j → j < n → l i ≠ l j) ∧ ∀ f, f < 100 → ma w 16 f = 0 ∨ (Lst w f ∧ ∃ k, k < n ∧ l k = f)
theorem LI.le {w : qSt} {n : Nat} {l : Nat → Nat} (h : LI w n l) (hT : nT w ≤ 100) : n ≤ 100 := fb_holes 100 n l (fun i hi => by have := (h.2.1 i hi).2.2.1; omega) h.2.2.1
theorem LI.lt {w : qSt} {n : Nat} {l : Nat → Nat} (h : LI w n l) (hT : nT w ≤ 100) {f : Nat} (hf : f < nT w) (hn : ¬ Lst w f) : n < 100 := by
  have := fb_holes 100 (n + 1) (fun i => if i = n then f else l i) (fun i hi => by
    by_cases e : i = n
    · simp only [if_pos e]; omega
    · simp only [if_neg e]; have := (h.2.1 i (by omega)).2.2.1; omega) (fun i j hij hj => by
    by_cases e : j = n
    · simp only [if_pos e, if_neg (show ¬ i = n by omega)]
      intro q
      have := (h.2.1 i (by omega)).2.2.2
      rw [q] at this
      exact hn this
    · simp only [if_neg e, if_neg (show ¬ i = n by omega)]
      exact h.2.2.1 i j hij (by omega))
  omega
/-- the walk over the faces: what holds whenever one is taken from the heap of those that wait -/
def LSt (w : qSt) (t : Nat) (w1 : qSt) (n : Nat) (l : Nat → Nat) (many : Nat) (s : Nat → Nat) : Prop :=
  Sf w w1 ∧ LI w1 n l ∧ many ≤ 4 + 4 * n ∧ (∀ i, i < many → ma w1 17 i = nI (s i) ∧ 9 ≤ s i ∧ s i < nT w ∧ FO1 w t (s i)) ∧ (∀ f, f < 100 → Lst w f → Lst w1 f) ∧ (∀ f, f < 100 → Lst w1 f → Lst w f ∨ FO1 w t f) ∧
  (∀ f, f < 100 → Lst w1 f → ∀ g, tld w f g → Lst w1 g ∨ ∃ i, i < many ∧ s i = g) ∧ (∀ g, tld w t g → Lst w1 g ∨ ∃ i, i < many ∧ s i = g)
section
variable {G : qGX} {w : qSt} {Q : Option Value → qSt → Prop}
theorem c12_listFaces {t n0 : Nat} {l0 : Nat → Nat} (hI : TInv w) (ht : t < 100) (hL : LI w n0 l0) (hC : ∀ f, f < 100 → Lst w f → ∀ g, tld w f g → Lst w g)
    (h : ∀ w' n' l', Sf w w' → LI w' n' l' → (∀ f, f < 100 → (Lst w' f ↔ Lst w f ∨ FO1 w t f)) → Q none w') : Con G M12_listFaces [.ref 79, .int (nI t)] w Q := by
  have h100 := hI.le
  have loop : ∀ (N : Nat) (w1 : qSt) (n : Nat) (l : Nat → Nat) (many : Nat) (s : Nat → Nat), LSt w t w1 n l many s → 500 * (100 - n) + many < N → Wq G M12_listFaces 40 [some (.ref 79), some (.int (nI t)), some (.int (nI many)), none, none] [] (0, 0) w1 Q := by
    intro N
    induction N with
    | zero => intro w1 n l many s _ h0; omega
    | succ N ih =>
      intro w1 n l many s hS hN
      obtain ⟨hSc, hLI, hm, hst, ha, hb, hc, hd⟩ := hS
      have eT : nT w1 = nT w := hSc.c nT (fun _ => rfl)
      have hn100 := hLI.le (by omega)
      cases many with
      | zero =>
        refine Wq.go ok12_listFaces 30 [] ?_
        refine And.intro (fun _ => ?_) (fun c => absurd (by decide) c)
        refine h w1 n l hSc hLI (fun f hf => ⟨hb f hf, fun q => ?_⟩)
        rcases q with q | q
        · exact ha f hf q
        · have := q (fun g => g < 100 ∧ Lst w1 g) (fun g hg => ⟨by have := tld_in hI ht hg; omega, (hd g hg).elim id (fun ⟨i, hi, _⟩ => by omega)⟩) (fun a g pa hg => ⟨by have := tld_in hI pa.1 hg; omega, (hc a pa.1 pa.2 g hg).elim id (fun ⟨i, hi, _⟩ => by omega)⟩)
          exact this.2
      | succ k =>
        obtain ⟨s1, s2, s3, s4⟩ := hst k (by omega)
        have hin500 : vp_in (nI (k + 1) + (-1)) 500 := by rw [pk_m1]; exact in_nI (by omega) (by decide)
        have ek : (nI (k + 1) + (-1)).toNatClampNeg = k := by rw [pk_m1]; exact nI_clamp (by omega)
        have inf : vp_in (ma w1 17 (nI (k + 1) + (-1)).toNatClampNeg) 100 := by rw [ek, s1]; exact in_nI (by omega) (by decide)
        have ef : (ma w1 17 (nI (k + 1) + (-1)).toNatClampNeg).toNatClampNeg = s k := by rw [ek, s1]; exact nI_clamp (by omega)
        refine Wq.go ok12_listFaces 60 [40, 100] ?_
        refine And.intro (fun c => absurd c (nI_nle (by omega) (by omega))) (fun _ => ?_)
        refine And.intro hin500 (And.intro inf (And.intro (fun c => ?_) (fun c => ?_)))
        · -- it is listed already
          have cL : Lst w1 (s k) := by
            have c' : ¬ ma w1 16 (ma w1 17 (nI (k + 1) + (-1)).toNatClampNeg).toNatClampNeg = 0 := c
            rw [ef] at c'
            rcases hLI.2.2.2 (s k) (by omega) with q | q
            · exact absurd q c'
            · exact q.1
          show Wq G M12_listFaces 40 [some (.ref 79), some (.int (nI t)), some (.int (nI (k + 1) + (-1))), some (.int (ma w1 17 (nI (k + 1) + (-1)).toNatClampNeg)), none] [] (0, 0) w1 Q
          rw [pk_m1]
          refine Wq.ls (ls' := [some (.ref 79), some (.int (nI t)), some (.int (nI k)), none, none]) ⟨rfl, rfl, rfl, trivial⟩ ?_
          refine ih w1 n l k s ⟨hSc, hLI, by omega, fun i hi => hst i (by omega), ha, hb, fun f hf hl g hg => ?_, fun g hg => ?_⟩ (by omega)
          · rcases hc f hf hl g hg with q | ⟨i, hi, e⟩
            · exact Or.inl q
            · by_cases ei : i = k
              · subst ei; rw [← e]; exact Or.inl cL
              · exact Or.inr ⟨i, by omega, e⟩
          · rcases hd g hg with q | ⟨i, hi, e⟩
            · exact Or.inl q
            · by_cases ei : i = k
              · subst ei; rw [← e]; exact Or.inl cL
              · exact Or.inr ⟨i, by omega, e⟩
        · -- it comes to the list, those told of it come to those that wait
          have c0 : ma w1 16 (s k) = 0 := by
            have c' : ma w1 16 (ma w1 17 (nI (k + 1) + (-1)).toNatClampNeg).toNatClampNeg = 0 := c
            rw [ef] at c'; exact c'
          have cN : ¬ Lst w1 (s k) := fun q => by rw [show ma w1 16 (s k) = 1 from q] at c0; exact absurd c0 (by decide)
          have hnlt : n < 100 := hLI.lt (by omega) (by omega) cN
          have e18 : mi w1 18 = nI n := hLI.1
          have inn : vp_in (mi w1 18) 100 := by rw [e18]; exact in_nI (by omega) (by decide)
          have en : (mi w1 18).toNatClampNeg = n := by rw [e18]; exact nI_clamp (by omega)
          refine And.intro rfl (And.intro inf (And.intro inn (And.intro inf ?_)))
          show Wq G M12_listFaces 100 [some (.ref 79), some (.int (nI t)), some (.int (nI (k + 1) + (-1))), some (.int (ma w1 17 (nI (k + 1) + (-1)).toNatClampNeg)), some (.int (ma w1 5 (ma w1 17 (nI (k + 1) + (-1)).toNatClampNeg).toNatClampNeg - 1))] [] (0, 0) (sI (sI (sI w1 40 16 (ma w1 17 (nI (k + 1) + (-1)).toNatClampNeg).toNatClampNeg 1) 40 15 (mi w1 18).toNatClampNeg (ma w1 17 (nI (k + 1) + (-1)).toNatClampNeg)) 12 18 0 (mi w1 18 + 1)) Q
          rw [ef, ek, s1, en, e18, nI_1, pk_m1]
          obtain ⟨f1, f2, f3, f4⟩ := hI.fac (i := s k) (by omega)
          have e5 : ma w1 5 = ma w 5 := hSc.c (fun w => ma w 5) (fun _ => rfl)
          have e6 : ma w1 6 = ma w 6 := hSc.c (fun w => ma w 6) (fun _ => rfl)
          rw [show ma w1 5 (s k) = nI (nF w (s k)) by rw [e5]; exact f1]
          -- the state with the face listed
          have hSc2 : Sf w (sI (sI (sI w1 40 16 (s k) 1) 40 15 n (nI (s k))) 12 18 0 (nI (n + 1))) := ((hSc.I rfl rfl).I rfl rfl).I rfl rfl
          generalize hw2 : sI (sI (sI w1 40 16 (s k) 1) 40 15 n (nI (s k))) 12 18 0 (nI (n + 1)) = w2 at hSc2
          have r16 : ∀ f, ma w2 16 f = if f = s k then 1 else ma w1 16 f := by
            intro f
            rw [← hw2]
            show u3 w1.1 40 16 (s k) 1 40 16 f = _
            by_cases e : f = s k
            · rw [if_pos e, e, u3_at]
            · rw [if_neg e, u3_off _ _ (fun q => e q.2.2)]
          have r15 : ∀ j, ma w2 15 j = if j = n then nI (s k) else ma w1 15 j := by
            intro j
            rw [← hw2]
            show u3 (u3 w1.1 40 16 (s k) 1) 40 15 n (nI (s k)) 40 15 j = _
            by_cases e : j = n
            · rw [if_pos e, e, u3_at]
            · rw [if_neg e, u3_off _ _ (fun q => e q.2.2)]; rfl
          have r17 : ma w2 17 = ma w1 17 := by rw [← hw2]; rfl
          have r18 : mi w2 18 = nI (n + 1) := by rw [← hw2]; rfl
          have eT2 : nT w2 = nT w := hSc2.c nT (fun _ => rfl)
          have L2 : ∀ f, Lst w2 f ↔ f = s k ∨ Lst w1 f := by
            intro f
            show ma w2 16 f = 1 ↔ _
            rw [r16]
            by_cases e : f = s k
            · rw [if_pos e]; exact ⟨fun _ => Or.inl e, fun _ => rfl⟩
            · rw [if_neg e]; exact ⟨Or.inr, fun q => q.elim (fun q => absurd q e) id⟩
          have hLI2 : LI w2 (n + 1) (fun i => if i = n then s k else l i) := by
            refine ⟨r18, fun j hj => ?_, fun i j hij hj => ?_, fun f hf => ?_⟩
            · by_cases e : j = n
              · simp only [if_pos e]
                refine ⟨by rw [r15, if_pos e], s2, by omega, (L2 _).mpr (Or.inl rfl)⟩
              · simp only [if_neg e]
                obtain ⟨q1, q2, q3, q4⟩ := hLI.2.1 j (by omega)
                exact ⟨by rw [r15, if_neg e]; exact q1, q2, by omega, (L2 _).mpr (Or.inr q4)⟩
            · by_cases e : j = n
              · simp only [if_pos e, if_neg (show ¬ i = n by omega)]
                intro q
                exact cN (q ▸ (hLI.2.1 i (by omega)).2.2.2)
              · simp only [if_neg e, if_neg (show ¬ i = n by omega)]
                exact hLI.2.2.1 i j hij (by omega)
            · by_cases e : f = s k
              · exact Or.inr ⟨(L2 _).mpr (Or.inl e), n, by omega, by simp [e]⟩
              · rcases hLI.2.2.2 f hf with q | ⟨q1, j, hj, q2⟩
                · exact Or.inl (by rw [r16, if_neg e]; exact q)
                · exact Or.inr ⟨(L2 _).mpr (Or.inr q1), j, by omega, by simp only [if_neg (show ¬ j = n by omega)]; exact q2⟩
          -- the pushing of those told of it
          have push : ∀ (j : Nat) (w3 : qSt) (many : Nat) (s' : Nat → Nat), j ≤ nF w (s k) → many + j = k + nF w (s k) → Sf w w3 → LI w3 (n + 1) (fun i => if i = n then s k else l i) → (∀ f, ma w3 16 f = ma w2 16 f) → (∀ i, i < many → ma w3 17 i = nI (s' i) ∧ 9 ≤ s' i ∧ s' i < nT w ∧ FO1 w t (s' i)) → (∀ i, i < k → s' i = s i) → (∀ q, j ≤ q → q < nF w (s k) → ∃ i, i < many ∧ s' i = fcN w (s k) q) →
              Wq G M12_listFaces 100 [some (.ref 79), some (.int (nI t)), some (.int (nI many)), some (.int (nI (s k))), some (.int (nI j - 1))] [] (0, 0) w3 Q := by
            intro j
            induction j with
            | zero =>
              intro w3 many s' hj hm3 hSc3 hLI3 h16 hst3 hpre hall
              refine Wq.go ok12_listFaces 30 [40] ?_
              refine And.intro (fun _ => ?_) (fun c => absurd (by decide) c)
              refine Wq.ls (ls' := [some (.ref 79), some (.int (nI t)), some (.int (nI many)), none, none]) ⟨rfl, rfl, rfl, trivial⟩ ?_
              have L3 : ∀ f, Lst w3 f ↔ f = s k ∨ Lst w1 f := fun f => by show ma w3 16 f = 1 ↔ _; rw [h16]; exact L2 f
              refine ih w3 (n + 1) _ many s' ⟨hSc3, hLI3, by omega, hst3, fun f hf q => (L3 f).mpr (Or.inr (ha f hf q)), fun f hf q => ?_, fun f hf q g hg => ?_, fun g hg => ?_⟩ (by omega)
              · rcases (L3 f).mp q with e | e
                · rw [e]; exact Or.inr s4
                · exact hb f hf e
              · rcases (L3 f).mp q with e | e
                · rw [e] at hg
                  obtain ⟨q1, hq1, hq2⟩ := hg
                  obtain ⟨i, hi, e2⟩ := hall q1 (Nat.zero_le _) hq1
                  exact Or.inr ⟨i, hi, e2.trans hq2⟩
                · rcases hc f hf e g hg with q2 | ⟨i, hi, e2⟩
                  · exact Or.inl ((L3 g).mpr (Or.inr q2))
                  · by_cases ei : i = k
                    · rw [ei] at e2; exact Or.inl ((L3 g).mpr (Or.inl e2.symm))
                    · exact Or.inr ⟨i, by omega, by rw [hpre i (by omega)]; exact e2⟩
              · rcases hd g hg with q2 | ⟨i, hi, e2⟩
                · exact Or.inl ((L3 g).mpr (Or.inr q2))
                · by_cases ei : i = k
                  · rw [ei] at e2; exact Or.inl ((L3 g).mpr (Or.inl e2.symm))
                  · exact Or.inr ⟨i, by omega, by rw [hpre i (by omega)]; exact e2⟩
            | succ j ihj =>
              intro w3 many s' hj hm3 hSc3 hLI3 h16 hst3 hpre hall
              rw [nI_pred]
              have i1 : vp_in ((4 : Int32) * nI (s k) + nI j) 400 := by rw [ix4]; exact in_nI (by omega) (by decide)
              have i2 : vp_in (nI many) 500 := in_nI (by omega) (by decide)
              refine Wq.go ok12_listFaces 30 [100] ?_
              refine And.intro (fun c => absurd c (nI_pos (by omega))) (fun _ => And.intro i1 (And.intro i2 ?_))
              show Wq G M12_listFaces 100 [some (.ref 79), some (.int (nI t)), some (.int (nI many + 1)), some (.int (nI (s k))), some (.int (nI j + (-1)))] [] (0, 0) (sI w3 40 17 (nI many).toNatClampNeg (ma w3 6 ((4 : Int32) * nI (s k) + nI j).toNatClampNeg)) Q
              obtain ⟨g1, g2, g3, g4⟩ := f4 j (by omega)
              have e63 : ma w3 6 = ma w 6 := hSc3.c (fun w => ma w 6) (fun _ => rfl)
              rw [nI_1, nI_clamp (by omega), ix4, nI_clamp (by omega), e63, g1, sub_m1]
              have r17' : ∀ i, ma (sI w3 40 17 many (nI (fcN w (s k) j))) 17 i = if i = many then nI (fcN w (s k) j) else ma w3 17 i := by
                intro i
                show u3 w3.1 40 17 many _ 40 17 i = _
                by_cases e : i = many
                · rw [if_pos e, e, u3_at]
                · rw [if_neg e, u3_off _ _ (fun q => e q.2.2)]
              refine ihj _ (many + 1) (fun i => if i = many then fcN w (s k) j else s' i) (by omega) (by omega) (hSc3.I rfl rfl) hLI3 h16 (fun i hi => ?_) (fun i hi => ?_) (fun q1 hq1 hq2 => ?_)
              · rw [r17']
                by_cases e : i = many
                · simp only [if_pos e]
                  exact ⟨trivial, g2, g3, s4.step ⟨j, by omega, rfl⟩⟩
                · simp only [if_neg e]
                  exact hst3 i (by omega)
              · simp only [if_neg (show ¬ i = many by omega)]
                exact hpre i hi
              · by_cases e : q1 = j
                · exact ⟨many, by omega, by simp [e]⟩
                · obtain ⟨i, hi, e2⟩ := hall q1 (by omega) hq2
                  exact ⟨i, by omega, by simp only [if_neg (show ¬ i = many by omega)]; exact e2⟩
          exact push (nF w (s k)) w2 k s (Nat.le_refl _) rfl hSc2 hLI2 (fun _ => rfl) (fun i hi => by rw [r17]; exact hst i (by omega)) (fun _ _ => rfl) (fun q hq1 hq2 => absurd hq2 (by omega))
  -- those told of t itself
  obtain ⟨f1, f2, f3, f4⟩ := hI.fac ht
  have first : ∀ (j : Nat) (w3 : qSt) (many : Nat) (s' : Nat → Nat), j ≤ nF w t → many + j = nF w t → Sf w w3 → LI w3 n0 l0 → (∀ f, ma w3 16 f = ma w 16 f) → (∀ i, i < many → ma w3 17 i = nI (s' i) ∧ 9 ≤ s' i ∧ s' i < nT w ∧ FO1 w t (s' i)) → (∀ q, j ≤ q → q < nF w t → ∃ i, i < many ∧ s' i = fcN w t q) →
      Wq G M12_listFaces 11 [some (.ref 79), some (.int (nI t)), some (.int (nI many)), some (.int (nI j - 1)), none] [] (0, 0) w3 Q := by
    intro j
    induction j with
    | zero =>
      intro w3 many s' hj hm3 hSc3 hLI3 h16 hst3 hall
      refine Wq.go ok12_listFaces 30 [40] ?_
      refine And.intro (fun _ => ?_) (fun c => absurd (by decide) c)
      refine Wq.ls (ls' := [some (.ref 79), some (.int (nI t)), some (.int (nI many)), none, none]) ⟨rfl, rfl, rfl, trivial⟩ ?_
      have L3 : ∀ f, Lst w3 f ↔ Lst w f := fun f => by show ma w3 16 f = 1 ↔ _; rw [h16]
      refine loop _ w3 n0 l0 many s' ⟨hSc3, hLI3, by omega, hst3, fun f hf q => (L3 f).mpr q, fun f hf q => Or.inl ((L3 f).mp q), fun f hf q g hg => Or.inl ((L3 g).mpr (hC f hf ((L3 f).mp q) g hg)), fun g hg => ?_⟩ (Nat.lt_succ_self _)
      obtain ⟨q1, hq1, hq2⟩ := hg
      obtain ⟨i, hi, e2⟩ := hall q1 (Nat.zero_le _) hq1
      exact Or.inr ⟨i, hi, e2.trans hq2⟩
    | succ j ihj =>
      intro w3 many s' hj hm3 hSc3 hLI3 h16 hst3 hall
      rw [nI_pred]
      have i1 : vp_in ((4 : Int32) * nI t + nI j) 400 := by rw [ix4]; exact in_nI (by omega) (by decide)
      have i2 : vp_in (nI many) 500 := in_nI (by omega) (by decide)
      refine Wq.go ok12_listFaces 30 [11] ?_
      refine And.intro (fun c => absurd c (nI_pos (by omega))) (fun _ => And.intro i1 (And.intro i2 ?_))
      show Wq G M12_listFaces 11 [some (.ref 79), some (.int (nI t)), some (.int (nI many + 1)), some (.int (nI j + (-1))), none] [] (0, 0) (sI w3 40 17 (nI many).toNatClampNeg (ma w3 6 ((4 : Int32) * nI t + nI j).toNatClampNeg)) Q
      obtain ⟨g1, g2, g3, g4⟩ := f4 j (by omega)
      have e63 : ma w3 6 = ma w 6 := hSc3.c (fun w => ma w 6) (fun _ => rfl)
      rw [nI_1, nI_clamp (by omega), ix4, nI_clamp (by omega), e63, g1, sub_m1]
      have r17' : ∀ i, ma (sI w3 40 17 many (nI (fcN w t j))) 17 i = if i = many then nI (fcN w t j) else ma w3 17 i := by
        intro i
        show u3 w3.1 40 17 many _ 40 17 i = _
        by_cases e : i = many
        · rw [if_pos e, e, u3_at]
        · rw [if_neg e, u3_off _ _ (fun q => e q.2.2)]
      refine ihj _ (many + 1) (fun i => if i = many then fcN w t j else s' i) (by omega) (by omega) (hSc3.I rfl rfl) hLI3 h16 (fun i hi => ?_) (fun q1 hq1 hq2 => ?_)
      · rw [r17']
        by_cases e : i = many
        · simp only [if_pos e]
          exact ⟨trivial, g2, g3, FO1.base ⟨j, by omega, rfl⟩⟩
        · simp only [if_neg e]
          exact hst3 i (by omega)
      · by_cases e : q1 = j
        · exact ⟨many, by omega, by simp [e]⟩
        · obtain ⟨i, hi, e2⟩ := hall q1 (by omega) hq2
          exact ⟨i, by omega, by simp only [if_neg (show ¬ i = many by omega)]; exact e2⟩
  refine Con.go hw12_listFaces ok12_listFaces 30 [11] rfl ?_
  refine And.intro (in_nI (N := 100) ht (by decide)) ?_
  show Wq G M12_listFaces 11 [some (.ref 79), some (.int (nI t)), some (.int 0), some (.int (ma w 5 (nI t).toNatClampNeg - 1)), none] [] (0, 0) w Q
  rw [nI_clamp (by omega), f1]
  exact first (nF w t) w 0 (fun _ => 0) (Nat.le_refl _) (Nat.zero_add _) Sf.rf hL (fun _ => rfl) (fun i hi => absurd hi (by omega)) (fun q hq1 hq2 => absurd hq2 (by omega))
end
