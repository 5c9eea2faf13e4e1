/-! ===== the model's types: above, members, new types ===== -/
def chF (m : qSt) : Nat → Nat → List Nat
  | 0, _ => []
  | n + 1, c => c :: (if c = 8 then [] else chF m n (upN m c))
/-- the classes above a class, itself the first -/
def abvs (m : qSt) (c : Nat) : List Nat := chF m (c + 1) c
theorem chF_eq {m : qSt} (h : TInv m) : ∀ (c n : Nat), c < n → c < nT m → ma m 0 c = 1 → chF m n c = chF m (c + 1) c := by
  intro c
  induction c using Nat.strongRecOn with
  | _ c ih =>
    intro n hn hc hs
    obtain ⟨k, rfl⟩ : ∃ k, n = k + 1 := ⟨n - 1, by omega⟩
    unfold chF
    by_cases h8 : c = 8
    · rw [if_pos h8, if_pos h8]
    · rw [if_neg h8, if_neg h8]
      obtain ⟨-, -, u3, u4⟩ := h.up hc hs h8
      rw [ih _ u3 k (by omega) (by omega) u4, ih _ u3 c u3 (by omega) u4]
theorem abvs_8 (m : qSt) : abvs m 8 = [8] := rfl
theorem abvs_c {m : qSt} (h : TInv m) {c : Nat} (hc : c < nT m) (hs : ma m 0 c = 1) (h8 : c ≠ 8) : abvs m c = c :: abvs m (upN m c) := by
  obtain ⟨-, -, u3, u4⟩ := h.up hc hs h8
  show c :: (if c = 8 then [] else chF m c (upN m c)) = _
  rw [if_neg h8, chF_eq h _ c u3 (by omega) u4]
  rfl
theorem abvs_in {m : qSt} (h : TInv m) : ∀ (c : Nat), c < nT m → ma m 0 c = 1 → ∀ j ∈ abvs m c, 8 ≤ j ∧ j ≤ c ∧ ma m 0 j = 1 := by
  intro c
  induction c using Nat.strongRecOn with
  | _ c ih =>
    intro hc hs j hj
    by_cases h8 : c = 8
    · subst h8
      rw [abvs_8] at hj
      have := List.mem_singleton.mp hj
      subst this
      exact ⟨by omega, by omega, hs⟩
    · rw [abvs_c h hc hs h8] at hj
      obtain ⟨-, -, u3, u4⟩ := h.up hc hs h8
      rcases List.mem_cons.mp hj with e | e
      · subst e
        exact ⟨h.c8 hc hs, Nat.le_refl _, hs⟩
      · obtain ⟨i1, i2, i3⟩ := ih _ u3 (by omega) u4 j e
        exact ⟨i1, by omega, i3⟩
theorem abvs_any {m : qSt} (h : TInv m) : ∀ (c : Nat), c < nT m → ma m 0 c = 1 → 8 ∈ abvs m c := by
  intro c
  induction c using Nat.strongRecOn with
  | _ c ih =>
    intro hc hs
    by_cases h8 : c = 8
    · subst h8; exact List.mem_cons_self
    · rw [abvs_c h hc hs h8]
      obtain ⟨-, -, u3, u4⟩ := h.up hc hs h8
      exact List.mem_cons_of_mem _ (ih _ u3 (by omega) u4)
theorem abvs_self (m : qSt) (c : Nat) : c ∈ abvs m c := List.mem_cons_self
theorem abvs_tr {m : qSt} (h : TInv m) : ∀ (c : Nat), c < nT m → ma m 0 c = 1 → ∀ j ∈ abvs m c, ∀ i ∈ abvs m j, i ∈ abvs m c := by
  intro c
  induction c using Nat.strongRecOn with
  | _ c ih =>
    intro hc hs j hj i hi
    by_cases h8 : c = 8
    · subst h8
      have := List.mem_singleton.mp hj
      subst this
      exact hi
    · rw [abvs_c h hc hs h8] at hj ⊢
      obtain ⟨-, -, u3, u4⟩ := h.up hc hs h8
      rcases List.mem_cons.mp hj with e | e
      · subst e
        rw [abvs_c h hc hs h8] at hi
        exact hi
      · exact List.mem_cons_of_mem _ (ih _ u3 (by omega) u4 j e i hi)
/-- without the rows -/
noncomputable def sqF (m : qSt) : Nat → Nat → Nat
  | 0, t => t
  | n + 1, t => cIf (ma m 0 t = 4) (sqF m n (ofN m t)) t
noncomputable def sqN (m : qSt) (t : Nat) : Nat := sqF m (t + 1) t
theorem sqF_eq {m : qSt} (h : TInv m) : ∀ (t n : Nat), t < n → t < nT m → sqF m n t = sqF m (t + 1) t := by
  intro t
  induction t using Nat.strongRecOn with
  | _ t ih =>
    intro n hn ht
    obtain ⟨k, rfl⟩ : ∃ k, n = k + 1 := ⟨n - 1, by omega⟩
    unfold sqF
    by_cases hs : ma m 0 t = 4
    · rw [cIf_t hs, cIf_t hs]
      have ho := (h.of ht (Or.inr hs)).2
      rw [ih _ ho k (by omega) (by omega), ih _ ho t ho (by omega)]
    · rw [cIf_f hs, cIf_f hs]
theorem sqN_4 {m : qSt} (h : TInv m) {t : Nat} (ht : t < nT m) (hs : ma m 0 t = 4) : sqN m t = sqN m (ofN m t) := by
  have ho := (h.of ht (Or.inr hs)).2
  show cIf _ (sqF m t (ofN m t)) t = _
  rw [cIf_t hs]
  exact sqF_eq h _ t ho (by omega)
theorem sqN_0 {m : qSt} {t : Nat} (hs : ¬ ma m 0 t = 4) : sqN m t = t := by
  show cIf _ _ t = _
  rw [cIf_f hs]
theorem sqN_le {m : qSt} (h : TInv m) : ∀ (t : Nat), t < nT m → sqN m t ≤ t ∧ ¬ ma m 0 (sqN m t) = 4 := by
  intro t
  induction t using Nat.strongRecOn with
  | _ t ih =>
    intro ht
    by_cases hs : ma m 0 t = 4
    · have ho := (h.of ht (Or.inr hs)).2
      obtain ⟨i1, i2⟩ := ih _ ho (by omega)
      rw [sqN_4 h ht hs]
      exact ⟨by omega, i2⟩
    · rw [sqN_0 hs]
      exact ⟨Nat.le_refl _, hs⟩
/-- the last member of that name -/
noncomputable def mbF (m : qSt) (t : Nat) (name fld : Int32) : Nat → Int32
  | 0 => -1
  | k + 1 => cIf (ma m 8 (10 * t + k) = fld ∧ ma m 9 (10 * t + k) = name) (nI k) (mbF m t name fld k)
noncomputable def mby (m : qSt) (t : Nat) (name fld : Int32) : Int32 := mbF m t name fld (nM m t)
theorem mbF_cases (m : qSt) (t : Nat) (name fld : Int32) : ∀ k, mbF m t name fld k = -1 ∨ ∃ j, j < k ∧ mbF m t name fld k = nI j ∧ ma m 8 (10 * t + j) = fld ∧ ma m 9 (10 * t + j) = name
  | 0 => Or.inl rfl
  | k + 1 => by
    show cIf _ _ _ = _ ∨ ∃ j, _ ∧ cIf _ _ _ = _ ∧ _
    by_cases hc : ma m 8 (10 * t + k) = fld ∧ ma m 9 (10 * t + k) = name
    · rw [cIf_t hc]
      exact Or.inr ⟨k, by omega, rfl, hc.1, hc.2⟩
    · rw [cIf_f hc]
      rcases mbF_cases m t name fld k with h | ⟨j, h1, h2⟩
      · exact Or.inl h
      · exact Or.inr ⟨j, by omega, h2⟩
def stt (w : qSt) (v : Int32) : qSt := sI w 12 0 0 v
noncomputable def S_cls (w : qSt) (up op : Int32) : Int32 × qSt := cIf (¬ isC w up) (-1, stt w (-1)) (cIf (nT w = 100) (-2, stt w (-2)) (nI (nT w), stt (sI (sI (sMk w 1) 40 1 (nT w) up) 40 3 (nT w) op) 0))
noncomputable def S_face (w : qSt) : Int32 × qSt := cIf (nT w = 100) (-2, stt w (-2)) (nI (nT w), stt (sMk w 2) 0)
noncomputable def S_var (w : qSt) (c b : Int32) : Int32 × qSt := cIf (c = 8 ∨ ¬ isC w c ∨ ¬ isT w b ∨ isL b) (-1, stt w (-1)) (cIf (nT w = 100) (-2, stt w (-2)) (nI (nT w), stt (sI (sI (sMk w 3) 40 1 (nT w) c) 40 2 (nT w) b) 0))
/-- the first row of a type, from i on, k of them -/
noncomputable def rfF (m : qSt) (x : Int32) : Nat → Nat → Option Nat
  | 0, _ => none
  | k + 1, i => cIf (ma m 0 i = 4 ∧ ma m 2 i = x) (some i) (rfF m x k (i + 1))
noncomputable def rfN (m : qSt) (x : Int32) : Option Nat := rfF m x (nT m - 9) 9
noncomputable def S_row (w : qSt) (t : Int32) : Int32 × qSt := cIf (¬ isT w t) (-1, stt w (-1)) (match rfN w t with
  | some i => (nI i, stt w 0)
  | none => cIf (nT w = 100) (-2, stt w (-2)) (nI (nT w), stt (sI (sMk w 4) 40 2 (nT w) t) 0))
noncomputable def S_erased (w : qSt) (t what : Int32) : Int32 × qSt := cIf (¬ isT w t ∨ ¬ (what = 0 ∨ what = 1)) (-1, stt w (-1)) (cIf (what = 0) (nI (baN w (tn t)), stt w 0) (nI (dpN w (tn t)), stt w 0))
section
variable {G : qGX} {w : qSt} {Q : Option Value → qSt → Prop}
theorem c12_depth {t : Nat} (hI : TInv w) (ht : t < nT w) (h : Q (some (.int (nI (dpN w t)))) w) : Con G M12_depth [.ref 79, .int (nI t)] w Q := by
  have h100 := hI.le
  have key : ∀ (n t d : Nat) (x : Int32), t < n → t < nT w → Q (some (.int (nI (d + dpN w t)))) w → Wq G M12_depth 4 [some (.ref 79), some (.int x), some (.int (nI d)), some (.int (nI t))] [] (0, 0) w Q := by
    intro n
    induction n with
    | zero => intro t d x h0; omega
    | succ n ih =>
      intro t d x hn ht h
      have hin : vp_in (nI t) 100 := in_nI (by omega) (by decide)
      have e2 : (nI t).toNatClampNeg = t := tn_nI (by omega)
      have ag : ∀ (d' : Nat) (hs : ma w 0 t = 3 ∨ ma w 0 t = 4) (hq : Q (some (.int (nI (d' + dpN w (ofN w t))))) w), Wq G M12_depth 42 [some (.ref 79), some (.int x), some (.int (nI d')), some (.int (nI t))] [] (0, 0) w Q := by
        intro d' hs hq
        refine Wq.go ok12_depth 20 [4] ?_
        refine And.intro hin ?_
        show Wq G M12_depth 4 [some (.ref 79), some (.int x), some (.int (nI d')), some (.int (ma w 2 (nI t).toNatClampNeg))] [] (0, 0) w Q
        obtain ⟨o1, o2⟩ := hI.of ht hs
        rw [e2, o1]
        exact ih _ d' x (by omega) (by omega) hq
      have mid : ∀ (hs : ma w 0 t = 3 ∨ ma w 0 t = 4), Wq G M12_depth 24 [some (.ref 79), some (.int x), some (.int (nI d)), some (.int (nI t))] [] (0, 0) w Q := by
        intro hs
        refine Wq.go ok12_depth 20 [42] ?_
        refine And.intro hin (And.intro (fun c => ?_) (fun c => ?_)) <;> rw [e2] at c
        · show Wq G M12_depth 42 [some (.ref 79), some (.int x), some (.int (nI d + 0)), some (.int (nI t))] [] (0, 0) w Q
          have hs3 : ma w 0 t = 3 := hs.elim id (fun q => absurd q c)
          rw [show nI d + 0 = nI (d + 0) from nI_add d 0]
          refine ag _ hs ?_
          rw [dpN_3 hI ht hs3] at h
          exact h
        · show Wq G M12_depth 42 [some (.ref 79), some (.int x), some (.int (nI d + 1)), some (.int (nI t))] [] (0, 0) w Q
          rw [nI_1]
          refine ag _ hs ?_
          rw [dpN_4 hI ht c] at h
          rw [show d + 1 + dpN w (ofN w t) = d + (dpN w (ofN w t) + 1) by omega]
          exact h
      refine Wq.go ok12_depth 20 [24] ?_
      refine And.intro hin (And.intro (fun c => ?_) (fun c => And.intro hin (And.intro (fun c2 => ?_) (fun c2 => ?_))))
      · exact mid (Or.inl (by rw [e2] at c; exact c))
      · show Q (some (.int (nI d))) w
        rw [e2] at c c2
        rw [dpN_0 (fun q => q.elim c c2)] at h
        exact h
      · exact mid (Or.inr (by rw [e2] at c2; exact c2))
  refine Con.go hw12_depth ok12_depth 20 [4] rfl ?_
  exact key (t + 1) t 0 _ (by omega) ht (by rw [Nat.zero_add]; exact h)
theorem c12_isAbove {u c : Nat} (hI : TInv w) (hc : c < nT w) (hu : u < 100) (h : Q (some (.int (bI (ma w 0 c = 1 ∧ u ∈ abvs w c)))) w) : Con G M12_isAbove [.ref 79, .int (nI u), .int (nI c)] w Q := by
  have h100 := hI.le
  have key : ∀ (n j : Nat) (p : Prop) (x : Int32), j < n → j < nT w → ma w 0 j = 1 → Q (some (.int (bI (p ∨ u ∈ abvs w j)))) w → Wq G M12_isAbove 19 [some (.ref 79), some (.int (nI u)), some (.int x), some (.int (bI p)), some (.int (nI j))] [] (0, 0) w Q := by
    intro n
    induction n with
    | zero => intro j p x h0; omega
    | succ n ih =>
      intro j p x hn hj hs h
      have hin : vp_in (nI j) 100 := in_nI (by omega) (by decide)
      have e2 : (nI j).toNatClampNeg = j := tn_nI (by omega)
      have nx : ∀ (p' : Prop), (p' ↔ p ∨ j = u) → Wq G M12_isAbove 40 [some (.ref 79), some (.int (nI u)), some (.int x), some (.int (bI p')), some (.int (nI j))] [] (0, 0) w Q := by
        intro p' hp
        refine Wq.go ok12_isAbove 20 [19] ?_
        refine And.intro hin ?_
        show Wq G M12_isAbove 19 [some (.ref 79), some (.int (nI u)), some (.int x), some (.int (bI p')), some (.int (ma w 1 (nI j).toNatClampNeg))] [] (0, 0) w Q
        rw [e2]
        by_cases h8 : j = 8
        · subst h8
          rw [hI.2.2.2.1]
          refine Wq.go ok12_isAbove 20 [] ?_
          refine And.intro (fun c => ?_) (fun c => absurd (by decide) c)
          refine And.intro (bI_and _) ?_
          rw [abvs_8, List.mem_singleton] at h
          have : bI p' = bI (p ∨ u = 8) := bI_c (by rw [hp]; exact or_congr_right ⟨Eq.symm, Eq.symm⟩)
          rw [this]; exact h
        · obtain ⟨u1, u2, u3, u4⟩ := hI.up hj hs h8
          rw [u1]
          refine ih _ p' x (by omega) (by omega) u4 ?_
          rw [abvs_c hI hj hs h8] at h
          have : bI (p' ∨ u ∈ abvs w (upN w j)) = bI (p ∨ u ∈ j :: abvs w (upN w j)) := bI_c (by rw [hp, List.mem_cons, or_assoc]; exact or_congr_right (or_congr_left ⟨Eq.symm, Eq.symm⟩))
          rw [this]; exact h
      have toj : ∀ (v : Int32) (p' : Prop), v = bI p' → (p' ↔ p ∨ j = u) → Wq G M12_isAbove 39 [some (.ref 79), some (.int (nI u)), some (.int x), some (.int (bI p)), some (.int (nI j))] [.int v] (0, 0) w Q := by
        intro v p' hv hp
        rw [hv]
        refine Wq.go ok12_isAbove 20 [40] ?_
        exact nx p' hp
      refine Wq.go ok12_isAbove 20 [39] ?_
      refine And.intro (fun c => absurd c (nI_pos (by omega))) (fun c => And.intro (fun c2 => ?_) (fun c2 => And.intro (fun c3 => ?_) (fun c3 => ?_)))
      · rw [bI_n0] at c2
        exact toj 1 True (bI_t trivial).symm ⟨fun _ => Or.inl c2, fun _ => trivial⟩
      · rw [bI_0] at c2
        rw [nI_eqI (by omega) (by omega)] at c3
        exact toj 0 False (bI_f id).symm ⟨False.elim, fun q => q.elim c2 c3⟩
      · rw [nI_eqI (by omega) (by omega)] at c3
        exact toj 1 True (bI_t trivial).symm ⟨fun _ => Or.inr c3, fun _ => trivial⟩
  have hin : vp_in (nI c) 100 := in_nI (by omega) (by decide)
  have e2 : (nI c).toNatClampNeg = c := tn_nI (by omega)
  refine Con.go hw12_isAbove ok12_isAbove 20 [19] rfl ?_
  refine And.intro hin (And.intro (fun c1 => ?_) (fun c1 => ?_)) <;> rw [e2] at c1
  · refine Wq.go (ls := [some (.ref 79), some (.int (nI u)), some (.int (nI c)), some (.int 0), some (.int (-1))]) ok12_isAbove 20 [] ?_
    refine And.intro (fun _ => ?_) (fun c2 => absurd (by decide) c2)
    rw [bI_f (fun q => c1 q.1)] at h
    exact And.intro rfl h
  · have := key (c + 1) c False (nI c) (by omega) hc c1 (by
      have e : bI (False ∨ u ∈ abvs w c) = bI (ma w 0 c = 1 ∧ u ∈ abvs w c) := bI_c ⟨fun q => ⟨c1, q.elim False.elim id⟩, fun q => Or.inr q.2⟩
      rw [e]; exact h)
    rw [bI_f (fun q => q)] at this
    exact this
theorem c12_isForeign {t : Nat} {c : Int32} (hI : TInv w) (ht : t < nT w) (h : Q (some (.int (bI (ma w 0 (sqN w t) = 3 ∧ ¬ ma w 1 (sqN w t) = c)))) w) : Con G M12_isForeign [.ref 79, .int (nI t), .int c] w Q := by
  have h100 := hI.le
  have key : ∀ (n t : Nat) (x : Int32), t < n → t < nT w → Q (some (.int (bI (ma w 0 (sqN w t) = 3 ∧ ¬ ma w 1 (sqN w t) = c)))) w → Wq G M12_isForeign 2 [some (.ref 79), some (.int x), some (.int c), some (.int (nI t))] [] (0, 0) w Q := by
    intro n
    induction n with
    | zero => intro t x h0; omega
    | succ n ih =>
      intro t x hn ht h
      have hin : vp_in (nI t) 100 := in_nI (by omega) (by decide)
      have e2 : (nI t).toNatClampNeg = t := tn_nI (by omega)
      refine Wq.go ok12_isForeign 30 [2] ?_
      refine And.intro hin (And.intro (fun c1 => ?_) (fun c1 => ?_)) <;> rw [e2] at c1
      · rw [sqN_0 c1] at h
        refine And.intro hin (And.intro (fun c2 => ?_) (fun c2 => And.intro hin (And.intro (fun c3 => ?_) (fun c3 => ?_)))) <;> rw [e2] at c2
        · rw [bI_f (fun q => c2 q.1)] at h
          exact And.intro rfl h
        · rw [e2] at c3
          rw [bI_f (fun q => q.2 c3)] at h
          exact And.intro rfl h
        · rw [e2] at c3
          rw [bI_t ⟨c2, c3⟩] at h
          exact And.intro rfl h
      · refine And.intro hin ?_
        show Wq G M12_isForeign 2 [some (.ref 79), some (.int x), some (.int c), some (.int (ma w 2 (nI t).toNatClampNeg))] [] (0, 0) w Q
        obtain ⟨o1, o2⟩ := hI.of ht (Or.inr c1)
        rw [e2, o1]
        refine ih _ x (by omega) (by omega) ?_
        rw [← sqN_4 hI ht c1]
        exact h
  refine Con.go hw12_isForeign ok12_isForeign 20 [2] rfl ?_
  exact key (t + 1) t _ (by omega) ht h
theorem c12_memberBy {t : Nat} {name fld : Int32} (hI : TInv w) (ht : t < 100) (h : Q (some (.int (mby w t name fld))) w) : Con G M12_memberBy [.ref 79, .int (nI t), .int name, .int fld] w Q := by
  obtain ⟨m1, m2, -⟩ := hI.mbs ht
  have hin : vp_in (nI t) 100 := in_nI (by omega) (by decide)
  have e2 : (nI t).toNatClampNeg = t := tn_nI (by omega)
  have key : ∀ (n j : Nat), j ≤ nM w t → nM w t - j < n → Wq G M12_memberBy 6 [some (.ref 79), some (.int (nI t)), some (.int name), some (.int fld), some (.int (mbF w t name fld j)), some (.int (nI j))] [] (0, 0) w Q := by
    intro n
    induction n with
    | zero => intro j h0; omega
    | succ n ih =>
      intro j hj hn
      have nx : ∀ v, v = mbF w t name fld (j + 1) → j < nM w t → Wq G M12_memberBy 56 [some (.ref 79), some (.int (nI t)), some (.int name), some (.int fld), some (.int (mbF w t name fld j)), some (.int (nI j))] [.int v] (0, 0) w Q := by
        intro v hv hlt
        rw [hv]
        refine Wq.go ok12_memberBy 20 [6] ?_
        show Wq G M12_memberBy 6 [some (.ref 79), some (.int (nI t)), some (.int name), some (.int fld), some (.int (mbF w t name fld (j + 1))), some (.int (nI j + 1))] [] (0, 0) w Q
        rw [nI_1]
        exact ih _ (by omega) (by omega)
      refine Wq.go ok12_memberBy 30 [56] ?_
      refine And.intro hin (And.intro (fun (c : ma w 7 (nI t).toNatClampNeg ≤ nI j) => ?_) (fun (c : ¬ ma w 7 (nI t).toNatClampNeg ≤ nI j) => ?_)) <;> rw [e2, m1, nI_leI (by omega) (by omega)] at c
      · have : j = nM w t := by omega
        subst this
        exact h
      · have hlt : j < nM w t := by omega
        have hin2 : vp_in ((10 : Int32) * nI t + nI j) 1000 := by rw [ix10]; exact in_nI (by omega) (by decide)
        have e3 : ((10 : Int32) * nI t + nI j).toNatClampNeg = 10 * t + j := by rw [ix10]; exact tn_nI (by omega)
        refine And.intro hin2 (And.intro (fun c2 => ?_) (fun c2 => And.intro hin2 (And.intro (fun c3 => ?_) (fun c3 => ?_)))) <;> rw [e3] at c2
        · exact nx _ (cIf_f (fun q => c2 q.1)).symm hlt
        · rw [e3] at c3
          exact nx _ (cIf_f (fun q => c3 q.2)).symm hlt
        · rw [e3] at c3
          exact nx _ (cIf_t ⟨c2, c3⟩).symm hlt
  refine Con.go hw12_memberBy ok12_memberBy 20 [6] rfl ?_
  exact key (nM w t + 1) 0 (Nat.zero_le _) (by omega)
end
