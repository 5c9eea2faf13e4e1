/-! ===== what is told ===== -/
def nHt (w : qSt) : Nat := tn (mi w 49)
def HtInv (w : qSt) : Prop := mi w 49 = nI (nHt w) ∧ nHt w ≤ 60 ∧ ∀ k, k < nHt w → ∃ X, ma w 37 k = nI X ∧ X < nX w
noncomputable def S_hit (w : qSt) (k : Int32) : Int32 := cIf (∃ j, k = nI j ∧ j < nHt w) (ma w 37 (tn k)) (-1)
noncomputable def S_trace (w : qSt) (k : Int32) : Int32 := cIf (∃ j, k = nI j ∧ j < nTr w) (ma w 27 (tn k)) (-1)
noncomputable def tno (r : rdT) : Int32 := cIf (r.1 < 0) r.1 (cIf (5 < r.2.1) (-16) 0)
noncomputable def ttF (w : qSt) (h : Nat) : Nat → Nat → Int64 → Int32 × Int64 × List Int32
  | 0, _, A => (0, A, [])
  | n + 1, k, A => cIf (tno (rdR w h (ma w 37 k)) < 0) (tno (rdR w h (ma w 37 k)), 0, (rdR w h (ma w 37 k)).2.2.2)
      ((ttF w h n (k + 1) (A + (rdR w h (ma w 37 k)).2.2.1)).1, (ttF w h n (k + 1) (A + (rdR w h (ma w 37 k)).2.2.1)).2.1, (rdR w h (ma w 37 k)).2.2.2 ++ (ttF w h n (k + 1) (A + (rdR w h (ma w 37 k)).2.2.1)).2.2)
noncomputable def S_total (w : qSt) (h : Int32) : Int64 × qSt :=
  cIf (¬ isH w h) (-9223372036854775808, stt w (-1)) (cIf ((ttF w (tn h) (nHt w) 0 0).1 < 0) (-9223372036854775808, stt (sTr (sI w 12 36 0 0) (ttF w (tn h) (nHt w) 0 0).2.2) (ttF w (tn h) (nHt w) 0 0).1)
    ((ttF w (tn h) (nHt w) 0 0).2.1, stt (sTr (sI w 12 36 0 0) (ttF w (tn h) (nHt w) 0 0).2.2) 0))
noncomputable def clF (w : qSt) : Nat → Nat
  | 0 => 0
  | t + 1 => clF w t + cIf (ma w 4 t = 0) 0 1
noncomputable def csF (w : qSt) : Nat → Nat
  | 0 => 0
  | t + 1 => csF w t + cIf (8 < t ∧ ma w 0 t = 1) 1 0
noncomputable def S_told (w : qSt) (k : Int32) : Int32 := cIf (k = 0) (nI (nT w - 9)) (cIf (k = 1) (nI (nX w)) (cIf (k = 2) (nI (nH w)) (cIf (k = 3) (nI (nQ w)) (cIf (k = 4) (nI (nTr w)) (cIf (k = 5) (nI (nHt w)) (cIf (k = 6) (nI (clF w (nT w))) (cIf (k = 7) (nI (csF w (nT w))) (-1))))))))
def mx (h n : Int64) : Int64 := 31 * h + n
def itF (w : qSt) : Nat → Nat → Int64 → Int64
  | 0, _, h => h
  | n + 1, p, h => itF w n (p + 1) (mx h (ml w 23 p))
def xF (w : qSt) : Nat → Nat → Int64 → Int64
  | 0, _, h => h
  | n + 1, x, h => xF w n (x + 1) (itF w (sX w x) (pX w x) (mx (mx h (ma w 19 x).toInt64) (ma w 20 x).toInt64))
def isSh (w : qSt) (a : Nat) : Prop := a % 10 < nM w (a / 10) ∧ ¬ ma w 8 a = 0 ∧ ¬ ma w 11 a = 0
noncomputable def shF (w : qSt) : Nat → Nat → Int64 → Int64
  | 0, _, h => h
  | n + 1, a, h => shF w n (a + 1) (cIf (isSh w a) (mx h (ml w 14 a)) h)
def ceF (w : qSt) : Nat → Nat → Int64 → Int64
  | 0, _, h => h
  | n + 1, p, h => ceF w n (p + 1) (mx h (ml w 31 p))
noncomputable def coF (w : qSt) : Nat → Nat → Int64 → Int64
  | 0, _, h => h
  | n + 1, k, h => coF w n (k + 1) (cIf (ma w 28 k = 0) h (ceF w (cN w k) (60 * k) (mx h (ma w 29 k).toInt64)))
noncomputable def S_digest (w : qSt) : Int64 × qSt := (coF w 6 0 (shF w (10 * nT w) 0 (xF w (nX w) 0 17)), stt w 0)
theorem clF_le (w : qSt) : ∀ n, clF w n ≤ n
  | 0 => Nat.le_refl _
  | n + 1 => by
    have := clF_le w n
    show clF w n + cIf (ma w 4 n = 0) 0 1 ≤ n + 1
    by_cases c : ma w 4 n = 0
    · rw [cIf_t c]; omega
    · rw [cIf_f c]; omega
theorem csF_le (w : qSt) : ∀ n, csF w n ≤ n
  | 0 => Nat.le_refl _
  | n + 1 => by
    have := csF_le w n
    show csF w n + cIf (8 < n ∧ ma w 0 n = 1) 1 0 ≤ n + 1
    by_cases c : 8 < n ∧ ma w 0 n = 1
    · rw [cIf_t c]; omega
    · rw [cIf_f c]; omega
section
variable {G : qGX} {w : qSt} {Q : Option Value → qSt → Prop}
theorem c12_hit {k : Int32} (hH : HtInv w) (h : Q (some (.int (S_hit w k))) w) : Con G M12_hit [.ref 79, .int k] w Q := by
  obtain ⟨h1, h2, h3⟩ := hH
  unfold S_hit at h
  refine Con.go hw12_hit ok12_hit 40 [] rfl ?_
  refine c12_inN (n := nHt w) h1 (by omega) (And.intro (fun c => ?_) (fun c => ?_))
  · rw [bI_0] at c
    rw [cIf_f c] at h
    exact h
  · rw [bI_n0] at c
    rw [cIf_t c] at h
    obtain ⟨j, rfl, hj⟩ := c
    exact And.intro (in_nI (N := 60) (by omega) (by decide)) h
theorem c12_trace {k : Int32} (hT : TrOK w) (h : Q (some (.int (S_trace w k))) w) : Con G M12_trace [.ref 79, .int k] w Q := by
  obtain ⟨h1, h2⟩ := hT
  unfold S_trace at h
  refine Con.go hw12_trace ok12_trace 40 [] rfl ?_
  refine c12_inN (n := nTr w) h1 (by omega) (And.intro (fun c => ?_) (fun c => ?_))
  · rw [bI_0] at c
    rw [cIf_f c] at h
    exact h
  · rw [bI_n0] at c
    rw [cIf_t c] at h
    obtain ⟨j, rfl, hj⟩ := c
    exact And.intro (in_nI (N := 60) (by omega) (by decide)) h
theorem c12_failed (h : Q (some (.int (mi w 51))) w) : Con G M12_failed [.ref 79] w Q := Con.go hw12_failed ok12_failed 20 [] rfl h
theorem c12_status (h : Q (some (.int (mi w 0))) w) : Con G M12_status [.ref 79] w Q := Con.go hw12_status ok12_status 20 [] rfl h
theorem c12_total {h : Int32} (hI : TInv w) (hX : XInv w) (hH : HInv w) (hHt : HtInv w) (hq : ∀ w', Sc (S_total w h).2 w' → Q (some (.long (S_total w h).1)) w') : Con G M12_total [.ref 79, .int h] w Q := by
  obtain ⟨k1, k2, k3⟩ := id hH
  obtain ⟨g1, g2, g3⟩ := hHt
  unfold S_total at hq
  refine Con.go hw12_total ok12_total 40 [14] rfl ?_
  refine c12_isHandle k1 k2 (And.intro (fun c1 => ?_) (fun c1 => ?_))
  · rw [bI_n0] at c1
    rw [cIf_f (fun z => z c1)] at hq
    obtain ⟨H, rfl, hh⟩ := c1
    rw [tn_nI (by omega)] at hq
    have loop : ∀ (n k : Nat) (A : Int64) (l5 : Option Value) (w1 : qSt), k + n = nHt w → RE w w1 → TrOK w1 → mi w1 49 = mi w 49 → ma w1 37 = ma w 37 →
        ((ttF w H n k A).1 < 0 → ∀ w', Sc (stt (sTr w1 (ttF w H n k A).2.2) (ttF w H n k A).1) w' → Q (some (.long (-9223372036854775808))) w') →
        (¬ (ttF w H n k A).1 < 0 → ∀ w', Sc (stt (sTr w1 (ttF w H n k A).2.2) 0) w' → Q (some (.long (ttF w H n k A).2.1)) w') →
        Wq G M12_total 24 [some (.ref 79), some (.int (nI H)), some (.long A), none, some (.int (nI k)), l5] [] (0, 0) w1 Q := by
      intro n
      induction n with
      | zero =>
        intro k A l5 w1 hk hR hT e49 e37 hf hg
        unfold ttF at hg
        refine Wq.ls (ls' := [some (.ref 79), some (.int (nI H)), some (.long A), none, some (.int (nI k)), none]) ⟨rfl, rfl, rfl, rfl, by cases l5 <;> trivial⟩ ?_
        refine Wq.go ok12_total 40 [] ?_
        refine And.intro (fun _ => c12_told0 (hg (show ¬ (0 : Int32) < 0 by decide) _ Sc.rf)) (fun (z : ¬ mi w1 49 ≤ nI k) => absurd (by rw [e49, g1, nI_leI (by omega) (by omega)]; omega) z)
      | succ n ih =>
        intro k A l5 w1 hk hR hT e49 e37 hf hg
        have hi : vp_in (nI k) 60 := in_nI (by omega) (by decide)
        have ek : (nI k).toNatClampNeg = k := nI_clamp (by omega)
        obtain ⟨X, eX, hXX⟩ := g3 k (by omega)
        have hx : ¬ noX w (ma w 37 k) := fun z => z.2 ⟨X, eX, hXX⟩
        unfold ttF at hf hg
        have h71 : ∀ (y v : Int32) (w3 : qSt), v = tno (rdR w H (ma w 37 k)) → Sc (sTr w1 (rdR w H (ma w 37 k)).2.2.2) w3 → ((rdR w H (ma w 37 k)).1 = 0 → mi w3 33 = (rdR w H (ma w 37 k)).2.1 ∧ mj w3 34 = (rdR w H (ma w 37 k)).2.2.1) →
            Wq G M12_total 71 [some (.ref 79), some (.int (nI H)), some (.long A), none, some (.int (nI k)), some (.int y)] [.int v] (0, 0) w3 Q := by
          intro y v w3 hv hS3 h3
          refine Wq.go ok12_total 40 [24] ?_
          refine And.intro (fun c5 => ?_) (fun c5 => ?_)
          · have c6 := nlt0 c5
            rw [hv] at c6
            rw [cIf_f c6] at hf hg
            have r0 : ¬ (rdR w H (ma w 37 k)).1 < 0 := fun z => c6 (by unfold tno; rw [cIf_t z]; exact z)
            obtain ⟨-, r2⟩ := h3 ((rd_le w H (ma w 37 k)).resolve_left r0)
            obtain ⟨a1, a2, a3⟩ := sTr_28 (rdR w H (ma w 37 k)).2.2.2 w1
            show Wq G M12_total 24 [some (.ref 79), some (.int (nI H)), some (.long (A + mj w3 34)), none, some (.int (nI k + 1)), some (.int v)] [] (0, 0) w3 Q
            rw [r2, nI_1]
            refine ih (k + 1) _ _ w3 (by omega) ((hR.tr (RE.sTr _ _)).tr hS3.re) ((hT.str _).sc hS3) ?_ ?_ ?_ ?_
            · exact ((hS3.mq.c (fun w => mi w 49) (fun _ => rfl)).trans (a2 49 (by omega))).trans e49
            · exact ((hS3.row rfl).trans (a1 37 (by omega))).trans e37
            · intro z w' hw'
              refine hf z w' ?_
              show Sc (stt (sTr w1 ((rdR w H (ma w 37 k)).2.2.2 ++ _)) _) w'
              rw [sTr_app]
              exact ((hS3.Tr _).I2 rfl).tr hw'
            · intro z w' hw'
              refine hg z w' ?_
              show Sc (stt (sTr w1 ((rdR w H (ma w 37 k)).2.2.2 ++ _)) _) w'
              rw [sTr_app]
              exact ((hS3.Tr _).I2 rfl).tr hw'
          · have c6 := lt0 c5
            rw [hv] at c6
            rw [cIf_t c6] at hf
            rw [hv]
            exact c12_lost (hf c6 _ (hS3.I2 rfl))
        refine Wq.ls (ls' := [some (.ref 79), some (.int (nI H)), some (.long A), none, some (.int (nI k)), none]) ⟨rfl, rfl, rfl, rfl, by cases l5 <;> trivial⟩ ?_
        refine Wq.go ok12_total 40 [57, 71] ?_
        refine And.intro (fun (z : mi w1 49 ≤ nI k) => ?_) (fun _ => And.intro hi ?_)
        · rw [e49, g1, nI_leI (by omega) (by omega)] at z; omega
        · show Con G M12_readBy [.ref 79, .int (nI H), .int (ma w1 37 (nI k).toNatClampNeg)] w1 _
          rw [ek, e37]
          refine c12_readBy (hR.tinv hI) (hR.xinv hX) (hR.hinv hH) hT (by rw [hR.enH]; exact hh) (by rw [hR.enoX]; exact hx) (fun w3 hS3 h3 => ?_)
          rw [hR.erd] at hS3 h3 ⊢
          refine And.intro (fun (c5 : 0 ≤ (rdR w H (ma w 37 k)).1) => ?_) (fun (c5 : ¬ 0 ≤ (rdR w H (ma w 37 k)).1) => ?_)
          · obtain ⟨r1, r2⟩ := h3 ((rd_le w H (ma w 37 k)).resolve_left (nlt0 c5))
            refine Wq.go ok12_total 40 [71] ?_
            refine And.intro (fun (c6 : mi w3 33 ≤ 5) => ?_) (fun (c6 : ¬ mi w3 33 ≤ 5) => ?_) <;> rw [r1, i32_le] at c6
            · exact h71 _ _ w3 (by unfold tno; rw [cIf_f (nlt0 c5), cIf_f (by rw [i32_lt]; omega)]) hS3 h3
            · exact h71 _ _ w3 (by unfold tno; rw [cIf_f (nlt0 c5), cIf_t (by rw [i32_lt]; omega)]) hS3 h3
          · exact h71 _ _ w3 (by unfold tno; rw [cIf_t (lt0 c5)]) hS3 h3
    refine Wq.go ok12_total 40 [24] ?_
    refine loop (nHt w) 0 0 none (sI w 12 36 0 0) (Nat.zero_add _) (RE.rf.I rfl) tr0 rfl rfl ?_ ?_
    · intro z
      rw [cIf_t z] at hq
      exact hq
    · intro z
      rw [cIf_f z] at hq
      exact hq
  · rw [bI_0] at c1
    rw [cIf_t c1] at hq
    exact c12_lost (hq _ Sc.rf)
theorem c12_told {k : Int32} (hI : TInv w) (hX : XInv w) (hH : HInv w) (hQ : QInv w) (hT : TrOK w) (hHt : HtInv w) (h : Q (some (.int (S_told w k))) w) : Con G M12_told [.ref 79, .int k] w Q := by
  have h100 := hI.le
  have e1 : mi w 1 = nI (nT w) := hI.ty.1
  unfold S_told at h
  have main : Wq G M12_told 66 [some (.ref 79), some (.int k), some (.int (nI (clF w (nT w)))), some (.int (nI (csF w (nT w)))), some (.int (nI (nT w)))] [] (0, 0) w Q := by
    refine Wq.go ok12_told 40 [] ?_
    refine And.intro (And.intro (fun (c : k = 0) => ?_) (And.intro (fun (c : k = 1) => ?_) (And.intro (fun (c : k = 2) => ?_) (And.intro (fun (c : k = 3) => ?_) (And.intro (fun (c : k = 4) => ?_) (And.intro (fun (c : k = 5) => ?_) (And.intro (fun (c : k = 6) => ?_) (And.intro (fun (c : k = 7) => ?_) trivial)))))))) (fun c => ?_)
    · subst c
      rw [cIf_t rfl] at h
      show Q (some (.int (mi w 1 - 9))) w
      rw [e1]
      have : nI (nT w) - 9 = nI (nT w - 9) := by
        obtain ⟨z, hz⟩ : ∃ z, nT w = z + 9 := ⟨nT w - 9, by omega⟩
        rw [hz, i32_eq, i32_sub, nI_t (by omega), nI_t (by omega)]
        · show ((z + 9 : Nat) : Int) - 9 = _; omega
        · rw [nI_t (by omega)]; show _ ≤ ((z + 9 : Nat) : Int) - 9; omega
        · rw [nI_t (by omega)]; show ((z + 9 : Nat) : Int) - 9 < _; omega
      rw [this]; exact h
    · subst c
      rw [cIf_f (by decide), cIf_t rfl] at h
      show Q (some (.int (mi w 22))) w
      rw [hX.1]; exact h
    · subst c
      rw [cIf_f (by decide), cIf_f (by decide), cIf_t rfl] at h
      show Q (some (.int (mi w 29))) w
      rw [hH.1]; exact h
    · subst c
      rw [cIf_f (by decide), cIf_f (by decide), cIf_f (by decide), cIf_t rfl] at h
      show Q (some (.int (mi w 43))) w
      rw [hQ.1]; exact h
    · subst c
      rw [cIf_f (by decide), cIf_f (by decide), cIf_f (by decide), cIf_f (by decide), cIf_t rfl] at h
      show Q (some (.int (mi w 36))) w
      rw [hT.1]; exact h
    · subst c
      rw [cIf_f (by decide), cIf_f (by decide), cIf_f (by decide), cIf_f (by decide), cIf_f (by decide), cIf_t rfl] at h
      show Q (some (.int (mi w 49))) w
      rw [hHt.1]; exact h
    · subst c
      rw [cIf_f (by decide), cIf_f (by decide), cIf_f (by decide), cIf_f (by decide), cIf_f (by decide), cIf_f (by decide), cIf_t rfl] at h
      exact h
    · subst c
      rw [cIf_f (by decide), cIf_f (by decide), cIf_f (by decide), cIf_f (by decide), cIf_f (by decide), cIf_f (by decide), cIf_f (by decide), cIf_t rfl] at h
      exact h
    · have c : k.toInt < 0 ∨ (7 : Int) < k.toInt := c
      have ne : ∀ z : Nat, z ≤ 7 → ¬ k = nI z := by
        intro z hz q
        rw [q, nI_t (by omega)] at c
        omega
      rw [cIf_f (show ¬ k = 0 from ne 0 (by omega)), cIf_f (show ¬ k = 1 from ne 1 (by omega)), cIf_f (show ¬ k = 2 from ne 2 (by omega)), cIf_f (show ¬ k = 3 from ne 3 (by omega)), cIf_f (show ¬ k = 4 from ne 4 (by omega)), cIf_f (show ¬ k = 5 from ne 5 (by omega)), cIf_f (show ¬ k = 6 from ne 6 (by omega)), cIf_f (show ¬ k = 7 from ne 7 (by omega))] at h
      exact h
  have loop : ∀ (n t : Nat), t + n = nT w → Wq G M12_told 7 [some (.ref 79), some (.int k), some (.int (nI (clF w t))), some (.int (nI (csF w t))), some (.int (nI t))] [] (0, 0) w Q := by
    intro n
    induction n with
    | zero =>
      intro t ht
      have : t = nT w := by omega
      subst this
      refine Wq.go ok12_told 40 [66] ?_
      refine And.intro (fun _ => main) (fun (z : ¬ mi w 1 ≤ nI (nT w)) => absurd (by rw [e1, i32_le]; omega) z)
    | succ n ih =>
      intro t ht
      have hin : vp_in (nI t) 100 := in_nI (by omega) (by decide)
      have et : (nI t).toNatClampNeg = t := nI_clamp (by omega)
      have b58 : ∀ (C : Nat) (v : Nat), C = clF w (t + 1) → csF w t + v = csF w (t + 1) → Wq G M12_told 58 [some (.ref 79), some (.int k), some (.int (nI C)), some (.int (nI (csF w t))), some (.int (nI t))] [.int (nI v), .int (nI (csF w t))] (0, 0) w Q := by
        intro C v hC hv
        subst hC
        refine Wq.go ok12_told 40 [7] ?_
        show Wq G M12_told 7 [some (.ref 79), some (.int k), some (.int (nI (clF w (t + 1)))), some (.int (nI (csF w t) + nI v)), some (.int (nI t + 1))] [] (0, 0) w Q
        rw [nI_add, hv, nI_1]
        exact ih (t + 1) (by omega)
      have b34 : ∀ (C : Nat), C = clF w (t + 1) → Wq G M12_told 34 [some (.ref 79), some (.int k), some (.int (nI C)), some (.int (nI (csF w t))), some (.int (nI t))] [] (0, 0) w Q := by
        intro C hC
        refine Wq.go ok12_told 40 [58] ?_
        refine And.intro (fun (c : nI t ≤ 8) => ?_) (fun (c : ¬ nI t ≤ 8) => And.intro hin (And.intro (fun (c2 : ¬ ma w 0 (nI t).toNatClampNeg = 1) => ?_) (fun (c2 : ma w 0 (nI t).toNatClampNeg = 1) => ?_))) <;> rw [c_8, nI_leI (by omega) (by omega)] at c
        · refine b58 C 0 hC ?_
          show csF w t + 0 = csF w t + cIf (8 < t ∧ ma w 0 t = 1) 1 0
          rw [cIf_f (fun z => by omega)]
        · rw [et] at c2
          refine b58 C 0 hC ?_
          show csF w t + 0 = csF w t + cIf (8 < t ∧ ma w 0 t = 1) 1 0
          rw [cIf_f (fun z => c2 z.2)]
        · rw [et] at c2
          refine b58 C 1 hC ?_
          show csF w t + 1 = csF w t + cIf (8 < t ∧ ma w 0 t = 1) 1 0
          rw [cIf_t ⟨by omega, c2⟩]
      refine Wq.go ok12_told 40 [34] ?_
      refine And.intro (fun (z : mi w 1 ≤ nI t) => ?_) (fun _ => And.intro hin (And.intro (fun (c : ma w 4 (nI t).toNatClampNeg = 0) => ?_) (fun (c : ¬ ma w 4 (nI t).toNatClampNeg = 0) => ?_)))
      · rw [e1, nI_leI (by omega) (by omega)] at z; omega
      · rw [et] at c
        show Wq G M12_told 34 [some (.ref 79), some (.int k), some (.int (nI (clF w t) + nI 0)), some (.int (nI (csF w t))), some (.int (nI t))] [] (0, 0) w Q
        rw [nI_add]
        refine b34 _ ?_
        show clF w t + 0 = clF w t + cIf (ma w 4 t = 0) 0 1
        rw [cIf_t c]
      · rw [et] at c
        show Wq G M12_told 34 [some (.ref 79), some (.int k), some (.int (nI (clF w t) + 1)), some (.int (nI (csF w t))), some (.int (nI t))] [] (0, 0) w Q
        rw [nI_1]
        refine b34 _ ?_
        show clF w t + 1 = clF w t + cIf (ma w 4 t = 0) 0 1
        rw [cIf_f c]
  refine Con.go hw12_told ok12_told 40 [7] rfl ?_
  exact loop (nT w) 0 (Nat.zero_add _)
theorem c12_mix {n : Int64} (h : Q none (sJ w 12 52 0 (mx (mj w 52) n))) : Con G M12_mix [.ref 79, .long n] w Q := Con.go hw12_mix ok12_mix 20 [] rfl h
theorem c12_digest (hI : TInv w) (hX : XInv w) (hC : CInv w) (h : ∀ w', Sc (S_digest w).2 w' → Q (some (.long (S_digest w).1)) w') : Con G M12_digest [.ref 79] w Q := by
  have h100 := hI.le
  obtain ⟨x1, x2, x3, x4⟩ := id hX
  unfold S_digest at h
  -- a state that differs from w by what is mixed alone
  have setj : ∀ (a b : Int64), sJ (sJ w 12 52 0 a) 12 52 0 b = sJ w 12 52 0 b := by
    intro a b
    refine st_ext rfl ?_ rfl rfl
    funext r' k' i'
    show u3 (u3 w.2.1 12 52 0 a) 12 52 0 b r' k' i' = u3 w.2.1 12 52 0 b r' k' i'
    by_cases e : r' = 12 ∧ k' = 52 ∧ i' = 0
    · obtain ⟨rfl, rfl, rfl⟩ := e
      rw [u3_at, u3_at]
    · rw [u3_off _ _ e, u3_off _ _ e, u3_off _ _ e]
  have mixs : ∀ {Q' : Option Value → qSt → Prop} (a n : Int64), Q' none (sJ w 12 52 0 (mx a n)) → Con G M12_mix [.ref 79, .long n] (sJ w 12 52 0 a) Q' := by
    intro Q' a n hq
    refine c12_mix ?_
    rw [show mj (sJ w 12 52 0 a) 52 = a from gJ_at _ _ _ _ _, setj]
    exact hq
  -- the columns
  have cells : ∀ (K : Nat), K < 6 → ColOK w K → ∀ (n i : Nat) (a : Int64), i + n = cN w K → (∀ l2, Wq G M12_digest 204 [some (.ref 79), some (.int (nI K)), l2] [] (0, 0) (sJ w 12 52 0 (ceF w n (60 * K + i) a)) Q) → Wq G M12_digest 173 [some (.ref 79), some (.int (nI K)), some (.int (nI i))] [] (0, 0) (sJ w 12 52 0 a) Q := by
    intro K hK hCo n
    obtain ⟨o1, o2, o3, o4, o5⟩ := hCo
    have hin : vp_in (nI K) 6 := in_nI hK (by decide)
    have eK : (nI K).toNatClampNeg = K := nI_clamp (by omega)
    have e30 : ma w 30 (nI K).toNatClampNeg = nI (cN w K) := by rw [eK, o3]
    induction n with
    | zero =>
      intro i a hi hw
      have : i = cN w K := by omega
      subst this
      refine Wq.go ok12_digest 40 [204] ?_
      refine And.intro hin (And.intro (fun _ => hw _) (fun (z : ¬ ma w 30 (nI K).toNatClampNeg ≤ nI (cN w K)) => absurd (by rw [e30, i32_le]; omega) z))
    | succ n ih =>
      intro i a hi hw
      have ei : (60 : Int32) * nI K + nI i = nI (60 * K + i) := ix60 K i
      refine Wq.go ok12_digest 40 [173] ?_
      refine And.intro hin (And.intro (fun (z : ma w 30 (nI K).toNatClampNeg ≤ nI i) => ?_) (fun _ => And.intro (show vp_in ((60 : Int32) * nI K + nI i) 360 by rw [ei]; exact in_nI (by omega) (by decide)) ?_))
      · rw [e30, nI_leI (by omega) (by omega)] at z; omega
      · show Con G M12_mix [.ref 79, .long (ml w 31 ((60 : Int32) * nI K + nI i).toNatClampNeg)] (sJ w 12 52 0 a) _
        rw [ei, nI_clamp (by omega)]
        refine mixs _ _ ?_
        show Wq G M12_digest 173 [some (.ref 79), some (.int (nI K)), some (.int (nI i + 1))] [] (0, 0) (sJ w 12 52 0 (mx a (ml w 31 (60 * K + i)))) Q
        rw [nI_1]
        exact ih (i + 1) _ (by omega) hw
  have cols : ∀ (n K : Nat) (l2 : Option Value) (a : Int64), K + n = 6 → coF w n K a = (coF w 6 0 (shF w (10 * nT w) 0 (xF w (nX w) 0 17))) → Wq G M12_digest 145 [some (.ref 79), some (.int (nI K)), l2] [] (0, 0) (sJ w 12 52 0 a) Q := by
    intro n
    induction n with
    | zero =>
      intro K l2 a hK ha
      have : K = 6 := by omega
      subst this
      refine Wq.ls (ls' := [some (.ref 79), some (.int (nI 6)), none]) ⟨rfl, rfl, by cases l2 <;> trivial⟩ ?_
      refine Wq.go ok12_digest 40 [] ?_
      refine And.intro (fun _ => c12_told0 ?_) (fun z => absurd (by decide) z)
      rw [← ha] at h
      show Q (some (.long (mj (sJ w 12 52 0 a) 52))) _
      rw [show mj (sJ w 12 52 0 a) 52 = a from gJ_at _ _ _ _ _]
      exact h _ ((Sc.rf.J rfl rfl).I2 rfl)
    | succ n ih =>
      intro K l2 a hK ha
      have hin : vp_in (nI K) 6 := in_nI (by omega) (by decide)
      have eK : (nI K).toNatClampNeg = K := nI_clamp (by omega)
      have nx : ∀ (l : Option Value) (b : Int64), b = cIf (ma w 28 K = 0) a (ceF w (cN w K) (60 * K) (mx a (ma w 29 K).toInt64)) → Wq G M12_digest 204 [some (.ref 79), some (.int (nI K)), l] [] (0, 0) (sJ w 12 52 0 b) Q := by
        intro l b hb
        subst hb
        refine Wq.go ok12_digest 40 [145] ?_
        show Wq G M12_digest 145 [some (.ref 79), some (.int (nI K + 1)), l] [] (0, 0) _ Q
        rw [nI_1]
        exact ih (K + 1) l _ (by omega) ha
      refine Wq.ls (ls' := [some (.ref 79), some (.int (nI K)), none]) ⟨rfl, rfl, by cases l2 <;> trivial⟩ ?_
      refine Wq.go ok12_digest 40 [173, 204] ?_
      refine And.intro (fun (z : (6 : Int32) ≤ nI K) => ?_) (fun _ => And.intro hin (And.intro (fun (c : ma w 28 (nI K).toNatClampNeg = 0) => ?_) (fun (c : ¬ ma w 28 (nI K).toNatClampNeg = 0) => And.intro hin ?_)))
      · rw [c_6, nI_leI (by omega) (by omega)] at z; omega
      · rw [eK] at c
        exact nx _ a (cIf_t c).symm
      · rw [eK] at c
        show Con G M12_mix [.ref 79, .long (ma w 29 (nI K).toNatClampNeg).toInt64] (sJ w 12 52 0 a) _
        rw [eK]
        refine mixs _ _ ?_
        refine cells K (by omega) ((hC K (by omega)).2 c) (cN w K) 0 _ (Nat.zero_add _) (fun l => nx l _ (cIf_f c).symm)
  -- the shared places
  have shs : ∀ (n a : Nat) (l2 : Option Value) (b : Int64), a + n = 10 * nT w → coF w 6 0 (shF w n a b) = (coF w 6 0 (shF w (10 * nT w) 0 (xF w (nX w) 0 17))) → Wq G M12_digest 82 [some (.ref 79), some (.int (nI a)), l2] [] (0, 0) (sJ w 12 52 0 b) Q := by
    have e10 : (10 : Int32) * mi w 1 = nI (10 * nT w) := by rw [hI.ty.1, show (10 : Int32) = nI 10 from rfl, pk_mul]
    intro n
    induction n with
    | zero =>
      intro a l2 b ha hb
      refine Wq.ls (ls' := [some (.ref 79), some (.int (nI a)), none]) ⟨rfl, rfl, by cases l2 <;> trivial⟩ ?_
      refine Wq.go ok12_digest 40 [145] ?_
      refine And.intro (fun _ => ?_) (fun (z : ¬ (10 : Int32) * mi w 1 ≤ nI a) => absurd (by rw [e10, nI_leI (by omega) (by omega)]; omega) z)
      exact cols 6 0 none b (by omega) hb
    | succ n ih =>
      intro a l2 b ha hb
      have hia : vp_in (nI a) 1000 := in_nI (by omega) (by decide)
      have ea : (nI a).toNatClampNeg = a := nI_clamp (by omega)
      have hid : vp_in (nI a / (10 : Int32)) 100 := by rw [div10 (by omega)]; exact in_nI (by omega) (by decide)
      have ed : ma w 7 (nI a / (10 : Int32)).toNatClampNeg = nI (nM w (a / 10)) := by rw [div10 (by omega), nI_clamp (by omega)]; exact (hI.mbs (i := a / 10) (by omega)).1
      have er : nI a - nI a / (10 : Int32) * 10 = nI (a % 10) := rem10 (by omega)
      have hm := (hI.mbs (i := a / 10) (by omega)).2.1
      have nx : ∀ (b' : Int64), b' = cIf (isSh w a) (mx b (ml w 14 a)) b → Wq G M12_digest 137 [some (.ref 79), some (.int (nI a)), none] [] (0, 0) (sJ w 12 52 0 b') Q := by
        intro b' hb'
        subst hb'
        refine Wq.go ok12_digest 40 [82] ?_
        show Wq G M12_digest 82 [some (.ref 79), some (.int (nI a + 1)), none] [] (0, 0) _ Q
        rw [nI_1]
        exact ih (a + 1) none _ (by omega) hb
      refine Wq.ls (ls' := [some (.ref 79), some (.int (nI a)), none]) ⟨rfl, rfl, by cases l2 <;> trivial⟩ ?_
      refine Wq.go ok12_digest 40 [137] ?_
      refine And.intro (fun (z : (10 : Int32) * mi w 1 ≤ nI a) => ?_) (fun _ => And.intro (by decide) (And.intro (by decide) (And.intro hid (And.intro (fun (c : ma w 7 (nI a / (10 : Int32)).toNatClampNeg ≤ nI a - nI a / (10 : Int32) * 10) => ?_) (fun (c : ¬ ma w 7 (nI a / (10 : Int32)).toNatClampNeg ≤ nI a - nI a / (10 : Int32) * 10) => And.intro hia (And.intro (fun (c2 : ma w 8 (nI a).toNatClampNeg = 0) => ?_) (fun (c2 : ¬ ma w 8 (nI a).toNatClampNeg = 0) => And.intro hia (And.intro (fun (c3 : ma w 11 (nI a).toNatClampNeg = 0) => ?_) (fun (c3 : ¬ ma w 11 (nI a).toNatClampNeg = 0) => And.intro hia ?_)))))))))
      · rw [e10, nI_leI (by omega) (by omega)] at z; omega
      · rw [ed, er, nI_leI (by omega) (by omega)] at c
        exact nx b (cIf_f (fun z => by have := z.1; omega)).symm
      · rw [ea] at c2
        exact nx b (cIf_f (fun z => z.2.1 c2)).symm
      · rw [ea] at c3
        exact nx b (cIf_f (fun z => z.2.2 c3)).symm
      · rw [ed, er, nI_leI (by omega) (by omega)] at c
        rw [ea] at c2 c3
        show Con G M12_mix [.ref 79, .long (ml w 14 (nI a).toNatClampNeg)] (sJ w 12 52 0 b) _
        rw [ea]
        refine mixs _ _ ?_
        exact nx _ (cIf_t ⟨by omega, c2, c3⟩).symm
  -- the items of a thing
  have its : ∀ (x : Nat), x < nX w → ∀ (n p : Nat) (b : Int64), p + n = pX w x + sX w x → (Wq G M12_digest 74 [some (.ref 79), some (.int (nI x)), some (.int (nI (pX w x + sX w x)))] [] (0, 0) (sJ w 12 52 0 (itF w n p b)) Q) → Wq G M12_digest 46 [some (.ref 79), some (.int (nI x)), some (.int (nI p))] [] (0, 0) (sJ w 12 52 0 b) Q := by
    intro x hx n
    have hi61 : vp_in (nI x + 1) 61 := by rw [nI_1]; exact in_nI (by omega) (by decide)
    have y7 := (x4 x hx).2.2.2.2.2.2.1
    have hsz := hX.sz hx
    have e22 : ma w 22 (nI x + 1).toNatClampNeg = nI (pX w x + sX w x) := by rw [nI_1, nI_clamp (by omega), (x3 (x + 1) (by omega)).1, y7]
    induction n with
    | zero =>
      intro p b hp hw
      have : p = pX w x + sX w x := by omega
      subst this
      refine Wq.go ok12_digest 40 [74] ?_
      refine And.intro hi61 (And.intro (fun _ => hw) (fun (z : ¬ ma w 22 (nI x + 1).toNatClampNeg ≤ nI (pX w x + sX w x)) => absurd (by rw [e22, i32_le]; omega) z))
    | succ n ih =>
      intro p b hp hw
      refine Wq.go ok12_digest 40 [46] ?_
      refine And.intro hi61 (And.intro (fun (z : ma w 22 (nI x + 1).toNatClampNeg ≤ nI p) => ?_) (fun _ => And.intro (show vp_in (nI p) 60000 from in_nI (by omega) (by decide)) ?_))
      · rw [e22, nI_leI (by omega) (by omega)] at z; omega
      · show Con G M12_mix [.ref 79, .long (ml w 23 (nI p).toNatClampNeg)] (sJ w 12 52 0 b) _
        rw [nI_clamp (by omega)]
        refine mixs _ _ ?_
        show Wq G M12_digest 46 [some (.ref 79), some (.int (nI x)), some (.int (nI p + 1))] [] (0, 0) _ Q
        rw [nI_1]
        exact ih (p + 1) _ (by omega) hw
  have xs : ∀ (n x : Nat) (l2 : Option Value) (b : Int64), x + n = nX w → coF w 6 0 (shF w (10 * nT w) 0 (xF w n x b)) = (coF w 6 0 (shF w (10 * nT w) 0 (xF w (nX w) 0 17))) → Wq G M12_digest 9 [some (.ref 79), some (.int (nI x)), l2] [] (0, 0) (sJ w 12 52 0 b) Q := by
    intro n
    induction n with
    | zero =>
      intro x l2 b hx hb
      refine Wq.ls (ls' := [some (.ref 79), some (.int (nI x)), none]) ⟨rfl, rfl, by cases l2 <;> trivial⟩ ?_
      refine Wq.go ok12_digest 40 [82] ?_
      refine And.intro (fun _ => ?_) (fun (z : ¬ mi w 22 ≤ nI x) => absurd (by rw [x1, nI_leI (by omega) (by omega)]; omega) z)
      exact shs (10 * nT w) 0 none b (Nat.zero_add _) hb
    | succ n ih =>
      intro x l2 b hx hb
      have hi60 : vp_in (nI x) 60 := in_nI (by omega) (by decide)
      have hi61 : vp_in (nI x) 61 := in_nI (by omega) (by decide)
      have ex : (nI x).toNatClampNeg = x := nI_clamp (by omega)
      refine Wq.ls (ls' := [some (.ref 79), some (.int (nI x)), none]) ⟨rfl, rfl, by cases l2 <;> trivial⟩ ?_
      refine Wq.go ok12_digest 40 [46] ?_
      refine And.intro (fun (z : mi w 22 ≤ nI x) => ?_) (fun _ => And.intro hi60 ?_)
      · rw [x1, nI_leI (by omega) (by omega)] at z; omega
      · show Con G M12_mix [.ref 79, .long (ma w 19 (nI x).toNatClampNeg).toInt64] (sJ w 12 52 0 b) _
        rw [ex]
        refine mixs _ _ (And.intro hi60 ?_)
        show Con G M12_mix [.ref 79, .long (ma w 20 (nI x).toNatClampNeg).toInt64] (sJ w 12 52 0 _) _
        rw [ex]
        refine mixs _ _ (And.intro hi61 ?_)
        show Wq G M12_digest 46 [some (.ref 79), some (.int (nI x)), some (.int (ma w 22 (nI x).toNatClampNeg))] [] (0, 0) _ Q
        rw [ex, (x3 x (by omega)).1]
        refine its x (by omega) (sX w x) (pX w x) _ rfl ?_
        refine Wq.go ok12_digest 40 [9] ?_
        show Wq G M12_digest 9 [some (.ref 79), some (.int (nI x + 1)), _] [] (0, 0) _ Q
        rw [nI_1]
        exact ih (x + 1) _ _ (by omega) hb
  refine Con.go hw12_digest ok12_digest 40 [9] rfl ?_
  exact xs (nX w) 0 none 17 (Nat.zero_add _) rfl
end
