/-! ===== queries run ===== -/
noncomputable def ano (r : rdT) : Int32 := cIf (r.1 < 0) r.1 (cIf (r.2.1 = 8) (-16) 0)
noncomputable def akF (w : qSt) (q : Nat) (x : Int32) : Nat → Nat → Prop → Int32 × List Int32
  | 0, _, is => (bI is, [])
  | n + 1, k, is => cIf (0 < k ∧ bI is = ma w 36 (8 * q + k)) (akF w q x n (k + 1) is)
      (cIf (ano (rdR w (tH w (8 * q + k)) x) < 0) (ano (rdR w (tH w (8 * q + k)) x), (rdR w (tH w (8 * q + k)) x).2.2.2)
        ((akF w q x n (k + 1) (cpP (tn (rdR w (tH w (8 * q + k)) x).2.1) (rdR w (tH w (8 * q + k)) x).2.2.1 (tO w (8 * q + k)) (ml w 35 (8 * q + k)))).1,
          (rdR w (tH w (8 * q + k)) x).2.2.2 ++ (akF w q x n (k + 1) (cpP (tn (rdR w (tH w (8 * q + k)) x).2.1) (rdR w (tH w (8 * q + k)) x).2.2.1 (tO w (8 * q + k)) (ml w 35 (8 * q + k)))).2))
noncomputable def akX (w : qSt) (q x : Nat) : Int32 × List Int32 := cIf (soP w (bX w x) (dX w x) (hC w (tH w (8 * q))) 0) (akF w q (nI x) (tQ w q) 0 True) (0, [])
abbrev rnT : Type := Int32 × Int32 × List Nat × List Int32
noncomputable def rnF (w : qSt) (q : Nat) : Nat → Nat → rnT
  | 0, _ => (0, -1, [], [])
  | n + 1, x => cIf ((akX w q x).1 < 0) ((akX w q x).1, nI x, [], (akX w q x).2)
      ((rnF w q n (x + 1)).1, (rnF w q n (x + 1)).2.1, cIf ((akX w q x).1 = 1) [x] [] ++ (rnF w q n (x + 1)).2.2.1, (akX w q x).2 ++ (rnF w q n (x + 1)).2.2.2)
def putI (f : Nat → Int32) (l : List Nat) : Nat → Int32 := fun p => if p < l.length then nI (l.getD p 0) else f p
theorem putI_nil (f : Nat → Int32) : putI f [] = f := by
  funext p
  unfold putI
  rw [if_neg (by show ¬ p < 0; omega)]
theorem putI_snoc (f : Nat → Int32) (l : List Nat) (v : Nat) : (fun j => if j = l.length then nI v else putI f l j) = putI f (l ++ [v]) := by
  funext p
  unfold putI
  rw [List.length_append]
  by_cases h1 : p = l.length
  · subst h1
    rw [if_pos rfl, if_pos (by simp)]
    simp [List.getD]
  · rw [if_neg h1]
    by_cases h2 : p < l.length
    · rw [if_pos h2, if_pos (by simp; omega)]
      simp only [List.getD]
      rw [List.getElem?_append_left (by omega)]
    · rw [if_neg h2, if_neg (by simp; omega)]
noncomputable def stR (w : qSt) (tr : List Int32) (hs : List Nat) (fa : Int32) : qSt := sI (sI (rI (sTr w tr) 37 (putI (ma w 37) hs)) 12 49 0 (nI hs.length)) 12 51 0 fa
noncomputable def rnN (w : qSt) (q f n : Nat) : rnT := rnF w q (min (f + n) (nX w) - f) f
noncomputable def S_run (w : qSt) (q f n : Int32) : Int32 × qSt :=
  cIf (¬ isQ w q ∨ ¬ (∃ k, f = nI k ∧ k < 60) ∨ ¬ (∃ k, n = nI k ∧ k < 61)) (-1, stt w (-1)) (cIf (tQ w (tn q) = 0) (-3, stt w (-3))
    (cIf ((rnN w (tn q) (tn f) (tn n)).1 < 0) ((rnN w (tn q) (tn f) (tn n)).1, stt (stR (sI w 12 36 0 0) (rnN w (tn q) (tn f) (tn n)).2.2.2 (rnN w (tn q) (tn f) (tn n)).2.2.1 (rnN w (tn q) (tn f) (tn n)).2.1) (rnN w (tn q) (tn f) (tn n)).1)
      (nI (rnN w (tn q) (tn f) (tn n)).2.2.1.length, stt (stR (sI w 12 36 0 0) (rnN w (tn q) (tn f) (tn n)).2.2.2 (rnN w (tn q) (tn f) (tn n)).2.2.1 (rnN w (tn q) (tn f) (tn n)).2.1) 0)))
theorem rI_off (w : qSt) (f : Nat → Int32) {r k i : Nat} (v : Int32) (h : ¬ (r = 40 ∧ k = 37)) : sI (rI w 37 f) r k i v = rI (sI w r k i v) 37 f := by
  refine st_ext ?_ rfl rfl rfl
  funext a b c
  show u3 (fun a k i => bif Nat.beq a 40 && Nat.beq k 37 then f i else gI w a k i) r k i v a b c = (bif Nat.beq a 40 && Nat.beq b 37 then f c else u3 w.1 r k i v a b c)
  by_cases e : a = r ∧ b = k ∧ c = i
  · obtain ⟨rfl, rfl, rfl⟩ := e
    rw [u3_at, u3_at]
    cases e2 : (Nat.beq a 40 && Nat.beq b 37) with
    | false => rfl
    | true =>
      rw [Bool.and_eq_true] at e2
      exact absurd ⟨Nat.eq_of_beq_eq_true e2.1, Nat.eq_of_beq_eq_true e2.2⟩ h
  · rw [u3_off _ _ e, u3_off _ _ e]
theorem sT1_sr (u : qSt) (t : Int32) (f : Nat → Int32) (v z : Int32) : sT1 (sI (sI (rI u 37 f) 12 49 0 v) 12 51 0 z) t = sI (sI (rI (sT1 u t) 37 f) 12 49 0 v) 12 51 0 z := by
  unfold sT1
  rw [show nTr (sI (sI (rI u 37 f) 12 49 0 v) 12 51 0 z) = nTr u from rfl]
  by_cases h : nTr u < 60
  · rw [if_pos h, if_pos h]
    rw [sI_cm (sI (rI u 37 f) 12 49 0 v) z t (by omega), sI_cm _ z _ (by omega), sI_cm (rI u 37 f) v t (by omega), sI_cm _ v _ (by omega), rI_off _ _ _ (by omega), rI_off _ _ _ (by omega)]
  · rw [if_neg h, if_neg h]
theorem sTr_sr (l : List Int32) : ∀ (u : qSt) (f : Nat → Int32) (v z : Int32), sTr (sI (sI (rI u 37 f) 12 49 0 v) 12 51 0 z) l = sI (sI (rI (sTr u l) 37 f) 12 49 0 v) 12 51 0 z := by
  induction l with
  | nil => exact fun _ _ _ _ => rfl
  | cons t l ih =>
    intro u f v z
    show sTr (sT1 _ t) l = sI (sI (rI (sTr (sT1 u t) l) 37 f) 12 49 0 v) 12 51 0 z
    rw [sT1_sr, ih]
theorem stR_tr (w : qSt) (tr l : List Int32) (hs : List Nat) (fa : Int32) : sTr (stR w tr hs fa) l = stR w (tr ++ l) hs fa := by
  unfold stR
  rw [sTr_sr, sTr_app]
theorem stR_snoc (w : qSt) (tr : List Int32) (hs : List Nat) (x : Nat) (fa : Int32) : sI (sI (stR w tr hs fa) 40 37 hs.length (nI x)) 12 49 0 (nI (hs.length + 1)) = stR w tr (hs ++ [x]) fa := by
  unfold stR
  rw [List.length_append, sI_cm _ fa (nI x) (by omega), sI_cm _ fa (nI (hs.length + 1)) (by omega), sI_cm _ (nI hs.length) (nI x) (by omega), sI_sI, rI_sI, putI_snoc]; rfl
theorem stR_fa (w : qSt) (tr : List Int32) (hs : List Nat) (fa fb : Int32) : sI (stR w tr hs fa) 12 51 0 fb = stR w tr hs fb := by
  unfold stR; rw [sI_sI]
theorem RE.rI {w w' : qSt} (h : RE w w') {r : Nat} {f : Nat → Int32} (hs : rbI 40 r = false) : RE w (rI w' r f) := by
  refine Eq.trans (b := rp w') (st_ext ?_ rfl rfl rfl) h
  funext r' k' i'
  show (bif rbI r' k' then (bif Nat.beq r' 40 && Nat.beq k' r then f i' else gI w' r' k' i') else 0) = (bif rbI r' k' then gI w' r' k' i' else 0)
  cases e : (Nat.beq r' 40 && Nat.beq k' r) with
  | false => rfl
  | true =>
    rw [Bool.and_eq_true] at e
    rw [Nat.eq_of_beq_eq_true e.1, Nat.eq_of_beq_eq_true e.2, hs]; rfl
theorem RE.stR (w : qSt) (tr : List Int32) (hs : List Nat) (fa : Int32) : RE w (stR w tr hs fa) := (((RE.sTr tr w).rI (r := 37) rfl).I rfl).I rfl
theorem rn_len {w : qSt} {q : Nat} : ∀ (n x : Nat), (rnF w q n x).2.2.1.length ≤ n
  | 0, x => by unfold rnF; exact Nat.le_refl _
  | n + 1, x => by
    unfold rnF
    by_cases c : (akX w q x).1 < 0
    · rw [cIf_t c]; exact Nat.zero_le _
    · rw [cIf_f c]
      have := rn_len (w := w) (q := q) n (x + 1)
      show (cIf ((akX w q x).1 = 1) [x] [] ++ (rnF w q n (x + 1)).2.2.1).length ≤ n + 1
      rw [List.length_append]
      by_cases c2 : (akX w q x).1 = 1
      · rw [cIf_t c2]; show 1 + _ ≤ _; omega
      · rw [cIf_f c2]; show 0 + _ ≤ _; omega
theorem ak_cases {w : qSt} {q : Nat} {x : Int32} : ∀ (n k : Nat) (is : Prop), (akF w q x n k is).1 < 0 ∨ (akF w q x n k is).1 = 0 ∨ (akF w q x n k is).1 = 1
  | 0, k, is => by
    unfold akF
    by_cases h : is
    · rw [bI_t h]; exact Or.inr (Or.inr rfl)
    · rw [bI_f h]; exact Or.inr (Or.inl rfl)
  | n + 1, k, is => by
    unfold akF
    by_cases c : 0 < k ∧ bI is = ma w 36 (8 * q + k)
    · rw [cIf_t c]; exact ak_cases n _ _
    · rw [cIf_f c]
      by_cases c2 : ano (rdR w (tH w (8 * q + k)) x) < 0
      · rw [cIf_t c2]; exact Or.inl c2
      · rw [cIf_f c2]; exact ak_cases n _ _
/-- what the values that are read are -/
def VRd (w : qSt) : Prop := ∀ h x, h < nH w → ¬ noX w x → (rdR w h x).1 = 0 → ∀ L, L < 8 → (rdR w h x).2.1 = nI L → kp L (rdR w h x).2.2.1 = (rdR w h x).2.2.1
theorem VRd.ok {w : qSt} (hV : VRd w) {h : Nat} {x : Int32} (hh : h < nH w) (hx : ¬ noX w x) (h0 : (rdR w h x).1 = 0) {l : Nat} (hl : (rdR w h x).2.1 = nI l) : okB l (rdR w h x).2.2.1 :=
  ⟨fun q => by subst q; exact kp6_ok (hV h x hh hx h0 6 (by omega) hl), fun q => by subst q; exact kp7_ok (hV h x hh hx h0 7 (by omega) hl)⟩
section
variable {G : qGX} {w : qSt} {Q : Option Value → qSt → Prop}
/-- w1 is a state in the midst of a run: what is asked is the same as in w -/
def RnE (w w1 : qSt) : Prop := RE w w1 ∧ TrOK w1 ∧ ma w1 32 = ma w 32 ∧ ma w1 33 = ma w 33 ∧ ma w1 34 = ma w 34 ∧ ma w1 36 = ma w 36 ∧ ml w1 35 = ml w 35
theorem RnE.sc {w w1 w2 : qSt} (h : RnE w w1) (hS : Sc w1 w2) : RnE w w2 :=
  ⟨h.1.tr hS.re, h.2.1.sc hS, (hS.row rfl).trans h.2.2.1, (hS.row rfl).trans h.2.2.2.1, (hS.row rfl).trans h.2.2.2.2.1, (hS.row rfl).trans h.2.2.2.2.2.1, (hS.mq.rowJ 35).trans h.2.2.2.2.2.2⟩
theorem RnE.tr {w w1 : qSt} (h : RnE w w1) (l : List Int32) : RnE w (sTr w1 l) := by
  obtain ⟨a1, a2, a3⟩ := sTr_28 l w1
  exact ⟨h.1.tr (RE.sTr l w1), h.2.1.str l, (a1 32 (by omega)).trans h.2.2.1, (a1 33 (by omega)).trans h.2.2.2.1, (a1 34 (by omega)).trans h.2.2.2.2.1, (a1 36 (by omega)).trans h.2.2.2.2.2.1, (congrArg (fun z : (Nat → Nat → Nat → Int64) × (Nat → Nat → Nat → Option Nat) × (Nat → Nat → Nat) => z.1 40 35) a3).trans h.2.2.2.2.2.2⟩
theorem c12_asks {w1 : qSt} {q : Nat} {x : Int32} (hI : TInv w) (hX : XInv w) (hH : HInv w) (hV : VRd w) (hQ : QInv w) (hq : q < 20) (hx : ¬ noX w x) (hR : RnE w w1)
    (h : ∀ w', Sc (sTr w1 (akF w q x (tQ w q) 0 True).2) w' → Q (some (.int (akF w q x (tQ w q) 0 True).1)) w') : Con G M12_asks [.ref 79, .int (nI q), .int x] w1 Q := by
  obtain ⟨q1, q2, q3⟩ := hQ
  obtain ⟨t1, t2, t3, t4⟩ := q3 q hq
  have hin : vp_in (nI q) 20 := in_nI (by omega) (by decide)
  have eq : (nI q).toNatClampNeg = q := nI_clamp (by omega)
  have e8 : (8 : Int32) * nI q = nI (8 * q) := by rw [show (8 : Int32) = nI 8 from rfl, pk_mul]
  have loop : ∀ (n k : Nat) (is : Prop) (l5 : Option Value) (w2 : qSt), k + n = tQ w q → RnE w w2 → (∀ w', Sc (sTr w2 (akF w q x n k is).2) w' → Q (some (.int (akF w q x n k is).1)) w') →
      Wq G M12_asks 8 [some (.ref 79), some (.int (nI q)), some (.int x), some (.int (bI is)), some (.int (nI (8 * q + k))), l5] [] (0, 0) w2 Q := by
    intro n
    induction n with
    | zero =>
      intro k is l5 w2 hk hR2 hf
      have e32 : ma w2 32 (nI q).toNatClampNeg = nI (tQ w q) := by rw [hR2.2.2.1, eq, t1]
      unfold akF at hf
      refine Wq.ls (ls' := [some (.ref 79), some (.int (nI q)), some (.int x), some (.int (bI is)), some (.int (nI (8 * q + k))), none]) ⟨rfl, rfl, rfl, rfl, rfl, by cases l5 <;> trivial⟩ ?_
      refine Wq.go ok12_asks 40 [] ?_
      refine And.intro hin (And.intro (fun _ => ?_) (fun (z : ¬ (8 : Int32) * nI q + ma w2 32 (nI q).toNatClampNeg ≤ nI (8 * q + k)) => absurd (by rw [e32, ix8, nI_leI (by omega) (by omega)]; omega) z))
      have hf := hf w2 Sc.rf
      refine And.intro (fun c => ?_) (fun c => ?_)
      · rw [bI_0] at c
        rw [bI_f c] at hf
        exact hf
      · rw [bI_n0] at c
        rw [bI_t c] at hf
        exact hf
    | succ n ih =>
      intro k is l5 w2 hk hR2 hf
      have e32 : ma w2 32 (nI q).toNatClampNeg = nI (tQ w q) := by rw [hR2.2.2.1, eq, t1]
      have hia : vp_in (nI (8 * q + k)) 160 := in_nI (by omega) (by decide)
      have ea : (nI (8 * q + k)).toNatClampNeg = 8 * q + k := nI_clamp (by omega)
      obtain ⟨s1, s2, s3, s4, s5⟩ := t4 k (by omega)
      unfold akF at hf
      refine Wq.ls (ls' := [some (.ref 79), some (.int (nI q)), some (.int x), some (.int (bI is)), some (.int (nI (8 * q + k))), none]) ⟨rfl, rfl, rfl, rfl, rfl, by cases l5 <;> trivial⟩ ?_
      have nx : ∀ (is' : Prop) (l : Option Value) (w3 : qSt), RnE w w3 → (∀ w', Sc (sTr w3 (akF w q x n (k + 1) is').2) w' → Q (some (.int (akF w q x n (k + 1) is').1)) w') → Wq G M12_asks 103 [some (.ref 79), some (.int (nI q)), some (.int x), some (.int (bI is')), some (.int (nI (8 * q + k))), l] [] (0, 0) w3 Q := by
        intro is' l w3 hR3 hf3
        refine Wq.ls (ls' := [some (.ref 79), some (.int (nI q)), some (.int x), some (.int (bI is')), some (.int (nI (8 * q + k))), none]) ⟨rfl, rfl, rfl, rfl, rfl, by cases l <;> trivial⟩ ?_
        refine Wq.go ok12_asks 40 [8] ?_
        show Wq G M12_asks 8 [some (.ref 79), some (.int (nI q)), some (.int x), some (.int (bI is')), some (.int (nI (8 * q + k) + 1)), none] [] (0, 0) w3 Q
        rw [nI_1]
        exact ih (k + 1) is' none w3 (by omega) hR3 hf3
      have rd : ¬ (0 < k ∧ bI is = ma w 36 (8 * q + k)) → Wq G M12_asks 47 [some (.ref 79), some (.int (nI q)), some (.int x), some (.int (bI is)), some (.int (nI (8 * q + k))), none] [] (0, 0) w2 Q := by
        intro hn
        rw [cIf_f hn] at hf
        have hRE := hR2.1
        have h86 : ∀ (y v : Int32) (w3 : qSt), v = ano (rdR w (tH w (8 * q + k)) x) → Sc (sTr w2 (rdR w (tH w (8 * q + k)) x).2.2.2) w3 → ((rdR w (tH w (8 * q + k)) x).1 = 0 → mi w3 33 = (rdR w (tH w (8 * q + k)) x).2.1 ∧ mj w3 34 = (rdR w (tH w (8 * q + k)) x).2.2.1) →
            Wq G M12_asks 86 [some (.ref 79), some (.int (nI q)), some (.int x), some (.int (bI is)), some (.int (nI (8 * q + k))), some (.int y)] [.int v] (0, 0) w3 Q := by
          intro y v w3 hv hS3 h3
          have hR3 : RnE w w3 := (hR2.tr _).sc hS3
          refine Wq.go ok12_asks 40 [103] ?_
          refine And.intro (fun c5 => ?_) (fun c5 => ?_)
          · have c5' := nlt0 c5
            rw [hv] at c5'
            rw [cIf_f c5'] at hf
            have r0 : ¬ (rdR w (tH w (8 * q + k)) x).1 < 0 := fun z => c5' (by unfold ano; rw [cIf_t z]; exact z)
            have r00 := (rd_le w (tH w (8 * q + k)) x).resolve_left r0
            have r8 : ¬ (rdR w (tH w (8 * q + k)) x).2.1 = 8 := fun z => c5' (by unfold ano; rw [cIf_f r0, cIf_t z]; decide)
            obtain ⟨g1, g2⟩ := h3 r00
            obtain ⟨l, el, hl⟩ := rd_lane w (tH w (8 * q + k)) x
            have hl7 : l ≤ 7 := by
              rw [el, c_8, nI_eqI (by omega) (by omega)] at r8
              omega
            have etn : tn (rdR w (tH w (8 * q + k)) x).2.1 = l := by rw [el]; exact tn_nI (by omega)
            rw [etn] at hf
            refine c12_compares (l := l) (op := tO w (8 * q + k)) (V := (rdR w (tH w (8 * q + k)) x).2.2.1) (v := ml w 35 (8 * q + k)) (by omega) (by rw [g1, el]) hl7 g2 (by rw [hR3.2.2.2.2.1]; exact s3) s4 (by rw [hR3.2.2.2.2.2.2]) (hV.ok s2 hx r00 el) ?_
            refine nx _ _ w3 hR3 (fun w' hw' => hf w' ?_)
            rw [sTr_app]
            exact (hS3.Tr _).tr hw'
          · have c6 := lt0 c5
            rw [hv] at c6
            rw [cIf_t c6] at hf
            rw [hv]
            exact hf w3 hS3
        refine Wq.go ok12_asks 40 [71, 86] ?_
        refine And.intro hia ?_
        show Con G M12_readBy [.ref 79, .int (ma w2 33 (nI (8 * q + k)).toNatClampNeg), .int x] w2 _
        rw [ea, hR2.2.2.2.1, s1]
        refine c12_readBy (hRE.tinv hI) (hRE.xinv hX) (hRE.hinv hH) hR2.2.1 (by rw [hRE.enH]; exact s2) (by rw [hRE.enoX]; exact hx) (fun w3 hS3 h3 => ?_)
        rw [hRE.erd] at hS3 h3 ⊢
        refine And.intro (fun (c5 : 0 ≤ (rdR w (tH w (8 * q + k)) x).1) => ?_) (fun (c5 : ¬ 0 ≤ (rdR w (tH w (8 * q + k)) x).1) => ?_)
        · have r00 := (rd_le w (tH w (8 * q + k)) x).resolve_left (nlt0 c5)
          obtain ⟨g1, g2⟩ := h3 r00
          refine Wq.go ok12_asks 40 [86] ?_
          refine And.intro (fun (c6 : ¬ mi w3 33 = 8) => ?_) (fun (c6 : mi w3 33 = 8) => ?_) <;> rw [g1] at c6
          · exact h86 _ _ w3 (by unfold ano; rw [cIf_f (nlt0 c5), cIf_f c6]) hS3 h3
          · exact h86 _ _ w3 (by unfold ano; rw [cIf_f (nlt0 c5), cIf_t c6]) hS3 h3
        · exact h86 _ _ w3 (by unfold ano; rw [cIf_t (lt0 c5)]) hS3 h3
      refine Wq.go ok12_asks 40 [47, 103] ?_
      refine And.intro hin (And.intro (fun (z : (8 : Int32) * nI q + ma w2 32 (nI q).toNatClampNeg ≤ nI (8 * q + k)) => ?_) (fun _ => And.intro (fun (c : nI (8 * q + k) ≤ (8 : Int32) * nI q) => ?_) (fun (c : ¬ nI (8 * q + k) ≤ (8 : Int32) * nI q) => And.intro hia (And.intro (fun (c2 : ¬ bI is = ma w2 36 (nI (8 * q + k)).toNatClampNeg) => ?_) (fun (c2 : bI is = ma w2 36 (nI (8 * q + k)).toNatClampNeg) => ?_)))))
      · rw [e32, ix8, nI_leI (by omega) (by omega)] at z; omega
      · rw [e8, nI_leI (by omega) (by omega)] at c
        exact rd (fun z => by omega)
      · rw [ea, hR2.2.2.2.2.2.1] at c2
        exact rd (fun z => c2 z.2)
      · rw [ea, hR2.2.2.2.2.2.1] at c2
        rw [e8, nI_leI (by omega) (by omega)] at c
        rw [cIf_t ⟨by omega, c2⟩] at hf
        exact nx is none w2 hR2 hf
  refine Con.go hw12_asks ok12_asks 40 [8] rfl ?_
  show Wq G M12_asks 8 [some (.ref 79), some (.int (nI q)), some (.int x), some (.int 1), some (.int ((8 : Int32) * nI q)), none] [] (0, 0) w1 Q
  rw [e8]
  have := loop (tQ w q) 0 True none w1 (Nat.zero_add _) hR h
  rw [bI_t trivial] at this
  exact this
theorem c12_run {q f n : Int32} (hI : TInv w) (hX : XInv w) (hH : HInv w) (hV : VRd w) (hQ : QInv w) (h : ∀ w', Sc (S_run w q f n).2 w' → Q (some (.int (S_run w q f n).1)) w') : Con G M12_run [.ref 79, .int q, .int f, .int n] w Q := by
  obtain ⟨q1, q2, q3⟩ := id hQ
  obtain ⟨x1, x2, x3, x4⟩ := id hX
  unfold S_run at h
  have bad : (¬ isQ w q ∨ ¬ (∃ k, f = nI k ∧ k < 60) ∨ ¬ (∃ k, n = nI k ∧ k < 61)) → Wq G M12_run 32 [some (.ref 79), some (.int q), some (.int f), some (.int n), none, none] [] (0, 0) w Q := by
    intro hb
    rw [cIf_t hb] at h
    exact Wq.go ok12_run 20 [] (c12_fail (h _ Sc.rf))
  refine Con.go hw12_run ok12_run 40 [32, 38] rfl ?_
  refine c12_isQuery q1 q2 (And.intro (fun c1 => bad (Or.inl (bI_0.mp c1))) (fun c1 => c12_inC (n := 60) rfl (by omega) (And.intro (fun c2 => bad (Or.inr (Or.inl (bI_0.mp c2)))) (fun c2 => c12_inC (n := 61) rfl (by omega) (And.intro (fun c3 => ?_) (fun c3 => bad (Or.inr (Or.inr (bI_0.mp c3)))))))))
  rw [bI_n0] at c1 c2 c3
  rw [cIf_f (fun z => z.elim (fun z => z c1) (fun z => z.elim (fun z => z c2) (fun z => z c3)))] at h
  obtain ⟨J, rfl, hJ⟩ := c1
  obtain ⟨F, rfl, hF⟩ := c2
  obtain ⟨N, rfl, hN⟩ := c3
  obtain ⟨t1, t2, t3, t4⟩ := q3 J (by omega)
  have hin : vp_in (nI J) 20 := in_nI (by omega) (by decide)
  have eJ : (nI J).toNatClampNeg = J := nI_clamp (by omega)
  have e32 : ma w 32 (nI J).toNatClampNeg = nI (tQ w J) := by rw [eJ, t1]
  have e8 : (8 : Int32) * nI J = nI (8 * J) := by rw [show (8 : Int32) = nI 8 from rfl, pk_mul]
  rw [tn_nI (by omega), tn_nI (by omega), tn_nI (by omega)] at h
  refine Wq.go ok12_run 40 [54] ?_
  refine And.intro hin (And.intro (fun (c : ¬ ma w 32 (nI J).toNatClampNeg = 0) => ?_) (fun (c : ma w 32 (nI J).toNatClampNeg = 0) => ?_)) <;> rw [e32, c_0', nI_eqI (by omega) (by omega)] at c
  · rw [cIf_f c] at h
    obtain ⟨s1, s2, -⟩ := t4 0 (by omega)
    rw [Nat.add_zero] at s1 s2
    have hi8 : vp_in ((8 : Int32) * nI J) 160 := by rw [e8]; exact in_nI (by omega) (by decide)
    have e8c : ((8 : Int32) * nI J).toNatClampNeg = 8 * J := by rw [e8]; exact nI_clamp (by omega)
    have loop : ∀ (m x : Nat) (tr : List Int32) (hs : List Nat) (l5 : Option Value) (w1 : qSt), (x < F + N ∧ x < nX w → m = min (F + N) (nX w) - x) → (¬ (x < F + N ∧ x < nX w) → m = 0) → x ≤ 200 → hs.length + m ≤ 60 → RnE w w1 → Sc (stR (sI w 12 36 0 0) tr hs (-1)) w1 →
        ((rnF w J m x).1 < 0 → ∀ w', Sc (stt (stR (sI w 12 36 0 0) (tr ++ (rnF w J m x).2.2.2) (hs ++ (rnF w J m x).2.2.1) (rnF w J m x).2.1) (rnF w J m x).1) w' → Q (some (.int (rnF w J m x).1)) w') →
        (¬ (rnF w J m x).1 < 0 → ∀ w', Sc (stt (stR (sI w 12 36 0 0) (tr ++ (rnF w J m x).2.2.2) (hs ++ (rnF w J m x).2.2.1) (rnF w J m x).2.1) 0) w' → Q (some (.int (nI (hs ++ (rnF w J m x).2.2.1).length))) w') →
        Wq G M12_run 72 [some (.ref 79), some (.int (nI J)), some (.int (nI F)), some (.int (nI N)), some (.int (nI x)), l5] [] (0, 0) w1 Q := by
      intro m
      induction m with
      | zero =>
        intro x tr hs l5 w1 hm hm0 hx2 hl hR hS hf hg
        have e49 : mi w1 49 = nI hs.length := (hS.mq.c (fun w => mi w 49) (fun _ => rfl)).trans (gI_at (rI (sTr (sI w 12 36 0 0) tr) 37 (putI (ma (sI w 12 36 0 0) 37) hs)) 12 49 0 (nI hs.length))
        have e22 : mi w1 22 = nI (nX w) := (hR.1.c (fun w => mi w 22) (fun _ => rfl)).trans x1
        unfold rnF at hg
        rw [List.append_nil, List.append_nil] at hg
        have fin : Wq G M12_run 171 [some (.ref 79), some (.int (nI J)), some (.int (nI F)), some (.int (nI N)), some (.int (nI x)), none] [] (0, 0) w1 Q := by
          refine Wq.go ok12_run 40 [] (c12_good ?_)
          show Q (some (.int (mi w1 49))) _
          rw [e49]
          exact hg (show ¬ (0 : Int32) < 0 by decide) _ (hS.I2 rfl)
        refine Wq.ls (ls' := [some (.ref 79), some (.int (nI J)), some (.int (nI F)), some (.int (nI N)), some (.int (nI x)), none]) ⟨rfl, rfl, rfl, rfl, rfl, by cases l5 <;> trivial⟩ ?_
        refine Wq.go ok12_run 40 [89, 171] ?_
        refine And.intro (fun _ => fin) (fun (c1 : ¬ nI F + nI N ≤ nI x) => And.intro (fun _ => fin) (fun (c2 : ¬ mi w1 22 ≤ nI x) => ?_))
        rw [nI_add, nI_leI (by omega) (by omega)] at c1
        rw [e22, nI_leI (by omega) (by omega)] at c2
        have := hm ⟨by omega, by omega⟩
        omega
      | succ m ih =>
        intro x tr hs l5 w1 hm hm0 hx2 hl hR hS hf hg
        have hlt : x < F + N ∧ x < nX w := Classical.byContradiction (fun z => by have := hm0 z; omega)
        have hm1 := hm hlt
        have e49 : mi w1 49 = nI hs.length := (hS.mq.c (fun w => mi w 49) (fun _ => rfl)).trans (gI_at (rI (sTr (sI w 12 36 0 0) tr) 37 (putI (ma (sI w 12 36 0 0) 37) hs)) 12 49 0 (nI hs.length))
        have e22 : mi w1 22 = nI (nX w) := (hR.1.c (fun w => mi w 22) (fun _ => rfl)).trans x1
        have hRE := hR.1
        have hxX : ¬ noX w (nI x) := fun z => z.2 ⟨x, rfl, hlt.2⟩
        unfold rnF at hf hg
        have nx : ∀ (tr' : List Int32) (hs' : List Nat) (l : Option Value) (w2 : qSt), hs'.length + m ≤ 60 → RnE w w2 → Sc (stR (sI w 12 36 0 0) tr' hs' (-1)) w2 →
            ((rnF w J m (x + 1)).1 < 0 → ∀ w', Sc (stt (stR (sI w 12 36 0 0) (tr' ++ (rnF w J m (x + 1)).2.2.2) (hs' ++ (rnF w J m (x + 1)).2.2.1) (rnF w J m (x + 1)).2.1) (rnF w J m (x + 1)).1) w' → Q (some (.int (rnF w J m (x + 1)).1)) w') →
            (¬ (rnF w J m (x + 1)).1 < 0 → ∀ w', Sc (stt (stR (sI w 12 36 0 0) (tr' ++ (rnF w J m (x + 1)).2.2.2) (hs' ++ (rnF w J m (x + 1)).2.2.1) (rnF w J m (x + 1)).2.1) 0) w' → Q (some (.int (nI (hs' ++ (rnF w J m (x + 1)).2.2.1).length))) w') →
            Wq G M12_run 165 [some (.ref 79), some (.int (nI J)), some (.int (nI F)), some (.int (nI N)), some (.int (nI x)), l] [] (0, 0) w2 Q := by
          intro tr' hs' l w2 hl2 hR2 hS2 hf2 hg2
          refine Wq.ls (ls' := [some (.ref 79), some (.int (nI J)), some (.int (nI F)), some (.int (nI N)), some (.int (nI x)), none]) ⟨rfl, rfl, rfl, rfl, rfl, by cases l <;> trivial⟩ ?_
          refine Wq.go ok12_run 40 [72] ?_
          show Wq G M12_run 72 [some (.ref 79), some (.int (nI J)), some (.int (nI F)), some (.int (nI N)), some (.int (nI x + 1)), none] [] (0, 0) w2 Q
          rw [nI_1]
          exact ih (x + 1) tr' hs' none w2 (fun z => by omega) (fun z => by omega) (by omega) hl2 hR2 hS2 hf2 hg2
        -- behind what was asked
        have h118 : ∀ (w2 : qSt) (v : Int32), v = (akX w J x).1 → RnE w w2 → Sc (stR (sI w 12 36 0 0) (tr ++ (akX w J x).2) hs (-1)) w2 → Wq G M12_run 118 [some (.ref 79), some (.int (nI J)), some (.int (nI F)), some (.int (nI N)), some (.int (nI x)), none] [.int v] (0, 0) w2 Q := by
          intro w2 v hv hR2 hS2
          have e49b : mi w2 49 = nI hs.length := (hS2.mq.c (fun w => mi w 49) (fun _ => rfl)).trans (gI_at (rI (sTr (sI w 12 36 0 0) (tr ++ (akX w J x).2)) 37 (putI (ma (sI w 12 36 0 0) 37) hs)) 12 49 0 (nI hs.length))
          refine Wq.go ok12_run 40 [138] ?_
          refine And.intro (fun c5 => ?_) (fun c5 => ?_)
          · have c6 := nlt0 c5
            rw [hv] at c6
            rw [cIf_f c6] at hf hg
            refine Wq.go ok12_run 40 [165] ?_
            refine And.intro (fun c7 => ?_) (fun c7 => ?_) <;> rw [hv] at c7
            · have c7 : ¬ (akX w J x).1 = 1 := c7
              rw [cIf_f c7] at hf hg
              rw [hv]
              refine nx (tr ++ (akX w J x).2) hs _ w2 (by omega) hR2 hS2 ?_ ?_
              · rw [List.append_assoc]; exact hf
              · rw [List.append_assoc]; exact hg
            · have c7 : (akX w J x).1 = 1 := c7
              rw [cIf_t c7] at hf hg
              have hih : vp_in (mi w2 49) 60 := by rw [e49b]; exact in_nI (by omega) (by decide)
              refine And.intro hih ?_
              show Wq G M12_run 165 _ [] (0, 0) (sI (sI w2 40 37 (mi w2 49).toNatClampNeg (nI x)) 12 49 0 (mi w2 49 + 1)) Q
              rw [e49b, nI_clamp (by omega), nI_1]
              have hS3 := (hS2.I2 (r := 40) (k := 37) (i := hs.length) (v := nI x) rfl).I2 (r := 12) (k := 49) (i := 0) (v := nI (hs.length + 1)) rfl
              rw [stR_snoc] at hS3
              rw [hv]
              refine nx (tr ++ (akX w J x).2) (hs ++ [x]) _ _ (by rw [List.length_append, List.length_singleton]; omega) ⟨(hR2.1.I rfl).I rfl, ?_⟩ hS3 ?_ ?_
              · obtain ⟨-, h2, h3, h4, h5, h6, h7⟩ := hR2
                exact ⟨h2, h3, h4, h5, h6, h7⟩
              · rw [List.append_assoc, List.append_assoc]; exact hf
              · rw [List.append_assoc, List.append_assoc]; exact hg
          · have c6 := lt0 c5
            rw [hv] at c6
            rw [cIf_t c6] at hf
            rw [List.append_nil] at hf
            rw [hv]
            refine c12_fail (hf c6 _ ?_)
            have hS3 := hS2.I2 (r := 12) (k := 51) (i := 0) (v := nI x) rfl
            rw [stR_fa] at hS3
            exact hS3.I2 rfl
        refine Wq.ls (ls' := [some (.ref 79), some (.int (nI J)), some (.int (nI F)), some (.int (nI N)), some (.int (nI x)), none]) ⟨rfl, rfl, rfl, rfl, rfl, by cases l5 <;> trivial⟩ ?_
        refine Wq.go ok12_run 40 [89, 171] ?_
        refine And.intro (fun (c1 : nI F + nI N ≤ nI x) => ?_) (fun _ => And.intro (fun (c2 : mi w1 22 ≤ nI x) => ?_) (fun _ => ?_))
        · rw [nI_add, nI_leI (by omega) (by omega)] at c1; omega
        · rw [e22, nI_leI (by omega) (by omega)] at c2; omega
        · refine Wq.go ok12_run 40 [118] ?_
          refine And.intro hi8 ?_
          show Con G M12_isOf [.ref 79, .int (nI x), .int (ma w1 33 ((8 : Int32) * nI J).toNatClampNeg)] w1 _
          rw [e8c, hR.2.2.2.1, s1]
          refine c12_isOf (hRE.tinv hI) (hRE.xinv hX) (hRE.hinv hH) (by rw [hRE.enX]; exact hlt.2) (by rw [hRE.enH]; exact s2) (fun w2 hS2 => ?_)
          rw [hRE.te.eSo, hRE.ebX, hRE.edX, hRE.ehC]
          have hR2 := hR.sc hS2.toSc
          refine And.intro (fun c4 => ?_) (fun c4 => ?_)
          · rw [bI_0] at c4
            have ek : akX w J x = (0, []) := cIf_f c4
            refine h118 w2 0 (by rw [ek]) hR2 ?_
            rw [ek, List.append_nil]
            exact hS.tr hS2.toSc
          · rw [bI_n0] at c4
            have ek : akX w J x = akF w J (nI x) (tQ w J) 0 True := cIf_t c4
            refine c12_asks hI hX hH hV hQ (by omega) hxX hR2 (fun w3 hS3 => ?_)
            rw [← ek] at hS3 ⊢
            refine h118 w3 _ rfl ((hR2.tr _).sc hS3) ?_
            have := (((hS.tr hS2.toSc).Tr (akX w J x).2)).tr hS3
            rw [stR_tr] at this
            exact this
    have hS0 : stR (sI w 12 36 0 0) [] [] (-1) = sI (sI (sI w 12 36 0 0) 12 49 0 0) 12 51 0 (-1) := by
      unfold stR
      rw [putI_nil]
      show sI (sI (rI (sI w 12 36 0 0) 37 (ma (sI w 12 36 0 0) 37)) 12 49 0 (nI 0)) 12 51 0 (-1) = _
      rw [rI_self]; rfl
    refine Wq.go ok12_run 40 [72] ?_
    refine loop (min (F + N) (nX w) - F) F [] [] none (sI (sI (sI w 12 36 0 0) 12 49 0 0) 12 51 0 (-1)) (fun _ => rfl) (fun z => by omega) (by omega) (by show 0 + _ ≤ _; omega) ⟨((RE.rf.I rfl).I rfl).I rfl, tr0 (w := w), rfl, rfl, rfl, rfl, rfl⟩ (by rw [hS0]; exact Sc.rf) ?_ ?_
    · intro z
      have z : (rnN w J F N).1 < 0 := z
      rw [cIf_t z] at h
      exact h
    · intro z
      have z : ¬ (rnN w J F N).1 < 0 := z
      rw [cIf_f z] at h
      exact h
  · rw [cIf_t c] at h
    exact c12_fail (h _ Sc.rf)
end
