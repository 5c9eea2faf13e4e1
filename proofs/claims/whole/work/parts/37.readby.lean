/-! ===== reading by handles ===== -/
def nTr (w : qSt) : Nat := tn (mi w 36)
def TrOK (w : qSt) : Prop := mi w 36 = nI (nTr w) ∧ nTr w ≤ 60
/-- a number more in the trace -/
def sT1 (w : qSt) (t : Int32) : qSt := if nTr w < 60 then sI (sI w 40 27 (nTr w) t) 12 36 0 (nI (nTr w + 1)) else w
def sTr (w : qSt) : List Int32 → qSt
  | [] => w
  | t :: l => sTr (sT1 w t) l
theorem sTr_app (w : qSt) (l l' : List Int32) : sTr w (l ++ l') = sTr (sTr w l) l' := by
  induction l generalizing w with
  | nil => rfl
  | cons t l ih => exact ih _
theorem RE.sT1 {w : qSt} (t : Int32) : RE w (sT1 w t) := by
  unfold CQueryHandlesLaw_law_r6115_62a76e.sT1
  by_cases h : nTr w < 60
  · rw [if_pos h]; exact (RE.rf.I rfl).I rfl
  · rw [if_neg h]; exact RE.rf
theorem RE.sTr (l : List Int32) : ∀ (w : qSt), RE w (sTr w l) := by
  induction l with
  | nil => exact fun w => RE.rf
  | cons t l ih => exact fun w => (RE.sT1 t).tr (ih _)
theorem TrOK.s1 {w : qSt} (h : TrOK w) (t : Int32) : TrOK (sT1 w t) := by
  unfold sT1
  by_cases q : nTr w < 60
  · rw [if_pos q]
    have e : nTr (sI (sI w 40 27 (nTr w) t) 12 36 0 (nI (nTr w + 1))) = nTr w + 1 := by
      show tn (gI (sI (sI w 40 27 (nTr w) t) 12 36 0 (nI (nTr w + 1))) 12 36 0) = _
      rw [gI_at]; exact tn_nI (by omega)
    refine ⟨?_, by rw [e]; omega⟩
    rw [e]; exact gI_at _ _ _ _ _
  · rw [if_neg q]; exact h
theorem TrOK.sc {w w' : qSt} (h : TrOK w) (hS : Sc w w') : TrOK w' := (hS.mq.c TrOK (fun _ => rfl)).mpr h
theorem Sc.T1 {w w' : qSt} (h : Sc w w') (t : Int32) : Sc (sT1 w t) (sT1 w' t) := by
  unfold sT1
  have e : nTr w' = nTr w := h.mq.c nTr (fun _ => rfl)
  rw [e]
  by_cases q : nTr w < 60
  · rw [if_pos q, if_pos q]; exact (h.I2 rfl).I2 rfl
  · rw [if_neg q, if_neg q]; exact h
theorem Sc.Tr {w w' : qSt} (h : Sc w w') (l : List Int32) : Sc (sTr w l) (sTr w' l) := by
  induction l generalizing w w' with
  | nil => exact h
  | cons t l ih => exact ih (h.T1 t)
/-- the handles -/
def hC (w : qSt) (h : Nat) : Nat := tn (ma w 24 h)
def hA (w : qSt) (h : Nat) : Nat := tn (ma w 26 h)
def HdOK (w : qSt) (h : Nat) : Prop := ma w 24 h = nI (hC w h) ∧ hC w h < nT w ∧ 9 ≤ hC w h ∧ ma w 0 (hC w h) = 1 ∧ ma w 26 h = nI (hA w h) ∧ ((ma w 25 h = 0 ∧ FdOK w (hA w h) ∧ hA w h / 10 ∈ abvs w (hC w h)) ∨ (ma w 25 h = 1 ∧ hA w h < 10))
def HInv (w : qSt) : Prop := mi w 29 = nI (nH w) ∧ nH w ≤ 40 ∧ ∀ h, h < nH w → HdOK w h
theorem TE.eFd {m m' : qSt} (h : TE m m') : FdOK m' = FdOK m := by
  funext a
  unfold FdOK
  rw [h.eT, h.eM, h.2 8 (by omega) (by omega), h.2 0 (by omega) (by omega)]
theorem RE.ehC {w w' : qSt} (h : RE w w') : hC w' = hC w := h.c hC (fun _ => rfl)
theorem RE.ehA {w w' : qSt} (h : RE w w') : hA w' = hA w := h.c hA (fun _ => rfl)
theorem RE.hinv {w w' : qSt} (h : RE w w') (hH : HInv w) : HInv w' := by
  obtain ⟨x1, x2, x3⟩ := hH
  have e29 : mi w' 29 = mi w 29 := h.c (fun w => mi w 29) (fun _ => rfl)
  refine ⟨by rw [e29, h.enH]; exact x1, by rw [h.enH]; exact x2, fun i hi => ?_⟩
  have := x3 i (by rw [h.enH] at hi; exact hi)
  unfold HdOK at this ⊢
  rw [h.row (r := 24) rfl, h.row (r := 25) rfl, h.row (r := 26) rfl, h.row (r := 0) rfl, h.ehC, h.ehA, h.te.eT, h.te.eFd, h.te.eab]
  exact this
/-- a thing that is a handle's class is of a class below it -/
theorem so_cls {w : qSt} (hI : TInv w) {s ds t : Nat} (hs : s < nT w) (ht : t < nT w) (h9 : 9 ≤ t) (h1 : ma w 0 t = 1) (h : soP w s ds t 0) : ds = 0 ∧ ma w 0 s = 1 ∧ t ∈ abvs w s := by
  rcases h with h | ⟨h0, h⟩
  · omega
  · refine ⟨h0, ?_⟩
    rcases h with h | ⟨-, -, h | h | h⟩
    · subst h; exact ⟨h1, abvs_self w s⟩
    · omega
    · exact h
    · have := (FOf.in_ hI hs h).2.2
      rw [h1] at this
      exact absurd this (by decide)
noncomputable def rcN (w : qSt) (h : Nat) (x : Int32) : Int32 := cIf (ma w 25 h = 0 ∧ ¬ ma w 11 (hA w h) = 0) 0 (cIf (x = -1) (-11) (cIf (soP w (bX w (tn x)) (dX w (tn x)) (hC w h) 0) 0 (-13)))
theorem RE.erc {w w' : qSt} (h : RE w w') : rcN w' = rcN w := by
  funext i x
  unfold rcN
  rw [h.row (r := 25) rfl, h.row (r := 11) rfl, h.ehA, h.ehC, h.ebX, h.edX, h.te.eSo]
abbrev rdT : Type := Int32 × Int32 × Int64 × List Int32
noncomputable def enF (w : qSt) (X a more : Nat) : Int32 × Int32 × Int64 :=
  cIf (0 < more ∧ ¬ (1 ≤ (cIf (ma w 12 a = 1) (tfL w (10 * (a / 10) + nuN w a)) 4).toInt ∧ (cIf (ma w 12 a = 1) (tfL w (10 * (a / 10) + nuN w a)) 4).toInt ≤ 5)) (-16, 0, 0)
    (0, cIf (0 < more) 5 (cIf (ma w 12 a = 1) (tfL w (10 * (a / 10) + nuN w a)) 4), cIf (0 < more) ((cIf (ma w 12 a = 1) (tfV w X (10 * (a / 10) + nuN w a)) (ma w 13 a).toInt64) + (nI more).toInt64) (cIf (ma w 12 a = 1) (tfV w X (10 * (a / 10) + nuN w a)) (ma w 13 a).toInt64))
noncomputable def nxA (w : qSt) (X a : Nat) : Int32 := cIf (ma w 12 a = 2) (fdN w (upN w (a / 10)) (ma w 9 a)) (fdN w (bX w X) (ma w 13 a))
noncomputable def wkF (w : qSt) (X : Nat) : Nat → Int32 → Nat → rdT
  | 0, at_, _ => cIf (at_ < 0) (at_, 0, 0, []) (-18, 0, 0, [])
  | n + 1, at_, more => cIf (at_ < 0) (at_, 0, 0, []) (cIf (ma w 12 (tn at_) = 1 ∨ ma w 12 (tn at_) = 4) ((enF w X (tn at_) more).1, (enF w X (tn at_) more).2.1, (enF w X (tn at_) more).2.2, [nI (tld2 (tn at_))])
      ((wkF w X n (nxA w X (tn at_)) (more + cIf (ma w 12 (tn at_) = 5) 1 0)).1, (wkF w X n (nxA w X (tn at_)) (more + cIf (ma w 12 (tn at_) = 5) 1 0)).2.1, (wkF w X n (nxA w X (tn at_)) (more + cIf (ma w 12 (tn at_) = 5) 1 0)).2.2.1, nI (tld2 (tn at_)) :: (wkF w X n (nxA w X (tn at_)) (more + cIf (ma w 12 (tn at_) = 5) 1 0)).2.2.2))
noncomputable def rdR (w : qSt) (h : Nat) (x : Int32) : rdT :=
  cIf (rcN w h x < 0) (rcN w h x, 0, 0, []) (cIf (ma w 25 h = 0) (0, tfL w (hA w h), tfV w (tn x) (hA w h), []) (wkF w (tn x) 12 (fdN w (bX w (tn x)) (ma w 26 h)) 0))
theorem RE.een {w w' : qSt} (h : RE w w') : enF w' = enF w := by
  funext X a more
  have e : nuN w' = nuN w := h.c nuN (fun _ => rfl)
  unfold enF
  rw [h.row (r := 12) rfl, h.row (r := 13) rfl, h.etL, h.etV, e]
theorem RE.enx {w w' : qSt} (h : RE w w') : nxA w' = nxA w := by
  funext X a
  unfold nxA
  rw [h.row (r := 12) rfl, h.row (r := 13) rfl, h.row (r := 9) rfl, h.te.efd, h.te.eup, h.ebX]
theorem RE.ewk {w w' : qSt} (h : RE w w') : wkF w' = wkF w := by
  funext X n
  induction n with
  | zero => rfl
  | succ n ih =>
    funext at_ more
    unfold wkF
    rw [h.row (r := 12) rfl, h.een, h.enx, ih]
theorem RE.erd {w w' : qSt} (h : RE w w') : rdR w' = rdR w := by
  funext i x
  unfold rdR
  rw [h.erc, h.row (r := 25) rfl, h.row (r := 26) rfl, h.etL, h.etV, h.ehA, h.ewk, h.te.efd, h.ebX]
/-- the body at a that a thing's class finds -/
def AtOK (w : qSt) (X : Nat) (at_ : Int32) : Prop := at_ < 0 ∨ ∃ d j, at_ = nI (10 * d + j) ∧ d < nT w ∧ j < nM w d ∧ ma w 8 (10 * d + j) = 0 ∧ ¬ ma w 12 (10 * d + j) = 0 ∧ (d ∈ abvs w (bX w X) ∨ FOf w (bX w X) d)
theorem at_fd {w : qSt} (hI : TInv w) {X c : Nat} {name : Int32} (hX : bX w X < nT w) (h1 : ma w 0 (bX w X) = 1) (hc : c ∈ abvs w (bX w X)) : AtOK w X (fdN w c name) := by
  obtain ⟨c1, c2, c3⟩ := abvs_in hI _ hX h1 c hc
  rcases fd_cases hI (by omega) c3 name with e | e | ⟨d, j, e, g1, g2, g3, g4, g5⟩
  · rw [e]; exact Or.inl (by decide)
  · rw [e]; exact Or.inl (by decide)
  · refine Or.inr ⟨d, j, e, g1, g2, g3, g4, ?_⟩
    rcases g5 with g5 | g5
    · exact Or.inl (abvs_tr hI _ hX h1 c hc d g5)
    · refine Or.inr (Or.inr ⟨h1, ?_⟩)
      rcases g5 with ⟨q, -⟩ | ⟨-, b, hb, hf⟩
      · rw [c3] at q; exact absurd q (by decide)
      · exact ⟨b, abvs_tr hI _ hX h1 c hc b hb, hf⟩
theorem bd_n {m : qSt} {i j a k : Nat} (h : MemOK m i j a) (h8 : ma m 8 a = 0) (hk : k < 10) : ma m 12 a = nI k ↔ bdN m a = k := by
  rcases h.2.2.2 with q | q
  · rw [h8] at q; exact absurd q.1 (by decide)
  · rw [q.2.1, nI_eqI (by omega) (by omega)]
/-- a body that tells a field -/
theorem at_1 {w : qSt} (hI : TInv w) {X d j : Nat} (hX : bX w X < nT w) (hd : d < nT w) (hj : j < nM w d) (h8 : ma w 8 (10 * d + j) = 0) (hin : d ∈ abvs w (bX w X) ∨ FOf w (bX w X) d) (h1 : ma w 12 (10 * d + j) = 1) :
    ma w 13 (10 * d + j) = nI (nuN w (10 * d + j)) ∧ nuN w (10 * d + j) < j ∧ FdOK w (10 * d + nuN w (10 * d + j)) ∧ d ∈ abvs w (bX w X) := by
  have h100 := hI.le
  obtain ⟨b1, b2, b3, b4⟩ := hI.mbs (i := d) (by omega)
  have hm := b4 j hj
  rcases hm.2.2.2 with q | q
  · rw [h8] at q; exact absurd q.1 (by decide)
  · have hb : bdN w (10 * d + j) = 1 := (bd_n hm h8 (by omega)).mp h1
    obtain ⟨g1, g2, g3, g4⟩ := q.2.2.2.2.1 hb
    refine ⟨g2, g3, ⟨d, nuN w (10 * d + j), rfl, hd, (b3 (by omega)).1, by omega, by omega, g4, g1⟩, ?_⟩
    rcases hin with hin | hin
    · exact hin
    · have := (FOf.in_ hI hX hin).2.2
      rw [g1] at this; exact absurd this (by decide)
theorem at_2 {w : qSt} (hI : TInv w) {X d j : Nat} (hX : bX w X < nT w) (hd : d < nT w) (hj : j < nM w d) (h8 : ma w 8 (10 * d + j) = 0) (hin : d ∈ abvs w (bX w X) ∨ FOf w (bX w X) d) (h1 : ma w 12 (10 * d + j) = 2) :
    9 ≤ d ∧ ma w 0 d = 1 ∧ d ∈ abvs w (bX w X) := by
  have h100 := hI.le
  obtain ⟨b1, b2, b3, b4⟩ := hI.mbs (i := d) (by omega)
  have hm := b4 j hj
  rcases hm.2.2.2 with q | q
  · rw [h8] at q; exact absurd q.1 (by decide)
  · have hb : bdN w (10 * d + j) = 2 := (bd_n hm h8 (by omega)).mp h1
    have g1 := q.2.2.2.2.2 hb
    refine ⟨(b3 (by omega)).1, g1, ?_⟩
    rcases hin with hin | hin
    · exact hin
    · have := (FOf.in_ hI hX hin).2.2
      rw [g1] at this; exact absurd this (by decide)
section
variable {G : qGX} {w : qSt} {Q : Option Value → qSt → Prop}
theorem c12_isOf {X h : Nat} (hI : TInv w) (hX : XInv w) (hH : HInv w) (hx : X < nX w) (hh : h < nH w) (hq : ∀ w', Sf w w' → Q (some (.int (bI (soP w (bX w X) (dX w X) (hC w h) 0)))) w') : Con G M12_isOf [.ref 79, .int (nI X), .int (nI h)] w Q := by
  have h60 := hX.2.1
  have h40 := hH.2.1
  obtain ⟨y1, y2, -, y4, y5, -⟩ := hX.2.2.2 X hx
  obtain ⟨z1, z2, -⟩ := hH.2.2 h hh
  have hin : vp_in (nI X) 60 := in_nI (by omega) (by decide)
  have hin2 : vp_in (nI h) 40 := in_nI (by omega) (by decide)
  refine Con.go hw12_isOf ok12_isOf 40 [] rfl ?_
  refine And.intro hin (And.intro hin (And.intro hin2 ?_))
  show Con G M12_isSo [.ref 79, .int (ma w 19 (nI X).toNatClampNeg), .int (ma w 20 (nI X).toNatClampNeg), .int (ma w 24 (nI h).toNatClampNeg), .int (nI 0)] w _
  rw [nI_clamp (by omega), nI_clamp (by omega), y1, y4, z1]
  exact c12_isSo hI y2 z2 (by omega) (by omega) (fun w' hw' => And.intro (bI_and _) (hq w' hw'))
theorem c12_reach {h : Nat} {x : Int32} (hI : TInv w) (hX : XInv w) (hH : HInv w) (hx : ¬ noX w x) (hh : h < nH w) (hq : ∀ w', Sf w w' → Q (some (.int (rcN w h x))) w') : Con G M12_reach [.ref 79, .int (nI h), .int x] w Q := by
  have h40 := hH.2.1
  have h100 := hI.le
  obtain ⟨z1, z2, z3, z4, z5, z6⟩ := hH.2.2 h hh
  have hin : vp_in (nI h) 40 := in_nI (by omega) (by decide)
  have e2 : (nI h).toNatClampNeg = h := nI_clamp (by omega)
  unfold rcN at hq
  have tail : ¬ (ma w 25 h = 0 ∧ ¬ ma w 11 (hA w h) = 0) → Wq G M12_reach 25 [some (.ref 79), some (.int (nI h)), some (.int x)] [] (0, 0) w Q := by
    intro hn
    rw [cIf_f hn] at hq
    refine Wq.go ok12_reach 20 [] ?_
    refine And.intro (fun (c : ¬ x = -1) => ?_) (fun (c : x = -1) => ?_)
    · rw [cIf_f c] at hq
      obtain ⟨X, rfl, hX1⟩ := isX_lt hX hx c
      have h60 := hX.2.1
      rw [tn_nI (by omega)] at hq
      refine c12_isOf hI hX hH hX1 hh (fun w' hw' => And.intro (fun c2 => ?_) (fun c2 => ?_))
      · rw [bI_0] at c2
        rw [cIf_f c2] at hq
        exact hq w' hw'
      · rw [bI_n0] at c2
        rw [cIf_t c2] at hq
        exact hq w' hw'
    · rw [cIf_t c] at hq
      exact hq w Sf.rf
  refine Con.go hw12_reach ok12_reach 40 [25] rfl ?_
  refine And.intro hin (And.intro (fun (c : ¬ ma w 25 (nI h).toNatClampNeg = 0) => ?_) (fun (c : ma w 25 (nI h).toNatClampNeg = 0) => And.intro hin ?_)) <;> rw [e2] at c
  · exact tail (fun q => c q.1)
  · have hF : FdOK w (hA w h) := by
      rcases z6 with q | q
      · exact q.2.1
      · rw [c] at q; exact absurd q.1 (by decide)
    have ha : hA w h < 1000 := by obtain ⟨d, j, e, f1, f2, f3, f4, -⟩ := hF; omega
    have e26 : ma w 26 (nI h).toNatClampNeg = nI (hA w h) := by rw [e2]; exact z5
    refine And.intro (show vp_in (ma w 26 (nI h).toNatClampNeg) 1000 by rw [e26]; exact in_nI ha (by decide)) (And.intro (fun (c2 : ma w 11 (ma w 26 (nI h).toNatClampNeg).toNatClampNeg = 0) => ?_) (fun (c2 : ¬ ma w 11 (ma w 26 (nI h).toNatClampNeg).toNatClampNeg = 0) => ?_)) <;> rw [e26, nI_clamp (by omega)] at c2
    · exact tail (fun q => q.2 c2)
    · rw [cIf_t ⟨c, c2⟩] at hq
      exact hq w Sf.rf
end
