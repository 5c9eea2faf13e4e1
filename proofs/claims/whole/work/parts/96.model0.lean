/-! ===== the model's constructor (printed by a program), and the model taken in ===== -/
def kdM (i : Nat) : Nat := if mty i = 1 then 21 else if mty i = 3 then 22 else 20
/-- the model's arrays below r are made -/
def MI (w u : qSt) (r : Nat) (a b : Int32) : Prop := Mkg w u (80 + r) ∧ gN u 0 79 = 11 ∧ (∀ i, i < r → gN u 0 (80 + i) = kdM i ∧ gN u 1 (80 + i) = mln i) ∧ (∀ k, k < 53 → tc 11 k = 2 → mrk k < r → gR u 11 k 79 = some (80 + mrk k)) ∧ (∀ k, gI u 11 k 79 = if k = 1 then 9 else if k = 35 then a else if k = 51 then b else 0) ∧ (∀ k, gJ u 11 k 79 = 0) ∧ ∀ c j, 79 ≤ c → gI u 20 c j = 0 ∧ gJ u 21 c j = 0
theorem MI.arr {w u : qSt} {r K N k : Nat} {a b : Int32} (h : MI w u r a b) (hw : gN w 2 0 = 79) (hK : kdM r = K) (hN : mln r = N) (hk2 : mrk k = r) (hu : ∀ x : _root_.Fin 53, tc 11 x.val = 2 → mrk x.val = r → x.val = k) : MI w (sR (nwA u K N) 11 k 79 (some (80 + r))) (r + 1) a b := by
  obtain ⟨mk, k0, hk, hr, hi, hj, hz⟩ := h
  obtain ⟨ma, ka, la, na, oa⟩ := mk.arr K N
  refine ⟨ma.R (by omega) (by omega) (by omega), (na 79 (by omega)).trans k0, fun i hi => ?_, fun x h1 h2 h3 => ?_, hi, hj, hz⟩
  · by_cases e : i = r
    · rw [e, hK, hN]; exact ⟨ka, la⟩
    · exact ⟨(na (80 + i) (by omega)).trans (hk i (by omega)).1, (oa (80 + i) (by omega)).trans (hk i (by omega)).2⟩
  · by_cases e : mrk x = r
    · have ex : x = k := hu ⟨x, h1⟩ h2 e
      subst ex
      rw [e]; exact gR_at _ _ _ _ _
    · have ne : x ≠ k := by
        intro z
        exact e (by rw [z]; exact hk2)
      exact (gR_ne (w := nwA u K N) (fun z => ne z.2.1)).trans (hr x h1 h2 (by omega))
theorem MI.i35 {w u : qSt} {r : Nat} {a b v : Int32} (h : MI w u r a b) (hw : gN w 2 0 = 79) : MI w (sI u 11 35 79 v) r v b := by
  obtain ⟨mk, k0, hk, hr, hi, hj, hz⟩ := h
  refine ⟨mk.I (by omega) (by omega) (by omega), k0, hk, hr, fun k => ?_, hj, fun c j hc => ⟨(gI_ne (by omega)).trans (hz c j hc).1, (hz c j hc).2⟩⟩
  by_cases e : k = 35
  · rw [e, gI_at]; rfl
  · rw [gI_ne (by omega), hi, if_neg e, if_neg e]
theorem MI.i51 {w u : qSt} {r : Nat} {a b v : Int32} (h : MI w u r a b) (hw : gN w 2 0 = 79) : MI w (sI u 11 51 79 v) r a v := by
  obtain ⟨mk, k0, hk, hr, hi, hj, hz⟩ := h
  refine ⟨mk.I (by omega) (by omega) (by omega), k0, hk, hr, fun k => ?_, hj, fun c j hc => ⟨(gI_ne (by omega)).trans (hz c j hc).1, (hz c j hc).2⟩⟩
  by_cases e : k = 51
  · rw [e, gI_at]; rfl
  · rw [gI_ne (by omega), hi, if_neg e, if_neg e]
section
variable {G : qGX} {w : qSt} {Q : Option Value → qSt → Prop}
set_option maxRecDepth 4000 in
theorem c12_init (hw : gN w 2 0 = 79) (hz : qZero w) (h : ∀ u, MI w u 38 (-1) (-1) → Q none (sI (sI u 20 80 8 1) 20 81 8 (-1))) : Con G M12_init [.ref 79] (nwO w 11) Q := by
  have k338 : ∀ u, MI w u 38 (-1) (-1) → Wq G M12_init 338 [some (.ref 79)] [] (38, 70419) u Q := by
    intro u hm
    obtain ⟨mk, k0, hk, hr, -⟩ := id hm
    have a0 := hk 0 (by omega)
    have a1 := hk 1 (by omega)
    refine Wq.go ok12_init 20 [] ?_
    refine And.intro k0 (refS (hr 2 (by omega) rfl (by decide)) (And.intro a0.1 (And.intro (by rw [show gN u 1 (80 + mrk 2) = 100 from a0.2]; exact in_nI (n := 8) (by omega) (by decide)) ?_)))
    refine And.intro k0 (refS (hr 3 (by omega) rfl (by decide)) (And.intro a1.1 (And.intro (by rw [show gN (sI u 20 (80 + mrk 2) (8 : Int32).toNatClampNeg 1) 1 (80 + mrk 3) = 100 from a1.2]; exact in_nI (n := 8) (by omega) (by decide)) ?_)))
    rw [show (8 : Int32).toNatClampNeg = 8 from by decide]
    exact h u hm
  have k333 : ∀ u, MI w u 38 (-1) 0 → Wq G M12_init 333 [some (.ref 79)] [] (38, 70419) u Q := by
    intro u hm
    have k0 := hm.2.1
    refine Wq.go ok12_init 10 [338] ?_
    refine And.intro k0 ?_
    exact k338 _ (hm.i51 hw)
  have k325 : ∀ u, MI w u 37 (-1) 0 → Wq G M12_init 325 [some (.ref 79)] [] (37, 70359) u Q := by
    intro u hm
    have k0 := hm.2.1
    refine Wq.go ok12_init 10 [333] ?_
    refine And.intro ⟨by decide, by decide⟩ (And.intro ⟨by decide, by decide⟩ (fun a ha => ?_))
    have ha : gN u 2 0 = a := ha
    rw [hm.1.2.2.2.1] at ha
    subst ha
    have hn := hm.arr (K := 20) (N := 60) (k := 50) hw (by decide) (by decide) (by decide) (by decide)
    refine And.intro ((nwA_ne u 20 _ (by rw [hm.1.2.2.2.1]; decide)).trans k0) ?_
    exact k333 _ hn
  have k316 : ∀ u, MI w u 36 (-1) 0 → Wq G M12_init 316 [some (.ref 79)] [] (36, 70199) u Q := by
    intro u hm
    have k0 := hm.2.1
    refine Wq.go ok12_init 10 [325] ?_
    refine And.intro ⟨by decide, by decide⟩ (And.intro ⟨by decide, by decide⟩ (fun a ha => ?_))
    have ha : gN u 2 0 = a := ha
    rw [hm.1.2.2.2.1] at ha
    subst ha
    have hn := hm.arr (K := 22) (N := 160) (k := 48) hw (by decide) (by decide) (by decide) (by decide)
    refine And.intro ((nwA_ne u 22 _ (by rw [hm.1.2.2.2.1]; decide)).trans k0) ?_
    exact k325 _ hn
  have k307 : ∀ u, MI w u 35 (-1) 0 → Wq G M12_init 307 [some (.ref 79)] [] (35, 70039) u Q := by
    intro u hm
    have k0 := hm.2.1
    refine Wq.go ok12_init 10 [316] ?_
    refine And.intro ⟨by decide, by decide⟩ (And.intro ⟨by decide, by decide⟩ (fun a ha => ?_))
    have ha : gN u 2 0 = a := ha
    rw [hm.1.2.2.2.1] at ha
    subst ha
    have hn := hm.arr (K := 21) (N := 160) (k := 47) hw (by decide) (by decide) (by decide) (by decide)
    refine And.intro ((nwA_ne u 21 _ (by rw [hm.1.2.2.2.1]; decide)).trans k0) ?_
    exact k316 _ hn
  have k298 : ∀ u, MI w u 34 (-1) 0 → Wq G M12_init 298 [some (.ref 79)] [] (34, 69879) u Q := by
    intro u hm
    have k0 := hm.2.1
    refine Wq.go ok12_init 10 [307] ?_
    refine And.intro ⟨by decide, by decide⟩ (And.intro ⟨by decide, by decide⟩ (fun a ha => ?_))
    have ha : gN u 2 0 = a := ha
    rw [hm.1.2.2.2.1] at ha
    subst ha
    have hn := hm.arr (K := 20) (N := 160) (k := 46) hw (by decide) (by decide) (by decide) (by decide)
    refine And.intro ((nwA_ne u 20 _ (by rw [hm.1.2.2.2.1]; decide)).trans k0) ?_
    exact k307 _ hn
  have k289 : ∀ u, MI w u 33 (-1) 0 → Wq G M12_init 289 [some (.ref 79)] [] (33, 69719) u Q := by
    intro u hm
    have k0 := hm.2.1
    refine Wq.go ok12_init 10 [298] ?_
    refine And.intro ⟨by decide, by decide⟩ (And.intro ⟨by decide, by decide⟩ (fun a ha => ?_))
    have ha : gN u 2 0 = a := ha
    rw [hm.1.2.2.2.1] at ha
    subst ha
    have hn := hm.arr (K := 20) (N := 160) (k := 45) hw (by decide) (by decide) (by decide) (by decide)
    refine And.intro ((nwA_ne u 20 _ (by rw [hm.1.2.2.2.1]; decide)).trans k0) ?_
    exact k298 _ hn
  have k281 : ∀ u, MI w u 32 (-1) 0 → Wq G M12_init 281 [some (.ref 79)] [] (32, 69699) u Q := by
    intro u hm
    have k0 := hm.2.1
    refine Wq.go ok12_init 10 [289] ?_
    refine And.intro ⟨by decide, by decide⟩ (And.intro ⟨by decide, by decide⟩ (fun a ha => ?_))
    have ha : gN u 2 0 = a := ha
    rw [hm.1.2.2.2.1] at ha
    subst ha
    have hn := hm.arr (K := 20) (N := 20) (k := 44) hw (by decide) (by decide) (by decide) (by decide)
    refine And.intro ((nwA_ne u 20 _ (by rw [hm.1.2.2.2.1]; decide)).trans k0) ?_
    exact k289 _ hn
  have k272 : ∀ u, MI w u 31 (-1) 0 → Wq G M12_init 272 [some (.ref 79)] [] (31, 69339) u Q := by
    intro u hm
    have k0 := hm.2.1
    refine Wq.go ok12_init 10 [281] ?_
    refine And.intro ⟨by decide, by decide⟩ (And.intro ⟨by decide, by decide⟩ (fun a ha => ?_))
    have ha : gN u 2 0 = a := ha
    rw [hm.1.2.2.2.1] at ha
    subst ha
    have hn := hm.arr (K := 21) (N := 360) (k := 41) hw (by decide) (by decide) (by decide) (by decide)
    refine And.intro ((nwA_ne u 21 _ (by rw [hm.1.2.2.2.1]; decide)).trans k0) ?_
    exact k281 _ hn
  have k264 : ∀ u, MI w u 30 (-1) 0 → Wq G M12_init 264 [some (.ref 79)] [] (30, 69333) u Q := by
    intro u hm
    have k0 := hm.2.1
    refine Wq.go ok12_init 10 [272] ?_
    refine And.intro ⟨by decide, by decide⟩ (And.intro ⟨by decide, by decide⟩ (fun a ha => ?_))
    have ha : gN u 2 0 = a := ha
    rw [hm.1.2.2.2.1] at ha
    subst ha
    have hn := hm.arr (K := 20) (N := 6) (k := 40) hw (by decide) (by decide) (by decide) (by decide)
    refine And.intro ((nwA_ne u 20 _ (by rw [hm.1.2.2.2.1]; decide)).trans k0) ?_
    exact k272 _ hn
  have k256 : ∀ u, MI w u 29 (-1) 0 → Wq G M12_init 256 [some (.ref 79)] [] (29, 69327) u Q := by
    intro u hm
    have k0 := hm.2.1
    refine Wq.go ok12_init 10 [264] ?_
    refine And.intro ⟨by decide, by decide⟩ (And.intro ⟨by decide, by decide⟩ (fun a ha => ?_))
    have ha : gN u 2 0 = a := ha
    rw [hm.1.2.2.2.1] at ha
    subst ha
    have hn := hm.arr (K := 20) (N := 6) (k := 39) hw (by decide) (by decide) (by decide) (by decide)
    refine And.intro ((nwA_ne u 20 _ (by rw [hm.1.2.2.2.1]; decide)).trans k0) ?_
    exact k264 _ hn
  have k248 : ∀ u, MI w u 28 (-1) 0 → Wq G M12_init 248 [some (.ref 79)] [] (28, 69321) u Q := by
    intro u hm
    have k0 := hm.2.1
    refine Wq.go ok12_init 10 [256] ?_
    refine And.intro ⟨by decide, by decide⟩ (And.intro ⟨by decide, by decide⟩ (fun a ha => ?_))
    have ha : gN u 2 0 = a := ha
    rw [hm.1.2.2.2.1] at ha
    subst ha
    have hn := hm.arr (K := 22) (N := 6) (k := 38) hw (by decide) (by decide) (by decide) (by decide)
    refine And.intro ((nwA_ne u 22 _ (by rw [hm.1.2.2.2.1]; decide)).trans k0) ?_
    exact k256 _ hn
  have k240 : ∀ u, MI w u 27 (-1) 0 → Wq G M12_init 240 [some (.ref 79)] [] (27, 69261) u Q := by
    intro u hm
    have k0 := hm.2.1
    refine Wq.go ok12_init 10 [248] ?_
    refine And.intro ⟨by decide, by decide⟩ (And.intro ⟨by decide, by decide⟩ (fun a ha => ?_))
    have ha : gN u 2 0 = a := ha
    rw [hm.1.2.2.2.1] at ha
    subst ha
    have hn := hm.arr (K := 20) (N := 60) (k := 37) hw (by decide) (by decide) (by decide) (by decide)
    refine And.intro ((nwA_ne u 20 _ (by rw [hm.1.2.2.2.1]; decide)).trans k0) ?_
    exact k248 _ hn
  have k235 : ∀ u, MI w u 27 0 0 → Wq G M12_init 235 [some (.ref 79)] [] (27, 69261) u Q := by
    intro u hm
    have k0 := hm.2.1
    refine Wq.go ok12_init 10 [240] ?_
    refine And.intro k0 ?_
    exact k240 _ (hm.i35 hw)
  have k227 : ∀ u, MI w u 26 0 0 → Wq G M12_init 227 [some (.ref 79)] [] (26, 69221) u Q := by
    intro u hm
    have k0 := hm.2.1
    refine Wq.go ok12_init 10 [235] ?_
    refine And.intro ⟨by decide, by decide⟩ (And.intro ⟨by decide, by decide⟩ (fun a ha => ?_))
    have ha : gN u 2 0 = a := ha
    rw [hm.1.2.2.2.1] at ha
    subst ha
    have hn := hm.arr (K := 20) (N := 40) (k := 32) hw (by decide) (by decide) (by decide) (by decide)
    refine And.intro ((nwA_ne u 20 _ (by rw [hm.1.2.2.2.1]; decide)).trans k0) ?_
    exact k235 _ hn
  have k219 : ∀ u, MI w u 25 0 0 → Wq G M12_init 219 [some (.ref 79)] [] (25, 69181) u Q := by
    intro u hm
    have k0 := hm.2.1
    refine Wq.go ok12_init 10 [227] ?_
    refine And.intro ⟨by decide, by decide⟩ (And.intro ⟨by decide, by decide⟩ (fun a ha => ?_))
    have ha : gN u 2 0 = a := ha
    rw [hm.1.2.2.2.1] at ha
    subst ha
    have hn := hm.arr (K := 22) (N := 40) (k := 31) hw (by decide) (by decide) (by decide) (by decide)
    refine And.intro ((nwA_ne u 22 _ (by rw [hm.1.2.2.2.1]; decide)).trans k0) ?_
    exact k227 _ hn
  have k211 : ∀ u, MI w u 24 0 0 → Wq G M12_init 211 [some (.ref 79)] [] (24, 69141) u Q := by
    intro u hm
    have k0 := hm.2.1
    refine Wq.go ok12_init 10 [219] ?_
    refine And.intro ⟨by decide, by decide⟩ (And.intro ⟨by decide, by decide⟩ (fun a ha => ?_))
    have ha : gN u 2 0 = a := ha
    rw [hm.1.2.2.2.1] at ha
    subst ha
    have hn := hm.arr (K := 20) (N := 40) (k := 30) hw (by decide) (by decide) (by decide) (by decide)
    refine And.intro ((nwA_ne u 20 _ (by rw [hm.1.2.2.2.1]; decide)).trans k0) ?_
    exact k219 _ hn
  have k203 : ∀ u, MI w u 23 0 0 → Wq G M12_init 203 [some (.ref 79)] [] (23, 9141) u Q := by
    intro u hm
    have k0 := hm.2.1
    refine Wq.go ok12_init 10 [211] ?_
    refine And.intro ⟨by decide, by decide⟩ (And.intro ⟨by decide, by decide⟩ (fun a ha => ?_))
    have ha : gN u 2 0 = a := ha
    rw [hm.1.2.2.2.1] at ha
    subst ha
    have hn := hm.arr (K := 21) (N := 60000) (k := 27) hw (by decide) (by decide) (by decide) (by decide)
    refine And.intro ((nwA_ne u 21 _ (by rw [hm.1.2.2.2.1]; decide)).trans k0) ?_
    exact k211 _ hn
  have k195 : ∀ u, MI w u 22 0 0 → Wq G M12_init 195 [some (.ref 79)] [] (22, 9080) u Q := by
    intro u hm
    have k0 := hm.2.1
    refine Wq.go ok12_init 10 [203] ?_
    refine And.intro ⟨by decide, by decide⟩ (And.intro ⟨by decide, by decide⟩ (fun a ha => ?_))
    have ha : gN u 2 0 = a := ha
    rw [hm.1.2.2.2.1] at ha
    subst ha
    have hn := hm.arr (K := 20) (N := 61) (k := 26) hw (by decide) (by decide) (by decide) (by decide)
    refine And.intro ((nwA_ne u 20 _ (by rw [hm.1.2.2.2.1]; decide)).trans k0) ?_
    exact k203 _ hn
  have k187 : ∀ u, MI w u 21 0 0 → Wq G M12_init 187 [some (.ref 79)] [] (21, 9020) u Q := by
    intro u hm
    have k0 := hm.2.1
    refine Wq.go ok12_init 10 [195] ?_
    refine And.intro ⟨by decide, by decide⟩ (And.intro ⟨by decide, by decide⟩ (fun a ha => ?_))
    have ha : gN u 2 0 = a := ha
    rw [hm.1.2.2.2.1] at ha
    subst ha
    have hn := hm.arr (K := 20) (N := 60) (k := 25) hw (by decide) (by decide) (by decide) (by decide)
    refine And.intro ((nwA_ne u 20 _ (by rw [hm.1.2.2.2.1]; decide)).trans k0) ?_
    exact k195 _ hn
  have k179 : ∀ u, MI w u 20 0 0 → Wq G M12_init 179 [some (.ref 79)] [] (20, 8960) u Q := by
    intro u hm
    have k0 := hm.2.1
    refine Wq.go ok12_init 10 [187] ?_
    refine And.intro ⟨by decide, by decide⟩ (And.intro ⟨by decide, by decide⟩ (fun a ha => ?_))
    have ha : gN u 2 0 = a := ha
    rw [hm.1.2.2.2.1] at ha
    subst ha
    have hn := hm.arr (K := 20) (N := 60) (k := 24) hw (by decide) (by decide) (by decide) (by decide)
    refine And.intro ((nwA_ne u 20 _ (by rw [hm.1.2.2.2.1]; decide)).trans k0) ?_
    exact k187 _ hn
  have k171 : ∀ u, MI w u 19 0 0 → Wq G M12_init 171 [some (.ref 79)] [] (19, 8900) u Q := by
    intro u hm
    have k0 := hm.2.1
    refine Wq.go ok12_init 10 [179] ?_
    refine And.intro ⟨by decide, by decide⟩ (And.intro ⟨by decide, by decide⟩ (fun a ha => ?_))
    have ha : gN u 2 0 = a := ha
    rw [hm.1.2.2.2.1] at ha
    subst ha
    have hn := hm.arr (K := 20) (N := 60) (k := 23) hw (by decide) (by decide) (by decide) (by decide)
    refine And.intro ((nwA_ne u 20 _ (by rw [hm.1.2.2.2.1]; decide)).trans k0) ?_
    exact k179 _ hn
  have k163 : ∀ u, MI w u 18 0 0 → Wq G M12_init 163 [some (.ref 79)] [] (18, 8800) u Q := by
    intro u hm
    have k0 := hm.2.1
    refine Wq.go ok12_init 10 [171] ?_
    refine And.intro ⟨by decide, by decide⟩ (And.intro ⟨by decide, by decide⟩ (fun a ha => ?_))
    have ha : gN u 2 0 = a := ha
    rw [hm.1.2.2.2.1] at ha
    subst ha
    have hn := hm.arr (K := 20) (N := 100) (k := 21) hw (by decide) (by decide) (by decide) (by decide)
    refine And.intro ((nwA_ne u 20 _ (by rw [hm.1.2.2.2.1]; decide)).trans k0) ?_
    exact k171 _ hn
  have k154 : ∀ u, MI w u 17 0 0 → Wq G M12_init 154 [some (.ref 79)] [] (17, 8300) u Q := by
    intro u hm
    have k0 := hm.2.1
    refine Wq.go ok12_init 10 [163] ?_
    refine And.intro ⟨by decide, by decide⟩ (And.intro ⟨by decide, by decide⟩ (fun a ha => ?_))
    have ha : gN u 2 0 = a := ha
    rw [hm.1.2.2.2.1] at ha
    subst ha
    have hn := hm.arr (K := 20) (N := 500) (k := 20) hw (by decide) (by decide) (by decide) (by decide)
    refine And.intro ((nwA_ne u 20 _ (by rw [hm.1.2.2.2.1]; decide)).trans k0) ?_
    exact k163 _ hn
  have k146 : ∀ u, MI w u 16 0 0 → Wq G M12_init 146 [some (.ref 79)] [] (16, 8200) u Q := by
    intro u hm
    have k0 := hm.2.1
    refine Wq.go ok12_init 10 [154] ?_
    refine And.intro ⟨by decide, by decide⟩ (And.intro ⟨by decide, by decide⟩ (fun a ha => ?_))
    have ha : gN u 2 0 = a := ha
    rw [hm.1.2.2.2.1] at ha
    subst ha
    have hn := hm.arr (K := 22) (N := 100) (k := 19) hw (by decide) (by decide) (by decide) (by decide)
    refine And.intro ((nwA_ne u 22 _ (by rw [hm.1.2.2.2.1]; decide)).trans k0) ?_
    exact k154 _ hn
  have k138 : ∀ u, MI w u 15 0 0 → Wq G M12_init 138 [some (.ref 79)] [] (15, 8100) u Q := by
    intro u hm
    have k0 := hm.2.1
    refine Wq.go ok12_init 10 [146] ?_
    refine And.intro ⟨by decide, by decide⟩ (And.intro ⟨by decide, by decide⟩ (fun a ha => ?_))
    have ha : gN u 2 0 = a := ha
    rw [hm.1.2.2.2.1] at ha
    subst ha
    have hn := hm.arr (K := 20) (N := 100) (k := 17) hw (by decide) (by decide) (by decide) (by decide)
    refine And.intro ((nwA_ne u 20 _ (by rw [hm.1.2.2.2.1]; decide)).trans k0) ?_
    exact k146 _ hn
  have k129 : ∀ u, MI w u 14 0 0 → Wq G M12_init 129 [some (.ref 79)] [] (14, 7100) u Q := by
    intro u hm
    have k0 := hm.2.1
    refine Wq.go ok12_init 10 [138] ?_
    refine And.intro ⟨by decide, by decide⟩ (And.intro ⟨by decide, by decide⟩ (fun a ha => ?_))
    have ha : gN u 2 0 = a := ha
    rw [hm.1.2.2.2.1] at ha
    subst ha
    have hn := hm.arr (K := 21) (N := 1000) (k := 16) hw (by decide) (by decide) (by decide) (by decide)
    refine And.intro ((nwA_ne u 21 _ (by rw [hm.1.2.2.2.1]; decide)).trans k0) ?_
    exact k138 _ hn
  have k120 : ∀ u, MI w u 13 0 0 → Wq G M12_init 120 [some (.ref 79)] [] (13, 6100) u Q := by
    intro u hm
    have k0 := hm.2.1
    refine Wq.go ok12_init 10 [129] ?_
    refine And.intro ⟨by decide, by decide⟩ (And.intro ⟨by decide, by decide⟩ (fun a ha => ?_))
    have ha : gN u 2 0 = a := ha
    rw [hm.1.2.2.2.1] at ha
    subst ha
    have hn := hm.arr (K := 20) (N := 1000) (k := 15) hw (by decide) (by decide) (by decide) (by decide)
    refine And.intro ((nwA_ne u 20 _ (by rw [hm.1.2.2.2.1]; decide)).trans k0) ?_
    exact k129 _ hn
  have k111 : ∀ u, MI w u 12 0 0 → Wq G M12_init 111 [some (.ref 79)] [] (12, 5100) u Q := by
    intro u hm
    have k0 := hm.2.1
    refine Wq.go ok12_init 10 [120] ?_
    refine And.intro ⟨by decide, by decide⟩ (And.intro ⟨by decide, by decide⟩ (fun a ha => ?_))
    have ha : gN u 2 0 = a := ha
    rw [hm.1.2.2.2.1] at ha
    subst ha
    have hn := hm.arr (K := 20) (N := 1000) (k := 14) hw (by decide) (by decide) (by decide) (by decide)
    refine And.intro ((nwA_ne u 20 _ (by rw [hm.1.2.2.2.1]; decide)).trans k0) ?_
    exact k120 _ hn
  have k102 : ∀ u, MI w u 11 0 0 → Wq G M12_init 102 [some (.ref 79)] [] (11, 4100) u Q := by
    intro u hm
    have k0 := hm.2.1
    refine Wq.go ok12_init 10 [111] ?_
    refine And.intro ⟨by decide, by decide⟩ (And.intro ⟨by decide, by decide⟩ (fun a ha => ?_))
    have ha : gN u 2 0 = a := ha
    rw [hm.1.2.2.2.1] at ha
    subst ha
    have hn := hm.arr (K := 22) (N := 1000) (k := 13) hw (by decide) (by decide) (by decide) (by decide)
    refine And.intro ((nwA_ne u 22 _ (by rw [hm.1.2.2.2.1]; decide)).trans k0) ?_
    exact k111 _ hn
  have k93 : ∀ u, MI w u 10 0 0 → Wq G M12_init 93 [some (.ref 79)] [] (10, 3100) u Q := by
    intro u hm
    have k0 := hm.2.1
    refine Wq.go ok12_init 10 [102] ?_
    refine And.intro ⟨by decide, by decide⟩ (And.intro ⟨by decide, by decide⟩ (fun a ha => ?_))
    have ha : gN u 2 0 = a := ha
    rw [hm.1.2.2.2.1] at ha
    subst ha
    have hn := hm.arr (K := 20) (N := 1000) (k := 12) hw (by decide) (by decide) (by decide) (by decide)
    refine And.intro ((nwA_ne u 20 _ (by rw [hm.1.2.2.2.1]; decide)).trans k0) ?_
    exact k102 _ hn
  have k84 : ∀ u, MI w u 9 0 0 → Wq G M12_init 84 [some (.ref 79)] [] (9, 2100) u Q := by
    intro u hm
    have k0 := hm.2.1
    refine Wq.go ok12_init 10 [93] ?_
    refine And.intro ⟨by decide, by decide⟩ (And.intro ⟨by decide, by decide⟩ (fun a ha => ?_))
    have ha : gN u 2 0 = a := ha
    rw [hm.1.2.2.2.1] at ha
    subst ha
    have hn := hm.arr (K := 20) (N := 1000) (k := 11) hw (by decide) (by decide) (by decide) (by decide)
    refine And.intro ((nwA_ne u 20 _ (by rw [hm.1.2.2.2.1]; decide)).trans k0) ?_
    exact k93 _ hn
  have k75 : ∀ u, MI w u 8 0 0 → Wq G M12_init 75 [some (.ref 79)] [] (8, 1100) u Q := by
    intro u hm
    have k0 := hm.2.1
    refine Wq.go ok12_init 10 [84] ?_
    refine And.intro ⟨by decide, by decide⟩ (And.intro ⟨by decide, by decide⟩ (fun a ha => ?_))
    have ha : gN u 2 0 = a := ha
    rw [hm.1.2.2.2.1] at ha
    subst ha
    have hn := hm.arr (K := 22) (N := 1000) (k := 10) hw (by decide) (by decide) (by decide) (by decide)
    refine And.intro ((nwA_ne u 22 _ (by rw [hm.1.2.2.2.1]; decide)).trans k0) ?_
    exact k84 _ hn
  have k67 : ∀ u, MI w u 7 0 0 → Wq G M12_init 67 [some (.ref 79)] [] (7, 1000) u Q := by
    intro u hm
    have k0 := hm.2.1
    refine Wq.go ok12_init 10 [75] ?_
    refine And.intro ⟨by decide, by decide⟩ (And.intro ⟨by decide, by decide⟩ (fun a ha => ?_))
    have ha : gN u 2 0 = a := ha
    rw [hm.1.2.2.2.1] at ha
    subst ha
    have hn := hm.arr (K := 20) (N := 100) (k := 9) hw (by decide) (by decide) (by decide) (by decide)
    refine And.intro ((nwA_ne u 20 _ (by rw [hm.1.2.2.2.1]; decide)).trans k0) ?_
    exact k75 _ hn
  have k58 : ∀ u, MI w u 6 0 0 → Wq G M12_init 58 [some (.ref 79)] [] (6, 600) u Q := by
    intro u hm
    have k0 := hm.2.1
    refine Wq.go ok12_init 10 [67] ?_
    refine And.intro ⟨by decide, by decide⟩ (And.intro ⟨by decide, by decide⟩ (fun a ha => ?_))
    have ha : gN u 2 0 = a := ha
    rw [hm.1.2.2.2.1] at ha
    subst ha
    have hn := hm.arr (K := 20) (N := 400) (k := 8) hw (by decide) (by decide) (by decide) (by decide)
    refine And.intro ((nwA_ne u 20 _ (by rw [hm.1.2.2.2.1]; decide)).trans k0) ?_
    exact k67 _ hn
  have k50 : ∀ u, MI w u 5 0 0 → Wq G M12_init 50 [some (.ref 79)] [] (5, 500) u Q := by
    intro u hm
    have k0 := hm.2.1
    refine Wq.go ok12_init 10 [58] ?_
    refine And.intro ⟨by decide, by decide⟩ (And.intro ⟨by decide, by decide⟩ (fun a ha => ?_))
    have ha : gN u 2 0 = a := ha
    rw [hm.1.2.2.2.1] at ha
    subst ha
    have hn := hm.arr (K := 20) (N := 100) (k := 7) hw (by decide) (by decide) (by decide) (by decide)
    refine And.intro ((nwA_ne u 20 _ (by rw [hm.1.2.2.2.1]; decide)).trans k0) ?_
    exact k58 _ hn
  have k42 : ∀ u, MI w u 4 0 0 → Wq G M12_init 42 [some (.ref 79)] [] (4, 400) u Q := by
    intro u hm
    have k0 := hm.2.1
    refine Wq.go ok12_init 10 [50] ?_
    refine And.intro ⟨by decide, by decide⟩ (And.intro ⟨by decide, by decide⟩ (fun a ha => ?_))
    have ha : gN u 2 0 = a := ha
    rw [hm.1.2.2.2.1] at ha
    subst ha
    have hn := hm.arr (K := 22) (N := 100) (k := 6) hw (by decide) (by decide) (by decide) (by decide)
    refine And.intro ((nwA_ne u 22 _ (by rw [hm.1.2.2.2.1]; decide)).trans k0) ?_
    exact k50 _ hn
  have k34 : ∀ u, MI w u 3 0 0 → Wq G M12_init 34 [some (.ref 79)] [] (3, 300) u Q := by
    intro u hm
    have k0 := hm.2.1
    refine Wq.go ok12_init 10 [42] ?_
    refine And.intro ⟨by decide, by decide⟩ (And.intro ⟨by decide, by decide⟩ (fun a ha => ?_))
    have ha : gN u 2 0 = a := ha
    rw [hm.1.2.2.2.1] at ha
    subst ha
    have hn := hm.arr (K := 22) (N := 100) (k := 5) hw (by decide) (by decide) (by decide) (by decide)
    refine And.intro ((nwA_ne u 22 _ (by rw [hm.1.2.2.2.1]; decide)).trans k0) ?_
    exact k42 _ hn
  have k26 : ∀ u, MI w u 2 0 0 → Wq G M12_init 26 [some (.ref 79)] [] (2, 200) u Q := by
    intro u hm
    have k0 := hm.2.1
    refine Wq.go ok12_init 10 [34] ?_
    refine And.intro ⟨by decide, by decide⟩ (And.intro ⟨by decide, by decide⟩ (fun a ha => ?_))
    have ha : gN u 2 0 = a := ha
    rw [hm.1.2.2.2.1] at ha
    subst ha
    have hn := hm.arr (K := 20) (N := 100) (k := 4) hw (by decide) (by decide) (by decide) (by decide)
    refine And.intro ((nwA_ne u 20 _ (by rw [hm.1.2.2.2.1]; decide)).trans k0) ?_
    exact k34 _ hn
  have k18 : ∀ u, MI w u 1 0 0 → Wq G M12_init 18 [some (.ref 79)] [] (1, 100) u Q := by
    intro u hm
    have k0 := hm.2.1
    refine Wq.go ok12_init 10 [26] ?_
    refine And.intro ⟨by decide, by decide⟩ (And.intro ⟨by decide, by decide⟩ (fun a ha => ?_))
    have ha : gN u 2 0 = a := ha
    rw [hm.1.2.2.2.1] at ha
    subst ha
    have hn := hm.arr (K := 20) (N := 100) (k := 3) hw (by decide) (by decide) (by decide) (by decide)
    refine And.intro ((nwA_ne u 20 _ (by rw [hm.1.2.2.2.1]; decide)).trans k0) ?_
    exact k26 _ hn
  have k10 : ∀ u, MI w u 0 0 0 → Wq G M12_init 10 [some (.ref 79)] [] (0, 0) u Q := by
    intro u hm
    have k0 := hm.2.1
    refine Wq.go ok12_init 10 [18] ?_
    refine And.intro ⟨by decide, by decide⟩ (And.intro ⟨by decide, by decide⟩ (fun a ha => ?_))
    have ha : gN u 2 0 = a := ha
    rw [hm.1.2.2.2.1] at ha
    subst ha
    have hn := hm.arr (K := 20) (N := 100) (k := 2) hw (by decide) (by decide) (by decide) (by decide)
    refine And.intro ((nwA_ne u 20 _ (by rw [hm.1.2.2.2.1]; decide)).trans k0) ?_
    exact k18 _ hn
  have g0 := (Mkg.of hz).obj 11
  rw [hw] at g0
  obtain ⟨m0, q0, n0, l0⟩ := g0
  refine Con.go hw12_init ok12_init 20 [10] rfl ?_
  refine And.intro q0 ?_
  refine k10 _ ⟨m0.I (by omega) (by omega) (by omega), q0, fun i hi => by omega, fun k _ _ hk => by omega, fun k => ?_, fun k => ((hz 79 (by omega)).2.1 11 k (by omega)).2.1, fun c j hc => ⟨(gI_ne (w := nwO w 11) (by omega)).trans ((hz c (by omega)).2.2 j).1, ((hz c (by omega)).2.2 j).2.1⟩⟩
  by_cases e : k = 1
  · rw [e, gI_at]; rfl
  · rw [gI_ne (w := nwO w 11) (by omega), if_neg e]
    have : gI (nwO w 11) 11 k 79 = 0 := ((hz 79 (by omega)).2.1 11 k (by omega)).1
    rw [this]
    split
    · rfl
    · split <;> rfl
end
