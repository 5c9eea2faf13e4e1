/-! ===== a new type's object ===== -/
def NtA (u : qSt) (a : Nat) (T S : Int32) (fr ow : Option Nat) (op : Int32) : Prop := gN u 0 a = 7 ∧ gI u 7 0 a = T ∧ gI u 7 1 a = S ∧ gR u 7 2 a = fr ∧ gR u 7 3 a = ow ∧ gI u 7 4 a = op ∧ gI u 7 12 a = 0 ∧ gI u 7 13 a = 0 ∧ gI u 7 14 a = 0
def NtB (u : qSt) (a : Nat) (b d : Int32) : Prop := gI u 7 5 a = b ∧ gI u 7 6 a = d
section
variable {u : qSt} {a : Nat} {T S op b d : Int32} {fr ow : Option Nat}
theorem NtA.R (h : NtA u a T S fr ow op) {k : Nat} {v : Option Nat} (hk : 7 ≤ k) : NtA (sR u 7 k a v) a T S fr ow op := by
  obtain ⟨h1, h2, h3, h4, h5, h6, h7, h8, h9⟩ := h
  exact ⟨h1, h2, h3, (gR_ne (by omega)).trans h4, (gR_ne (by omega)).trans h5, h6, h7, h8, h9⟩
theorem NtA.O (h : NtA u a T S fr ow op) {x : Nat} (hk : a ≠ gN u 2 0) : NtA (nwO u x) a T S fr ow op := by
  obtain ⟨h1, h2, h3, h4, h5, h6, h7, h8, h9⟩ := h
  exact ⟨(nwO_ne u x hk).trans h1, h2, h3, h4, h5, h6, h7, h8, h9⟩
theorem NtA.Ar (h : NtA u a T S fr ow op) {x n : Nat} (hk : a ≠ gN u 2 0) : NtA (nwA u x n) a T S fr ow op := by
  obtain ⟨h1, h2, h3, h4, h5, h6, h7, h8, h9⟩ := h
  exact ⟨(nwA_ne u x n hk).trans h1, h2, h3, h4, h5, h6, h7, h8, h9⟩
theorem NtA.sw (h : NtA u a T S fr ow op) {c : Nat} {lo hi : Int64} : NtA (sS u c lo hi) a T S fr ow op := h
theorem NtA.I (h : NtA u a T S fr ow op) {k : Nat} {v : Int32} (hk : k = 5 ∨ k = 6 ∨ k = 15) : NtA (sI u 7 k a v) a T S fr ow op := by
  obtain ⟨h1, h2, h3, h4, h5, h6, h7, h8, h9⟩ := h
  exact ⟨h1, (gI_ne (by omega)).trans h2, (gI_ne (by omega)).trans h3, h4, h5, (gI_ne (by omega)).trans h6, (gI_ne (by omega)).trans h7, (gI_ne (by omega)).trans h8, (gI_ne (by omega)).trans h9⟩
end
/-- what a new type's object is -/
def TyNw (w u : qSt) (a : Nat) (T S : Int32) (fr ow : Option Nat) (op b d : Int32) (L : Nat) (up : Nat → Prop) : Prop :=
  Mkg w u (a + 6) ∧ NtA u a T S fr ow op ∧ NtB u a b d ∧ gI u 7 15 a = -1 ∧ (gN u 0 (a + 1) = 8 ∧ gN u 0 (a + 2) = 8 ∧ gN u 0 (a + 3) = 25 ∧ gN u 0 (a + 4) = 25 ∧ gN u 0 (a + 5) = 25) ∧ (gR u 7 7 a = some (a + 1) ∧ gR u 7 8 a = some (a + 2) ∧ gR u 7 9 a = some (a + 3) ∧ gR u 7 10 a = some (a + 4) ∧ gR u 7 11 a = some (a + 5)) ∧ (gN u 1 (a + 3) = L ∧ gN u 1 (a + 4) = L ∧ gN u 1 (a + 5) = L) ∧
  (∀ j, j < 128 → ((tS u (a + 1) j = true ↔ up j) ∧ tS u (a + 2) j = false)) ∧ ∀ j, gR u 23 (a + 3) j = none ∧ gR u 23 (a + 4) j = none ∧ gR u 23 (a + 5) j = none
theorem tS_0 {u : qSt} {c : Nat} (hz : qZero u) (hc : gN u 2 0 ≤ c) (j : Nat) : tS u c j = false := by
  obtain ⟨-, h2, -⟩ := hz c hc
  unfold tS bt2
  rw [(h2 8 0 (by omega)).2.1, (h2 8 1 (by omega)).2.1]
  split <;> exact tbit_0 _
theorem Mkg.S {w0 u : qSt} {b : Nat} (h : Mkg w0 u b) {a : Nat} {lo hi : Int64} (ha : gN w0 2 0 ≤ a) (hb : a < b) : Mkg w0 (sS u a lo hi) b := (h.J (r := 8) (k := 0) ha hb (by omega)).J (r := 8) (k := 1) ha hb (by omega)
section
variable {G : qGX} {w : qSt} {Q : Option Value → qSt → Prop}
theorem c9_init {a : Nat} (h : Q none w) : Con G M9_init [.ref a] w Q := by
  refine Con.go hw9_init ok9_init 20 [] rfl ?_
  exact h
theorem c8_init {a T S L : Nat} {fr ow : Option Nat} {op b d : Int32} {up : Nat → Prop} (hz : qZero w) (ha : gN w 2 0 = a) (hT : T < 100) (hS : S < 5) (hop : op &&& 1 = op)
    (hfr : ∀ f, fr = some f → gN w 0 f = 7 ∧ ∃ c, gR w 7 7 f = some c ∧ gN w 0 c = 8)
    (hb0 : (fr = none ∨ ¬ (S = 3 ∨ S = 4)) → b = nI T ∧ d = 0)
    (hb1 : ∀ f, fr = some f → (S = 3 ∨ S = 4) → b = gI w 7 5 f ∧ d = gI w 7 6 f + (if S = 4 then 1 else 0))
    (hL : L = if S = 2 ∨ (S = 1 ∧ T ≠ 8) then 10 else 0)
    (hup : ∀ j, j < 128 → (up j ↔ (S = 1 ∧ (j = T ∨ ∃ f c, fr = some f ∧ gR w 7 7 f = some c ∧ tS w c j = true))))
    (h : ∀ u, TyNw w u a (nI T) (nI S) fr ow op b d L up → Q none u) : Con G M8_init [.ref a, .int (nI T), .int (nI S), fV fr, fV ow, .int op] (nwO w 7) Q := by
  have g0 := (Mkg.of hz).obj 7
  rw [ha] at g0
  obtain ⟨m0, k0, n0, l0⟩ := g0
  have dz := (hz a (by omega)).2.1
  have d12 : gI (nwO w 7) 7 12 a = 0 := (dz 7 12 (by omega)).1
  have d13 : gI (nwO w 7) 7 13 a = 0 := (dz 7 13 (by omega)).1
  have d14 : gI (nwO w 7) 7 14 a = 0 := (dz 7 14 (by omega)).1
  -- of what stood before nothing changes
  have old : ∀ {u B c}, Mkg w u B → c < a → gN w 0 c ≠ 99 → SameC w u c := fun hm _ hc => hm.1 _ hc
  have olt : ∀ {c k}, gN w 0 c = k → k ≠ 99 → c < a := fun hk h9 => by have := hz.lt hk h9; omega
  generalize nwO w 7 = u0 at m0 k0 n0 l0 d12 d13 d14 ⊢
  -- E: the arrays of members
  have k147 : ∀ (x : Int32) (u : qSt), Mkg w u (a + 3) → NtA u a (nI T) (nI S) fr ow op → NtB u a b d → gN u 0 (a + 1) = 8 → gN u 0 (a + 2) = 8 → gR u 7 7 a = some (a + 1) → gR u 7 8 a = some (a + 2) → (∀ j, j < 128 → ((tS u (a + 1) j = true ↔ up j) ∧ tS u (a + 2) j = false)) →
      Wq G M8_init 147 [some (.ref a), some (.int (nI T)), some (.int (nI S)), none, none, none, none, none] [] (2, 4) u Q := by
    intro x u mk hA hB k1 k2 r1 r2 hts
    have k170 : ∀ y : Int32, (L = if y = 0 then 0 else 10) → Wq G M8_init 170 [some (.ref a), some (.int (nI T)), some (.int (nI S)), none, none, none, none, some (.int y)] [] (2, 4) u Q := by
      intro y hy
      have k182 : Wq G M8_init 182 [some (.ref a), some (.int (nI T)), some (.int (nI S)), none, none, none, none, some (.int y)] [.int (nI L), .ref a] (2, 4) u Q := by
        have hL10 : L ≤ 10 := by rw [hy]; split <;> omega
        have eL : (nI L).toNatClampNeg = L := nI_clamp (by omega)
        obtain ⟨ma, ka, la, na, oa⟩ := mk.arr 25 L
        have mar := ma.R (r := 7) (k := 9) (a := a) (v := some (a + 3)) (by omega) (by omega) (by omega)
        have hAa := (hA.Ar (x := 25) (n := L) (by rw [mk.2.2.2.1]; omega)).R (k := 9) (v := some (a + 3)) (by omega)
        have z3 : ∀ j, gR u 23 (a + 3) j = none := fun j => ((mk.2.1 (a + 3) (by rw [mk.2.2.2.1]; omega)).2.2 j).2.2
        refine Wq.go ok8_init 20 [188] ?_
        refine And.intro ⟨nI_pos (by omega), by rw [eL]; omega⟩ (And.intro ⟨by decide, by show 4 + (nI L).toNatClampNeg ≤ 34; omega⟩ (fun b0 hb0 => ?_))
        have hb0 : gN u 2 0 = b0 := hb0
        rw [mk.2.2.2.1] at hb0
        subst hb0
        rw [eL]
        refine And.intro ((na a (by omega)).trans hA.1) ?_
        have f1 : gN (sR (nwA u 25 L) 7 9 a (some (a + 3))) 0 (a + 1) = 8 ∧ gN (sR (nwA u 25 L) 7 9 a (some (a + 3))) 0 (a + 2) = 8 ∧ gN (sR (nwA u 25 L) 7 9 a (some (a + 3))) 0 (a + 3) = 25 ∧ gN (sR (nwA u 25 L) 7 9 a (some (a + 3))) 1 (a + 3) = L ∧ gR (sR (nwA u 25 L) 7 9 a (some (a + 3))) 7 7 a = some (a + 1) ∧ gR (sR (nwA u 25 L) 7 9 a (some (a + 3))) 7 8 a = some (a + 2) ∧ gR (sR (nwA u 25 L) 7 9 a (some (a + 3))) 7 9 a = some (a + 3) ∧ NtB (sR (nwA u 25 L) 7 9 a (some (a + 3))) a b d ∧ (∀ j, j < 128 → ((tS (sR (nwA u 25 L) 7 9 a (some (a + 3))) (a + 1) j = true ↔ up j) ∧ tS (sR (nwA u 25 L) 7 9 a (some (a + 3))) (a + 2) j = false)) ∧ (∀ j, gR (sR (nwA u 25 L) 7 9 a (some (a + 3))) 23 (a + 3) j = none) :=
          ⟨(na _ (by omega)).trans k1, (na _ (by omega)).trans k2, ka, la, (gR_ne (by omega)).trans r1, (gR_ne (by omega)).trans r2, gR_at _ _ _ _ _, hB, hts, fun j => (gR_ne (by omega)).trans (z3 j)⟩
        show Wq G M8_init 188 [some (.ref a), some (.int (nI T)), some (.int (nI S)), none, none, none, none, some (.int y)] [] (3, 4 + L) (sR (nwA u 25 L) 7 9 a (some (a + 3))) Q
        generalize sR (nwA u 25 L) 7 9 a (some (a + 3)) = u3 at mar hAa f1 ⊢
        clear ma ka la na oa mk hA hB k1 k2 r1 r2 hts z3
        obtain ⟨k1, k2, k3, l3, r1, r2, r3, hB, hts, z3⟩ := f1
        have k200 : Wq G M8_init 200 [some (.ref a), some (.int (nI T)), some (.int (nI S)), none, none, none, none, some (.int y)] [.int (nI L), .ref a] (3, 4 + L) u3 Q := by
          obtain ⟨mb, kb, lb, nb, ob⟩ := mar.arr 25 L
          have mbr := mb.R (r := 7) (k := 10) (a := a) (v := some (a + 4)) (by omega) (by omega) (by omega)
          have hAb := (hAa.Ar (x := 25) (n := L) (by rw [mar.2.2.2.1]; omega)).R (k := 10) (v := some (a + 4)) (by omega)
          have z4 : ∀ j, gR u3 23 (a + 4) j = none := fun j => ((mar.2.1 (a + 4) (by rw [mar.2.2.2.1]; omega)).2.2 j).2.2
          refine Wq.go ok8_init 20 [206] ?_
          refine And.intro ⟨nI_pos (by omega), by rw [eL]; omega⟩ (And.intro ⟨by show 3 + 1 ≤ 5; omega, by show 4 + L + (nI L).toNatClampNeg ≤ 34; omega⟩ (fun b0 hb0 => ?_))
          have hb0 : gN u3 2 0 = b0 := hb0
          rw [mar.2.2.2.1] at hb0
          subst hb0
          rw [eL]
          refine And.intro ((nb a (by omega)).trans hAa.1) ?_
          have f1 : gN (sR (nwA u3 25 L) 7 10 a (some (a + 4))) 0 (a + 1) = 8 ∧ gN (sR (nwA u3 25 L) 7 10 a (some (a + 4))) 0 (a + 2) = 8 ∧ gN (sR (nwA u3 25 L) 7 10 a (some (a + 4))) 0 (a + 3) = 25 ∧ gN (sR (nwA u3 25 L) 7 10 a (some (a + 4))) 1 (a + 3) = L ∧ gN (sR (nwA u3 25 L) 7 10 a (some (a + 4))) 0 (a + 4) = 25 ∧ gN (sR (nwA u3 25 L) 7 10 a (some (a + 4))) 1 (a + 4) = L ∧ gR (sR (nwA u3 25 L) 7 10 a (some (a + 4))) 7 7 a = some (a + 1) ∧ gR (sR (nwA u3 25 L) 7 10 a (some (a + 4))) 7 8 a = some (a + 2) ∧ gR (sR (nwA u3 25 L) 7 10 a (some (a + 4))) 7 9 a = some (a + 3) ∧ gR (sR (nwA u3 25 L) 7 10 a (some (a + 4))) 7 10 a = some (a + 4) ∧ NtB (sR (nwA u3 25 L) 7 10 a (some (a + 4))) a b d ∧ (∀ j, j < 128 → ((tS (sR (nwA u3 25 L) 7 10 a (some (a + 4))) (a + 1) j = true ↔ up j) ∧ tS (sR (nwA u3 25 L) 7 10 a (some (a + 4))) (a + 2) j = false)) ∧ (∀ j, gR (sR (nwA u3 25 L) 7 10 a (some (a + 4))) 23 (a + 3) j = none ∧ gR (sR (nwA u3 25 L) 7 10 a (some (a + 4))) 23 (a + 4) j = none) :=
            ⟨(nb _ (by omega)).trans k1, (nb _ (by omega)).trans k2, (nb _ (by omega)).trans k3, (ob _ (by omega)).trans l3, kb, lb, (gR_ne (by omega)).trans r1, (gR_ne (by omega)).trans r2, (gR_ne (by omega)).trans r3, gR_at _ _ _ _ _, hB, hts, fun j => ⟨(gR_ne (by omega)).trans (z3 j), (gR_ne (by omega)).trans (z4 j)⟩⟩
          show Wq G M8_init 206 [some (.ref a), some (.int (nI T)), some (.int (nI S)), none, none, none, none, some (.int y)] [] (4, 4 + L + L) (sR (nwA u3 25 L) 7 10 a (some (a + 4))) Q
          generalize sR (nwA u3 25 L) 7 10 a (some (a + 4)) = u4 at mbr hAb f1 ⊢
          clear mb kb lb nb ob mar hAa hB k1 k2 r1 r2 hts z3 z4 k3 l3 r3
          obtain ⟨k1, k2, k3, l3, k4, l4, r1, r2, r3, r4, hB, hts, z⟩ := f1
          have k218 : Wq G M8_init 218 [some (.ref a), some (.int (nI T)), some (.int (nI S)), none, none, none, none, some (.int y)] [.int (nI L), .ref a] (4, 4 + L + L) u4 Q := by
            obtain ⟨mc, kc, lc, nc, oc⟩ := mbr.arr 25 L
            have mcr := mc.R (r := 7) (k := 11) (a := a) (v := some (a + 5)) (by omega) (by omega) (by omega)
            have hAc := (hAb.Ar (x := 25) (n := L) (by rw [mbr.2.2.2.1]; omega)).R (k := 11) (v := some (a + 5)) (by omega)
            have z5 : ∀ j, gR u4 23 (a + 5) j = none := fun j => ((mbr.2.1 (a + 5) (by rw [mbr.2.2.2.1]; omega)).2.2 j).2.2
            refine Wq.go ok8_init 20 [] ?_
            refine And.intro ⟨nI_pos (by omega), by rw [eL]; omega⟩ (And.intro ⟨by show 4 + 1 ≤ 5; omega, by show 4 + L + L + (nI L).toNatClampNeg ≤ 34; omega⟩ (fun b0 hb0 => ?_))
            have hb0 : gN u4 2 0 = b0 := hb0
            rw [mbr.2.2.2.1] at hb0
            subst hb0
            rw [eL]
            refine And.intro ((nc a (by omega)).trans hAb.1) (And.intro ((nc a (by omega)).trans hAb.1) ?_)
            refine h _ ⟨mcr.I (by omega) (by omega) (by omega), hAc.I (Or.inr (Or.inr rfl)), ⟨(gI_ne (by omega)).trans hB.1, (gI_ne (by omega)).trans hB.2⟩, gI_at _ _ _ _ _, ⟨(nc _ (by omega)).trans k1, (nc _ (by omega)).trans k2, (nc _ (by omega)).trans k3, (nc _ (by omega)).trans k4, kc⟩, ⟨(gR_ne (w := nwA u4 25 L) (by omega)).trans r1, (gR_ne (w := nwA u4 25 L) (by omega)).trans r2, (gR_ne (w := nwA u4 25 L) (by omega)).trans r3, (gR_ne (w := nwA u4 25 L) (by omega)).trans r4, gR_at (nwA u4 25 L) _ _ _ _⟩, ⟨(oc _ (by omega)).trans l3, (oc _ (by omega)).trans l4, lc⟩, hts, fun j => ⟨(gR_ne (w := nwA u4 25 L) (by omega)).trans (z j).1, (gR_ne (w := nwA u4 25 L) (by omega)).trans (z j).2, (gR_ne (w := nwA u4 25 L) (by omega)).trans (z5 j)⟩⟩
          refine Wq.go ok8_init 20 [218] ?_
          refine And.intro (fun (c : y = 0) => ?_) (fun (c : ¬ y = 0) => ?_)
          · have e : L = 0 := by rw [hy, if_pos c]
            subst e; exact k218
          · have e : L = 10 := by rw [hy, if_neg c]
            subst e; exact k218
        refine Wq.go ok8_init 20 [200] ?_
        refine And.intro (fun (c : y = 0) => ?_) (fun (c : ¬ y = 0) => ?_)
        · have e : L = 0 := by rw [hy, if_pos c]
          subst e; exact k200
        · have e : L = 10 := by rw [hy, if_neg c]
          subst e; exact k200
      refine Wq.go ok8_init 20 [182] ?_
      refine And.intro (fun (c : y = 0) => ?_) (fun (c : ¬ y = 0) => ?_)
      · rw [if_pos c] at hy; rw [hy] at k182; exact k182
      · rw [if_neg c] at hy; rw [hy] at k182; exact k182
    refine Wq.go ok8_init 20 [170] ?_
    refine And.intro (fun (c : nI S = nI 2) => ?_) (fun (c : ¬ nI S = nI 2) => And.intro (fun (c2 : ¬ nI S = nI 1) => ?_) (fun (c2 : nI S = nI 1) => And.intro (fun (c3 : nI T = nI 8) => ?_) (fun (c3 : ¬ nI T = nI 8) => ?_))) <;> rw [nI_eqI (by omega) (by omega)] at c
    · exact k170 1 (by rw [hL, if_pos (Or.inl c)]; rfl)
    · rw [nI_eqI (by omega) (by omega)] at c2
      exact k170 0 (by rw [hL, if_neg (by omega)]; rfl)
    · rw [nI_eqI (by omega) (by omega)] at c2 c3
      exact k170 0 (by rw [hL, if_neg (by omega)]; rfl)
    · rw [nI_eqI (by omega) (by omega)] at c2 c3
      exact k170 1 (by rw [hL, if_pos (by omega)]; rfl)
  have hfn : fr = none ∨ ∃ f, fr = some f := by cases fr with
    | none => exact Or.inl rfl
    | some f => exact Or.inr ⟨f, rfl⟩
  -- D: the classes above
  have k119 : ∀ (u : qSt), Mkg w u (a + 3) → NtA u a (nI T) (nI S) fr ow op → NtB u a b d → gN u 0 (a + 1) = 8 → gN u 0 (a + 2) = 8 → gR u 7 7 a = some (a + 1) → gR u 7 8 a = some (a + 2) → (∀ j, tS u (a + 1) j = false ∧ tS u (a + 2) j = false) →
      Wq G M8_init 119 [some (.ref a), some (.int (nI T)), some (.int (nI S)), some (fV fr), none, none, none, none] [] (2, 4) u Q := by
    intro u mk hA hB k1 k2 r1 r2 hts
    have hfS : ∀ {f}, fr = some f → gN u 0 f = 7 ∧ ∃ c, gR w 7 7 f = some c ∧ gR u 7 7 f = some c ∧ gN u 0 c = 8 ∧ c < a ∧ ∀ j, tS u c j = tS w c j := by
      intro f e
      obtain ⟨q1, c, q2, q3⟩ := hfr f e
      have s1 := mk.1 f (by rw [q1]; omega)
      have s2 := mk.1 c (by rw [q3]; omega)
      exact ⟨s1.1.trans q1, c, q2, ((s1.2.2.1 7 7 (by omega)).2.2).trans q2, s2.1.trans q3, olt q3 (by omega), fun j => s2.tS j⟩
    by_cases hS1 : S = 1
    · rcases hfn with e | ⟨f, e⟩
      · rw [e]
        refine Wq.go ok8_init 30 [147] ?_
        refine And.intro (fun (z : ¬ nI S = nI 1) => absurd (by rw [hS1]) z) (fun _ => And.intro hA.1 (refS r1 (And.intro k1 (c9_add k1 (by omega) (fun lo hi hbt => ?_)))))
        refine Wq.ls (ls' := [some (.ref a), some (.int (nI T)), some (.int (nI S)), none, none, none, none, none]) ⟨rfl, rfl, rfl, trivial⟩ ?_
        refine k147 0 _ (mk.S (by omega) (by omega)) hA hB k1 k2 r1 r2 (fun j hj => ⟨?_, ?_⟩)
        · rw [tS_at, hbt j hj, (hts j).1, Bool.false_or, decide_eq_true_iff, hup j hj]
          constructor
          · exact fun z => ⟨hS1, Or.inl z⟩
          · rintro ⟨-, z | ⟨f, c, z, -⟩⟩
            · exact z
            · rw [e] at z; cases z
        · rw [tS_ne _ _ _ (by omega)]; exact (hts j).2
      · obtain ⟨q1, c, q2, q3, q4, q5, q6⟩ := hfS e
        rw [e]
        refine Wq.go ok8_init 30 [147] ?_
        refine And.intro (fun (z : ¬ nI S = nI 1) => absurd (by rw [hS1]) z) (fun _ => And.intro hA.1 (refS r1 (And.intro k1 (c9_add k1 (by omega) (fun lo hi hbt => ?_)))))
        refine And.intro hA.1 (refS r1 (And.intro q1 (refS q3 (And.intro k1 (c9_addAll (w := sS u (a + 1) lo hi) k1 q4 (fun lo2 hi2 hbt2 => ?_))))))
        refine Wq.ls (ls' := [some (.ref a), some (.int (nI T)), some (.int (nI S)), none, none, none, none, none]) ⟨rfl, rfl, rfl, trivial⟩ ?_
        refine k147 0 _ ((mk.S (by omega) (by omega)).S (by omega) (by omega)) hA hB k1 k2 r1 r2 (fun j hj => ⟨?_, ?_⟩)
        · rw [tS_at, hbt2 j hj, tS_at, hbt j hj, tS_ne _ _ _ (by omega), q6, (hts j).1, Bool.false_or, Bool.or_eq_true, decide_eq_true_iff, hup j hj]
          constructor
          · rintro (z | z)
            · exact ⟨hS1, Or.inl z⟩
            · exact ⟨hS1, Or.inr ⟨f, c, e, q2, z⟩⟩
          · rintro ⟨-, z | ⟨f', c', z1, z2, z3⟩⟩
            · exact Or.inl z
            · rw [e] at z1; cases z1
              rw [q2] at z2; cases z2
              exact Or.inr z3
        · rw [tS_ne _ _ _ (by omega), tS_ne _ _ _ (by omega)]; exact (hts j).2
    · refine Wq.go ok8_init 30 [147] ?_
      refine And.intro (fun _ => ?_) (fun (z : nI S = nI 1) => absurd ((nI_eqI (by omega) (by omega)).mp z) hS1)
      refine Wq.ls (ls' := [some (.ref a), some (.int (nI T)), some (.int (nI S)), none, none, none, none, none]) ⟨rfl, rfl, rfl, trivial⟩ ?_
      refine k147 0 _ mk hA hB k1 k2 r1 r2 (fun j hj => ⟨?_, (hts j).2⟩)
      rw [(hts j).1, hup j hj]
      exact ⟨fun z => absurd z (by decide), fun z => absurd z.1 hS1⟩
  -- C: the two sets
  have k97 : ∀ (u : qSt), Mkg w u (a + 1) → NtA u a (nI T) (nI S) fr ow op → NtB u a b d →
      Wq G M8_init 97 [some (.ref a), some (.int (nI T)), some (.int (nI S)), some (fV fr), none, none, none, none] [] (0, 0) u Q := by
    intro u mk hA hB
    obtain ⟨ma, ka, na, la⟩ := mk.obj 8
    have mar := ma.R (r := 7) (k := 7) (a := a) (v := some (a + 1)) (by omega) (by omega) (by omega)
    have hAa := (hA.O (x := 8) (by rw [mk.2.2.2.1]; omega)).R (k := 7) (v := some (a + 1)) (by omega)
    have z1 : ∀ j, tS u (a + 1) j = false := tS_0 mk.2.1 (by rw [mk.2.2.2.1]; omega)
    refine Wq.go ok8_init 20 [108] ?_
    refine And.intro ⟨by decide, by decide⟩ (fun b0 hb0 => c9_init ?_)
    have hb0 : gN u 2 0 = b0 := hb0
    rw [mk.2.2.2.1] at hb0
    subst hb0
    refine And.intro ((na a (by omega)).trans hA.1) ?_
    have f1 : gN (sR (nwO u 8) 7 7 a (some (a + 1))) 0 (a + 1) = 8 ∧ gR (sR (nwO u 8) 7 7 a (some (a + 1))) 7 7 a = some (a + 1) ∧ NtB (sR (nwO u 8) 7 7 a (some (a + 1))) a b d ∧ (∀ j, tS (sR (nwO u 8) 7 7 a (some (a + 1))) (a + 1) j = false) := ⟨ka, gR_at _ _ _ _ _, hB, z1⟩
    show Wq G M8_init 108 [some (.ref a), some (.int (nI T)), some (.int (nI S)), some (fV fr), none, none, none, none] [] (1, 2) (sR (nwO u 8) 7 7 a (some (a + 1))) Q
    generalize sR (nwO u 8) 7 7 a (some (a + 1)) = u1 at mar hAa f1 ⊢
    clear ma ka na la mk hA hB z1
    obtain ⟨k1, r1, hB, z1⟩ := f1
    obtain ⟨mb, kb, nb, lb⟩ := mar.obj 8
    have mbr := mb.R (r := 7) (k := 8) (a := a) (v := some (a + 2)) (by omega) (by omega) (by omega)
    have hAb := (hAa.O (x := 8) (by rw [mar.2.2.2.1]; omega)).R (k := 8) (v := some (a + 2)) (by omega)
    have z2 : ∀ j, tS u1 (a + 2) j = false := tS_0 mar.2.1 (by rw [mar.2.2.2.1]; omega)
    refine Wq.go ok8_init 20 [119] ?_
    refine And.intro ⟨by decide, by decide⟩ (fun b0 hb0 => c9_init ?_)
    have hb0 : gN u1 2 0 = b0 := hb0
    rw [mar.2.2.2.1] at hb0
    subst hb0
    refine And.intro ((nb a (by omega)).trans hAa.1) ?_
    exact k119 _ mbr hAb hB ((nb _ (by omega)).trans k1) kb ((gR_ne (w := nwO u1 8) (by omega)).trans r1) (gR_at (nwO u1 8) _ _ _ _) (fun j => ⟨z1 j, z2 j⟩)
  -- B: base and depth
  have kB : ∀ (u : qSt), Mkg w u (a + 1) → NtA u a (nI T) (nI S) fr ow op → Mkg w (sI (sI u 7 5 a b) 7 6 a d) (a + 1) ∧ NtA (sI (sI u 7 5 a b) 7 6 a d) a (nI T) (nI S) fr ow op ∧ NtB (sI (sI u 7 5 a b) 7 6 a d) a b d :=
    fun u mk hA => ⟨(mk.I (by omega) (by omega) (by omega)).I (by omega) (by omega) (by omega), (hA.I (Or.inl rfl)).I (Or.inr (Or.inl rfl)), (gI_ne (w := sI u 7 5 a b) (by omega)).trans (gI_at _ _ _ _ _), gI_at _ _ _ _ _⟩
  have k52a : (fr = none ∨ ¬ (S = 3 ∨ S = 4)) → ∀ (u : qSt), Mkg w u (a + 1) → NtA u a (nI T) (nI S) fr ow op →
      Wq G M8_init 52 [some (.ref a), some (.int (nI T)), some (.int (nI S)), some (fV fr), none, none, some (.int 0), none] [] (0, 0) u Q := by
    intro hn u mk hA
    obtain ⟨eb, ed⟩ := hb0 hn
    obtain ⟨m2, hA2, hB2⟩ := kB u mk hA
    refine Wq.go ok8_init 30 [97] ?_
    refine And.intro (fun _ => And.intro hA.1 (And.intro (fun _ => And.intro hA.1 ?_) (fun z => absurd rfl z))) (fun z => absurd rfl z)
    refine Wq.ls (ls' := [some (.ref a), some (.int (nI T)), some (.int (nI S)), some (fV fr), none, none, none, none]) ⟨rfl, rfl, rfl, rfl, trivial⟩ ?_
    have := k97 _ m2 hA2 hB2
    rw [eb, ed] at this
    exact this
  have k52b : ∀ f, fr = some f → (S = 3 ∨ S = 4) → ∀ (u : qSt), Mkg w u (a + 1) → NtA u a (nI T) (nI S) fr ow op →
      Wq G M8_init 52 [some (.ref a), some (.int (nI T)), some (.int (nI S)), some (.ref f), none, none, some (.int 1), none] [] (0, 0) u Q := by
    intro f e hn u mk hA
    obtain ⟨eb, ed⟩ := hb1 f e hn
    obtain ⟨m2, hA2, hB2⟩ := kB u mk hA
    have q1 := (hfr f e).1
    have s1 := mk.1 f (by rw [q1]; omega)
    have qa : f ≠ a := fun z => by have := olt q1 (by omega); omega
    have e5 : gI u 7 5 f = gI w 7 5 f := (s1.2.2.1 7 5 (by omega)).1
    have e6 : gI u 7 6 f = gI w 7 6 f := (s1.2.2.1 7 6 (by omega)).1
    have key := k97 _ m2 hA2 hB2
    rw [e] at key
    refine Wq.go ok8_init 40 [97] ?_
    refine And.intro (fun z => absurd z (by decide)) (fun _ => And.intro (s1.1.trans q1) (And.intro hA.1 (And.intro (fun z => absurd z (by decide)) (fun _ => And.intro (s1.1.trans q1) (And.intro (fun (c : ¬ nI S = nI 4) => And.intro hA.1 ?_) (fun (c : nI S = nI 4) => And.intro hA.1 ?_))))))
    · rw [nI_eqI (by omega) (by omega)] at c
      refine Wq.ls (ls' := [some (.ref a), some (.int (nI T)), some (.int (nI S)), some (.ref f), none, none, none, none]) ⟨rfl, rfl, rfl, rfl, trivial⟩ ?_
      rw [if_neg c] at ed
      show Wq G M8_init 97 [some (.ref a), some (.int (nI T)), some (.int (nI S)), some (.ref f), none, none, none, none] [] (0, 0) (sI (sI u 7 5 a (gI u 7 5 f)) 7 6 a (gI (sI u 7 5 a (gI u 7 5 f)) 7 6 f + 0)) Q
      rw [gI_ne (by omega), e5, e6, ← eb, ← ed]
      exact key
    · rw [nI_eqI (by omega) (by omega)] at c
      refine Wq.ls (ls' := [some (.ref a), some (.int (nI T)), some (.int (nI S)), some (.ref f), none, none, none, none]) ⟨rfl, rfl, rfl, rfl, trivial⟩ ?_
      rw [if_pos c] at ed
      show Wq G M8_init 97 [some (.ref a), some (.int (nI T)), some (.int (nI S)), some (.ref f), none, none, none, none] [] (0, 0) (sI (sI u 7 5 a (gI u 7 5 f)) 7 6 a (gI (sI u 7 5 a (gI u 7 5 f)) 7 6 f + 1)) Q
      rw [gI_ne (by omega), e5, e6, ← eb, ← ed]
      exact key
  have k31 : ∀ (u : qSt), Mkg w u (a + 1) → NtA u a (nI T) (nI S) fr ow op →
      Wq G M8_init 31 [some (.ref a), some (.int (nI T)), some (.int (nI S)), some (fV fr), none, none, none, none] [] (0, 0) u Q := by
    intro u mk hA
    rcases hfn with e | ⟨f, e⟩
    · have key := k52a (Or.inl e) u mk hA
      rw [e] at key ⊢
      exact Wq.go ok8_init 20 [52] key
    · have key := fun z => k52a (Or.inr z) u mk hA
      have key2 := fun z => k52b f e z u mk hA
      rw [e] at key ⊢
      refine Wq.go ok8_init 20 [52] ?_
      refine And.intro (fun (c : nI S = nI 3) => ?_) (fun (c : ¬ nI S = nI 3) => And.intro (fun (c2 : ¬ nI S = nI 4) => ?_) (fun (c2 : nI S = nI 4) => ?_)) <;> rw [nI_eqI (by omega) (by omega)] at c
      · exact key2 (Or.inl c)
      · rw [nI_eqI (by omega) (by omega)] at c2
        exact key (fun z => z.elim c c2)
      · rw [nI_eqI (by omega) (by omega)] at c2
        exact key2 (Or.inr c2)
  -- A
  have fin : NtA (sI (sR (sR (sI (sI u0 7 0 a (nI T)) 7 1 a (nI S)) 7 2 a fr) 7 3 a ow) 7 4 a op) a (nI T) (nI S) fr ow op ∧ Mkg w (sI (sR (sR (sI (sI u0 7 0 a (nI T)) 7 1 a (nI S)) 7 2 a fr) 7 3 a ow) 7 4 a op) (a + 1) := by
    refine ⟨⟨k0, ?_, ?_, ?_, ?_, gI_at _ _ _ _ _, ?_, ?_, ?_⟩, ((((m0.I (by omega) (by omega) (by omega)).I (by omega) (by omega) (by omega)).R (by omega) (by omega) (by omega)).R (by omega) (by omega) (by omega)).I (by omega) (by omega) (by omega)⟩
    · rw [gI_ne (by omega)]; show gI (sI (sI u0 7 0 a (nI T)) 7 1 a (nI S)) 7 0 a = nI T; rw [gI_ne (by omega)]; exact gI_at _ _ _ _ _
    · rw [gI_ne (by omega)]; show gI (sI (sI u0 7 0 a (nI T)) 7 1 a (nI S)) 7 1 a = nI S; exact gI_at _ _ _ _ _
    · exact (gR_ne (w := sR (sI (sI u0 7 0 a (nI T)) 7 1 a (nI S)) 7 2 a fr) (by omega)).trans (gR_at _ _ _ _ _)
    · exact gR_at _ _ _ _ _
    · rw [gI_ne (by omega)]; show gI (sI (sI u0 7 0 a (nI T)) 7 1 a (nI S)) 7 12 a = 0; rw [gI_ne (by omega), gI_ne (by omega)]; exact d12
    · rw [gI_ne (by omega)]; show gI (sI (sI u0 7 0 a (nI T)) 7 1 a (nI S)) 7 13 a = 0; rw [gI_ne (by omega), gI_ne (by omega)]; exact d13
    · rw [gI_ne (by omega)]; show gI (sI (sI u0 7 0 a (nI T)) 7 1 a (nI S)) 7 14 a = 0; rw [gI_ne (by omega), gI_ne (by omega)]; exact d14
  have k31' := k31 _ fin.2 fin.1
  clear k31 k52a k52b kB k97 k119 k147
  cases fr <;> cases ow
  all_goals
    refine Con.go hw8_init ok8_init 30 [31] rfl ?_
    refine And.intro k0 (And.intro k0 (And.intro k0 (And.intro k0 (And.intro k0 (And.intro hop ?_)))))
    refine Wq.ls (ls' := [some (.ref a), some (.int (nI T)), some (.int (nI S)), some _, none, none, none, none]) ⟨rfl, rfl, rfl, rfl, trivial⟩ ?_
    exact k31'
end
