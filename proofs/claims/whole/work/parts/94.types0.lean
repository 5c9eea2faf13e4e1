/-! ===== the constructors of the class ===== -/
theorem SameC.rf (u : qSt) (c : Nat) : SameC u u c := ⟨rfl, rfl, fun _ _ _ => ⟨rfl, rfl, rfl⟩, fun _ => ⟨rfl, rfl, rfl⟩⟩
theorem SameC.tr {a b c : qSt} {x : Nat} (h : SameC a b x) (h' : SameC b c x) : SameC a c x := by
  obtain ⟨p1, p2, p3, p4⟩ := h
  obtain ⟨q1, q2, q3, q4⟩ := h'
  exact ⟨q1.trans p1, q2.trans p2, fun r k hr => ⟨(q3 r k hr).1.trans (p3 r k hr).1, (q3 r k hr).2.1.trans (p3 r k hr).2.1, (q3 r k hr).2.2.trans (p3 r k hr).2.2⟩, fun j => ⟨(q4 j).1.trans (p4 j).1, (q4 j).2.1.trans (p4 j).2.1, (q4 j).2.2.trans (p4 j).2.2⟩⟩
theorem SameC.I {u u' : qSt} {c : Nat} (h : SameC u u' c) {r k i : Nat} {v : Int32} (hr : r < 12) (hc : c ≠ i) : SameC u (sI u' r k i v) c := by
  refine h.tr ⟨rfl, rfl, fun r' k' _ => ⟨gI_ne (by omega), rfl, rfl⟩, fun j => ⟨gI_ne (by omega), rfl, rfl⟩⟩
theorem SameC.R {u u' : qSt} {c : Nat} (h : SameC u u' c) {r k i : Nat} {v : Option Nat} (hr : r < 12) (hc : c ≠ i) : SameC u (sR u' r k i v) c := by
  refine h.tr ⟨rfl, rfl, fun r' k' _ => ⟨rfl, rfl, gR_ne (by omega)⟩, fun j => ⟨rfl, rfl, gR_ne (by omega)⟩⟩
theorem SameC.aR {u u' : qSt} {c : Nat} (h : SameC u u' c) {i j : Nat} {v : Option Nat} (hc : c ≠ i) : SameC u (sR u' 23 i j v) c := by
  refine h.tr ⟨rfl, rfl, fun r' k' _ => ⟨rfl, rfl, gR_ne (by omega)⟩, fun j => ⟨rfl, rfl, gR_ne (by omega)⟩⟩
theorem SameC.aI {u u' : qSt} {c : Nat} (h : SameC u u' c) {i j : Nat} {v : Int32} (hc : c ≠ i) : SameC u (sI u' 20 i j v) c := by
  refine h.tr ⟨rfl, rfl, fun r' k' _ => ⟨gI_ne (by omega), rfl, rfl⟩, fun j => ⟨gI_ne (by omega), rfl, rfl⟩⟩
theorem SameC.O {u u' : qSt} {c : Nat} (h : SameC u u' c) {x : Nat} (hc : c ≠ gN u' 2 0) : SameC u (nwO u' x) c := h.tr ⟨nwO_ne u' x hc, nwO_1 u' x c, fun _ _ _ => ⟨rfl, rfl, rfl⟩, fun _ => ⟨rfl, rfl, rfl⟩⟩
theorem SameC.Ar {u u' : qSt} {c : Nat} (h : SameC u u' c) {x n : Nat} (hc : c ≠ gN u' 2 0) : SameC u (nwA u' x n) c := h.tr ⟨nwA_ne u' x n hc, nwA_1e u' x n hc, fun _ _ _ => ⟨rfl, rfl, rfl⟩, fun _ => ⟨rfl, rfl, rfl⟩⟩
theorem Mkg.AR {w0 u : qSt} {b : Nat} (h : Mkg w0 u b) {a j : Nat} {v : Option Nat} (ha : gN w0 2 0 ≤ a) (hb : a < b) : Mkg w0 (sR u 23 a j v) b := by
  obtain ⟨h1, h2, h3, h4, h5, h6⟩ := h
  refine ⟨fun x hx => (h1 x hx).aR (fun z => hx (by rw [z]; exact h6.k ha)), h2.AR (by omega), h3.R, h4, h5, h6⟩
theorem Mkg.AI {w0 u : qSt} {b : Nat} (h : Mkg w0 u b) {a j : Nat} {v : Int32} (ha : gN w0 2 0 ≤ a) (hb : a < b) : Mkg w0 (sI u 20 a j v) b := by
  obtain ⟨h1, h2, h3, h4, h5, h6⟩ := h
  refine ⟨fun x hx => (h1 x hx).aI (fun z => hx (by rw [z]; exact h6.k ha)), h2.AI (by omega), h3.I rfl, h4, h5, h6⟩
theorem Mkg.tr {a b c : qSt} {n k : Nat} (h : Mkg a b n) (h' : Mkg b c k) : Mkg a c k :=
  ⟨h.1.tr h'.1, h'.2.1, h.2.2.1.tr h'.2.2.1, h'.2.2.2.1, by have := h.2.2.2.2.1; have := h'.2.2.2.2.1; have := h.2.2.2.1; omega, h.2.2.2.2.2⟩
/-- a type of the beginning: number i, at a -/
def T1 (u : qSt) (a i : Nat) : Prop := (gN u 0 a = 7 ∧ gN u 0 (a + 1) = 8 ∧ gN u 0 (a + 2) = 8 ∧ gN u 0 (a + 3) = 25 ∧ gN u 0 (a + 4) = 25 ∧ gN u 0 (a + 5) = 25) ∧
  (gI u 7 0 a = nI i ∧ gI u 7 1 a = (if i = 8 then 1 else 0) ∧ gR u 7 2 a = none ∧ gR u 7 3 a = none ∧ gI u 7 4 a = 0 ∧ gI u 7 5 a = nI i ∧ gI u 7 6 a = 0) ∧
  (gR u 7 7 a = some (a + 1) ∧ gR u 7 8 a = some (a + 2) ∧ gR u 7 9 a = some (a + 3) ∧ gR u 7 10 a = some (a + 4) ∧ gR u 7 11 a = some (a + 5)) ∧ (gN u 1 (a + 3) = 0 ∧ gN u 1 (a + 4) = 0 ∧ gN u 1 (a + 5) = 0) ∧
  (gI u 7 12 a = 0 ∧ gI u 7 13 a = 0 ∧ gI u 7 14 a = 0 ∧ gI u 7 15 a = -1) ∧ ∀ j, j < 128 → ((tS u (a + 1) j = true ↔ (i = 8 ∧ j = 8)) ∧ tS u (a + 2) j = false)
theorem T1.same {u u' : qSt} {a i : Nat} (t : T1 u a i) (h : ∀ c, a ≤ c → c < a + 6 → SameC u u' c) : T1 u' a i := by
  obtain ⟨⟨k0, k1, k2, k3, k4, k5⟩, ⟨i1, i2, i3, i4, i5, i6, i7⟩, ⟨r1, r2, r3, r4, r5⟩, ⟨n1, n2, n3⟩, ⟨j1, j2, j3, j4⟩, hts⟩ := t
  have s0 := h a (by omega) (by omega)
  have s1 := h (a + 1) (by omega) (by omega)
  have s2 := h (a + 2) (by omega) (by omega)
  have s3 := h (a + 3) (by omega) (by omega)
  have s4 := h (a + 4) (by omega) (by omega)
  have s5 := h (a + 5) (by omega) (by omega)
  refine ⟨⟨s0.1.trans k0, s1.1.trans k1, s2.1.trans k2, s3.1.trans k3, s4.1.trans k4, s5.1.trans k5⟩, ⟨s0.fI 7 0 (by omega) i1, s0.fI 7 1 (by omega) i2, s0.fR 7 2 (by omega) i3, s0.fR 7 3 (by omega) i4, s0.fI 7 4 (by omega) i5, s0.fI 7 5 (by omega) i6, s0.fI 7 6 (by omega) i7⟩, ⟨s0.fR 7 7 (by omega) r1, s0.fR 7 8 (by omega) r2, s0.fR 7 9 (by omega) r3, s0.fR 7 10 (by omega) r4, s0.fR 7 11 (by omega) r5⟩, ⟨s3.n1 n1, s4.n1 n2, s5.n1 n3⟩, ⟨s0.fI 7 12 (by omega) j1, s0.fI 7 13 (by omega) j2, s0.fI 7 14 (by omega) j3, s0.fI 7 15 (by omega) j4⟩, fun j hj => ?_⟩
  rw [s1.tS, s2.tS]
  exact hts j hj
theorem T1.kinds {u : qSt} {a i : Nat} (t : T1 u a i) {c : Nat} (h1 : a ≤ c) (h2 : c < a + 6) : gN u 0 c ≠ 99 := by
  obtain ⟨⟨k0, k1, k2, k3, k4, k5⟩, -⟩ := t
  rcases (show c = a ∨ c = a + 1 ∨ c = a + 2 ∨ c = a + 3 ∨ c = a + 4 ∨ c = a + 5 by omega) with e | e | e | e | e | e <;> rw [e] <;> omega
theorem T1.agree {u u' : qSt} {a i : Nat} (t : T1 u a i) (h : Agree u u') : T1 u' a i := t.same (fun c h1 h2 => h c (t.kinds h1 h2))
theorem T1.of {w u : qSt} {a i S : Nat} {up : Nat → Prop} (hS : S = if i = 8 then 1 else 0) (hup : ∀ j, j < 128 → (up j ↔ (i = 8 ∧ j = 8))) (h : TyNw w u a (nI i) (nI S) none none 0 (nI i) 0 0 up) : T1 u a i := by
  obtain ⟨mk, ⟨y1, y2, y3, y4, y5, y6, y7, y8, y9⟩, hB, i15, ⟨k1, k2, k3, k4, k5⟩, rs, ls, hts, -⟩ := h
  refine ⟨⟨y1, k1, k2, k3, k4, k5⟩, ⟨y2, ?_, y4, y5, y6, hB.1, hB.2⟩, rs, ls, ⟨y7, y8, y9, i15⟩, fun j hj => ?_⟩
  · rw [y3, hS]; split <;> rfl
  · rw [← hup j hj]; exact hts j hj
/-- the types made so far -/
def TsI (u : qSt) (i : Nat) : Prop := (gN u 0 3 = 9 ∧ gR u 9 0 3 = some 4 ∧ gI u 9 4 3 = 0 ∧ gI u 9 5 3 = 0 ∧ gN u 0 4 = 30 ∧ gN u 1 4 = 100) ∧ ∀ j, j < i → gR u 23 4 j = some (5 + 6 * j) ∧ T1 u (5 + 6 * j) j
theorem TsI.agree {u u' : qSt} {i : Nat} (t : TsI u i) (h : Agree u u') : TsI u' i := by
  obtain ⟨⟨k3, r, z1, z2, k4, l4⟩, hj⟩ := t
  have s3 := h.s k3 (by omega)
  have s4 := h.s k4 (by omega)
  exact ⟨⟨s3.1.trans k3, s3.fR 9 0 (by omega) r, s3.fI 9 4 (by omega) z1, s3.fI 9 5 (by omega) z2, s4.1.trans k4, s4.n1 l4⟩, fun j q => ⟨s4.eR j (hj j q).1, (hj j q).2.agree h⟩⟩
/-- the object of all types, made -/
def Ty0 (u : qSt) : Prop := TsI u 9 ∧ gI u 9 3 3 = 9 ∧ gR u 9 1 3 = some 59 ∧ gR u 9 2 3 = some 70 ∧ gN u 0 59 = 31 ∧ gN u 1 59 = 10 ∧ (∀ n, n < 11 → gN u 0 (60 + n) = 8 ∧ ∀ j, tS u (60 + n) j = false) ∧ ∀ n, n < 10 → gR u 23 59 n = some (60 + n)
section
variable {G : qGX} {Q : Option Value → qSt → Prop}
theorem c10_init {w0 w1 : qSt} (h2 : gN w0 2 0 = 2) (mk : Mkg w0 w1 4) (k3 : gN w1 0 3 = 9) (z4 : gI w1 9 4 3 = 0) (z5 : gI w1 9 5 3 = 0) (k2 : gN w1 0 2 = 10) (h : ∀ u, Mkg w0 u 71 → SameC w1 u 2 → Ty0 u → Q none u) : Con G M10_init [.ref 3] w1 Q := by
  -- the candidates
  have k107 : ∀ u, Mkg w0 u 70 → SameC w1 u 2 → TsI u 9 → gI u 9 3 3 = 9 → gR u 9 1 3 = some 59 → gN u 0 59 = 31 → gN u 1 59 = 10 → (∀ n, n < 10 → gR u 23 59 n = some (60 + n) ∧ gN u 0 (60 + n) = 8 ∧ ∀ j, tS u (60 + n) j = false) →
      Wq G M10_init 107 [some (.ref 3), none] [] (66, 580) u Q := by
    intro u mku s2 ts c3 r1 k59 l59 hl
    refine Wq.go ok10_init 20 [] ?_
    refine And.intro ⟨by decide, by decide⟩ (fun a ha => ?_)
    have ha : gN u 2 0 = a := ha
    rw [mku.2.2.2.1] at ha
    subst ha
    obtain ⟨mo, ko, no, lo⟩ := mku.obj 8
    have k3o : gN (nwO u 8) 0 3 = 9 := (no 3 (by omega)).trans ts.1.1
    refine c9_init (And.intro k3o ?_)
    refine h _ (mo.R (by omega) (by omega) (by omega)) ((s2.O (by rw [mku.2.2.2.1]; omega)).R (by omega) (by omega)) ⟨?_, c3, ?_, gR_at _ _ _ _ _, (no 59 (by omega)).trans k59, (lo 59).trans l59, fun n hn => ?_, fun n hn => (hl n hn).1⟩
    · have t2 := ts.agree ((Agree.rf u).O (x := 8) (mku.2.1.k (Nat.le_refl _)))
      obtain ⟨⟨a1, a2, a3⟩, a4⟩ := t2
      exact ⟨⟨a1, (gR_ne (w := nwO u 8) (by omega)).trans a2, a3⟩, a4⟩
    · exact (gR_ne (w := nwO u 8) (by omega)).trans r1
    · by_cases e : n = 10
      · subst e
        refine ⟨ko, fun j => ?_⟩
        exact tS_0 mku.2.1 (by rw [mku.2.2.2.1]; omega) j
      · exact ⟨(no (60 + n) (by omega)).trans (hl n (by omega)).2.1, (hl n (by omega)).2.2⟩
  -- the lenders
  have loop2 : ∀ (k n : Nat) (u : qSt), n + k = 10 → Mkg w0 u (60 + n) → SameC w1 u 2 → TsI u 9 → gI u 9 3 3 = 9 → gR u 9 1 3 = some 59 → gN u 0 59 = 31 → gN u 1 59 = 10 → (∀ j, j < n → gR u 23 59 j = some (60 + j) ∧ gN u 0 (60 + j) = 8 ∧ ∀ i, tS u (60 + j) i = false) →
      Wq G M10_init 82 [some (.ref 3), some (.int (nI n))] [] (56 + n, 560 + 2 * n) u Q := by
    intro k
    induction k with
    | zero =>
      intro n u hn mku s2 ts c3 r1 k59 l59 hl
      obtain rfl : n = 10 := by omega
      refine Wq.go ok10_init 20 [107] ?_
      refine And.intro (fun _ => ?_) (fun z => absurd (by decide) z)
      refine Wq.ls (ls' := [some (.ref 3), none]) ⟨rfl, trivial⟩ ?_
      exact k107 u mku s2 ts c3 r1 k59 l59 hl
    | succ k ih =>
      intro n u hn mku s2 ts c3 r1 k59 l59 hl
      refine Wq.go ok10_init 30 [82] ?_
      refine And.intro (fun (z : nI 10 ≤ nI n) => ?_) (fun _ => ?_)
      · rw [nI_leI (by omega) (by omega)] at z; omega
      refine And.intro ts.1.1 (refS r1 (And.intro ⟨by show 56 + n + 1 ≤ 67; omega, by show 560 + 2 * n + 2 ≤ 582; omega⟩ (fun a ha => ?_)))
      have ha : gN u 2 0 = a := ha
      rw [mku.2.2.2.1] at ha
      subst ha
      obtain ⟨mo, ko, no, lo⟩ := mku.obj 8
      have k59o : gN (nwO u 8) 0 59 = 31 := (no 59 (by omega)).trans k59
      have l59o : gN (nwO u 8) 1 59 = 10 := (lo 59).trans l59
      refine c9_init (And.intro (And.intro (by rw [k59o]; rfl) (And.intro (by rw [ko, k59o]) (by rw [l59o]; exact in_nI (by omega) (by decide)))) ?_)
      show Wq G M10_init 82 [some (.ref 3), some (.int (nI n + 1))] [] (56 + n + 1, 560 + 2 * n + 2) (sR (nwO u 8) 23 59 (nI n).toNatClampNeg (some (60 + n))) Q
      rw [nI_1, nI_clamp (by omega)]
      have t2 := ts.agree ((Agree.rf u).O (x := 8) (mku.2.1.k (Nat.le_refl _)))
      refine ih (n + 1) _ (by omega) (mo.AR (by omega) (by omega)) ((s2.O (by rw [mku.2.2.2.1]; omega)).aR (by omega)) t2 c3 r1 k59o l59o (fun j hj => ?_)
      by_cases e : j = n
      · subst e
        exact ⟨gR_at _ _ _ _ _, ko, fun i => tS_0 mku.2.1 (by rw [mku.2.2.2.1]; omega) i⟩
      · exact ⟨(gR_ne (w := nwO u 8) (by omega)).trans (hl j (by omega)).1, (no (60 + j) (by omega)).trans (hl j (by omega)).2.1, (hl j (by omega)).2.2⟩
  -- ANY
  have k45 : ∀ u, Mkg w0 u 53 → SameC w1 u 2 → TsI u 8 → Wq G M10_init 45 [some (.ref 3), none] [] (49, 500) u Q := by
    intro u mku s2 ts
    obtain ⟨⟨k3u, r0, x4, x5, k4, l4⟩, hj⟩ := id ts
    refine Wq.go ok10_init 30 [65] ?_
    refine And.intro k3u (refS r0 (And.intro ⟨by decide, by decide⟩ (fun a ha => ?_)))
    have ha : gN u 2 0 = a := ha
    rw [mku.2.2.2.1] at ha
    subst ha
    refine And.intro ⟨by decide, by decide⟩ ?_
    refine c8_init (w := u) (a := 53) (T := 8) (S := 1) (L := 0) (fr := none) (ow := none) (op := 0) (b := nI 8) (d := 0) (up := fun j => j = 8) mku.2.1 mku.2.2.2.1 (by omega) (by omega) (by decide) (fun f z => by cases z) (fun _ => ⟨rfl, rfl⟩) (fun f z => by cases z) rfl (fun j _ => ⟨fun z => ⟨rfl, Or.inl z⟩, fun z => z.2.elim id (fun ⟨f, c, z, _⟩ => by cases z)⟩) (fun u2 nw => ?_)
    have mk2 := mku.tr nw.1
    have t8 : T1 u2 53 8 := T1.of (S := 1) rfl (fun j _ => ⟨fun z => ⟨rfl, z⟩, fun z => z.2⟩) nw
    have ts2 := ts.agree nw.1.1
    obtain ⟨⟨k3v, r0v, x4v, x5v, k4v, l4v⟩, hjv⟩ := id ts2
    refine And.intro (And.intro (by rw [k4v]; rfl) (And.intro (by rw [t8.1.1, k4v]) (by rw [l4v]; exact in_nI (n := 8) (by omega) (by decide)))) ?_
    show Wq G M10_init 65 [some (.ref 3), none] [] (55, 550) (sR u2 23 4 8 (some 53)) Q
    have mk3 := mk2.AR (a := 4) (j := 8) (v := some 53) (by omega) (by omega)
    have ts3 : TsI (sR u2 23 4 8 (some 53)) 9 := by
      refine ⟨⟨k3v, r0v, x4v, x5v, k4v, l4v⟩, fun j q => ?_⟩
      by_cases e : j = 8
      · subst e; exact ⟨gR_at _ _ _ _ _, t8⟩
      · exact ⟨(gR_ne (w := u2) (by omega)).trans (hjv j (by omega)).1, (hjv j (by omega)).2⟩
    have s3 : SameC w1 (sR u2 23 4 8 (some 53)) 2 := by
      exact (s2.tr (nw.1.1 2 (by rw [s2.1, k2]; omega))).aR (by omega)
    generalize sR u2 23 4 8 (some 53) = u3 at mk3 ts3 s3 ⊢
    obtain ⟨⟨k3w, r0w, x4w, x5w, k4w, l4w⟩, hjw⟩ := id ts3
    refine Wq.go ok10_init 30 [82] ?_
    refine And.intro k3w (And.intro ⟨by decide, by decide⟩ (And.intro ⟨by decide, by decide⟩ (fun a ha => ?_)))
    have mk4 := mk3.I (r := 9) (k := 3) (a := 3) (v := 9) (by omega) (by omega) (by omega)
    have ha : gN (sI u3 9 3 3 9) 2 0 = a := ha
    rw [mk4.2.2.2.1] at ha
    subst ha
    have ts4 : TsI (sI u3 9 3 3 9) 9 := ts3
    have s4 := s3.I (r := 9) (k := 3) (i := 3) (v := 9) (by omega) (by omega)
    have c4 : gI (sI u3 9 3 3 9) 9 3 3 = 9 := gI_at _ _ _ _ _
    show gN (nwA (sI u3 9 3 3 9) 31 10) 0 3 = 9 ∧ Wq G M10_init 82 [some (.ref 3), some (.int (nI 0))] [] (56, 560) (sR (nwA (sI u3 9 3 3 9) 31 10) 9 1 3 (some 59)) Q
    generalize sI u3 9 3 3 9 = u4 at mk4 ts4 s4 c4 ⊢
    obtain ⟨mo, ko, lo, no, oo⟩ := mk4.arr 31 10
    have ts5 := ts4.agree ((Agree.rf u4).Ar (x := 31) (n := 10) (mk4.2.1.k (Nat.le_refl _)))
    obtain ⟨⟨a1, a2, a3⟩, a4⟩ := ts5
    refine And.intro a1 ?_
    refine loop2 10 0 _ rfl (mo.R (by omega) (by omega) (by omega)) ((s4.Ar (by rw [mk4.2.2.2.1]; omega)).R (by omega) (by omega)) ⟨⟨a1, (gR_ne (w := nwA u4 31 10) (by omega)).trans a2, a3⟩, a4⟩ c4 (gR_at _ _ _ _ _) ko lo (fun j hj => by omega)
  -- the lanes
  have loop1 : ∀ (k i : Nat) (u : qSt), i + k = 8 → Mkg w0 u (5 + 6 * i) → SameC w1 u 2 → TsI u i → Wq G M10_init 15 [some (.ref 3), some (.int (nI i))] [] (1 + 6 * i, 100 + 50 * i) u Q := by
    intro k
    induction k with
    | zero =>
      intro i u hi mku s2 ts
      obtain rfl : i = 8 := by omega
      refine Wq.go ok10_init 20 [45] ?_
      refine And.intro (fun _ => ?_) (fun z => absurd (by decide) z)
      refine Wq.ls (ls' := [some (.ref 3), none]) ⟨rfl, trivial⟩ ?_
      exact k45 u mku s2 ts
    | succ k ih =>
      intro i u hi mku s2 ts
      obtain ⟨⟨k3u, r0, x4, x5, k4, l4⟩, hj⟩ := id ts
      refine Wq.go ok10_init 30 [15] ?_
      refine And.intro (fun (z : nI 7 < nI i) => ?_) (fun _ => ?_)
      · rw [nI_ltI (by omega) (by omega)] at z; omega
      refine And.intro k3u (refS r0 (And.intro ⟨by show 1 + 6 * i + 1 ≤ 67; omega, by show 100 + 50 * i + 16 ≤ 582; omega⟩ (fun a ha => ?_)))
      have ha : gN u 2 0 = a := ha
      rw [mku.2.2.2.1] at ha
      subst ha
      refine And.intro ⟨by show 1 + 6 * i + 1 + 5 ≤ 67; omega, by show 100 + 50 * i + 16 + 34 ≤ 582; omega⟩ ?_
      refine c8_init (w := u) (a := 5 + 6 * i) (T := i) (S := 0) (L := 0) (fr := none) (ow := none) (op := 0) (b := nI i) (d := 0) (up := fun j => False) mku.2.1 mku.2.2.2.1 (by omega) (by omega) (by decide) (fun f z => by cases z) (fun _ => ⟨rfl, rfl⟩) (fun f z => by cases z) (if_neg (by omega)).symm (fun j _ => ⟨fun z => z.elim, fun z => absurd z.1 (by decide)⟩) (fun u2 nw => ?_)
      have mk2 := mku.tr nw.1
      have t8 : T1 u2 (5 + 6 * i) i := T1.of (S := 0) (if_neg (by omega)).symm (fun j _ => ⟨fun z => z.elim, fun z => by omega⟩) nw
      have ts2 := ts.agree nw.1.1
      obtain ⟨⟨k3v, r0v, x4v, x5v, k4v, l4v⟩, hjv⟩ := id ts2
      refine And.intro (And.intro (by rw [k4v]; rfl) (And.intro (by rw [t8.1.1, k4v]) (by rw [l4v]; exact in_nI (by omega) (by decide)))) ?_
      show Wq G M10_init 15 [some (.ref 3), some (.int (nI i + 1))] [] (1 + 6 * i + 1 + 5, 100 + 50 * i + 16 + 34) (sR u2 23 4 (nI i).toNatClampNeg (some (5 + 6 * i))) Q
      rw [nI_1, nI_clamp (by omega), show 1 + 6 * i + 1 + 5 = 1 + 6 * (i + 1) by omega, show 100 + 50 * i + 16 + 34 = 100 + 50 * (i + 1) by omega]
      have mk3 := mk2.AR (a := 4) (j := i) (v := some (5 + 6 * i)) (by omega) (by omega)
      rw [show 5 + 6 * i + 6 = 5 + 6 * (i + 1) by omega] at mk3
      refine ih (i + 1) _ (by omega) mk3 ?_ ⟨⟨k3v, r0v, x4v, x5v, k4v, l4v⟩, fun j q => ?_⟩
      · exact (s2.tr (nw.1.1 2 (by rw [s2.1, k2]; omega))).aR (by omega)
      · by_cases e : j = i
        · subst e; exact ⟨gR_at _ _ _ _ _, t8⟩
        · exact ⟨(gR_ne (w := u2) (by omega)).trans (hjv j (by omega)).1, (hjv j (by omega)).2⟩
  refine Con.go hw10_init ok10_init 20 [15] rfl ?_
  refine And.intro ⟨by decide, by decide⟩ (And.intro ⟨by decide, by decide⟩ (fun a ha => ?_))
  have ha : gN w1 2 0 = a := ha
  rw [mk.2.2.2.1] at ha
  subst ha
  obtain ⟨mo, ko, lo, no, oo⟩ := mk.arr 30 100
  refine And.intro ((no 3 (by omega)).trans k3) ?_
  show Wq G M10_init 15 [some (.ref 3), some (.int (nI 0))] [] (1, 100) (sR (nwA w1 30 100) 9 0 3 (some 4)) Q
  refine loop1 8 0 _ rfl (mo.R (by omega) (by omega) (by omega)) (((SameC.rf w1 2).Ar (by rw [mk.2.2.2.1]; omega)).R (by omega) (by omega)) ⟨⟨(no 3 (by omega)).trans k3, gR_at _ _ _ _ _, z4, z5, ko, lo⟩, fun j hj => by omega⟩
end
