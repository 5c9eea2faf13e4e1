/-! ===== the class's own constructor ===== -/
/-- the model at its beginning -/
def IniM (m : qSt) : Prop := (∀ k, mi m k = if k = 1 then 9 else if k = 35 ∨ k = 51 then -1 else 0) ∧ (∀ r i, ma m r i = if r = 0 ∧ i = 8 then 1 else if r = 1 ∧ i = 8 then -1 else 0) ∧ ∀ r i, ml m r i = 0
section
variable {m : qSt}
theorem IniM.z (h : IniM m) {r i : Nat} (hr : 2 ≤ r) : ma m r i = 0 := by rw [h.2.1, if_neg (by omega), if_neg (by omega)]
theorem IniM.n0 (h : IniM m) {r i : Nat} (hr : 2 ≤ r) : tn (ma m r i) = 0 := by rw [h.z hr]; rfl
theorem IniM.k0 (h : IniM m) {k : Nat} (hk : k ≠ 1 ∧ k ≠ 35 ∧ k ≠ 51) : mi m k = 0 := by rw [h.1, if_neg (by omega), if_neg (by omega)]
theorem IniM.nT (h : IniM m) : nT m = 9 := by unfold CQueryHandlesLaw_law_r6115_62a76e.nT; rw [h.1, if_pos rfl]; rfl
theorem IniM.s (h : IniM m) (i : Nat) : ma m 0 i = if i = 8 then 1 else 0 := by
  rw [h.2.1]
  by_cases e : i = 8
  · rw [if_pos ⟨rfl, e⟩, if_pos e]
  · rw [if_neg (fun z => e z.2), if_neg (by omega), if_neg e]
theorem IniM.ns (h : IniM m) {i : Nat} {v : Int32} (h0 : v ≠ 0) (h1 : v ≠ 1) : ¬ ma m 0 i = v := by
  rw [h.s]; split
  · exact fun z => h1 z.symm
  · exact fun z => h0 z.symm
theorem IniM.tl (h : IniM m) (t g : Nat) : ¬ tld m t g := fun ⟨k, hk, _⟩ => by
  have : nF m t = 0 := h.n0 (by omega)
  omega
theorem IniM.fo (h : IniM m) (t f : Nat) : ¬ FO1 m t f := fun z => z (fun _ => False) (fun g q => h.tl t g q) (fun _ _ q _ => q)
theorem IniM.ff (h : IniM m) (t f : Nat) : ¬ FOf m t f := by
  rintro (⟨-, z⟩ | ⟨-, c, -, z⟩)
  · exact h.fo _ _ z
  · exact h.fo _ _ z
theorem IniM.m0 (h : IniM m) (t : Nat) : nM m t = 0 := h.n0 (by omega)
theorem IniM.x0 (h : IniM m) : nX m = 0 := by unfold nX; rw [h.k0 (by omega)]; rfl
theorem IniM.h0 (h : IniM m) : nH m = 0 := by unfold nH; rw [h.k0 (by omega)]; rfl
theorem IniM.q0 (h : IniM m) : nQ m = 0 := by unfold nQ; rw [h.k0 (by omega)]; rfl
theorem IniM.r0 (h : IniM m) : nTr m = 0 := by unfold nTr; rw [h.k0 (by omega)]; rfl
theorem IniM.t0 (h : IniM m) : nHt m = 0 := by unfold nHt; rw [h.k0 (by omega)]; rfl
theorem IniM.cl (h : IniM m) : ∀ n, clF m n = 0
  | 0 => rfl
  | n + 1 => by
    show clF m n + cIf (ma m 4 n = 0) 0 1 = 0
    rw [h.cl n, cIf_t (h.z (by omega))]
theorem IniM.cs (h : IniM m) : ∀ n, csF m n = 0
  | 0 => rfl
  | n + 1 => by
    show csF m n + cIf (8 < n ∧ ma m 0 n = 1) 1 0 = 0
    rw [h.cs n, cIf_f]
    rintro ⟨z1, z2⟩
    rw [h.s, if_neg (by omega)] at z2
    exact absurd z2 (by decide)
theorem IniM.rw (h : IniM m) (i : Nat) : rwI m i = -1 := by
  unfold rwI rfN
  rw [h.nT]; rfl
theorem IniM.inv (h : IniM m) : TInv m ∧ XInv m ∧ HInv m ∧ CInv m ∧ QInv m ∧ TrOK m ∧ HtInv m ∧ AInv m ∧ DInv m := by
  have e0 : ∀ {r i : Nat}, 2 ≤ r → ma m r i = nI (tn (ma m r i)) := fun hr => by rw [h.z hr]; rfl
  refine ⟨⟨⟨?_, by rw [h.nT]; omega, by rw [h.nT]; omega⟩, fun i hi => ?_, ?_, ?_, fun i h9 hi => ?_, fun i hi => ⟨?_, ?_, ?_⟩⟩, ⟨?_, ?_, fun x hx => ?_, fun x hx => ?_⟩, ⟨?_, ?_, fun x hx => ?_⟩, fun k hk => ?_, ⟨?_, ?_, fun q hq => ?_⟩, ⟨?_, ?_⟩, ⟨?_, ?_, fun k hk => ?_⟩, fun f => h.fo f f, ?_⟩
  · rw [h.nT, h.1, if_pos rfl]; rfl
  · rw [h.s, if_neg (by omega)]
  · rw [h.s, if_pos rfl]
  · rw [h.2.1, if_neg (by omega), if_pos ⟨rfl, rfl⟩]
  · rw [h.nT] at hi; omega
  · have : nF m i = 0 := h.n0 (by omega)
    refine ⟨e0 (by omega), by omega, fun z => by omega, fun j hj => by omega⟩
  · have := h.m0 i
    refine ⟨e0 (by omega), by omega, fun z => by omega, fun j hj => by omega⟩
  · exact ⟨Or.inl (h.z (by omega)), Or.inl (h.z (by omega)), fun _ => h.z (by omega), fun _ => h.z (by omega)⟩
  · rw [h.x0, h.k0 (by omega)]; rfl
  · rw [h.x0]; omega
  · refine ⟨e0 (by omega), ?_⟩
    have : pX m x = 0 := h.n0 (by omega)
    omega
  · rw [h.x0] at hx; omega
  · rw [h.h0, h.k0 (by omega)]; rfl
  · rw [h.h0]; omega
  · rw [h.h0] at hx; omega
  · exact ⟨Or.inl (h.z (by omega)), fun z => absurd (h.z (by omega)) z⟩
  · rw [h.q0, h.k0 (by omega)]; rfl
  · rw [h.q0]; omega
  · have : tQ m q = 0 := h.n0 (by omega)
    exact ⟨e0 (by omega), by omega, fun _ => this, fun i hi => by omega⟩
  · rw [h.r0, h.k0 (by omega)]; rfl
  · rw [h.r0]; omega
  · rw [h.t0, h.k0 (by omega)]; rfl
  · rw [h.t0]; omega
  · rw [h.t0] at hk; omega
  · intro t i j ht hij hj
    have : nF m t = 0 := h.n0 (by omega)
    omega
end
/-- the addresses of the beginning -/
def A0 : qA := (fun i => 5 + 6 * i, fun _ => 0, fun _ => 0, fun _ => 0, fun _ => 0, fun _ => 0)
/-- what stands of the class when it is made -/
def Cl0 (u : qSt) : Prop := FixK u ∧ FixR u ∧ (∀ i, i < 9 → gR u 23 4 i = some (5 + 6 * i) ∧ T1 u (5 + 6 * i) i) ∧ (∀ n, n < 10 → ∀ j, tS u (60 + n) j = false) ∧ (∀ k, k < 6 → gR u 23 76 k = none) ∧ (gI u 9 3 3 = 9 ∧ gI u 9 4 3 = 0 ∧ gI u 9 5 3 = 0 ∧ gI u 6 2 71 = 0 ∧ gI u 4 4 73 = 0 ∧ gI u 4 5 73 = 0) ∧ gI u 10 6 2 = 0 ∧ gI u 10 7 2 = 0 ∧ gI u 10 8 2 = -1 ∧ gI u 10 9 2 = 0 ∧ gI u 10 10 2 = -1 ∧ gI u 10 11 2 = 0
theorem Cl0.rep {u m : qSt} (h : Cl0 u) (hm : IniM m) : Rep A0 m u := by
  obtain ⟨fk, fr, ty, le, co, ⟨c1, c2, c3, c4, c5, c6⟩, d1, d2, d3, d4, d5, d6⟩ := h
  have eT := hm.nT
  have hI := hm.inv.1
  have hns : ∀ i, i < 9 → ¬ (ma m 0 i = 3 ∨ ma m 0 i = 4) := fun i _ z => z.elim (hm.ns (by decide) (by decide)) (hm.ns (by decide) (by decide))
  have hmb : ∀ i, i < 9 → ¬ hasMb m i := fun i hi z => by
    rcases z with z | ⟨z1, z2⟩
    · exact hm.ns (by decide) (by decide) z
    · rw [hm.s, if_neg z2] at z1; exact absurd z1 (by decide)
  have n0 : ∀ v : Int32, v = 0 → v = nI 0 := fun _ z => z
  refine ⟨fk, fr, ?_, ?_, ?_, ?_, ?_, ?_, ?_, ?_, ?_, ?_, ?_, ?_, ?_, ?_, ?_, ?_, ?_, ?_, ?_, ?_⟩
  · intro i hi
    rw [eT] at hi
    obtain ⟨t0, ⟨k0, k1, k2, k3, k4, k5⟩, -⟩ := ty i hi
    exact ⟨t0, k0, k1, k2, k3, k4, k5⟩
  · intro i hi
    rw [eT] at hi
    obtain ⟨t0, -, ⟨i1, i2, i3, i4, i5, i6, i7⟩, ⟨r1, r2, r3, r4, r5⟩, ⟨l1, l2, l3⟩, -⟩ := ty i hi
    have hb := hns i hi
    unfold frA owA mlN
    rw [cIf_f (hmb i hi), baN_self hb, dpN_0 hb, sqN_0 (fun z => hb (Or.inr z)), cIf_f (fun z => hb (Or.inl z)), cIf_f hb, hm.s, hm.z (by omega)]
    refine ⟨i1, i2, ?_, i4, i5, i6, i7, r1, r2, r3, r4, r5, l1, l2, l3⟩
    rw [show gR u 7 2 (aT A0 i) = none from i3]
    by_cases e : i = 8
    · rw [if_pos e, cIf_t rfl, cIf_t e]
    · rw [if_neg e, cIf_f (by decide)]
  · intro i hi
    rw [eT] at hi
    obtain ⟨t0, -, -, -, -, ⟨j1, j2, j3, j4⟩, -⟩ := ty i hi
    have : pcN m i = 0 := by unfold pcN ivC; rw [hm.m0]; rfl
    rw [this, hm.rw, hm.z (by omega), hm.z (by omega)]
    exact ⟨j1, j2, j3, j4⟩
  · intro i hi j hj
    rw [eT] at hi
    obtain ⟨t0, -, -, -, -, -, hts⟩ := ty i hi
    obtain ⟨g1, g2⟩ := hts j hj
    refine ⟨Iff.trans g1 ?_, ⟨fun z => ?_, fun z => absurd z (hm.tl _ _)⟩⟩
    · unfold UpP
      rw [hm.s]
      constructor
      · rintro ⟨rfl, rfl⟩
        exact Or.inl ⟨if_pos rfl, abvs_self m 8⟩
      · rintro (⟨z1, z2⟩ | z)
        · by_cases e : i = 8
          · subst e
            rw [abvs_8, List.mem_singleton] at z2
            exact ⟨rfl, z2⟩
          · rw [if_neg e] at z1; exact absurd z1 (by decide)
        · exact absurd z (hm.ff _ _)
    · have z : tS u (5 + 6 * i + 2) j = true := z
      rw [g2] at z; exact absurd z (by decide)
  · intro i j hi hj
    rw [hm.m0] at hj; omega
  · intro i j hi hj
    rw [hm.m0] at hj; omega
  · intro i j hi hj
    rw [hm.m0] at hj; omega
  · intro i n hi z
    rw [eT] at hi
    exact absurd z (hmb i hi)
  · intro n hn f hf
    rw [le n hn f]
    exact ⟨fun z => absurd z (by decide), fun z => absurd z.2.1 (hm.ns (by decide) (by decide))⟩
  · exact ⟨fun x hx => by rw [hm.x0] at hx; omega, fun x y hx => by rw [hm.x0] at hx; omega⟩
  · intro x hx
    rw [hm.x0] at hx; omega
  · intro x i hx
    rw [hm.x0] at hx; omega
  · intro x hx
    rw [hm.h0] at hx; omega
  · exact ⟨fun k hk => ⟨fun _ => co k hk, fun z => absurd (hm.z (by omega)) z⟩, fun k l _ _ z => absurd (hm.z (by omega)) z⟩
  · intro k i hk z
    exact absurd (hm.z (by omega)) z
  · exact ⟨fun x hx => by rw [hm.q0] at hx; omega, fun x y hx => by rw [hm.q0] at hx; omega⟩
  · intro x hx
    rw [hm.q0] at hx; omega
  · refine ⟨?_, ?_, ?_, ?_, ?_⟩
    · rw [hm.1, if_pos rfl]; exact c1
    · rw [hm.cs]; exact c2
    · rw [hm.cl]; exact c3
    · rw [hm.k0 (by omega)]; exact c4
    · rw [hm.k0 (by omega)]; exact c5
  · exact ⟨by rw [hm.k0 (by omega)]; exact c6, fun i hi => by rw [hm.r0] at hi; omega⟩
  · refine ⟨?_, ?_, ?_, ?_, ?_, ?_, fun i hi => by rw [hm.t0] at hi; omega⟩
    · rw [hm.k0 (by omega)]; exact d1
    · rw [hm.k0 (by omega)]; exact d2
    · rw [hm.1, if_neg (by omega), if_pos (Or.inr rfl)]; exact d3
    · rw [hm.k0 (by omega)]; exact d4
    · rw [hm.1, if_neg (by omega), if_pos (Or.inl rfl)]; exact d5
    · rw [hm.k0 (by omega)]; exact d6
section
variable {G : qGX} {w : qSt} {Q : Option Value → qSt → Prop}
theorem nwO_b {u : qSt} {b : Nat} (h : gN u 2 0 = b) (x : Nat) : nwO u x = sN (sN u 0 b x) 2 0 (b + 1) := by unfold nwO; rw [h]
theorem nwA_b {u : qSt} {b : Nat} (h : gN u 2 0 = b) (x n : Nat) : nwA u x n = sN (sN (sN u 1 b n) 0 b x) 2 0 (b + 1) := by unfold nwA; rw [h]
theorem c7_init {a t b : Nat} (ha : gN w 0 a = 6) (hb : gN w 2 0 = b) (hne : a ≠ b) (h : Q none (sR (nwA (sR w 6 0 a (some t)) 28 60) 6 1 a (some b))) : Con G M7_init [.ref a, .ref t] w Q := by
  refine Con.go hw7_init ok7_init 30 [] rfl ?_
  refine And.intro ha (And.intro ⟨by decide, by decide⟩ (And.intro ⟨by decide, by decide⟩ (fun n hn => ?_)))
  have hn : gN w 2 0 = n := hn
  rw [hb] at hn
  subst hn
  exact And.intro ((nwA_ne (sR w 6 0 a (some t)) 28 _ (fun z => hne (z.trans hb))).trans ha) h
theorem c5_init {a t x b : Nat} (ha : gN w 0 a = 4) (hb : gN w 2 0 = b) (hne : a < b) (h : Q none (sR (nwA (sR (nwA (sR (sR w 4 0 a (some t)) 4 1 a (some x)) 24 40) 4 2 a (some b)) 20 60) 4 3 a (some (b + 1)))) : Con G M5_init [.ref a, .ref t, .ref x] w Q := by
  refine Con.go hw5_init ok5_init 40 [23] rfl ?_
  refine And.intro ha (And.intro ha (And.intro ⟨by decide, by decide⟩ (And.intro ⟨by decide, by decide⟩ (fun n hn => ?_))))
  have hn : gN w 2 0 = n := hn
  rw [hb] at hn
  subst hn
  have k1 : gN (nwA (sR (sR w 4 0 a (some t)) 4 1 a (some x)) 24 40) 0 a = 4 := (nwA_ne (sR (sR w 4 0 a (some t)) 4 1 a (some x)) 24 _ (fun z => by have : a = gN w 2 0 := z; omega)).trans ha
  have b1 : gN (nwA (sR (sR w 4 0 a (some t)) 4 1 a (some x)) 24 40) 2 0 = b + 1 := by
    show gN w 2 0 + 1 = b + 1
    rw [hb]
  refine And.intro k1 ?_
  show Wq G M5_init 23 [some (.ref a), some (.ref t), some (.ref x)] [] (1, 40) (sR (nwA (sR (sR w 4 0 a (some t)) 4 1 a (some x)) 24 40) 4 2 a (some b)) Q
  generalize nwA (sR (sR w 4 0 a (some t)) 4 1 a (some x)) 24 40 = u at k1 b1 h ⊢
  refine Wq.go ok5_init 40 [] ?_
  refine And.intro ⟨by decide, by decide⟩ (And.intro ⟨by decide, by decide⟩ (fun n hn => ?_))
  have hn : gN u 2 0 = n := hn
  rw [b1] at hn
  subst hn
  exact And.intro ((nwA_ne (sR u 4 2 a (some b)) 20 _ (fun z => by have : a = gN u 2 0 := z; omega)).trans k1) h
theorem c11_init {w0 : qSt} (h2 : gN w0 2 0 = 2) (hz : qZero w0) (k0 : gN w0 0 0 = 19) (k1 : gN w0 0 1 = 19 ∧ gN w0 1 1 = 8) (hw8 : gI w0 20 1 = wider8) (h : ∀ u, Mkg w0 u 79 → Cl0 u → Q none u) : Con G M11_init [.ref 2] (nwO w0 10) Q := by
  have g0 := (Mkg.of hz).obj 10
  rw [h2] at g0
  obtain ⟨m0, q0, n0, l0⟩ := g0
  have z2 : ∀ k, gI (nwO w0 10) 10 k 2 = 0 := fun k => ((hz 2 (by omega)).2.1 10 k (by omega)).1
  have z34 : ∀ k, gI (nwO w0 10) 9 k 3 = 0 := fun k => ((hz 3 (by omega)).2.1 9 k (by omega)).1
  generalize nwO w0 10 = u0 at m0 q0 z2 z34 ⊢
  refine Con.go hw11_init ok11_init 20 [15] rfl ?_
  refine And.intro ⟨by decide, by decide⟩ (fun a ha => ?_)
  have ha : gN u0 2 0 = a := ha
  rw [m0.2.2.2.1] at ha
  subst ha
  obtain ⟨m1, q1, n1, l1⟩ := m0.obj 9
  refine And.intro ⟨by decide, by decide⟩ ?_
  refine c10_init h2 m1 q1 (z34 4) (z34 5) ((n1 2 (by omega)).trans q0) (fun u mk s2 ty => ?_)
  have k2u : gN u 0 2 = 10 := (s2.1.trans (n1 2 (by omega))).trans q0
  have z2u : ∀ k, gI u 10 k 2 = 0 := fun k => s2.fI 10 k (by omega) (z2 k)
  refine And.intro k2u ?_
  show Wq G M11_init 15 [some (.ref 2)] [] (68, 588) (sR u 10 0 2 (some 3)) Q
  obtain ⟨ts, c3, r1, r2, k59, l59, hle, hrl⟩ := ty
  have bu : gN u 2 0 = 71 := mk.2.2.2.1
  have zu : ∀ c, 71 ≤ c → (∀ r k, r < 12 → gI u r k c = 0) ∧ ∀ j, gR u 23 c j = none := fun c hc => ⟨fun r k hr => ((mk.2.1 c (by omega)).2.1 r k hr).1, fun j => ((mk.2.1 c (by omega)).2.2 j).2.2⟩
  -- things
  have mA := mk.R (r := 10) (k := 0) (a := 2) (v := some 3) (by omega) (by omega) (by omega)
  refine Wq.go ok11_init 20 [30] ?_
  refine And.intro ⟨by decide, by decide⟩ (fun a ha => ?_)
  have ha : gN u 2 0 = a := ha
  rw [bu] at ha
  subst ha
  obtain ⟨mB, qB, nB, lB⟩ := mA.obj 6
  have k2B : gN (nwO (sR u 10 0 2 (some 3)) 6) 0 2 = 10 := (nB 2 (by omega)).trans k2u
  refine And.intro k2B (refS (b := 3) (gR_at u 10 0 2 (some 3)) (And.intro ⟨by decide, by decide⟩ ?_))
  refine c7_init qB mB.2.2.2.1 (by omega) ?_
  have mC := mB.R (r := 6) (k := 0) (a := 71) (v := some 3) (by omega) (by omega) (by omega)
  obtain ⟨mD, qD, lD, nD, oD⟩ := mC.arr 28 60
  have mE := mD.R (r := 6) (k := 1) (a := 71) (v := some 72) (by omega) (by omega) (by omega)
  refine And.intro ((nD 2 (by omega)).trans k2B) ?_
  have mF := mE.R (r := 10) (k := 1) (a := 2) (v := some 71) (by omega) (by omega) (by omega)
  have sF : ∀ c, c ≠ 2 → c < 71 → SameC u (sR (sR (nwA (sR (nwO (sR u 10 0 2 (some 3)) 6) 6 0 71 (some 3)) 28 60) 6 1 71 (some 72)) 10 1 2 (some 71)) c := fun c c2 c71 => ((((((SameC.rf u c).R (by omega) c2).O (by rw [mA.2.2.2.1]; omega)).R (by omega) (by omega)).Ar (by rw [mC.2.2.2.1]; omega)).R (by omega) (by omega)).R (by omega) c2
  have fF : ∀ v, v = sR (sR (nwA (sR (nwO (sR u 10 0 2 (some 3)) 6) 6 0 71 (some 3)) 28 60) 6 1 71 (some 72)) 10 1 2 (some 71) → (gN v 0 2 = 10 ∧ gN v 0 71 = 6 ∧ gN v 0 72 = 28 ∧ gN v 1 72 = 60) ∧ (gR v 10 0 2 = some 3 ∧ gR v 10 1 2 = some 71 ∧ gR v 6 0 71 = some 3 ∧ gR v 6 1 71 = some 72) ∧ (∀ k, gI v 10 k 2 = 0) ∧ gI v 6 2 71 = 0 ∧ ∀ c, 73 ≤ c → (∀ r k, r < 12 → gI v r k c = 0) ∧ ∀ j, gR v 23 c j = none := by
    intro v hv
    rw [hv]
    refine ⟨⟨(nD 2 (by omega)).trans k2B, (nD 71 (by omega)).trans qB, qD, lD⟩, ⟨rfl, rfl, rfl, rfl⟩, z2u, (zu 71 (by omega)).1 6 2 (by omega), fun c hc => ⟨fun r k hr => (zu c (by omega)).1 r k hr, fun j => (zu c (by omega)).2 j⟩⟩
  have fF := fF _ rfl
  show Wq G M11_init 30 [some (.ref 2)] [] (70, 651) (sR (sR (nwA (sR (nwO (sR u 10 0 2 (some 3)) 6) 6 0 71 (some 3)) 28 60) 6 1 71 (some 72)) 10 1 2 (some 71)) Q
  generalize sR (sR (nwA (sR (nwO (sR u 10 0 2 (some 3)) 6) 6 0 71 (some 3)) 28 60) 6 1 71 (some 72)) 10 1 2 (some 71) = v at mF sF fF ⊢
  clear mA mB qB nB lB k2B mC mD qD lD nD oD mE
  obtain ⟨⟨v1, v2, v3, v4⟩, ⟨v5, v6, v7, v8⟩, v9, v10, v11⟩ := fF
  -- the reader
  refine Wq.go ok11_init 20 [49] ?_
  refine And.intro ⟨by decide, by decide⟩ (fun a ha => ?_)
  have ha : gN v 2 0 = a := ha
  rw [mF.2.2.2.1] at ha
  subst ha
  obtain ⟨mB, qB, nB, lB⟩ := mF.obj 4
  have k2B : gN (nwO v 4) 0 2 = 10 := (nB 2 (by omega)).trans v1
  refine And.intro k2B (refS (b := 3) v5 (And.intro k2B (refS (b := 71) v6 (And.intro ⟨by decide, by decide⟩ ?_))))
  refine c5_init qB mB.2.2.2.1 (by omega) ?_
  have mC := (mB.R (r := 4) (k := 0) (a := 73) (v := some 3) (by omega) (by omega) (by omega)).R (r := 4) (k := 1) (a := 73) (v := some 71) (by omega) (by omega) (by omega)
  obtain ⟨mD, qD, lD, nD, oD⟩ := mC.arr 24 40
  have mE := mD.R (r := 4) (k := 2) (a := 73) (v := some 74) (by omega) (by omega) (by omega)
  obtain ⟨mG, qG, lG, nG, oG⟩ := mE.arr 20 60
  have mH := mG.R (r := 4) (k := 3) (a := 73) (v := some 75) (by omega) (by omega) (by omega)
  refine And.intro ((nG 2 (by omega)).trans ((nD 2 (by omega)).trans k2B)) ?_
  have mI := mH.R (r := 10) (k := 2) (a := 2) (v := some 73) (by omega) (by omega) (by omega)
  have sI2 : ∀ c, c ≠ 2 → c < 73 → SameC v (sR (sR (nwA (sR (nwA (sR (sR (nwO v 4) 4 0 73 (some 3)) 4 1 73 (some 71)) 24 40) 4 2 73 (some 74)) 20 60) 4 3 73 (some 75)) 10 2 2 (some 73)) c := fun c c2 c71 => ((((((((SameC.rf v c).O (by rw [mF.2.2.2.1]; omega)).R (by omega) (by omega)).R (by omega) (by omega)).Ar (by rw [mC.2.2.2.1]; omega)).R (by omega) (by omega)).Ar (by rw [mE.2.2.2.1]; omega)).R (by omega) (by omega)).R (by omega) c2
  have fI : ∀ x, x = sR (sR (nwA (sR (nwA (sR (sR (nwO v 4) 4 0 73 (some 3)) 4 1 73 (some 71)) 24 40) 4 2 73 (some 74)) 20 60) 4 3 73 (some 75)) 10 2 2 (some 73) → (gN x 0 2 = 10 ∧ gN x 0 73 = 4 ∧ gN x 0 74 = 24 ∧ gN x 1 74 = 40 ∧ gN x 0 75 = 20 ∧ gN x 1 75 = 60) ∧ (gR x 10 0 2 = some 3 ∧ gR x 10 1 2 = some 71 ∧ gR x 10 2 2 = some 73 ∧ gR x 4 0 73 = some 3 ∧ gR x 4 1 73 = some 71 ∧ gR x 4 2 73 = some 74 ∧ gR x 4 3 73 = some 75) ∧ (∀ k, gI x 10 k 2 = 0) ∧ (gI x 4 4 73 = 0 ∧ gI x 4 5 73 = 0) ∧ ∀ c, 76 ≤ c → ∀ j, gR x 23 c j = none := by
    intro x hx
    rw [hx]
    refine ⟨⟨(nG 2 (by omega)).trans ((nD 2 (by omega)).trans k2B), (nG 73 (by omega)).trans ((nD 73 (by omega)).trans qB), (nG 74 (by omega)).trans qD, (oG 74 (by omega)).trans lD, qG, lG⟩, ⟨v5, v6, rfl, rfl, rfl, rfl, rfl⟩, v9, ⟨(v11 73 (by omega)).1 4 4 (by omega), (v11 73 (by omega)).1 4 5 (by omega)⟩, fun c hc j => (v11 c (by omega)).2 j⟩
  have fI := fI _ rfl
  show Wq G M11_init 49 [some (.ref 2)] [] (73, 759) (sR (sR (nwA (sR (nwA (sR (sR (nwO v 4) 4 0 73 (some 3)) 4 1 73 (some 71)) 24 40) 4 2 73 (some 74)) 20 60) 4 3 73 (some 75)) 10 2 2 (some 73)) Q
  generalize sR (sR (nwA (sR (nwA (sR (sR (nwO v 4) 4 0 73 (some 3)) 4 1 73 (some 71)) 24 40) 4 2 73 (some 74)) 20 60) 4 3 73 (some 75)) 10 2 2 (some 73) = x at mI sI2 fI ⊢
  clear mB qB nB lB k2B mC mD qD lD nD oD mE mG qG lG nG oG mH
  obtain ⟨⟨x1, x2, x3, x4, x5, x6⟩, ⟨x7, x8, x9, x10, x11, x12, x13⟩, x14, ⟨x15, x16⟩, x17⟩ := fI
  -- columns, queries, hits
  refine Wq.go ok11_init 30 [58] ?_
  refine And.intro ⟨by decide, by decide⟩ (And.intro ⟨by decide, by decide⟩ (fun a ha => ?_))
  have ha : gN x 2 0 = a := ha
  rw [mI.2.2.2.1] at ha
  subst ha
  obtain ⟨mB, qB, lB, nB, oB⟩ := mI.arr 23 6
  refine And.intro ((nB 2 (by omega)).trans x1) ?_
  show Wq G M11_init 58 [some (.ref 2)] [] (74, 765) (sR (nwA x 23 6) 10 3 2 (some 76)) Q
  have mC := mB.R (r := 10) (k := 3) (a := 2) (v := some 76) (by omega) (by omega) (by omega)
  refine Wq.go ok11_init 30 [67] ?_
  refine And.intro ⟨by decide, by decide⟩ (And.intro ⟨by decide, by decide⟩ (fun a ha => ?_))
  have ha : gN (sR (nwA x 23 6) 10 3 2 (some 76)) 2 0 = a := ha
  rw [mC.2.2.2.1] at ha
  subst ha
  obtain ⟨mD, qD, lD, nD, oD⟩ := mC.arr 26 20
  refine And.intro ((nD 2 (by omega)).trans ((nB 2 (by omega)).trans x1)) ?_
  show Wq G M11_init 67 [some (.ref 2)] [] (75, 785) (sR (nwA (sR (nwA x 23 6) 10 3 2 (some 76)) 26 20) 10 4 2 (some 77)) Q
  have mE := mD.R (r := 10) (k := 4) (a := 2) (v := some 77) (by omega) (by omega) (by omega)
  refine Wq.go ok11_init 30 [] ?_
  refine And.intro ⟨by decide, by decide⟩ (And.intro ⟨by decide, by decide⟩ (fun a ha => ?_))
  have ha : gN (sR (nwA (sR (nwA x 23 6) 10 3 2 (some 76)) 26 20) 10 4 2 (some 77)) 2 0 = a := ha
  rw [mE.2.2.2.1] at ha
  subst ha
  obtain ⟨mG, qG, lG, nG, oG⟩ := mE.arr 20 60
  have k2G := (nG 2 (by omega)).trans ((nD 2 (by omega)).trans ((nB 2 (by omega)).trans x1))
  refine And.intro k2G (And.intro k2G (And.intro k2G ?_))
  have mH := ((mG.R (r := 10) (k := 5) (a := 2) (v := some 78) (by omega) (by omega) (by omega)).I (r := 10) (k := 8) (a := 2) (v := -1) (by omega) (by omega) (by omega)).I (r := 10) (k := 10) (a := 2) (v := -1) (by omega) (by omega) (by omega)
  have sH : ∀ c, c ≠ 2 → c < 76 → SameC x (sI (sI (sR (nwA (sR (nwA (sR (nwA x 23 6) 10 3 2 (some 76)) 26 20) 10 4 2 (some 77)) 20 60) 10 5 2 (some 78)) 10 8 2 (-1)) 10 10 2 (-1)) c := fun c c2 c76 => ((((((((SameC.rf x c).Ar (by rw [mI.2.2.2.1]; omega)).R (by omega) c2).Ar (by rw [mC.2.2.2.1]; omega)).R (by omega) c2).Ar (by rw [mE.2.2.2.1]; omega)).R (by omega) c2).I (by omega) c2).I (by omega) c2
  have e76 := (nG 76 (by omega)).trans ((nD 76 (by omega)).trans qB)
  have f76 := (oG 76 (by omega)).trans ((oD 76 (by omega)).trans lB)
  have e77 := (nG 77 (by omega)).trans qD
  have f77 := (oG 77 (by omega)).trans lD
  refine h _ mH ?_
  show Cl0 (sI (sI (sR (nwA (sR (nwA (sR (nwA x 23 6) 10 3 2 (some 76)) 26 20) 10 4 2 (some 77)) 20 60) 10 5 2 (some 78)) 10 8 2 (-1)) 10 10 2 (-1))
  have fin : ∀ y, y = sI (sI (sR (nwA (sR (nwA (sR (nwA x 23 6) 10 3 2 (some 76)) 26 20) 10 4 2 (some 77)) 20 60) 10 5 2 (some 78)) 10 8 2 (-1)) 10 10 2 (-1) → (gN y 0 2 = 10 ∧ gN y 0 76 = 23 ∧ gN y 1 76 = 6 ∧ gN y 0 77 = 26 ∧ gN y 1 77 = 20 ∧ gN y 0 78 = 20 ∧ gN y 1 78 = 60) ∧ (gR y 10 0 2 = some 3 ∧ gR y 10 1 2 = some 71 ∧ gR y 10 2 2 = some 73 ∧ gR y 10 3 2 = some 76 ∧ gR y 10 4 2 = some 77 ∧ gR y 10 5 2 = some 78) ∧ (gI y 10 6 2 = 0 ∧ gI y 10 7 2 = 0 ∧ gI y 10 8 2 = -1 ∧ gI y 10 9 2 = 0 ∧ gI y 10 10 2 = -1 ∧ gI y 10 11 2 = 0) ∧ ∀ k, gR y 23 76 k = none := by
    intro y hy
    rw [hy]
    exact ⟨⟨k2G, e76, f76, e77, f77, qG, lG⟩, ⟨x7, x8, x9, rfl, rfl, rfl⟩, ⟨x14 6, x14 7, rfl, x14 9, rfl, x14 11⟩, fun k => x17 76 (by omega) k⟩
  have fin := fin _ rfl
  have sz : SameC w0 (sI (sI (sR (nwA (sR (nwA (sR (nwA x 23 6) 10 3 2 (some 76)) 26 20) 10 4 2 (some 77)) 20 60) 10 5 2 (some 78)) 10 8 2 (-1)) 10 10 2 (-1)) 0 := mH.1 0 (by rw [k0]; omega)
  have so : SameC w0 (sI (sI (sR (nwA (sR (nwA (sR (nwA x 23 6) 10 3 2 (some 76)) 26 20) 10 4 2 (some 77)) 20 60) 10 5 2 (some 78)) 10 8 2 (-1)) 10 10 2 (-1)) 1 := mH.1 1 (by rw [k1.1]; omega)
  generalize sI (sI (sR (nwA (sR (nwA (sR (nwA x 23 6) 10 3 2 (some 76)) 26 20) 10 4 2 (some 77)) 20 60) 10 5 2 (some 78)) 10 8 2 (-1)) 10 10 2 (-1) = y at sH fin sz so ⊢
  obtain ⟨⟨y1, y2, y3, y4, y5, y6, y7⟩, ⟨y8, y9, y10, y11, y12, y13⟩, ys, y14⟩ := fin
  have sU : ∀ c, c ≠ 2 → c < 71 → SameC u y c := fun c c2 c71 => ((sF c c2 c71).tr (sI2 c c2 (by omega))).tr (sH c c2 (by omega))
  have sV : ∀ c, c ≠ 2 → c < 73 → SameC v y c := fun c c2 c71 => (sI2 c c2 (by omega)).tr (sH c c2 (by omega))
  obtain ⟨⟨k3, r90, c4, c5, k4, l4⟩, hty⟩ := ts
  have s3 := sU 3 (by omega) (by omega)
  have s4 := sU 4 (by omega) (by omega)
  have s59 := sU 59 (by omega) (by omega)
  have s71 := sV 71 (by omega) (by omega)
  have s72 := sV 72 (by omega) (by omega)
  have s73 := sH 73 (by omega) (by omega)
  have s74 := sH 74 (by omega) (by omega)
  have s75 := sH 75 (by omega) (by omega)
  refine ⟨⟨y1, s3.1.trans k3, ⟨s4.1.trans k4, s4.n1 l4⟩, ⟨s59.1.trans k59, s59.n1 l59⟩, fun n hn => (sU (60 + n) (by omega) (by omega)).1.trans (hle n hn).1, s71.1.trans v2, ⟨s72.1.trans v3, s72.n1 v4⟩, s73.1.trans x2, ⟨s74.1.trans x3, s74.n1 x4⟩, ⟨s75.1.trans x5, s75.n1 x6⟩, ⟨y2, y3⟩, ⟨y4, y5⟩, ⟨y6, y7⟩, ⟨so.1.trans k1.1, so.n1 k1.2⟩, sz.1.trans k0⟩,
    ⟨y8, y9, y10, y11, y12, y13, s3.fR 9 0 (by omega) r90, s3.fR 9 1 (by omega) r1, s3.fR 9 2 (by omega) r2, fun n hn => s59.eR n (hrl n hn), s71.fR 6 0 (by omega) v7, s71.fR 6 1 (by omega) v8, s73.fR 4 0 (by omega) x10, s73.fR 4 1 (by omega) x11, s73.fR 4 2 (by omega) x12, s73.fR 4 3 (by omega) x13, by funext j; rw [← hw8]; exact so.eI j rfl⟩,
    fun i hi => ⟨s4.eR i (hty i hi).1, (hty i hi).2.same (fun c h1 h3 => sU c (by omega) (by omega))⟩, fun n hn j => ?_, fun k _ => y14 k, ⟨s3.fI 9 3 (by omega) c3, s3.fI 9 4 (by omega) c4, s3.fI 9 5 (by omega) c5, s71.fI 6 2 (by omega) v10, s73.fI 4 4 (by omega) x15, s73.fI 4 5 (by omega) x16⟩, ys⟩
  rw [(sU (60 + n) (by omega) (by omega)).tS]
  exact (hle n (by omega)).2 j
end
