/-! ===== the law's entry: the tables' facts, the state that it begins in ===== -/
theorem tb_in {z : Nat} {w : Jvm.Cond} (h : lkW z w = true) : w ∈ lw_tbl := List.mem_of_getElem? (of_decide_eq_true h)
theorem st_inst : ∀ (c : Nat) (q : vw_C), vwCl[c]? = some q → ∃ n, Cond.instantiable q.1 n ∈ lw_tbl :=
  vw_cases (P := fun _ q => ∃ n, Cond.instantiable q.1 n ∈ lw_tbl) ⟨2, tb_in (z := 844) (by decide +kernel)⟩ ⟨3, tb_in (z := 751) (by decide +kernel)⟩ ⟨9, tb_in (z := 438) (by decide +kernel)⟩ ⟨5, tb_in (z := 918) (by decide +kernel)⟩ ⟨8, tb_in (z := 246) (by decide +kernel)⟩ ⟨4, tb_in (z := 582) (by decide +kernel)⟩ ⟨3, tb_in (z := 227) (by decide +kernel)⟩ ⟨16, tb_in (z := 94) (by decide +kernel)⟩ ⟨2, tb_in (z := 100) (by decide +kernel)⟩ ⟨6, tb_in (z := 87) (by decide +kernel)⟩ ⟨12, tb_in (z := 79) (by decide +kernel)⟩ ⟨53, tb_in (z := 1027) (by decide +kernel)⟩
section
variable {s : State} {args : Array Value}
theorem st_known (hts : ∀ w ∈ lw_tbl, w.before args s = true) : ∃ D : va_G, ∀ (c : Nat) (q : vw_C), vwCl[c]? = some q → u_Kn s q.1 q.2.1 q.2.2 (D.1 c) (D.2 c) := by
  have h2 : ∀ c : Nat, ∃ p : ClassId × (Nat → Nat), ∀ q : vw_C, vwCl[c]? = some q → u_Kn s q.1 q.2.1 q.2.2 p.1 p.2 := by
    intro c
    cases h : vwCl[c]? with
    | none => exact ⟨(0, fun _ => 0), fun q hq => by cases hq⟩
    | some q =>
      obtain ⟨n, hn⟩ := st_inst c q h
      obtain ⟨cC, iS, hk⟩ := u_known (C := q.1) (T := q.2.1) (N := q.2.2) (n := n) (ws := wTG) (fun w hw => hts w (List.mem_filter.mp hw).1) (uws_in h) (hts _ hn)
      exact ⟨(cC, iS), fun q' hq => by cases hq; exact hk⟩
  obtain ⟨f, hf⟩ := Classical.axiomOfChoice h2
  exact ⟨(fun c => (f c).1, fun c => (f c).2), fun c q h => hf c q h⟩
theorem st_arrP {ty : FieldType} (h : (Cond.arrayClass ty).before args s = true) : ∃ cA, ArrOfT s cA ty ∧ s.vm.findClass ("[" ++ ty.toString) = some cA := by
  obtain ⟨cA, kA, comp, h1, h2, h3⟩ := Cond.arrayClass_spec h
  exact ⟨cA, fun n z => ⟨fun k h => (by cases h), kA, h2, comp, h3⟩, h1⟩
theorem st_arrO {C : String} (h : (Cond.arrayOver (.object C)).before args s = true) : ∃ cA, ArrOfT s cA (.object C) ∧ va_RA s cA (.object C) := by
  obtain ⟨comp, cA, kA, h1, h2, h3, h4, h5⟩ := Cond.arrayOver_spec h
  exact ⟨cA, fun n z => ⟨fun k h => (by cases h), kA, h3, comp, h4⟩, kA, comp, h3, h4, h1, h5⟩
theorem st_arr (hts : ∀ w ∈ lw_tbl, w.before args s = true) : ∃ a : Nat → ClassId, ∀ (k : Nat) (q : ClassId × FieldType), [(a 0, .int), (a 1, .long), (a 2, .boolean), (a 3, .object RX0), (a 4, .object RX1), (a 5, .object RX3), (a 6, .object RX4), (a 0, .int), (a 8, .object RX6), (a 0, .int), (a 10, .object RX8), (a 11, .object RX9)][k]? = some q → ArrOfT s q.1 q.2 ∧ va_RA s q.1 q.2 := by
  obtain ⟨c0, p0, r0⟩ := st_arrP (hts (.arrayClass .int) (tb_in (z := 283) (by decide +kernel)))
  obtain ⟨c1, p1, r1⟩ := st_arrP (hts (.arrayClass .long) (tb_in (z := 613) (by decide +kernel)))
  obtain ⟨c2, p2, r2⟩ := st_arrP (hts (.arrayClass .boolean) (tb_in (z := 945) (by decide +kernel)))
  obtain ⟨c3, p3, r3⟩ := st_arrO (hts (.arrayOver (.object RX0)) (tb_in (z := 285) (by decide +kernel)))
  obtain ⟨c4, p4, r4⟩ := st_arrO (hts (.arrayOver (.object RX1)) (tb_in (z := 252) (by decide +kernel)))
  obtain ⟨c5, p5, r5⟩ := st_arrO (hts (.arrayOver (.object RX3)) (tb_in (z := 121) (by decide +kernel)))
  obtain ⟨c6, p6, r6⟩ := st_arrO (hts (.arrayOver (.object RX4)) (tb_in (z := 287) (by decide +kernel)))
  obtain ⟨c8, p8, r8⟩ := st_arrO (hts (.arrayOver (.object RX6)) (tb_in (z := 233) (by decide +kernel)))
  obtain ⟨c10, p10, r10⟩ := st_arrO (hts (.arrayOver (.object RX8)) (tb_in (z := 93) (by decide +kernel)))
  obtain ⟨c11, p11, r11⟩ := st_arrO (hts (.arrayOver (.object RX9)) (tb_in (z := 202) (by decide +kernel)))
  refine ⟨fun k => if k = 0 then c0 else if k = 1 then c1 else if k = 2 then c2 else if k = 3 then c3 else if k = 4 then c4 else if k = 5 then c5 else if k = 6 then c6 else if k = 8 then c8 else if k = 10 then c10 else c11, fun k q hq => ?_⟩
  have hk : k < 12 := (List.getElem?_eq_some_iff.mp hq).1
  match k, hk, hq with
  | 0, _, hq => cases hq; exact ⟨p0, r0⟩
  | 1, _, hq => cases hq; exact ⟨p1, r1⟩
  | 2, _, hq => cases hq; exact ⟨p2, r2⟩
  | 3, _, hq => cases hq; exact ⟨p3, r3⟩
  | 4, _, hq => cases hq; exact ⟨p4, r4⟩
  | 5, _, hq => cases hq; exact ⟨p5, r5⟩
  | 6, _, hq => cases hq; exact ⟨p6, r6⟩
  | 7, _, hq => cases hq; exact ⟨p0, r0⟩
  | 8, _, hq => cases hq; exact ⟨p8, r8⟩
  | 9, _, hq => cases hq; exact ⟨p0, r0⟩
  | 10, _, hq => cases hq; exact ⟨p10, r10⟩
  | 11, _, hq => cases hq; exact ⟨p11, r11⟩
theorem st_over (hts : ∀ w ∈ lw_tbl, w.before args s = true) : ∀ C ∈ overL, va_AO C s := by
  have h : ∀ C, (Cond.arrayOver (.object C)) ∈ lw_tbl → va_AO C s := fun C hC => va_AO.of (hts _ hC)
  intro C hC
  simp only [overL, List.mem_cons, List.not_mem_nil, or_false] at hC
  rcases hC with rfl | rfl | rfl | rfl | rfl | rfl | rfl
  · exact h _ (tb_in (z := 285) (by decide +kernel))
  · exact h _ (tb_in (z := 252) (by decide +kernel))
  · exact h _ (tb_in (z := 121) (by decide +kernel))
  · exact h _ (tb_in (z := 287) (by decide +kernel))
  · exact h _ (tb_in (z := 233) (by decide +kernel))
  · exact h _ (tb_in (z := 93) (by decide +kernel))
  · exact h _ (tb_in (z := 202) (by decide +kernel))
theorem st_nest (hts : ∀ w ∈ lw_tbl, w.before args s = true) : ∀ w ∈ lw_tbl, qNest w = true → va_Nw w s := by
  intro w hw hn
  refine va_Nw.of ?_ (hts w hw)
  cases w <;> first | rfl | (simp [qNest] at hn)
theorem len_small {tm : Term} {b : Nat} {cell : Cell} {z : Value} (ht : tm.eval args s none [] s = some (.ref b)) (hat : s.arrayAt? b = some cell) (hv : (Term.length tm).eval args s none [] s = some z) : cell.slots.size < 2147483648 := by
  simp only [Term.eval, ht, hat, Option.bind_eq_bind, Option.bind_some] at hv
  by_cases hlt : cell.slots.size < 2147483648
  · exact hlt
  · simp [hlt] at hv
theorem st_wider (hgv : (Jvm.Cond.and given_1 narrow_1).before args s = true) : ∃ t : Nat, (Term.static RX2 "WIDER" "[I").eval args s none [] s = some (.ref t) ∧ va_X t 8 wider8 s s.heap ∧ t < s.heap.size := by
  have hs := flat_of_before _ hgv
  have harr : (Cond.arrayOf (.static RX2 "WIDER" "[I") .int).before args s = true := hs _ (by decide +kernel)
  have hlen := va_eqt (hs (Cond.eq (.length (.static RX2 "WIDER" "[I")) (.int 8)) (by decide +kernel))
  have e0 := va_eqt (hs (Cond.eq (.elem (.static RX2 "WIDER" "[I") (.int 0)) (.int 1)) (by decide +kernel))
  have e1 := va_eqt (hs (Cond.eq (.elem (.static RX2 "WIDER" "[I") (.int 1)) (.int 246)) (by decide +kernel))
  have e2 := va_eqt (hs (Cond.eq (.elem (.static RX2 "WIDER" "[I") (.int 2)) (.int 244)) (by decide +kernel))
  have e3 := va_eqt (hs (Cond.eq (.elem (.static RX2 "WIDER" "[I") (.int 3)) (.int 248)) (by decide +kernel))
  have e4 := va_eqt (hs (Cond.eq (.elem (.static RX2 "WIDER" "[I") (.int 4)) (.int 240)) (by decide +kernel))
  have e5 := va_eqt (hs (Cond.eq (.elem (.static RX2 "WIDER" "[I") (.int 5)) (.int 224)) (by decide +kernel))
  have e6 := va_eqt (hs (Cond.eq (.elem (.static RX2 "WIDER" "[I") (.int 6)) (.int 192)) (by decide +kernel))
  have e7 := va_eqt (hs (Cond.eq (.elem (.static RX2 "WIDER" "[I") (.int 7)) (.int 128)) (by decide +kernel))
  obtain ⟨b, cell, ht, hat, -⟩ := Term.length_spec hlen
  have hsz := len_small ht hat hlen
  obtain ⟨t, h1, c2, g1, g2, g3, g4, g5, g6, g7⟩ := va_Tof (ty := .int) (N := 8) (f := fun j => .int (wider8 j)) (A := fun _ => False) (by decide) harr hlen (fun j hj => by
    match j, hj with
    | 0, _ => exact e0
    | 1, _ => exact e1
    | 2, _ => exact e2
    | 3, _ => exact e3
    | 4, _ => exact e4
    | 5, _ => exact e5
    | 6, _ => exact e6
    | 7, _ => exact e7) (fun _ _ h => h)
  have ebt : b = t := by
    have := ht.symm.trans h1
    cases this; rfl
  subst ebt
  have ecc : cell = c2 := by
    have := (State.arrayAt?_spec hat).1.symm.trans g1
    cases this; rfl
  subst ecc
  refine ⟨b, h1, ⟨cell, g1, g2, g3, ?_, g6⟩, (Array.getElem?_eq_some_iff.mp g1).1⟩
  have e8 : (Int32.ofNat cell.slots.size) = Int32.ofNat 8 := g5
  have := congrArg Int32.toNatClampNeg e8
  rw [Int32.toNatClampNeg_ofNat_of_lt hsz, Int32.toNatClampNeg_ofNat_of_lt (by decide)] at this
  exact this
end
/-- the state at the entry -/
def w00 (L : Nat) (xs : Nat → Int32) : qSt := (fun r k i => if r = 20 then (if k = 0 then xs i else if k = 1 then wider8 i else 0) else 0, fun _ _ _ => 0, fun _ _ _ => none,
  fun r k => if r = 0 then (if k < 2 then 19 else 99) else if r = 1 then (if k = 0 then L else if k = 1 then 8 else 0) else if r = 2 then (if k = 0 then 2 else 0) else 0)
theorem w00_k {L : Nat} {xs : Nat → Int32} {a : Nat} (h : 2 ≤ a) : gN (w00 L xs) 0 a = 99 := by
  show (if a < 2 then 19 else 99) = 99
  rw [if_neg (by omega)]
theorem w00_zero (L : Nat) (xs : Nat → Int32) : qZero (w00 L xs) := by
  intro a ha
  have ha : 2 ≤ a := ha
  refine ⟨w00_k ha, fun r k hr => ⟨?_, rfl, rfl⟩, fun j => ⟨?_, rfl, rfl⟩⟩
  · show (if r = 20 then _ else (0 : Int32)) = 0
    rw [if_neg (by omega)]
  · show (if a = 0 then xs j else if a = 1 then wider8 j else 0) = 0
    rw [if_neg (by omega), if_neg (by omega)]
theorem w00_sim {G : qGX} {L : Nat} {xs : Nat → Int32} (h1 : (xS G).2.1 = L) (h2 : (xS G).2.2 = xs) : qSim G 0 (w00 L xs) (xH G) := by
  refine ⟨rfl, fun q _ => rfl, fun a ha hb => ?_, w00_zero L xs, ⟨Nat.le_refl _, rfl, rfl, h1.symm, rfl, ?_, ?_⟩, ⟨fun a ha => ?_, fun a r hr ha => ?_⟩, Nat.le_refl _, Nat.zero_le _, fun z => ?_⟩
  · have hb : a < 2 := hb
    omega
  · rw [h2]; rfl
  · rfl
  · have ha : (if a < 2 then 19 else 99) = 12 := ha
    split at ha <;> omega
  · have ha : (if a < 2 then 19 else 99) = 40 + r := ha
    split at ha <;> omega
  · exact absurd (show (0 : Nat) = 1 from z) (by decide)
