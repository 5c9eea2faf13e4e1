/-! ===== a method's entry, its end, a call ===== -/
/-- the room that a row of values takes -/
def cats : List Value → Nat
  | [] => 0
  | v :: l => (bif wide v then 2 else 1) + cats l
theorem qTF.same {G : qGX} {s U : State} (hv : s.vm = U.vm) (h : qTF G s) : qTF G U := by
  have ha : s.vm.Alike U.vm := hv ▸ Vm.Alike.refl s.vm
  refine ⟨h.1.moved ha, fun w hw hn => ?_, fun C hC => (h.2.2.1 C hC).moved ha, h.2.2.2.1.moved ha, h.2.2.2.2.1.moved ha, h.2.2.2.2.2.moved ha⟩
  refine va_Nw.same ?_ hv (h.2.1 w hw hn)
  cases w <;> first | rfl | (simp [qNest] at hn)
theorem qPc_blind (G : qGX) (fl : Nat) (vs : List Value) (w : qSt) : FrameBlind (qPc G fl vs w) := by
  intro a U g mk h
  exact ⟨h.1, qTF.same (s := U) (U := U.calling g mk a) rfl h.2.1, h.2.2⟩
theorem nar_bool {v : Int32} (h : v &&& 1 = v) : narrow .boolean (.int v) = .int v := by
  simp only [narrow]
  first | (rw [h]; done) | (simp [h]; done) | (congr 1; done)
theorem fin_std {G : qGX} {M : qMH} {fl : Nat} {p : Program} {e : Env} {s : State} {m : MethodId} {args : Array Value} {below : List Frame} {meth : Method} {c : Code} {Q : Option Value → qSt → Prop} (C : qCx G M p s m args meth c) :
    qFin G M fl p e s m args below meth c (MQD lw_cs below (qQc G fl Q) args s (mR M).cells (mR M).slots (fun x => (xH G).size ≤ x)) Q := by
  intro d0 H locs q w r pc la hd hS hk h1 h2 hQ hr
  refine W.endD hd ?_
  refine W.widen h1 h2 ?_
  have hq : ∀ t : State, t.heap = H → (s.setDrawn d0).WarmedH t.vm → qQc G fl Q args (s.setDrawn d0) (.returned (r.map (rv G))) t := fun t ht _ => ⟨r, w, rfl, hQ, by rw [ht]; exact hS⟩
  have hrt := C.2.2.2.2.2.1
  have hlk := C.2.2.2.2.2.2.1
  rcases hr with ⟨rfl, h3, h4⟩ | ⟨v, rfl, h3, h4 | ⟨h4, h5⟩⟩ | ⟨v, rfl, h3, h4⟩ | ⟨v, rfl, h3, h4⟩ | ⟨n, h3, h4, rfl | ⟨a, rfl⟩⟩
  · exact W.vret C.1 C.2.1 (hrt.trans h3) hq hk h4 hlk
  · exact W.iret C.1 C.2.1 (hrt.trans h4) hq hk h3 hlk
  · exact W.zret C.1 C.2.1 (hrt.trans h4) (nar_bool h5) hq hk h3 hlk
  · exact W.lret C.1 C.2.1 (hrt.trans h4) hq hk h3 hlk
  · exact W.dret C.1 C.2.1 (hrt.trans h4) hq hk h3 hlk
  · exact W.aret C.1 C.2.1 (hrt.trans h3) (Or.inl ⟨n, rfl⟩) (Or.inl rfl) hq hk h4 hlk
  · exact W.aret C.1 C.2.1 (hrt.trans h3) (Or.inl ⟨n, rfl⟩) (Or.inr ⟨_, rfl⟩) hq hk h4 hlk
theorem ent_args (G : qGX) : ∀ (vs : List Value) (k i : Nat) (v : Value), nth (ent vs) i = some v → (k + i, rv G v) ∈ lv_args k (vs.map (rv G))
  | [], k, i, v, h => by simp [ent, nth] at h
  | u :: l, k, i, v, h => by
    show _ ∈ (k, rv G u) :: lv_args (if (rv G u).category = 2 then k + 2 else k + 1) (l.map (rv G))
    cases hw : wide u with
    | true =>
      have hc : (rv G u).category = 2 := by rw [rv_cat]; exact (wide_cat u).mpr hw
      rw [if_pos hc]
      simp only [ent, hw, cond_true] at h
      match i, h with
      | 0, h => cases (show some u = some v from h); exact List.mem_cons_self
      | 1, h => cases (show none = some v from h)
      | i + 2, h =>
        have := ent_args G l (k + 2) i v h
        rw [show k + 2 + i = k + (i + 2) by omega] at this
        exact List.mem_cons_of_mem _ this
    | false =>
      have hc : ¬ (rv G u).category = 2 := by rw [rv_cat]; intro q; rw [(wide_cat u).mp q] at hw; cases hw
      rw [if_neg hc]
      simp only [ent, hw, cond_false] at h
      match i, h with
      | 0, h => cases (show some u = some v from h); exact List.mem_cons_self
      | i + 1, h =>
        have := ent_args G l (k + 1) i v h
        rw [show k + 1 + i = k + (i + 1) by omega] at this
        exact List.mem_cons_of_mem _ this
theorem nth_app {l : List (Option Value)} {n i : Nat} {v : Value} (h : nth (l ++ List.replicate n none) i = some v) : nth l i = some v := by
  induction l generalizing i with
  | nil =>
    exfalso
    simp only [List.nil_append] at h
    induction n generalizing i with
    | zero => simp [nth] at h
    | succ n ih =>
      rw [List.replicate_succ] at h
      cases i with
      | zero => cases h
      | succ i => exact ih h
  | cons a l ih =>
    cases i with
    | zero => exact h
    | succ i => exact ih (i := i) h
theorem ent_len (G : qGX) (vs : List Value) : (lg_sl (vs.map (rv G))).length = (ent vs).length := by
  induction vs with
  | nil => rfl
  | cons u l ih =>
    have e : lg_sl ((u :: l).map (rv G)) = (if (rv G u).category = 2 then [.val (rv G u), .second] else [.val (rv G u)]) ++ lg_sl (l.map (rv G)) := by simp [lg_sl]
    rw [e, List.length_append, ih]
    cases hw : wide u with
    | true =>
      have hc : (rv G u).category = 2 := by rw [rv_cat]; exact (wide_cat u).mpr hw
      simp [hc, ent, hw]; omega
    | false =>
      have hc : ¬ (rv G u).category = 2 := by rw [rv_cat]; intro q; rw [(wide_cat u).mp q] at hw; cases hw
      simp [hc, ent, hw]; omega
theorem q_ofW {cs : List Choice} {l : Launch} {y : MethodName} {ws ws' : List Cond} {rm : Jvm.Room} {Pc : Array Value → State → Prop} {Qc : Array Value → State → Outcome → State → Prop} {mc ms : Nat} {free : Addr → Prop} {cc : ByteArray} {maxL : Nat} {ret : Option FieldType}
    (hy : plainFor y = true) (hw : ws = Cond.code y cc maxL ret :: ws')
    (body : ∀ p e s m args below meth c s₁, BodyLoose p l y (headSpec ws rm) cc maxL ret e s m args below meth c s₁ → c.maxLocals = maxL → Pc args s → s.drawn.sameBut s.drawn cs →
      W p l e (headSpec ws rm).room (s.setDrawn s.drawn) m args below meth c s.heap [] 0 0 (MQD cs below Qc args s mc ms free) (entryFrame m args maxL)) : MetD cs l y ws rm Pc Qc mc ms free := by
  refine MetFree.of_bodySF (code := cc) (maxLocals := maxL) (ret := ret) hy ?_ ?_
  · intro args s m h hn
    obtain ⟨meth, c, h1, h2, h3, h4, h5, h6, -, -⟩ := Cond.code_spec hn (atoms_spec (ws := ws) h _ (by rw [hw]; exact List.mem_cons_self))
    exact ⟨meth, c, h1, h2, h3, h4, h5, h6⟩
  · intro p e s m args below meth c s₁ B hml hP _
    have hh0 : s₁.heap = s.heap := by rw [B.state]; rfl
    have X0 : Stand p l e (headSpec ws rm).room (s.setDrawn s.drawn) m args below meth c s₁ [] 0 0 := Stand.of_body B
    obtain ⟨t, a1, d, hd, o, b1, b2, b3, b4⟩ := body p e s m args below meth c s₁ B hml hP (Drawn.sameBut.refl _ _) s₁ hh0 X0
    exact ⟨t, o, a1, b1, b2, d, hd, b3, b4⟩
/-- a contract out of the walk from the method's entry -/
theorem Con.enter {G : qGX} {M : qMH} {vs : List Value} {w : qSt} {Q : Option Value → qSt → Prop} (hw : qHW M) (hn : (ent vs).length ≤ mL M) (h : Wq G M 0 (entL (mL M) vs) [] (0, 0) w Q) : Con G M vs w Q := by
  refine ⟨hw, fun fl hfl => ?_⟩
  refine q_ofW (cc := mC M) (maxL := mL M) (ret := mT M) hw.2.2.1 rfl ?_
  intro p e s m args below meth c s₁ B hml hP hd0
  obtain ⟨rfl, hT, hS⟩ := hP
  have C : qCx G M p s m (vs.map (rv G)).toArray meth c := ⟨B.exec, B.bytes, hml, findClass_of_methodNamed B.named, atoms_spec (ws := wsM M) B.pre, B.returns, B.notSynchronized, (name_of_methodNamed B.named B.method).1, hT⟩
  rw [lg_entry_eq]
  have hl := lv_entry (vs.map (rv G)) (n := mL M) (by rw [ent_len]; exact hn)
  generalize (lg_sl (vs.map (rv G)) ++ List.replicate (mL M - (lg_sl (vs.map (rv G))).length) Slot.unset).toArray = la at hl ⊢
  refine h fl p e s m _ below meth c _ hfl C (fin_std C) s.drawn la s.heap [] hd0 ⟨hl.1, hl.2.1, fun i v hv => ?_⟩ hS (fun x hx => by cases hx) (Nat.zero_le _) (Nat.zero_le _)
  have h1 := ent_args G vs 0 i v (nth_app hv)
  rw [Nat.zero_add] at h1
  exact hl.2.2 _ h1
theorem good_wTG {w : Cond} (h : w ∈ wTG) : (w.onTables && w.keeps) = true ∨ ∃ ty, w = .arrayClass ty := good_of_word (List.mem_filter.mp h).2
theorem goodIn_ws (M : qMH) {M' : qMH} (h : qHW M') : GoodIn (wsM M) (wsM M') := by
  intro w hw
  have hw' : w ∈ wTG := by
    rcases List.mem_cons.mp hw with e | e
    · rw [e]; exact h.1
    · exact e
  exact ⟨List.mem_cons_of_mem _ hw', good_wTG hw'⟩
section QC
variable {G : qGX} {M M' : qMH} {fl : Nat} {p : Program} {e : Env} {s : State} {m : MethodId} {args : Array Value} {below : List Frame} {meth : Method} {c : Code} {Z : State → Prop} {Q : Option Value → qSt → Prop} {d0 : Drawn} {la : Array Slot} {H : Heap} {locs : List Loc} {cells slots pc : Nat} {rest st0 : List Value} {a : Array Value} {mc ms : Nat}
/-- behind a call -/
theorem q_back (hd : s.drawn.sameBut d0 lw_cs) (hk : qLk G locs) (hr : va_RunD lw_cs p (xL G) e (mR M) (s.setDrawn d0) m args below meth c H locs cells slots mc ms (F0 m pc la st0) rest (qQc G fl Q a) (fun x => (xH G).size ≤ x))
    (kk : ∀ (r : Option Value) (w : qSt) (d1 : Drawn) (H1 : Heap) (locs1 : List Loc), Q r w → s.drawn.sameBut d1 lw_cs → qSim G fl w H1 → qLk G locs1 → W p (xL G) e (mR M) (s.setDrawn d1) m args below meth c H1 locs1 (cells + mc) (slots + ms) Z (F0 m (pc + 3) la ((r.map (rv G)).toList ++ rest))) :
    W p (xL G) e (mR M) (s.setDrawn d0) m args below meth c H locs cells slots Z (F0 m pc la st0) := by
  intro T hT X
  obtain ⟨v, st₀, t, T', L, d', hd', h0, X', hL, e1, e2, ⟨r, w, hv, hq, hs⟩, st⟩ := hr T hT X
  cases hv
  obtain ⟨t2, a1, b1⟩ := kk r w d' T'.heap (locs ++ L) hq (hd.trans hd') (by rw [e1]; exact hs) (fun x hx => by
    rcases List.mem_append.mp hx with h | h
    · exact hk x h
    · exact hL x h) T' rfl X'
  exact ⟨t2, st t2 a1, b1⟩
abbrev qRoom (M M' : qMH) : Prop := (mR M').frames + 1 ≤ (mR M).frames ∧ 8 + (mL M' + 11) + (mR M').locals ≤ (mR M).locals
theorem q_cat (G : qGX) : ∀ rest : List Value, (((rest.map (rv G)).map fun v => v.category).sum ≤ cats rest)
  | [] => by simp [cats]
  | v :: l => by
    have h := q_cat G l
    simp only [List.map_cons, List.sum_cons, cats]
    cases hw : wide v with
    | true =>
      have hc : (rv G v).category = 2 := by rw [rv_cat]; exact (wide_cat v).mpr hw
      rw [hc]
      simp only [cond_true]
      omega
    | false =>
      have hc : ¬ (rv G v).category = 2 := by rw [rv_cat]; intro q; rw [(wide_cat v).mp q] at hw; cases hw
      have h1 : (rv G v).category ≤ 1 := by rcases lv_cat (rv G v) with h | h <;> omega
      simp only [cond_false]
      omega
theorem q_rest (G : qGX) {rest : List Value} (h : cats rest ≤ 8) : 2 * (F0 m pc la st0).monitorRoom + ((rest.map (rv G)).map fun v => v.category).sum ≤ 8 := by
  have h1 := q_cat G rest
  have h2 : (F0 m pc la st0).monitorRoom = 0 := rfl
  omega
theorem q_callB {own : String} {index : Nat} (C : qCx G M p s m args meth c) (hw : qHW M') (hl : Cond.methodLink own index (mY M') ∈ wTG) (hR : qRoom M M') :
    CallB (mR M) (s.setDrawn d0) args own index (mY M') (mC M') (mL M') (mT M') (wsM M') (mR M') (mR M').cells (mR M').slots (mA M') := by
  have ht := dr_words C.2.2.2.2.1 d0
  exact callB_of (mA M') ht (goodIn_ws M hw) rfl rfl rfl (ht _ (List.mem_cons_of_mem _ hw.2.1)) (ht _ (List.mem_cons_of_mem _ hl)) hw.2.2.2.1 hR
theorem q_pre {vs : List Value} {w : qSt} (C : qCx G M p s m args meth c) (hS : qSim G fl w H) : PreS (s.setDrawn d0) H (qPc G fl vs w) (vs.map (rv G)) :=
  ⟨qPc_blind G fl vs w, fun U hU hW => ⟨rfl, C.2.2.2.2.2.2.2.2.warm (s := s) hW, by rw [hU]; exact hS⟩⟩
end QC
def psh (r : Option Value) (rest : List Value) : List Value := match r with
  | some v => v :: rest
  | none => rest
theorem psh_map (G : qGX) (r : Option Value) (rest : List Value) : (r.map (rv G)).toList ++ rest.map (rv G) = (psh r rest).map (rv G) := by cases r <;> rfl
theorem call_st (G : qGX) (As rest : List Value) : (As.reverse ++ rest).map (rv G) = (As.map (rv G)).reverse ++ rest.map (rv G) := by simp [List.map_append, List.map_reverse]
section QR
variable {G : qGX} {M M' : qMH} {Q : Option Value → qSt → Prop} {pc idx : Nat} {ls : List (Option Value)} {As rest : List Value} {q : Nat × Nat} {w : qSt} {a : Nat}
abbrev qK (G : qGX) (M M' : qMH) (pc : Nat) (ls : List (Option Value)) (rest : List Value) (q : Nat × Nat) (Q : Option Value → qSt → Prop) : Option Value → qSt → Prop := fun r w' => Wq G M (pc + 3) ls (psh r rest) (q.1 + (mR M').cells, q.2 + (mR M').slots) w' Q
abbrev qQ (M M' : qMH) (q : Nat × Nat) : Prop := q.1 + (mR M').cells ≤ (mR M).cells ∧ q.2 + (mR M').slots ≤ (mR M).slots
theorem sim_fl {G : qGX} {fl fl' : Nat} {w : qSt} {H : Heap} (h : qSim G fl w H) (hle : fl' ≤ gN w 4 0) : qSim G fl' w H := ⟨h.1, h.2.1, h.2.2.1, h.2.2.2.1, h.2.2.2.2.1, h.2.2.2.2.2.1, hle, h.2.2.2.2.2.2.2⟩
theorem w_virt (hdec : decode (mC M) pc = .ok (.invokevirtual idx, 3)) (hl : Cond.methodLink (mY M).cls idx (mY M') ∈ wTG) (hk : mK M' = 0) (hR : qRoom M M') (hn : As.length = mA M') (hr : cats rest ≤ 8)
    (hrecv : ∀ (fl : Nat) (s : State) (H : Heap), (mM M = true → fl = 1) → qTF G s → qSim G fl w H → ∃ cellB : Cell, H[loc G a]? = some cellB ∧ cellB.vm.isStatics = false ∧ s.vm.findClass (mY M').cls = some cellB.cls)
    (hfl : mM M' = true → mM M = true ∨ gN w 4 0 = 1) (hq : qQ M M' q) (hc : Con G M' (.ref a :: As) w (qK G M M' pc ls rest q Q)) : Wq G M pc ls (As.reverse ++ .ref a :: rest) q w Q := by
  intro fl p e s m args below meth c Z hf C F d0 la H locs hd hlv hS hlk h1 h2
  obtain ⟨f2, hf2, hS2, hb2⟩ : ∃ f2, (mM M' = true → f2 = 1) ∧ qSim G f2 w H ∧ ∀ w' H', qSim G f2 w' H' → qSim G fl w' H' := by
    by_cases h : mM M' = true
    · rcases hfl h with h' | h'
      · exact ⟨fl, fun _ => hf h', hS, fun _ _ q => q⟩
      · refine ⟨1, fun _ => rfl, sim_fl hS (by omega), fun w' H' q => sim_fl q ?_⟩
        have h3 := hS.2.2.2.2.2.2.1
        have h4 := q.2.2.2.2.2.2.1
        omega
    · exact ⟨fl, fun q => absurd q h, hS, fun _ _ q => q⟩
  rw [call_st]
  have ht := dr_words C.2.2.2.2.1 d0
  refine q_back (fl := f2) (Q := qK G M M' pc ls rest q Q) hd hlk (va_runV_D (C := (mY M').cls) (b := loc G a) (As := As.map (rv G)) (rest := rest.map (rv G)) (Ts := wsM M) ⟨C.1, C.2.1, C.2.2.1, C.2.2.2.1, ht⟩ (hc.2 f2 hf2) ⟨q_callB C hc.1 hl hR, ht _ (List.mem_cons_of_mem _ (hc.1.2.2.2.2.1 hk).1), ht _ (List.mem_cons_of_mem _ (hc.1.2.2.2.2.1 hk).2)⟩ ⟨qPc_blind G f2 _ w, ?_, (q_pre (vs := .ref a :: As) C hS2).2⟩ rfl (by rw [List.length_map]; exact hn) hlv.1 rfl (q_rest G hr) hdec hq) ?_
  · exact hrecv fl s H hf C.2.2.2.2.2.2.2.2 hS
  · intro r w' d1 H1 locs1 hQ hd1 hS1 hlk1
    rw [psh_map]
    exact hQ fl p e s m args below meth c Z hf C F d1 la H1 locs1 hd1 hlv (hb2 _ _ hS1) hlk1 hq.1 hq.2
theorem w_stat (hdec : decode (mC M) pc = .ok (.invokestatic idx, 3)) (hl : Cond.methodLink (mY M).cls idx (mY M') ∈ wTG) (hk : mK M' = 1) (hR : qRoom M M') (hn : As.length = mA M') (hr : cats rest ≤ 8)
    (hfl : mM M' = true → mM M = true) (hq : qQ M M' q) (hc : Con G M' As w (qK G M M' pc ls rest q Q)) : Wq G M pc ls (As.reverse ++ rest) q w Q := by
  intro fl p e s m args below meth c Z hf C F d0 la H locs hd hlv hS hlk h1 h2
  rw [call_st]
  have ht := dr_words C.2.2.2.2.1 d0
  refine q_back (fl := fl) (Q := qK G M M' pc ls rest q Q) hd hlk (va_runS_D (As := As.map (rv G)) (rest := rest.map (rv G)) (Ts := wsM M) ⟨C.1, C.2.1, C.2.2.1, C.2.2.2.1, ht⟩ (hc.2 fl (fun h => hf (hfl h))) ⟨q_callB C hc.1 hl hR, ht _ (List.mem_cons_of_mem _ (hc.1.2.2.2.2.2.1 hk))⟩ (q_pre (vs := As) C hS) rfl (by rw [List.length_map]; exact hn) hlv.1 rfl (q_rest G hr) hdec hq) ?_
  intro r w' d1 H1 locs1 hQ hd1 hS1 hlk1
  rw [psh_map]
  exact hQ fl p e s m args below meth c Z hf C F d1 la H1 locs1 hd1 hlv hS1 hlk1 hq.1 hq.2
theorem q_nest {own host : String} {index z : Nat} {p : Program} {s : State} {m : MethodId} {args : Array Value} {meth : Method} {c : Code} {d0 : Drawn} (C : qCx G M p s m args meth c) (hw : qHW M') (hl : lw_tbl[z]? = some (.methodLinkNest own index (mY M') host)) (hR : qRoom M M') :
    va_CN (mR M) (s.setDrawn d0) args own index (mY M') host (mC M') (mL M') (mT M') (wsM M') (mR M') (mR M').cells (mR M').slots (mA M') := by
  have ht := dr_words C.2.2.2.2.1 d0
  have hn : va_Nw (.methodLinkNest own index (mY M') host) (s.setDrawn d0) := C.2.2.2.2.2.2.2.2.2.1 _ (List.mem_of_getElem? hl) rfl
  exact va_cnB (mA M') ht (goodIn_ws M hw) rfl rfl rfl hn (ht _ (List.mem_cons_of_mem _ hw.2.1)) hw.2.2.2.1 hR
theorem w_statN {host : String} {z : Nat} (hdec : decode (mC M) pc = .ok (.invokestatic idx, 3)) (hl : lw_tbl[z]? = some (.methodLinkNest (mY M).cls idx (mY M') host)) (hk : mK M' = 1) (hR : qRoom M M') (hn : As.length = mA M') (hr : cats rest ≤ 8)
    (hfl : mM M' = true → mM M = true) (hq : qQ M M' q) (hc : Con G M' As w (qK G M M' pc ls rest q Q)) : Wq G M pc ls (As.reverse ++ rest) q w Q := by
  intro fl p e s m args below meth c Z hf C F d0 la H locs hd hlv hS hlk h1 h2
  rw [call_st]
  have ht := dr_words C.2.2.2.2.1 d0
  refine q_back (fl := fl) (Q := qK G M M' pc ls rest q Q) hd hlk (va_runSN_D (As := As.map (rv G)) (rest := rest.map (rv G)) (Ts := wsM M) ⟨C.1, C.2.1, C.2.2.1, C.2.2.2.1, ht⟩ (hc.2 fl (fun h => hf (hfl h))) ⟨q_nest C hc.1 hl hR, ht _ (List.mem_cons_of_mem _ (hc.1.2.2.2.2.2.1 hk)), trivial⟩ (q_pre (vs := As) C hS) rfl (by rw [List.length_map]; exact hn) hlv.1 rfl (q_rest G hr) hdec hq) ?_
  intro r w' d1 H1 locs1 hQ hd1 hS1 hlk1
  rw [psh_map]
  exact hQ fl p e s m args below meth c Z hf C F d1 la H1 locs1 hd1 hlv hS1 hlk1 hq.1 hq.2
theorem w_init (hdec : decode (mC M) pc = .ok (.invokespecial idx, 3)) (hl : Cond.methodLink (mY M).cls idx (mY M') ∈ wTG) (hk : mK M' = 2) (hR : qRoom M M') (hn : As.length = mA M') (hr : cats rest ≤ 8)
    (hfl : mM M' = true → mM M = true) (hq : qQ M M' q) (hc : Con G M' (.ref a :: As) w (qK G M M' pc ls rest q Q)) : Wq G M pc ls (As.reverse ++ .ref a :: rest) q w Q := by
  intro fl p e s m args below meth c Z hf C F d0 la H locs hd hlv hS hlk h1 h2
  rw [call_st]
  have ht := dr_words C.2.2.2.2.1 d0
  obtain ⟨i1, i2, i3⟩ := hc.1.2.2.2.2.2.2 hk
  have cb := q_callB (d0 := d0) C hc.1 hl hR
  rw [i3] at cb
  refine q_back (fl := fl) (Q := qK G M M' pc ls rest q Q) hd hlk (va_runI_D (b := loc G a) (As := As.map (rv G)) (rest := rest.map (rv G)) (Ts := wsM M) ⟨C.1, C.2.1, C.2.2.1, C.2.2.2.1, ht⟩ (hc.2 fl (fun h => hf (hfl h))) ⟨cb, i2, ht _ (List.mem_cons_of_mem _ i1)⟩ (q_pre (vs := .ref a :: As) C hS) rfl (by rw [List.length_map]; exact hn) hlv.1 rfl (q_rest G hr) hdec hq) ?_
  intro r w' d1 H1 locs1 hQ hd1 hS1 hlk1
  rw [psh_map]
  exact hQ fl p e s m args below meth c Z hf C F d1 la H1 locs1 hd1 hlv hS1 hlk1 hq.1 hq.2
theorem w_initN {host : String} {z : Nat} (hdec : decode (mC M) pc = .ok (.invokespecial idx, 3)) (hl : lw_tbl[z]? = some (.methodLinkNest (mY M).cls idx (mY M') host)) (hk : mK M' = 2) (hR : qRoom M M') (hn : As.length = mA M') (hr : cats rest ≤ 8)
    (hfl : mM M' = true → mM M = true) (hq : qQ M M' q) (hc : Con G M' (.ref a :: As) w (qK G M M' pc ls rest q Q)) : Wq G M pc ls (As.reverse ++ .ref a :: rest) q w Q := by
  intro fl p e s m args below meth c Z hf C F d0 la H locs hd hlv hS hlk h1 h2
  rw [call_st]
  have ht := dr_words C.2.2.2.2.1 d0
  obtain ⟨i1, i2, i3⟩ := hc.1.2.2.2.2.2.2 hk
  have cb := q_nest (d0 := d0) C hc.1 hl hR
  rw [i3] at cb
  refine q_back (fl := fl) (Q := qK G M M' pc ls rest q Q) hd hlk (va_runIN_D (host := host) (b := loc G a) (As := As.map (rv G)) (rest := rest.map (rv G)) (Ts := wsM M) ⟨C.1, C.2.1, C.2.2.1, C.2.2.2.1, ht⟩ (hc.2 fl (fun h => hf (hfl h))) ⟨cb, i2, ht _ (List.mem_cons_of_mem _ i1)⟩ (q_pre (vs := .ref a :: As) C hS) rfl (by rw [List.length_map]; exact hn) hlv.1 rfl (q_rest G hr) hdec hq) ?_
  intro r w' d1 H1 locs1 hQ hd1 hS1 hlk1
  rw [psh_map]
  exact hQ fl p e s m args below meth c Z hf C F d1 la H1 locs1 hd1 hlv hS1 hlk1 hq.1 hq.2
end QR
