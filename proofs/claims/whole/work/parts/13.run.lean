/-! ===== the walk of a stretch of code ===== -/
theorem stp_ok {G : qGX} {M : qMH} {Q : Option Value → qSt → Prop} {K : qKt} {j : qIns} {ls : List (Option Value)} {st : List Value} {q : Nat × Nat} {w : qSt} (hK : ∀ pc ls st q w, K pc ls st q w → Wq G M pc ls st q w Q) (hj : insOK M j = true) (h : stp G M Q K j ls st q w) : Wq G M j.1 ls st q w Q := by
  obtain ⟨pc, i, ⟨x, y, z⟩, ⟨ci, cl⟩, M'⟩ := j
  cases i with
  | iconst _ => exact so_iconst hK hj h
  | bipush _ => exact so_bipush hK hj h
  | sipush _ => exact so_sipush hK hj h
  | ldc _ => exact so_ldc hK hj h
  | ldc_w _ => exact so_ldc_w hK hj h
  | ldc2_w _ => exact so_ldc2_w hK hj h
  | lconst _ => exact so_lconst hK hj h
  | dconst _ => exact so_dconst hK hj h
  | aconst_null => exact so_aconst_null hK hj h
  | iload_n _ => exact so_iload_n hK hj h
  | lload_n _ => exact so_lload_n hK hj h
  | dload_n _ => exact so_dload_n hK hj h
  | fload_n _ => exact so_fload_n hK hj h
  | iload _ => exact so_iload hK hj h
  | lload _ => exact so_lload hK hj h
  | dload _ => exact so_dload hK hj h
  | aload_n _ => exact so_aload_n hK hj h
  | aload _ => exact so_aload hK hj h
  | istore_n _ => exact so_istore_n hK hj h
  | lstore_n _ => exact so_lstore_n hK hj h
  | istore _ => exact so_istore hK hj h
  | lstore _ => exact so_lstore hK hj h
  | dstore _ => exact so_dstore hK hj h
  | astore_n _ => exact so_astore_n hK hj h
  | astore _ => exact so_astore hK hj h
  | iinc _ _ => exact so_iinc hK hj h
  | iadd => exact so_iadd hK hj h
  | isub => exact so_isub hK hj h
  | imul => exact so_imul hK hj h
  | iand => exact so_iand hK hj h
  | ladd => exact so_ladd hK hj h
  | lsub => exact so_lsub hK hj h
  | lmul => exact so_lmul hK hj h
  | land => exact so_land hK hj h
  | lor => exact so_lor hK hj h
  | lxor => exact so_lxor hK hj h
  | ineg => exact so_ineg hK hj h
  | lneg => exact so_lneg hK hj h
  | lcmp => exact so_lcmp hK hj h
  | dcmp _ => exact so_dcmp hK hj h
  | fcmp _ => exact so_fcmp hK hj h
  | iushr => exact so_iushr hK hj h
  | lshl => exact so_lshl hK hj h
  | lushr => exact so_lushr hK hj h
  | i2l => exact so_i2l hK hj h
  | i2b => exact so_i2b hK hj h
  | i2s => exact so_i2s hK hj h
  | i2c => exact so_i2c hK hj h
  | l2i => exact so_l2i hK hj h
  | l2d => exact so_l2d hK hj h
  | l2f => exact so_l2f hK hj h
  | idiv => exact so_idiv hK hj h
  | irem => exact so_irem hK hj h
  | f2d => exact so_f2d hK hj h
  | dadd => exact so_dadd hK hj h
  | dup => exact so_dup hK hj h
  | dup2 => exact so_dup2 hK hj h
  | ifnull _ => exact so_ifnull hK hj h
  | ifnonnull _ => exact so_ifnonnull hK hj h
  | goto _ => exact so_goto hK hj h
  | getstatic _ => exact so_getstatic hK hj h
  | ireturn => exact so_ireturn hK hj h
  | lreturn => exact so_lreturn hK hj h
  | dreturn => exact so_dreturn hK hj h
  | areturn => exact so_areturn hK hj h
  | return_ => exact so_return hK hj h
  | tableswitch _ _ _ _ => exact so_tableswitch hK hj h
  | getfield _ => exact so_getfield hK hj h
  | putfield _ => exact so_putfield hK hj h
  | new _ => exact so_new hK hj h
  | newarray _ => exact so_newarray hK hj h
  | anewarray _ => exact so_anewarray hK hj h
  | arraylength => exact so_arraylength hK hj h
  | iaload => exact so_iaload hK hj h
  | baload => exact so_baload hK hj h
  | laload => exact so_laload hK hj h
  | aaload => exact so_aaload hK hj h
  | iastore => exact so_iastore hK hj h
  | bastore => exact so_bastore hK hj h
  | lastore => exact so_lastore hK hj h
  | aastore => exact so_aastore hK hj h
  | invokevirtual _ => exact so_invokevirtual hK hj h
  | invokestatic _ => exact so_invokestatic hK hj h
  | invokespecial _ => exact so_invokespecial hK hj h
  | ifCond c o =>
    cases c with
    | eq => exact so_ifCond_eq hK hj h
    | ne => exact so_ifCond_ne hK hj h
    | lt => exact so_ifCond_lt hK hj h
    | ge => exact so_ifCond_ge hK hj h
    | gt => exact so_ifCond_gt hK hj h
    | le => exact so_ifCond_le hK hj h
  | if_icmp c o =>
    cases c with
    | eq => exact so_if_icmp_eq hK hj h
    | ne => exact so_if_icmp_ne hK hj h
    | lt => exact so_if_icmp_lt hK hj h
    | ge => exact so_if_icmp_ge hK hj h
    | gt => exact so_if_icmp_gt hK hj h
    | le => exact so_if_icmp_le hK hj h
  | if_acmp c o =>
    cases c with
    | eq => exact so_if_acmp_eq hK hj h
    | ne => exact so_if_acmp_ne hK hj h
  | _ => exact False.elim h
def seek1 (pc : Nat) : List qIns → Option qIns
  | [] => none
  | j :: l => bif Nat.beq j.1 pc then some j else seek1 pc l
def memC (pc : Nat) : List Nat → Bool
  | [] => false
  | c :: l => bif Nat.beq c pc then true else memC pc l
/-- the walk of k steps, stopping at the cuts -/
def kn (G : qGX) (M : qMH) (tab : List qIns) (cuts : List Nat) (Q : Option Value → qSt → Prop) : Nat → qKt
  | 0 => fun pc ls st q w => Wq G M pc ls st q w Q
  | k + 1 => fun pc ls st q w => bif memC pc cuts then Wq G M pc ls st q w Q else (match seek1 pc tab with
    | none => False
    | some j => stp G M Q (kn G M tab cuts Q k) j ls st q w)
/-- .. its first step at any rate -/
def st1 (G : qGX) (M : qMH) (tab : List qIns) (cuts : List Nat) (Q : Option Value → qSt → Prop) (k : Nat) : qKt := fun pc ls st q w => match seek1 pc tab with
  | none => False
  | some j => stp G M Q (kn G M tab cuts Q k) j ls st q w
def tabOK (M : qMH) (tab : List qIns) : Bool := tab.all (insOK M)
theorem seek1_in {pc : Nat} {j : qIns} : ∀ {tab : List qIns}, seek1 pc tab = some j → j ∈ tab ∧ j.1 = pc
  | [], h => by cases h
  | a :: t, h => by
    unfold seek1 at h
    cases hb : Nat.beq a.1 pc with
    | true =>
      simp only [hb, cond_true] at h
      cases h
      exact ⟨List.mem_cons_self, Nat.eq_of_beq_eq_true hb⟩
    | false =>
      simp only [hb, cond_false] at h
      obtain ⟨h1, h2⟩ := seek1_in h
      exact ⟨List.mem_cons_of_mem _ h1, h2⟩
theorem kn_ok {G : qGX} {M : qMH} {tab : List qIns} {cuts : List Nat} {Q : Option Value → qSt → Prop} (hT : tabOK M tab = true) : ∀ (k : Nat) (pc : Nat) (ls : List (Option Value)) (st : List Value) (q : Nat × Nat) (w : qSt), kn G M tab cuts Q k pc ls st q w → Wq G M pc ls st q w Q
  | 0, pc, ls, st, q, w, h => h
  | k + 1, pc, ls, st, q, w, h => by
    have h2 : (bif memC pc cuts then Wq G M pc ls st q w Q else (match seek1 pc tab with
      | none => False
      | some j => stp G M Q (kn G M tab cuts Q k) j ls st q w)) := h
    cases hm : memC pc cuts with
    | true =>
      simp only [hm, cond_true] at h2
      exact h2
    | false =>
      simp only [hm, cond_false] at h2
      cases hs : seek1 pc tab with
      | none => rw [hs] at h2; exact h2.elim
      | some j =>
        rw [hs] at h2
        obtain ⟨j1, j2⟩ := seek1_in hs
        rw [← j2]
        exact stp_ok (kn_ok hT k) (List.all_eq_true.mp hT j j1) h2
theorem Wq.go {G : qGX} {M : qMH} {tab : List qIns} {Q : Option Value → qSt → Prop} {pc : Nat} {ls : List (Option Value)} {st : List Value} {q : Nat × Nat} {w : qSt} (hT : tabOK M tab = true) (k : Nat) (cuts : List Nat) (h : st1 G M tab cuts Q k pc ls st q w) : Wq G M pc ls st q w Q := by
  unfold st1 at h
  cases hs : seek1 pc tab with
  | none => rw [hs] at h; exact h.elim
  | some j =>
    rw [hs] at h
    obtain ⟨j1, j2⟩ := seek1_in hs
    rw [← j2]
    exact stp_ok (kn_ok hT k) (List.all_eq_true.mp hT j j1) h
theorem Con.go {G : qGX} {M : qMH} {tab : List qIns} {vs : List Value} {w : qSt} {Q : Option Value → qSt → Prop} (hw : qHW M) (hT : tabOK M tab = true) (k : Nat) (cuts : List Nat) (hn : Nat.ble (ent vs).length (mL M) = true) (h : st1 G M tab cuts Q k 0 (entL (mL M) vs) [] (0, 0) w) : Con G M vs w Q :=
  Con.enter hw (Nat.le_of_ble_eq_true hn) (Wq.go hT k cuts h)
def hwB (M : qMH) (p1 p2 p3 p4 : Nat) : Bool := lkW p1 (.code (mY M) (mC M) (mL M) (mT M)) && lkW p2 (.initialized (mY M).cls) && plainFor (mY M) && decide ((mY M).cls ≠ "java/lang/invoke/MethodHandle" ∧ (mY M).cls ≠ "java/lang/invoke/VarHandle" ∧ (parseMethodDescriptor (mY M).desc).map (fun d => d.parameters.length) = some (mA M)) &&
  (bif mK M == 0 then lkW p3 (.instanceMethod (mY M)) && lkW p4 (.selects (mY M).cls (mY M) (mY M)) else bif mK M == 1 then lkW p3 (.static (mY M)) else bif mK M == 2 then lkW p3 (.instanceMethod (mY M)) && decide ((mY M).name = "<init>") && decide (mT M = none) else true)
theorem hw_of {M : qMH} (p1 p2 p3 p4 : Nat) (h : hwB M p1 p2 p3 p4 = true) : qHW M := by
  simp only [hwB, Bool.and_eq_true] at h
  obtain ⟨⟨⟨⟨h1, h2⟩, h3⟩, h4⟩, h5⟩ := h
  refine ⟨lk_of h1 rfl, lk_of h2 rfl, h3, of_decide_eq_true h4, fun hk => ?_, fun hk => ?_, fun hk => ?_⟩
  · rw [hk] at h5
    simp only [beq_self_eq_true, cond_true, Bool.and_eq_true] at h5
    exact ⟨lk_of h5.1 rfl, lk_of h5.2 rfl⟩
  · rw [hk] at h5
    exact lk_of h5 rfl
  · rw [hk] at h5
    have h6 : (lkW p3 (.instanceMethod (mY M)) && decide ((mY M).name = "<init>") && decide (mT M = none)) = true := h5
    simp only [Bool.and_eq_true, decide_eq_true_eq] at h6
    exact ⟨lk_of h6.1.1 rfl, h6.1.2, h6.2⟩
