/-! ===== the step is what the machine does ===== -/
section QS
variable {G : qGX} {M M' : qMH} {Q : Option Value → qSt → Prop} {K : qKt} {pc x y z : Nat} {ci : Int32} {cl : Int64} {ls : List (Option Value)} {st : List Value} {q : Nat × Nat} {w : qSt}
theorem so_iconst {n : Int} (hK : ∀ pc ls st q w, K pc ls st q w → Wq G M pc ls st q w Q) (hj : insOK M (pc, .iconst n, (x, y, z), (ci, cl), M') = true) (h : stp G M Q K (pc, .iconst n, (x, y, z), (ci, cl), M') ls st q w) : Wq G M pc ls st q w Q := by
  have hj0 : (decide (decode (mC M) pc = .ok (.iconst n, 1)) && (Int32.ofInt n == ci)) = true := hj
  obtain ⟨hdec, ho⟩ := Bool.and_eq_true_iff.mp hj0
  have hdec := of_decide_eq_true hdec
  have h' : K (pc + 1) ls (.int ci :: st) q w := h
  intro fl p e s m args below meth c Z hmm C F d0 la H locs hd hlv hS hlk h1 h2
  exact lv_iconst C.1 C.2.1 hdec (of_decide_eq_true ho) (hK _ _ _ _ _ h' fl p e s m args below meth c Z hmm C F d0 la H locs hd hlv hS hlk h1 h2)
theorem so_bipush {n : Int} (hK : ∀ pc ls st q w, K pc ls st q w → Wq G M pc ls st q w Q) (hj : insOK M (pc, .bipush n, (x, y, z), (ci, cl), M') = true) (h : stp G M Q K (pc, .bipush n, (x, y, z), (ci, cl), M') ls st q w) : Wq G M pc ls st q w Q := by
  have hj0 : (decide (decode (mC M) pc = .ok (.bipush n, 2)) && ((Int8.ofInt n).toInt32 == ci)) = true := hj
  obtain ⟨hdec, ho⟩ := Bool.and_eq_true_iff.mp hj0
  have hdec := of_decide_eq_true hdec
  have h' : K (pc + 2) ls (.int ci :: st) q w := h
  intro fl p e s m args below meth c Z hmm C F d0 la H locs hd hlv hS hlk h1 h2
  exact lv_bipush C.1 C.2.1 hdec (of_decide_eq_true ho) (hK _ _ _ _ _ h' fl p e s m args below meth c Z hmm C F d0 la H locs hd hlv hS hlk h1 h2)
theorem so_sipush {n : Int} (hK : ∀ pc ls st q w, K pc ls st q w → Wq G M pc ls st q w Q) (hj : insOK M (pc, .sipush n, (x, y, z), (ci, cl), M') = true) (h : stp G M Q K (pc, .sipush n, (x, y, z), (ci, cl), M') ls st q w) : Wq G M pc ls st q w Q := by
  have hj0 : (decide (decode (mC M) pc = .ok (.sipush n, 3)) && ((Int16.ofInt n).toInt32 == ci)) = true := hj
  obtain ⟨hdec, ho⟩ := Bool.and_eq_true_iff.mp hj0
  have hdec := of_decide_eq_true hdec
  have h' : K (pc + 3) ls (.int ci :: st) q w := h
  intro fl p e s m args below meth c Z hmm C F d0 la H locs hd hlv hS hlk h1 h2
  exact lv_sipush C.1 C.2.1 hdec (of_decide_eq_true ho) (hK _ _ _ _ _ h' fl p e s m args below meth c Z hmm C F d0 la H locs hd hlv hS hlk h1 h2)
theorem so_ldc {n : Nat} (hK : ∀ pc ls st q w, K pc ls st q w → Wq G M pc ls st q w Q) (hj : insOK M (pc, .ldc n, (x, y, z), (ci, cl), M') = true) (h : stp G M Q K (pc, .ldc n, (x, y, z), (ci, cl), M') ls st q w) : Wq G M pc ls st q w Q := by
  have hj0 : (decide (decode (mC M) pc = .ok (.ldc n, 2)) && (lkW z (.constant (mY M).cls n ci))) = true := hj
  obtain ⟨hdec, ho⟩ := Bool.and_eq_true_iff.mp hj0
  have hdec := of_decide_eq_true hdec
  have h' : K (pc + 2) ls (.int ci :: st) q w := h
  intro fl p e s m args below meth c Z hmm C F d0 la H locs hd hlv hS hlk h1 h2
  have hown : (s.setDrawn d0).vm.findClass (mY M).cls = some m.cls := C.2.2.2.1
  exact lv_ldc (s := s.setDrawn d0) C.1 C.2.1 hown (dr_words C.2.2.2.2.1 d0 _ (List.mem_cons_of_mem _ (lk_of ho rfl))) hdec (hK _ _ _ _ _ h' fl p e s m args below meth c Z hmm C F d0 la H locs hd hlv hS hlk h1 h2)
theorem so_ldc_w {n : Nat} (hK : ∀ pc ls st q w, K pc ls st q w → Wq G M pc ls st q w Q) (hj : insOK M (pc, .ldc_w n, (x, y, z), (ci, cl), M') = true) (h : stp G M Q K (pc, .ldc_w n, (x, y, z), (ci, cl), M') ls st q w) : Wq G M pc ls st q w Q := by
  have hj0 : (decide (decode (mC M) pc = .ok (.ldc_w n, 3)) && (lkW z (.constant (mY M).cls n ci))) = true := hj
  obtain ⟨hdec, ho⟩ := Bool.and_eq_true_iff.mp hj0
  have hdec := of_decide_eq_true hdec
  have h' : K (pc + 3) ls (.int ci :: st) q w := h
  intro fl p e s m args below meth c Z hmm C F d0 la H locs hd hlv hS hlk h1 h2
  have hown : (s.setDrawn d0).vm.findClass (mY M).cls = some m.cls := C.2.2.2.1
  exact lv_ldcw (s := s.setDrawn d0) C.1 C.2.1 hown (dr_words C.2.2.2.2.1 d0 _ (List.mem_cons_of_mem _ (lk_of ho rfl))) hdec (hK _ _ _ _ _ h' fl p e s m args below meth c Z hmm C F d0 la H locs hd hlv hS hlk h1 h2)
theorem so_ldc2_w {n : Nat} (hK : ∀ pc ls st q w, K pc ls st q w → Wq G M pc ls st q w Q) (hj : insOK M (pc, .ldc2_w n, (x, y, z), (ci, cl), M') = true) (h : stp G M Q K (pc, .ldc2_w n, (x, y, z), (ci, cl), M') ls st q w) : Wq G M pc ls st q w Q := by
  have hj0 : (decide (decode (mC M) pc = .ok (.ldc2_w n, 3)) && (bif x == 0 then lkW z (.constantLong (mY M).cls n cl) else lkW z (.constantDouble (mY M).cls n cl.toUInt64))) = true := hj
  obtain ⟨hdec, ho⟩ := Bool.and_eq_true_iff.mp hj0
  have hdec := of_decide_eq_true hdec
  have h' : bif x == 0 then K (pc + 3) ls (.long cl :: st) q w else K (pc + 3) ls (.double cl.toUInt64 :: st) q w := h
  cases hx : x == 0 with
  | true =>
    simp only [hx, cond_true] at h' ho
    intro fl p e s m args below meth c Z hmm C F d0 la H locs hd hlv hS hlk h1 h2
    have hown : (s.setDrawn d0).vm.findClass (mY M).cls = some m.cls := C.2.2.2.1
    exact lv_ldc2 (s := s.setDrawn d0) C.1 C.2.1 hown (dr_words C.2.2.2.2.1 d0 _ (List.mem_cons_of_mem _ (lk_of ho rfl))) hdec (hK _ _ _ _ _ h' fl p e s m args below meth c Z hmm C F d0 la H locs hd hlv hS hlk h1 h2)
  | false =>
    simp only [hx, cond_false] at h' ho
    intro fl p e s m args below meth c Z hmm C F d0 la H locs hd hlv hS hlk h1 h2
    have hown : (s.setDrawn d0).vm.findClass (mY M).cls = some m.cls := C.2.2.2.1
    exact lv_ldc2d (s := s.setDrawn d0) C.1 C.2.1 hown (dr_words C.2.2.2.2.1 d0 _ (List.mem_cons_of_mem _ (lk_of ho rfl))) hdec (hK _ _ _ _ _ h' fl p e s m args below meth c Z hmm C F d0 la H locs hd hlv hS hlk h1 h2)
theorem so_lconst {n : Fin 2} (hK : ∀ pc ls st q w, K pc ls st q w → Wq G M pc ls st q w Q) (hj : insOK M (pc, .lconst n, (x, y, z), (ci, cl), M') = true) (h : stp G M Q K (pc, .lconst n, (x, y, z), (ci, cl), M') ls st q w) : Wq G M pc ls st q w Q := by
  have hj0 : (decide (decode (mC M) pc = .ok (.lconst n, 1)) && (Int64.ofNat n.val == cl)) = true := hj
  obtain ⟨hdec, ho⟩ := Bool.and_eq_true_iff.mp hj0
  have hdec := of_decide_eq_true hdec
  have h' : K (pc + 1) ls (.long cl :: st) q w := h
  intro fl p e s m args below meth c Z hmm C F d0 la H locs hd hlv hS hlk h1 h2
  exact lv_lconst C.1 C.2.1 hdec (of_decide_eq_true ho) (hK _ _ _ _ _ h' fl p e s m args below meth c Z hmm C F d0 la H locs hd hlv hS hlk h1 h2)
theorem so_dconst {n : Fin 2} (hK : ∀ pc ls st q w, K pc ls st q w → Wq G M pc ls st q w Q) (hj : insOK M (pc, .dconst n, (x, y, z), (ci, cl), M') = true) (h : stp G M Q K (pc, .dconst n, (x, y, z), (ci, cl), M') ls st q w) : Wq G M pc ls st q w Q := by
  have hj0 : (decide (decode (mC M) pc = .ok (.dconst n, 1)) && (n.val == 0)) = true := hj
  obtain ⟨hdec, ho⟩ := Bool.and_eq_true_iff.mp hj0
  have hdec := of_decide_eq_true hdec
  have h' : K (pc + 1) ls (.double FP.dconst0 :: st) q w := h
  have hn : n = 0 := Fin.ext (eq_of_beq ho)
  subst hn
  intro fl p e s m args below meth c Z hmm C F d0 la H locs hd hlv hS hlk h1 h2
  exact lv_dconst0 C.1 C.2.1 hdec (hK _ _ _ _ _ h' fl p e s m args below meth c Z hmm C F d0 la H locs hd hlv hS hlk h1 h2)
theorem so_aconst_null (hK : ∀ pc ls st q w, K pc ls st q w → Wq G M pc ls st q w Q) (hj : insOK M (pc, .aconst_null, (x, y, z), (ci, cl), M') = true) (h : stp G M Q K (pc, .aconst_null, (x, y, z), (ci, cl), M') ls st q w) : Wq G M pc ls st q w Q := by
  have hj0 : (decide (decode (mC M) pc = .ok (.aconst_null, 1)) && (true)) = true := hj
  obtain ⟨hdec, ho⟩ := Bool.and_eq_true_iff.mp hj0
  have hdec := of_decide_eq_true hdec
  have h' : K (pc + 1) ls (.null :: st) q w := h
  intro fl p e s m args below meth c Z hmm C F d0 la H locs hd hlv hS hlk h1 h2
  exact lv_null C.1 C.2.1 hdec (hK _ _ _ _ _ h' fl p e s m args below meth c Z hmm C F d0 la H locs hd hlv hS hlk h1 h2)
theorem so_iload_n {n : Fin 4} (hK : ∀ pc ls st q w, K pc ls st q w → Wq G M pc ls st q w Q) (hj : insOK M (pc, .iload_n n, (x, y, z), (ci, cl), M') = true) (h : stp G M Q K (pc, .iload_n n, (x, y, z), (ci, cl), M') ls st q w) : Wq G M pc ls st q w Q := by
  have hj0 : (decide (decode (mC M) pc = .ok (.iload_n n, 1)) && (n.val == x)) = true := hj
  obtain ⟨hdec, ho⟩ := Bool.and_eq_true_iff.mp hj0
  have hdec := of_decide_eq_true hdec
  have h' : (match (generalizing := false) nth ls x with | some (.int v) => K (pc + 1) ls (.int v :: st) q w | _ => False) := h
  split at h'
  · rename_i v hv
    intro fl p e s m args below meth c Z hmm C F d0 la H locs hd hlv hS hlk h1 h2
    exact lv_iload_n C.1 C.2.1 hdec (eq_of_beq ho) (hlv.2.2 _ _ hv) (hK _ _ _ _ _ h' fl p e s m args below meth c Z hmm C F d0 la H locs hd hlv hS hlk h1 h2)
  · exact h'.elim
theorem so_lload_n {n : Fin 4} (hK : ∀ pc ls st q w, K pc ls st q w → Wq G M pc ls st q w Q) (hj : insOK M (pc, .lload_n n, (x, y, z), (ci, cl), M') = true) (h : stp G M Q K (pc, .lload_n n, (x, y, z), (ci, cl), M') ls st q w) : Wq G M pc ls st q w Q := by
  have hj0 : (decide (decode (mC M) pc = .ok (.lload_n n, 1)) && (n.val == x)) = true := hj
  obtain ⟨hdec, ho⟩ := Bool.and_eq_true_iff.mp hj0
  have hdec := of_decide_eq_true hdec
  have h' : (match (generalizing := false) nth ls x with | some (.long v) => K (pc + 1) ls (.long v :: st) q w | _ => False) := h
  split at h'
  · rename_i v hv
    intro fl p e s m args below meth c Z hmm C F d0 la H locs hd hlv hS hlk h1 h2
    exact lv_lload_n C.1 C.2.1 hdec (eq_of_beq ho) (hlv.2.2 _ _ hv) (hK _ _ _ _ _ h' fl p e s m args below meth c Z hmm C F d0 la H locs hd hlv hS hlk h1 h2)
  · exact h'.elim
theorem so_dload_n {n : Fin 4} (hK : ∀ pc ls st q w, K pc ls st q w → Wq G M pc ls st q w Q) (hj : insOK M (pc, .dload_n n, (x, y, z), (ci, cl), M') = true) (h : stp G M Q K (pc, .dload_n n, (x, y, z), (ci, cl), M') ls st q w) : Wq G M pc ls st q w Q := by
  have hj0 : (decide (decode (mC M) pc = .ok (.dload_n n, 1)) && (n.val == x)) = true := hj
  obtain ⟨hdec, ho⟩ := Bool.and_eq_true_iff.mp hj0
  have hdec := of_decide_eq_true hdec
  have h' : (match (generalizing := false) nth ls x with | some (.double v) => K (pc + 1) ls (.double v :: st) q w | _ => False) := h
  split at h'
  · rename_i v hv
    intro fl p e s m args below meth c Z hmm C F d0 la H locs hd hlv hS hlk h1 h2
    exact lv_dload_n C.1 C.2.1 hdec (eq_of_beq ho) (hlv.2.2 _ _ hv) (hK _ _ _ _ _ h' fl p e s m args below meth c Z hmm C F d0 la H locs hd hlv hS hlk h1 h2)
  · exact h'.elim
theorem so_fload_n {n : Fin 4} (hK : ∀ pc ls st q w, K pc ls st q w → Wq G M pc ls st q w Q) (hj : insOK M (pc, .fload_n n, (x, y, z), (ci, cl), M') = true) (h : stp G M Q K (pc, .fload_n n, (x, y, z), (ci, cl), M') ls st q w) : Wq G M pc ls st q w Q := by
  have hj0 : (decide (decode (mC M) pc = .ok (.fload_n n, 1)) && (n.val == x)) = true := hj
  obtain ⟨hdec, ho⟩ := Bool.and_eq_true_iff.mp hj0
  have hdec := of_decide_eq_true hdec
  have h' : (match (generalizing := false) nth ls x with | some (.float v) => K (pc + 1) ls (.float v :: st) q w | _ => False) := h
  split at h'
  · rename_i v hv
    intro fl p e s m args below meth c Z hmm C F d0 la H locs hd hlv hS hlk h1 h2
    exact lv_fload_n C.1 C.2.1 hdec (eq_of_beq ho) (hlv.2.2 _ _ hv) (hK _ _ _ _ _ h' fl p e s m args below meth c Z hmm C F d0 la H locs hd hlv hS hlk h1 h2)
  · exact h'.elim
theorem so_iload {n : Nat} (hK : ∀ pc ls st q w, K pc ls st q w → Wq G M pc ls st q w Q) (hj : insOK M (pc, .iload n, (x, y, z), (ci, cl), M') = true) (h : stp G M Q K (pc, .iload n, (x, y, z), (ci, cl), M') ls st q w) : Wq G M pc ls st q w Q := by
  have hj0 : (decide (decode (mC M) pc = .ok (.iload n, 2)) && (n == x)) = true := hj
  obtain ⟨hdec, ho⟩ := Bool.and_eq_true_iff.mp hj0
  have hdec := of_decide_eq_true hdec
  have h' : (match (generalizing := false) nth ls x with | some (.int v) => K (pc + 2) ls (.int v :: st) q w | _ => False) := h
  have hn := eq_of_beq ho
  subst hn
  split at h'
  · rename_i v hv
    intro fl p e s m args below meth c Z hmm C F d0 la H locs hd hlv hS hlk h1 h2
    exact lv_iload C.1 C.2.1 hdec (hlv.2.2 _ _ hv) (hK _ _ _ _ _ h' fl p e s m args below meth c Z hmm C F d0 la H locs hd hlv hS hlk h1 h2)
  · exact h'.elim
theorem so_lload {n : Nat} (hK : ∀ pc ls st q w, K pc ls st q w → Wq G M pc ls st q w Q) (hj : insOK M (pc, .lload n, (x, y, z), (ci, cl), M') = true) (h : stp G M Q K (pc, .lload n, (x, y, z), (ci, cl), M') ls st q w) : Wq G M pc ls st q w Q := by
  have hj0 : (decide (decode (mC M) pc = .ok (.lload n, 2)) && (n == x)) = true := hj
  obtain ⟨hdec, ho⟩ := Bool.and_eq_true_iff.mp hj0
  have hdec := of_decide_eq_true hdec
  have h' : (match (generalizing := false) nth ls x with | some (.long v) => K (pc + 2) ls (.long v :: st) q w | _ => False) := h
  have hn := eq_of_beq ho
  subst hn
  split at h'
  · rename_i v hv
    intro fl p e s m args below meth c Z hmm C F d0 la H locs hd hlv hS hlk h1 h2
    exact lv_lload C.1 C.2.1 hdec (hlv.2.2 _ _ hv) (hK _ _ _ _ _ h' fl p e s m args below meth c Z hmm C F d0 la H locs hd hlv hS hlk h1 h2)
  · exact h'.elim
theorem so_dload {n : Nat} (hK : ∀ pc ls st q w, K pc ls st q w → Wq G M pc ls st q w Q) (hj : insOK M (pc, .dload n, (x, y, z), (ci, cl), M') = true) (h : stp G M Q K (pc, .dload n, (x, y, z), (ci, cl), M') ls st q w) : Wq G M pc ls st q w Q := by
  have hj0 : (decide (decode (mC M) pc = .ok (.dload n, 2)) && (n == x)) = true := hj
  obtain ⟨hdec, ho⟩ := Bool.and_eq_true_iff.mp hj0
  have hdec := of_decide_eq_true hdec
  have h' : (match (generalizing := false) nth ls x with | some (.double v) => K (pc + 2) ls (.double v :: st) q w | _ => False) := h
  have hn := eq_of_beq ho
  subst hn
  split at h'
  · rename_i v hv
    intro fl p e s m args below meth c Z hmm C F d0 la H locs hd hlv hS hlk h1 h2
    exact lv_dload C.1 C.2.1 hdec (hlv.2.2 _ _ hv) (hK _ _ _ _ _ h' fl p e s m args below meth c Z hmm C F d0 la H locs hd hlv hS hlk h1 h2)
  · exact h'.elim
theorem so_aload_n {n : Fin 4} (hK : ∀ pc ls st q w, K pc ls st q w → Wq G M pc ls st q w Q) (hj : insOK M (pc, .aload_n n, (x, y, z), (ci, cl), M') = true) (h : stp G M Q K (pc, .aload_n n, (x, y, z), (ci, cl), M') ls st q w) : Wq G M pc ls st q w Q := by
  have hj0 : (decide (decode (mC M) pc = .ok (.aload_n n, 1)) && (n.val == x)) = true := hj
  obtain ⟨hdec, ho⟩ := Bool.and_eq_true_iff.mp hj0
  have hdec := of_decide_eq_true hdec
  have h' : (match (generalizing := false) nth ls x with | some (.ref a) => K (pc + 1) ls (.ref a :: st) q w | some .null => K (pc + 1) ls (.null :: st) q w | _ => False) := h
  split at h'
  · rename_i v hv
    intro fl p e s m args below meth c Z hmm C F d0 la H locs hd hlv hS hlk h1 h2
    exact lv_aload_n C.1 C.2.1 hdec (eq_of_beq ho) (hlv.2.2 _ _ hv) (hK _ _ _ _ _ h' fl p e s m args below meth c Z hmm C F d0 la H locs hd hlv hS hlk h1 h2)
  · rename_i hv
    intro fl p e s m args below meth c Z hmm C F d0 la H locs hd hlv hS hlk h1 h2
    exact lv_aload_nN C.1 C.2.1 hdec (eq_of_beq ho) (hlv.2.2 _ _ hv) (hK _ _ _ _ _ h' fl p e s m args below meth c Z hmm C F d0 la H locs hd hlv hS hlk h1 h2)
  · exact h'.elim
theorem so_aload {n : Nat} (hK : ∀ pc ls st q w, K pc ls st q w → Wq G M pc ls st q w Q) (hj : insOK M (pc, .aload n, (x, y, z), (ci, cl), M') = true) (h : stp G M Q K (pc, .aload n, (x, y, z), (ci, cl), M') ls st q w) : Wq G M pc ls st q w Q := by
  have hj0 : (decide (decode (mC M) pc = .ok (.aload n, 2)) && (n == x)) = true := hj
  obtain ⟨hdec, ho⟩ := Bool.and_eq_true_iff.mp hj0
  have hdec := of_decide_eq_true hdec
  have h' : (match (generalizing := false) nth ls x with | some (.ref a) => K (pc + 2) ls (.ref a :: st) q w | some .null => K (pc + 2) ls (.null :: st) q w | _ => False) := h
  have hn := eq_of_beq ho
  subst hn
  split at h'
  · rename_i v hv
    intro fl p e s m args below meth c Z hmm C F d0 la H locs hd hlv hS hlk h1 h2
    exact lv_aload C.1 C.2.1 hdec (hlv.2.2 _ _ hv) (hK _ _ _ _ _ h' fl p e s m args below meth c Z hmm C F d0 la H locs hd hlv hS hlk h1 h2)
  · rename_i hv
    intro fl p e s m args below meth c Z hmm C F d0 la H locs hd hlv hS hlk h1 h2
    exact lv_aloadN C.1 C.2.1 hdec (hlv.2.2 _ _ hv) (hK _ _ _ _ _ h' fl p e s m args below meth c Z hmm C F d0 la H locs hd hlv hS hlk h1 h2)
  · exact h'.elim
theorem so_istore_n {n : Fin 4} (hK : ∀ pc ls st q w, K pc ls st q w → Wq G M pc ls st q w Q) (hj : insOK M (pc, .istore_n n, (x, y, z), (ci, cl), M') = true) (h : stp G M Q K (pc, .istore_n n, (x, y, z), (ci, cl), M') ls st q w) : Wq G M pc ls st q w Q := by
  have hj0 : (decide (decode (mC M) pc = .ok (.istore_n n, 1)) && (n.val == x && Nat.blt x (mL M))) = true := hj
  obtain ⟨hdec, ho⟩ := Bool.and_eq_true_iff.mp hj0
  have hdec := of_decide_eq_true hdec
  have h' : (match (generalizing := false) st with | .int v :: r => K (pc + 1) (stL ls x (.int v)) r q w | _ => False) := h
  obtain ⟨ho1, ho2⟩ := Bool.and_eq_true_iff.mp ho
  have hlt := Nat.le_of_ble_eq_true ho2
  split at h'
  · intro fl p e s m args below meth c Z hmm C F d0 la H locs hd hlv hS hlk h1 h2
    exact lv_istore_n C.1 C.2.1 hdec (eq_of_beq ho1) (lvR_has hlv) hlt rfl (fun la hl => hK _ _ _ _ _ h' fl p e s m args below meth c Z hmm C F d0 la H locs hd (lvR_st1 hl rfl) hS hlk h1 h2)
  · exact h'.elim
theorem so_lstore_n {n : Fin 4} (hK : ∀ pc ls st q w, K pc ls st q w → Wq G M pc ls st q w Q) (hj : insOK M (pc, .lstore_n n, (x, y, z), (ci, cl), M') = true) (h : stp G M Q K (pc, .lstore_n n, (x, y, z), (ci, cl), M') ls st q w) : Wq G M pc ls st q w Q := by
  have hj0 : (decide (decode (mC M) pc = .ok (.lstore_n n, 1)) && (n.val == x && Nat.blt (x + 1) (mL M))) = true := hj
  obtain ⟨hdec, ho⟩ := Bool.and_eq_true_iff.mp hj0
  have hdec := of_decide_eq_true hdec
  have h' : (match (generalizing := false) st with | .long v :: r => K (pc + 1) (stL ls x (.long v)) r q w | _ => False) := h
  obtain ⟨ho1, ho2⟩ := Bool.and_eq_true_iff.mp ho
  have hlt := Nat.le_of_ble_eq_true ho2
  split at h'
  · intro fl p e s m args below meth c Z hmm C F d0 la H locs hd hlv hS hlk h1 h2
    exact lv_lstore_n C.1 C.2.1 hdec (eq_of_beq ho1) (lvR_has hlv) hlt rfl (fun la hl => hK _ _ _ _ _ h' fl p e s m args below meth c Z hmm C F d0 la H locs hd (lvR_st2 hl rfl) hS hlk h1 h2)
  · exact h'.elim
theorem so_istore {n : Nat} (hK : ∀ pc ls st q w, K pc ls st q w → Wq G M pc ls st q w Q) (hj : insOK M (pc, .istore n, (x, y, z), (ci, cl), M') = true) (h : stp G M Q K (pc, .istore n, (x, y, z), (ci, cl), M') ls st q w) : Wq G M pc ls st q w Q := by
  have hj0 : (decide (decode (mC M) pc = .ok (.istore n, 2)) && (n == x && Nat.blt x (mL M))) = true := hj
  obtain ⟨hdec, ho⟩ := Bool.and_eq_true_iff.mp hj0
  have hdec := of_decide_eq_true hdec
  have h' : (match (generalizing := false) st with | .int v :: r => K (pc + 2) (stL ls x (.int v)) r q w | _ => False) := h
  obtain ⟨ho1, ho2⟩ := Bool.and_eq_true_iff.mp ho
  have hlt := Nat.le_of_ble_eq_true ho2
  have hn := eq_of_beq ho1
  subst hn
  split at h'
  · intro fl p e s m args below meth c Z hmm C F d0 la H locs hd hlv hS hlk h1 h2
    exact lv_istore C.1 C.2.1 hdec (lvR_has hlv) hlt rfl (fun la hl => hK _ _ _ _ _ h' fl p e s m args below meth c Z hmm C F d0 la H locs hd (lvR_st1 hl rfl) hS hlk h1 h2)
  · exact h'.elim
theorem so_lstore {n : Nat} (hK : ∀ pc ls st q w, K pc ls st q w → Wq G M pc ls st q w Q) (hj : insOK M (pc, .lstore n, (x, y, z), (ci, cl), M') = true) (h : stp G M Q K (pc, .lstore n, (x, y, z), (ci, cl), M') ls st q w) : Wq G M pc ls st q w Q := by
  have hj0 : (decide (decode (mC M) pc = .ok (.lstore n, 2)) && (n == x && Nat.blt (x + 1) (mL M))) = true := hj
  obtain ⟨hdec, ho⟩ := Bool.and_eq_true_iff.mp hj0
  have hdec := of_decide_eq_true hdec
  have h' : (match (generalizing := false) st with | .long v :: r => K (pc + 2) (stL ls x (.long v)) r q w | _ => False) := h
  obtain ⟨ho1, ho2⟩ := Bool.and_eq_true_iff.mp ho
  have hlt := Nat.le_of_ble_eq_true ho2
  have hn := eq_of_beq ho1
  subst hn
  split at h'
  · intro fl p e s m args below meth c Z hmm C F d0 la H locs hd hlv hS hlk h1 h2
    exact lv_lstore C.1 C.2.1 hdec (lvR_has hlv) hlt rfl (fun la hl => hK _ _ _ _ _ h' fl p e s m args below meth c Z hmm C F d0 la H locs hd (lvR_st2 hl rfl) hS hlk h1 h2)
  · exact h'.elim
theorem so_dstore {n : Nat} (hK : ∀ pc ls st q w, K pc ls st q w → Wq G M pc ls st q w Q) (hj : insOK M (pc, .dstore n, (x, y, z), (ci, cl), M') = true) (h : stp G M Q K (pc, .dstore n, (x, y, z), (ci, cl), M') ls st q w) : Wq G M pc ls st q w Q := by
  have hj0 : (decide (decode (mC M) pc = .ok (.dstore n, 2)) && (n == x && Nat.blt (x + 1) (mL M))) = true := hj
  obtain ⟨hdec, ho⟩ := Bool.and_eq_true_iff.mp hj0
  have hdec := of_decide_eq_true hdec
  have h' : (match (generalizing := false) st with | .double v :: r => K (pc + 2) (stL ls x (.double v)) r q w | _ => False) := h
  obtain ⟨ho1, ho2⟩ := Bool.and_eq_true_iff.mp ho
  have hlt := Nat.le_of_ble_eq_true ho2
  have hn := eq_of_beq ho1
  subst hn
  split at h'
  · intro fl p e s m args below meth c Z hmm C F d0 la H locs hd hlv hS hlk h1 h2
    exact lv_dstore C.1 C.2.1 hdec (lvR_has hlv) hlt rfl (fun la hl => hK _ _ _ _ _ h' fl p e s m args below meth c Z hmm C F d0 la H locs hd (lvR_st2 hl rfl) hS hlk h1 h2)
  · exact h'.elim
theorem so_astore_n {n : Fin 4} (hK : ∀ pc ls st q w, K pc ls st q w → Wq G M pc ls st q w Q) (hj : insOK M (pc, .astore_n n, (x, y, z), (ci, cl), M') = true) (h : stp G M Q K (pc, .astore_n n, (x, y, z), (ci, cl), M') ls st q w) : Wq G M pc ls st q w Q := by
  have hj0 : (decide (decode (mC M) pc = .ok (.astore_n n, 1)) && (n.val == x && Nat.blt x (mL M))) = true := hj
  obtain ⟨hdec, ho⟩ := Bool.and_eq_true_iff.mp hj0
  have hdec := of_decide_eq_true hdec
  have h' : (match (generalizing := false) st with | .ref a :: r => K (pc + 1) (stL ls x (.ref a)) r q w | .null :: r => K (pc + 1) (stL ls x .null) r q w | _ => False) := h
  obtain ⟨ho1, ho2⟩ := Bool.and_eq_true_iff.mp ho
  have hlt := Nat.le_of_ble_eq_true ho2
  split at h'
  · intro fl p e s m args below meth c Z hmm C F d0 la H locs hd hlv hS hlk h1 h2
    exact lv_astore_n C.1 C.2.1 hdec (eq_of_beq ho1) (lvR_has hlv) hlt rfl (fun la hl => hK _ _ _ _ _ h' fl p e s m args below meth c Z hmm C F d0 la H locs hd (lvR_st1 hl rfl) hS hlk h1 h2)
  · intro fl p e s m args below meth c Z hmm C F d0 la H locs hd hlv hS hlk h1 h2
    exact lv_astore_nN C.1 C.2.1 hdec (eq_of_beq ho1) (lvR_has hlv) hlt rfl (fun la hl => hK _ _ _ _ _ h' fl p e s m args below meth c Z hmm C F d0 la H locs hd (lvR_st1 hl rfl) hS hlk h1 h2)
  · exact h'.elim
theorem so_astore {n : Nat} (hK : ∀ pc ls st q w, K pc ls st q w → Wq G M pc ls st q w Q) (hj : insOK M (pc, .astore n, (x, y, z), (ci, cl), M') = true) (h : stp G M Q K (pc, .astore n, (x, y, z), (ci, cl), M') ls st q w) : Wq G M pc ls st q w Q := by
  have hj0 : (decide (decode (mC M) pc = .ok (.astore n, 2)) && (n == x && Nat.blt x (mL M))) = true := hj
  obtain ⟨hdec, ho⟩ := Bool.and_eq_true_iff.mp hj0
  have hdec := of_decide_eq_true hdec
  have h' : (match (generalizing := false) st with | .ref a :: r => K (pc + 2) (stL ls x (.ref a)) r q w | .null :: r => K (pc + 2) (stL ls x .null) r q w | _ => False) := h
  obtain ⟨ho1, ho2⟩ := Bool.and_eq_true_iff.mp ho
  have hlt := Nat.le_of_ble_eq_true ho2
  have hn := eq_of_beq ho1
  subst hn
  split at h'
  · intro fl p e s m args below meth c Z hmm C F d0 la H locs hd hlv hS hlk h1 h2
    exact lv_astore C.1 C.2.1 hdec (lvR_has hlv) hlt rfl (fun la hl => hK _ _ _ _ _ h' fl p e s m args below meth c Z hmm C F d0 la H locs hd (lvR_st1 hl rfl) hS hlk h1 h2)
  · intro fl p e s m args below meth c Z hmm C F d0 la H locs hd hlv hS hlk h1 h2
    exact lv_astoreN C.1 C.2.1 hdec (lvR_has hlv) hlt rfl (fun la hl => hK _ _ _ _ _ h' fl p e s m args below meth c Z hmm C F d0 la H locs hd (lvR_st1 hl rfl) hS hlk h1 h2)
  · exact h'.elim
theorem so_iinc {n : Nat} {k : Int} (hK : ∀ pc ls st q w, K pc ls st q w → Wq G M pc ls st q w Q) (hj : insOK M (pc, .iinc n k, (x, y, z), (ci, cl), M') = true) (h : stp G M Q K (pc, .iinc n k, (x, y, z), (ci, cl), M') ls st q w) : Wq G M pc ls st q w Q := by
  have hj0 : (decide (decode (mC M) pc = .ok (.iinc n k, 3)) && (n == x && Int32.ofInt k == ci && Nat.blt x (mL M))) = true := hj
  obtain ⟨hdec, ho⟩ := Bool.and_eq_true_iff.mp hj0
  have hdec := of_decide_eq_true hdec
  have h' : (match (generalizing := false) nth ls x with | some (.int v) => K (pc + 3) (stL ls x (.int (v + ci))) st q w | _ => False) := h
  obtain ⟨ho1, ho2⟩ := Bool.and_eq_true_iff.mp ho
  obtain ⟨ho1, ho3⟩ := Bool.and_eq_true_iff.mp ho1
  have hn := eq_of_beq ho1
  subst hn
  have hlt := Nat.le_of_ble_eq_true ho2
  have hk := of_decide_eq_true ho3
  split at h'
  · rename_i v hv
    intro fl p e s m args below meth c Z hmm C F d0 la H locs hd hlv hS hlk h1 h2
    obtain ⟨k2, hk2⟩ := List.getElem?_of_mem (al_mem (G := G) hv)
    exact lv_iinc C.1 C.2.1 hdec (lvR_has hlv) hk2 (by rw [hk]) hlt rfl (fun la hl => hK _ _ _ _ _ h' fl p e s m args below meth c Z hmm C F d0 la H locs hd (lvR_st1 hl rfl) hS hlk h1 h2)
  · exact h'.elim
theorem so_iadd (hK : ∀ pc ls st q w, K pc ls st q w → Wq G M pc ls st q w Q) (hj : insOK M (pc, .iadd, (x, y, z), (ci, cl), M') = true) (h : stp G M Q K (pc, .iadd, (x, y, z), (ci, cl), M') ls st q w) : Wq G M pc ls st q w Q := by
  have hj0 : (decide (decode (mC M) pc = .ok (.iadd, 1)) && (true)) = true := hj
  obtain ⟨hdec, ho⟩ := Bool.and_eq_true_iff.mp hj0
  have hdec := of_decide_eq_true hdec
  have h' : (match (generalizing := false) st with | .int b :: .int a :: r => K (pc + 1) ls (.int (a + b) :: r) q w | _ => False) := h
  split at h'
  · intro fl p e s m args below meth c Z hmm C F d0 la H locs hd hlv hS hlk h1 h2
    exact lv_iadd C.1 C.2.1 hdec (hK _ _ _ _ _ h' fl p e s m args below meth c Z hmm C F d0 la H locs hd hlv hS hlk h1 h2)
  · exact h'.elim
theorem so_isub (hK : ∀ pc ls st q w, K pc ls st q w → Wq G M pc ls st q w Q) (hj : insOK M (pc, .isub, (x, y, z), (ci, cl), M') = true) (h : stp G M Q K (pc, .isub, (x, y, z), (ci, cl), M') ls st q w) : Wq G M pc ls st q w Q := by
  have hj0 : (decide (decode (mC M) pc = .ok (.isub, 1)) && (true)) = true := hj
  obtain ⟨hdec, ho⟩ := Bool.and_eq_true_iff.mp hj0
  have hdec := of_decide_eq_true hdec
  have h' : (match (generalizing := false) st with | .int b :: .int a :: r => K (pc + 1) ls (.int (a - b) :: r) q w | _ => False) := h
  split at h'
  · intro fl p e s m args below meth c Z hmm C F d0 la H locs hd hlv hS hlk h1 h2
    exact lv_isub C.1 C.2.1 hdec (hK _ _ _ _ _ h' fl p e s m args below meth c Z hmm C F d0 la H locs hd hlv hS hlk h1 h2)
  · exact h'.elim
theorem so_imul (hK : ∀ pc ls st q w, K pc ls st q w → Wq G M pc ls st q w Q) (hj : insOK M (pc, .imul, (x, y, z), (ci, cl), M') = true) (h : stp G M Q K (pc, .imul, (x, y, z), (ci, cl), M') ls st q w) : Wq G M pc ls st q w Q := by
  have hj0 : (decide (decode (mC M) pc = .ok (.imul, 1)) && (true)) = true := hj
  obtain ⟨hdec, ho⟩ := Bool.and_eq_true_iff.mp hj0
  have hdec := of_decide_eq_true hdec
  have h' : (match (generalizing := false) st with | .int b :: .int a :: r => K (pc + 1) ls (.int (a * b) :: r) q w | _ => False) := h
  split at h'
  · intro fl p e s m args below meth c Z hmm C F d0 la H locs hd hlv hS hlk h1 h2
    exact lv_imul C.1 C.2.1 hdec (hK _ _ _ _ _ h' fl p e s m args below meth c Z hmm C F d0 la H locs hd hlv hS hlk h1 h2)
  · exact h'.elim
theorem so_iand (hK : ∀ pc ls st q w, K pc ls st q w → Wq G M pc ls st q w Q) (hj : insOK M (pc, .iand, (x, y, z), (ci, cl), M') = true) (h : stp G M Q K (pc, .iand, (x, y, z), (ci, cl), M') ls st q w) : Wq G M pc ls st q w Q := by
  have hj0 : (decide (decode (mC M) pc = .ok (.iand, 1)) && (true)) = true := hj
  obtain ⟨hdec, ho⟩ := Bool.and_eq_true_iff.mp hj0
  have hdec := of_decide_eq_true hdec
  have h' : (match (generalizing := false) st with | .int b :: .int a :: r => K (pc + 1) ls (.int (a &&& b) :: r) q w | _ => False) := h
  split at h'
  · intro fl p e s m args below meth c Z hmm C F d0 la H locs hd hlv hS hlk h1 h2
    exact lv_iand C.1 C.2.1 hdec (hK _ _ _ _ _ h' fl p e s m args below meth c Z hmm C F d0 la H locs hd hlv hS hlk h1 h2)
  · exact h'.elim
theorem so_ladd (hK : ∀ pc ls st q w, K pc ls st q w → Wq G M pc ls st q w Q) (hj : insOK M (pc, .ladd, (x, y, z), (ci, cl), M') = true) (h : stp G M Q K (pc, .ladd, (x, y, z), (ci, cl), M') ls st q w) : Wq G M pc ls st q w Q := by
  have hj0 : (decide (decode (mC M) pc = .ok (.ladd, 1)) && (true)) = true := hj
  obtain ⟨hdec, ho⟩ := Bool.and_eq_true_iff.mp hj0
  have hdec := of_decide_eq_true hdec
  have h' : (match (generalizing := false) st with | .long b :: .long a :: r => K (pc + 1) ls (.long (a + b) :: r) q w | _ => False) := h
  split at h'
  · intro fl p e s m args below meth c Z hmm C F d0 la H locs hd hlv hS hlk h1 h2
    exact lv_ladd C.1 C.2.1 hdec (hK _ _ _ _ _ h' fl p e s m args below meth c Z hmm C F d0 la H locs hd hlv hS hlk h1 h2)
  · exact h'.elim
theorem so_lsub (hK : ∀ pc ls st q w, K pc ls st q w → Wq G M pc ls st q w Q) (hj : insOK M (pc, .lsub, (x, y, z), (ci, cl), M') = true) (h : stp G M Q K (pc, .lsub, (x, y, z), (ci, cl), M') ls st q w) : Wq G M pc ls st q w Q := by
  have hj0 : (decide (decode (mC M) pc = .ok (.lsub, 1)) && (true)) = true := hj
  obtain ⟨hdec, ho⟩ := Bool.and_eq_true_iff.mp hj0
  have hdec := of_decide_eq_true hdec
  have h' : (match (generalizing := false) st with | .long b :: .long a :: r => K (pc + 1) ls (.long (a - b) :: r) q w | _ => False) := h
  split at h'
  · intro fl p e s m args below meth c Z hmm C F d0 la H locs hd hlv hS hlk h1 h2
    exact lv_lsub C.1 C.2.1 hdec (hK _ _ _ _ _ h' fl p e s m args below meth c Z hmm C F d0 la H locs hd hlv hS hlk h1 h2)
  · exact h'.elim
theorem so_lmul (hK : ∀ pc ls st q w, K pc ls st q w → Wq G M pc ls st q w Q) (hj : insOK M (pc, .lmul, (x, y, z), (ci, cl), M') = true) (h : stp G M Q K (pc, .lmul, (x, y, z), (ci, cl), M') ls st q w) : Wq G M pc ls st q w Q := by
  have hj0 : (decide (decode (mC M) pc = .ok (.lmul, 1)) && (true)) = true := hj
  obtain ⟨hdec, ho⟩ := Bool.and_eq_true_iff.mp hj0
  have hdec := of_decide_eq_true hdec
  have h' : (match (generalizing := false) st with | .long b :: .long a :: r => K (pc + 1) ls (.long (a * b) :: r) q w | _ => False) := h
  split at h'
  · intro fl p e s m args below meth c Z hmm C F d0 la H locs hd hlv hS hlk h1 h2
    exact lv_lmul C.1 C.2.1 hdec (hK _ _ _ _ _ h' fl p e s m args below meth c Z hmm C F d0 la H locs hd hlv hS hlk h1 h2)
  · exact h'.elim
theorem so_land (hK : ∀ pc ls st q w, K pc ls st q w → Wq G M pc ls st q w Q) (hj : insOK M (pc, .land, (x, y, z), (ci, cl), M') = true) (h : stp G M Q K (pc, .land, (x, y, z), (ci, cl), M') ls st q w) : Wq G M pc ls st q w Q := by
  have hj0 : (decide (decode (mC M) pc = .ok (.land, 1)) && (true)) = true := hj
  obtain ⟨hdec, ho⟩ := Bool.and_eq_true_iff.mp hj0
  have hdec := of_decide_eq_true hdec
  have h' : (match (generalizing := false) st with | .long b :: .long a :: r => K (pc + 1) ls (.long (a &&& b) :: r) q w | _ => False) := h
  split at h'
  · intro fl p e s m args below meth c Z hmm C F d0 la H locs hd hlv hS hlk h1 h2
    exact lv_land C.1 C.2.1 hdec (hK _ _ _ _ _ h' fl p e s m args below meth c Z hmm C F d0 la H locs hd hlv hS hlk h1 h2)
  · exact h'.elim
theorem so_lor (hK : ∀ pc ls st q w, K pc ls st q w → Wq G M pc ls st q w Q) (hj : insOK M (pc, .lor, (x, y, z), (ci, cl), M') = true) (h : stp G M Q K (pc, .lor, (x, y, z), (ci, cl), M') ls st q w) : Wq G M pc ls st q w Q := by
  have hj0 : (decide (decode (mC M) pc = .ok (.lor, 1)) && (true)) = true := hj
  obtain ⟨hdec, ho⟩ := Bool.and_eq_true_iff.mp hj0
  have hdec := of_decide_eq_true hdec
  have h' : (match (generalizing := false) st with | .long b :: .long a :: r => K (pc + 1) ls (.long (a ||| b) :: r) q w | _ => False) := h
  split at h'
  · intro fl p e s m args below meth c Z hmm C F d0 la H locs hd hlv hS hlk h1 h2
    exact lv_lor C.1 C.2.1 hdec (hK _ _ _ _ _ h' fl p e s m args below meth c Z hmm C F d0 la H locs hd hlv hS hlk h1 h2)
  · exact h'.elim
theorem so_lxor (hK : ∀ pc ls st q w, K pc ls st q w → Wq G M pc ls st q w Q) (hj : insOK M (pc, .lxor, (x, y, z), (ci, cl), M') = true) (h : stp G M Q K (pc, .lxor, (x, y, z), (ci, cl), M') ls st q w) : Wq G M pc ls st q w Q := by
  have hj0 : (decide (decode (mC M) pc = .ok (.lxor, 1)) && (true)) = true := hj
  obtain ⟨hdec, ho⟩ := Bool.and_eq_true_iff.mp hj0
  have hdec := of_decide_eq_true hdec
  have h' : (match (generalizing := false) st with | .long b :: .long a :: r => K (pc + 1) ls (.long (a ^^^ b) :: r) q w | _ => False) := h
  split at h'
  · intro fl p e s m args below meth c Z hmm C F d0 la H locs hd hlv hS hlk h1 h2
    exact lv_lxor C.1 C.2.1 hdec (hK _ _ _ _ _ h' fl p e s m args below meth c Z hmm C F d0 la H locs hd hlv hS hlk h1 h2)
  · exact h'.elim
theorem so_ineg (hK : ∀ pc ls st q w, K pc ls st q w → Wq G M pc ls st q w Q) (hj : insOK M (pc, .ineg, (x, y, z), (ci, cl), M') = true) (h : stp G M Q K (pc, .ineg, (x, y, z), (ci, cl), M') ls st q w) : Wq G M pc ls st q w Q := by
  have hj0 : (decide (decode (mC M) pc = .ok (.ineg, 1)) && (true)) = true := hj
  obtain ⟨hdec, ho⟩ := Bool.and_eq_true_iff.mp hj0
  have hdec := of_decide_eq_true hdec
  have h' : (match (generalizing := false) st with | .int a :: r => K (pc + 1) ls (.int (-a) :: r) q w | _ => False) := h
  split at h'
  · intro fl p e s m args below meth c Z hmm C F d0 la H locs hd hlv hS hlk h1 h2
    exact lv_ineg C.1 C.2.1 hdec (hK _ _ _ _ _ h' fl p e s m args below meth c Z hmm C F d0 la H locs hd hlv hS hlk h1 h2)
  · exact h'.elim
theorem so_lneg (hK : ∀ pc ls st q w, K pc ls st q w → Wq G M pc ls st q w Q) (hj : insOK M (pc, .lneg, (x, y, z), (ci, cl), M') = true) (h : stp G M Q K (pc, .lneg, (x, y, z), (ci, cl), M') ls st q w) : Wq G M pc ls st q w Q := by
  have hj0 : (decide (decode (mC M) pc = .ok (.lneg, 1)) && (true)) = true := hj
  obtain ⟨hdec, ho⟩ := Bool.and_eq_true_iff.mp hj0
  have hdec := of_decide_eq_true hdec
  have h' : (match (generalizing := false) st with | .long a :: r => K (pc + 1) ls (.long (-a) :: r) q w | _ => False) := h
  split at h'
  · intro fl p e s m args below meth c Z hmm C F d0 la H locs hd hlv hS hlk h1 h2
    exact lv_lneg C.1 C.2.1 hdec (hK _ _ _ _ _ h' fl p e s m args below meth c Z hmm C F d0 la H locs hd hlv hS hlk h1 h2)
  · exact h'.elim
theorem so_lcmp (hK : ∀ pc ls st q w, K pc ls st q w → Wq G M pc ls st q w Q) (hj : insOK M (pc, .lcmp, (x, y, z), (ci, cl), M') = true) (h : stp G M Q K (pc, .lcmp, (x, y, z), (ci, cl), M') ls st q w) : Wq G M pc ls st q w Q := by
  have hj0 : (decide (decode (mC M) pc = .ok (.lcmp, 1)) && (true)) = true := hj
  obtain ⟨hdec, ho⟩ := Bool.and_eq_true_iff.mp hj0
  have hdec := of_decide_eq_true hdec
  have h' : (match (generalizing := false) st with | .long b :: .long a :: r => K (pc + 1) ls (.int (lg_cmp a b) :: r) q w | _ => False) := h
  split at h'
  · intro fl p e s m args below meth c Z hmm C F d0 la H locs hd hlv hS hlk h1 h2
    exact W.lcmp C.1 C.2.1 hdec (hK _ _ _ _ _ h' fl p e s m args below meth c Z hmm C F d0 la H locs hd hlv hS hlk h1 h2)
  · exact h'.elim
theorem so_dcmp {op : CmpOp} (hK : ∀ pc ls st q w, K pc ls st q w → Wq G M pc ls st q w Q) (hj : insOK M (pc, .dcmp op, (x, y, z), (ci, cl), M') = true) (h : stp G M Q K (pc, .dcmp op, (x, y, z), (ci, cl), M') ls st q w) : Wq G M pc ls st q w Q := by
  have hj0 : (decide (decode (mC M) pc = .ok (.dcmp op, 1)) && (true)) = true := hj
  obtain ⟨hdec, ho⟩ := Bool.and_eq_true_iff.mp hj0
  have hdec := of_decide_eq_true hdec
  have h' : (match (generalizing := false) st with | .double b :: .double a :: r => K (pc + 1) ls (.int (Op.cmpValue (FP.dcmp a b) op) :: r) q w | _ => False) := h
  split at h'
  · intro fl p e s m args below meth c Z hmm C F d0 la H locs hd hlv hS hlk h1 h2
    exact lv_dcmp C.1 C.2.1 hdec (hK _ _ _ _ _ h' fl p e s m args below meth c Z hmm C F d0 la H locs hd hlv hS hlk h1 h2)
  · exact h'.elim
theorem so_fcmp {op : CmpOp} (hK : ∀ pc ls st q w, K pc ls st q w → Wq G M pc ls st q w Q) (hj : insOK M (pc, .fcmp op, (x, y, z), (ci, cl), M') = true) (h : stp G M Q K (pc, .fcmp op, (x, y, z), (ci, cl), M') ls st q w) : Wq G M pc ls st q w Q := by
  have hj0 : (decide (decode (mC M) pc = .ok (.fcmp op, 1)) && (true)) = true := hj
  obtain ⟨hdec, ho⟩ := Bool.and_eq_true_iff.mp hj0
  have hdec := of_decide_eq_true hdec
  have h' : (match (generalizing := false) st with | .float b :: .float a :: r => K (pc + 1) ls (.int (Op.cmpValue (FP.fcmp a b) op) :: r) q w | _ => False) := h
  split at h'
  · intro fl p e s m args below meth c Z hmm C F d0 la H locs hd hlv hS hlk h1 h2
    exact lv_fcmp C.1 C.2.1 hdec (hK _ _ _ _ _ h' fl p e s m args below meth c Z hmm C F d0 la H locs hd hlv hS hlk h1 h2)
  · exact h'.elim
theorem so_iushr (hK : ∀ pc ls st q w, K pc ls st q w → Wq G M pc ls st q w Q) (hj : insOK M (pc, .iushr, (x, y, z), (ci, cl), M') = true) (h : stp G M Q K (pc, .iushr, (x, y, z), (ci, cl), M') ls st q w) : Wq G M pc ls st q w Q := by
  have hj0 : (decide (decode (mC M) pc = .ok (.iushr, 1)) && (true)) = true := hj
  obtain ⟨hdec, ho⟩ := Bool.and_eq_true_iff.mp hj0
  have hdec := of_decide_eq_true hdec
  have h' : (match (generalizing := false) st with | .int b :: .int a :: r => K (pc + 1) ls (.int (a.toUInt32 >>> (b.toUInt32 &&& Int32.toUInt32 31)).toInt32 :: r) q w | _ => False) := h
  split at h'
  · intro fl p e s m args below meth c Z hmm C F d0 la H locs hd hlv hS hlk h1 h2
    exact lv_iushr C.1 C.2.1 hdec rfl (hK _ _ _ _ _ h' fl p e s m args below meth c Z hmm C F d0 la H locs hd hlv hS hlk h1 h2)
  · exact h'.elim
theorem so_lshl (hK : ∀ pc ls st q w, K pc ls st q w → Wq G M pc ls st q w Q) (hj : insOK M (pc, .lshl, (x, y, z), (ci, cl), M') = true) (h : stp G M Q K (pc, .lshl, (x, y, z), (ci, cl), M') ls st q w) : Wq G M pc ls st q w Q := by
  have hj0 : (decide (decode (mC M) pc = .ok (.lshl, 1)) && (true)) = true := hj
  obtain ⟨hdec, ho⟩ := Bool.and_eq_true_iff.mp hj0
  have hdec := of_decide_eq_true hdec
  have h' : (match (generalizing := false) st with | .int b :: .long a :: r => K (pc + 1) ls (.long (a <<< (b.toInt64 &&& 63)) :: r) q w | _ => False) := h
  split at h'
  · intro fl p e s m args below meth c Z hmm C F d0 la H locs hd hlv hS hlk h1 h2
    exact lv_lshl C.1 C.2.1 hdec rfl (hK _ _ _ _ _ h' fl p e s m args below meth c Z hmm C F d0 la H locs hd hlv hS hlk h1 h2)
  · exact h'.elim
theorem so_lushr (hK : ∀ pc ls st q w, K pc ls st q w → Wq G M pc ls st q w Q) (hj : insOK M (pc, .lushr, (x, y, z), (ci, cl), M') = true) (h : stp G M Q K (pc, .lushr, (x, y, z), (ci, cl), M') ls st q w) : Wq G M pc ls st q w Q := by
  have hj0 : (decide (decode (mC M) pc = .ok (.lushr, 1)) && (true)) = true := hj
  obtain ⟨hdec, ho⟩ := Bool.and_eq_true_iff.mp hj0
  have hdec := of_decide_eq_true hdec
  have h' : (match (generalizing := false) st with | .int b :: .long a :: r => K (pc + 1) ls (.long (a.toUInt64 >>> (b.toInt64.toUInt64 &&& Int64.toUInt64 63)).toInt64 :: r) q w | _ => False) := h
  split at h'
  · intro fl p e s m args below meth c Z hmm C F d0 la H locs hd hlv hS hlk h1 h2
    exact lv_lushr C.1 C.2.1 hdec rfl (hK _ _ _ _ _ h' fl p e s m args below meth c Z hmm C F d0 la H locs hd hlv hS hlk h1 h2)
  · exact h'.elim
theorem so_i2l (hK : ∀ pc ls st q w, K pc ls st q w → Wq G M pc ls st q w Q) (hj : insOK M (pc, .i2l, (x, y, z), (ci, cl), M') = true) (h : stp G M Q K (pc, .i2l, (x, y, z), (ci, cl), M') ls st q w) : Wq G M pc ls st q w Q := by
  have hj0 : (decide (decode (mC M) pc = .ok (.i2l, 1)) && (true)) = true := hj
  obtain ⟨hdec, ho⟩ := Bool.and_eq_true_iff.mp hj0
  have hdec := of_decide_eq_true hdec
  have h' : (match (generalizing := false) st with | .int a :: r => K (pc + 1) ls (.long a.toInt64 :: r) q w | _ => False) := h
  split at h'
  · intro fl p e s m args below meth c Z hmm C F d0 la H locs hd hlv hS hlk h1 h2
    exact lv_i2l C.1 C.2.1 hdec rfl (hK _ _ _ _ _ h' fl p e s m args below meth c Z hmm C F d0 la H locs hd hlv hS hlk h1 h2)
  · exact h'.elim
theorem so_i2b (hK : ∀ pc ls st q w, K pc ls st q w → Wq G M pc ls st q w Q) (hj : insOK M (pc, .i2b, (x, y, z), (ci, cl), M') = true) (h : stp G M Q K (pc, .i2b, (x, y, z), (ci, cl), M') ls st q w) : Wq G M pc ls st q w Q := by
  have hj0 : (decide (decode (mC M) pc = .ok (.i2b, 1)) && (true)) = true := hj
  obtain ⟨hdec, ho⟩ := Bool.and_eq_true_iff.mp hj0
  have hdec := of_decide_eq_true hdec
  have h' : (match (generalizing := false) st with | .int a :: r => K (pc + 1) ls (.int a.toInt8.toInt32 :: r) q w | _ => False) := h
  split at h'
  · intro fl p e s m args below meth c Z hmm C F d0 la H locs hd hlv hS hlk h1 h2
    exact lv_i2b C.1 C.2.1 hdec rfl (hK _ _ _ _ _ h' fl p e s m args below meth c Z hmm C F d0 la H locs hd hlv hS hlk h1 h2)
  · exact h'.elim
theorem so_i2s (hK : ∀ pc ls st q w, K pc ls st q w → Wq G M pc ls st q w Q) (hj : insOK M (pc, .i2s, (x, y, z), (ci, cl), M') = true) (h : stp G M Q K (pc, .i2s, (x, y, z), (ci, cl), M') ls st q w) : Wq G M pc ls st q w Q := by
  have hj0 : (decide (decode (mC M) pc = .ok (.i2s, 1)) && (true)) = true := hj
  obtain ⟨hdec, ho⟩ := Bool.and_eq_true_iff.mp hj0
  have hdec := of_decide_eq_true hdec
  have h' : (match (generalizing := false) st with | .int a :: r => K (pc + 1) ls (.int a.toInt16.toInt32 :: r) q w | _ => False) := h
  split at h'
  · intro fl p e s m args below meth c Z hmm C F d0 la H locs hd hlv hS hlk h1 h2
    exact lv_i2s C.1 C.2.1 hdec rfl (hK _ _ _ _ _ h' fl p e s m args below meth c Z hmm C F d0 la H locs hd hlv hS hlk h1 h2)
  · exact h'.elim
theorem so_i2c (hK : ∀ pc ls st q w, K pc ls st q w → Wq G M pc ls st q w Q) (hj : insOK M (pc, .i2c, (x, y, z), (ci, cl), M') = true) (h : stp G M Q K (pc, .i2c, (x, y, z), (ci, cl), M') ls st q w) : Wq G M pc ls st q w Q := by
  have hj0 : (decide (decode (mC M) pc = .ok (.i2c, 1)) && (true)) = true := hj
  obtain ⟨hdec, ho⟩ := Bool.and_eq_true_iff.mp hj0
  have hdec := of_decide_eq_true hdec
  have h' : (match (generalizing := false) st with | .int a :: r => K (pc + 1) ls (.int (a.toUInt32 % 65536).toInt32 :: r) q w | _ => False) := h
  split at h'
  · intro fl p e s m args below meth c Z hmm C F d0 la H locs hd hlv hS hlk h1 h2
    exact lv_i2c C.1 C.2.1 hdec rfl (hK _ _ _ _ _ h' fl p e s m args below meth c Z hmm C F d0 la H locs hd hlv hS hlk h1 h2)
  · exact h'.elim
theorem so_l2i (hK : ∀ pc ls st q w, K pc ls st q w → Wq G M pc ls st q w Q) (hj : insOK M (pc, .l2i, (x, y, z), (ci, cl), M') = true) (h : stp G M Q K (pc, .l2i, (x, y, z), (ci, cl), M') ls st q w) : Wq G M pc ls st q w Q := by
  have hj0 : (decide (decode (mC M) pc = .ok (.l2i, 1)) && (true)) = true := hj
  obtain ⟨hdec, ho⟩ := Bool.and_eq_true_iff.mp hj0
  have hdec := of_decide_eq_true hdec
  have h' : (match (generalizing := false) st with | .long a :: r => K (pc + 1) ls (.int a.toInt32 :: r) q w | _ => False) := h
  split at h'
  · intro fl p e s m args below meth c Z hmm C F d0 la H locs hd hlv hS hlk h1 h2
    exact lv_l2i C.1 C.2.1 hdec rfl (hK _ _ _ _ _ h' fl p e s m args below meth c Z hmm C F d0 la H locs hd hlv hS hlk h1 h2)
  · exact h'.elim
theorem so_l2d (hK : ∀ pc ls st q w, K pc ls st q w → Wq G M pc ls st q w Q) (hj : insOK M (pc, .l2d, (x, y, z), (ci, cl), M') = true) (h : stp G M Q K (pc, .l2d, (x, y, z), (ci, cl), M') ls st q w) : Wq G M pc ls st q w Q := by
  have hj0 : (decide (decode (mC M) pc = .ok (.l2d, 1)) && (true)) = true := hj
  obtain ⟨hdec, ho⟩ := Bool.and_eq_true_iff.mp hj0
  have hdec := of_decide_eq_true hdec
  have h' : (match (generalizing := false) st with | .long a :: r => K (pc + 1) ls (.double (FP.l2d a) :: r) q w | _ => False) := h
  split at h'
  · intro fl p e s m args below meth c Z hmm C F d0 la H locs hd hlv hS hlk h1 h2
    exact lv_l2d C.1 C.2.1 hdec (hK _ _ _ _ _ h' fl p e s m args below meth c Z hmm C F d0 la H locs hd hlv hS hlk h1 h2)
  · exact h'.elim
theorem so_l2f (hK : ∀ pc ls st q w, K pc ls st q w → Wq G M pc ls st q w Q) (hj : insOK M (pc, .l2f, (x, y, z), (ci, cl), M') = true) (h : stp G M Q K (pc, .l2f, (x, y, z), (ci, cl), M') ls st q w) : Wq G M pc ls st q w Q := by
  have hj0 : (decide (decode (mC M) pc = .ok (.l2f, 1)) && (true)) = true := hj
  obtain ⟨hdec, ho⟩ := Bool.and_eq_true_iff.mp hj0
  have hdec := of_decide_eq_true hdec
  have h' : (match (generalizing := false) st with | .long a :: r => K (pc + 1) ls (.float (FP.l2f a) :: r) q w | _ => False) := h
  split at h'
  · intro fl p e s m args below meth c Z hmm C F d0 la H locs hd hlv hS hlk h1 h2
    exact lv_l2f C.1 C.2.1 hdec (hK _ _ _ _ _ h' fl p e s m args below meth c Z hmm C F d0 la H locs hd hlv hS hlk h1 h2)
  · exact h'.elim
theorem so_idiv (hK : ∀ pc ls st q w, K pc ls st q w → Wq G M pc ls st q w Q) (hj : insOK M (pc, .idiv, (x, y, z), (ci, cl), M') = true) (h : stp G M Q K (pc, .idiv, (x, y, z), (ci, cl), M') ls st q w) : Wq G M pc ls st q w Q := by
  have hj0 : (decide (decode (mC M) pc = .ok (.idiv, 1)) && (true)) = true := hj
  obtain ⟨hdec, ho⟩ := Bool.and_eq_true_iff.mp hj0
  have hdec := of_decide_eq_true hdec
  have h' : (match (generalizing := false) st with | .int b :: .int a :: r => ¬ b = 0 ∧ K (pc + 1) ls (.int (a / b) :: r) q w | _ => False) := h
  split at h'
  · obtain ⟨hne, h'⟩ := h'
    intro fl p e s m args below meth c Z hmm C F d0 la H locs hd hlv hS hlk h1 h2
    exact lv_idiv C.1 C.2.1 hdec hne (hK _ _ _ _ _ h' fl p e s m args below meth c Z hmm C F d0 la H locs hd hlv hS hlk h1 h2)
  · exact h'.elim
theorem so_irem (hK : ∀ pc ls st q w, K pc ls st q w → Wq G M pc ls st q w Q) (hj : insOK M (pc, .irem, (x, y, z), (ci, cl), M') = true) (h : stp G M Q K (pc, .irem, (x, y, z), (ci, cl), M') ls st q w) : Wq G M pc ls st q w Q := by
  have hj0 : (decide (decode (mC M) pc = .ok (.irem, 1)) && (true)) = true := hj
  obtain ⟨hdec, ho⟩ := Bool.and_eq_true_iff.mp hj0
  have hdec := of_decide_eq_true hdec
  have h' : (match (generalizing := false) st with | .int b :: .int a :: r => ¬ b = 0 ∧ K (pc + 1) ls (.int (a - a / b * b) :: r) q w | _ => False) := h
  split at h'
  · obtain ⟨hne, h'⟩ := h'
    intro fl p e s m args below meth c Z hmm C F d0 la H locs hd hlv hS hlk h1 h2
    exact lv_irem C.1 C.2.1 hdec hne (hK _ _ _ _ _ h' fl p e s m args below meth c Z hmm C F d0 la H locs hd hlv hS hlk h1 h2)
  · exact h'.elim
theorem so_f2d (hK : ∀ pc ls st q w, K pc ls st q w → Wq G M pc ls st q w Q) (hj : insOK M (pc, .f2d, (x, y, z), (ci, cl), M') = true) (h : stp G M Q K (pc, .f2d, (x, y, z), (ci, cl), M') ls st q w) : Wq G M pc ls st q w Q := by
  have hj0 : (decide (decode (mC M) pc = .ok (.f2d, 1)) && (true)) = true := hj
  obtain ⟨hdec, ho⟩ := Bool.and_eq_true_iff.mp hj0
  have hdec := of_decide_eq_true hdec
  have h' : (match (generalizing := false) st with | .float a :: r => ∀ u : UInt64, alike64 u (FP.f2d a) = true → K (pc + 1) ls (.double u :: r) q w | _ => False) := h
  split at h'
  · intro fl p e s m args below meth c Z hmm C F d0 la H locs hd hlv hS hlk h1 h2
    exact lv_f2d_any hd lw_bits C.1 C.2.1 hdec (fun u d1 hal hd1 => hK _ _ _ _ _ (h' u hal) fl p e s m args below meth c Z hmm C F d1 la H locs hd1 hlv hS hlk h1 h2)
  · exact h'.elim
theorem so_dadd (hK : ∀ pc ls st q w, K pc ls st q w → Wq G M pc ls st q w Q) (hj : insOK M (pc, .dadd, (x, y, z), (ci, cl), M') = true) (h : stp G M Q K (pc, .dadd, (x, y, z), (ci, cl), M') ls st q w) : Wq G M pc ls st q w Q := by
  have hj0 : (decide (decode (mC M) pc = .ok (.dadd, 1)) && (true)) = true := hj
  obtain ⟨hdec, ho⟩ := Bool.and_eq_true_iff.mp hj0
  have hdec := of_decide_eq_true hdec
  have h' : (match (generalizing := false) st with | .double b :: .double a :: r => ∀ u : UInt64, alike64 u (FP.dadd a b) = true → K (pc + 1) ls (.double u :: r) q w | _ => False) := h
  split at h'
  · intro fl p e s m args below meth c Z hmm C F d0 la H locs hd hlv hS hlk h1 h2
    exact lv_dadd_any hd lw_bits C.1 C.2.1 hdec (fun u d1 hal hd1 => hK _ _ _ _ _ (h' u hal) fl p e s m args below meth c Z hmm C F d1 la H locs hd1 hlv hS hlk h1 h2)
  · exact h'.elim
theorem so_dup (hK : ∀ pc ls st q w, K pc ls st q w → Wq G M pc ls st q w Q) (hj : insOK M (pc, .dup, (x, y, z), (ci, cl), M') = true) (h : stp G M Q K (pc, .dup, (x, y, z), (ci, cl), M') ls st q w) : Wq G M pc ls st q w Q := by
  have hj0 : (decide (decode (mC M) pc = .ok (.dup, 1)) && (true)) = true := hj
  obtain ⟨hdec, ho⟩ := Bool.and_eq_true_iff.mp hj0
  have hdec := of_decide_eq_true hdec
  have h' : (match (generalizing := false) st with | v :: r => bif wide v then False else K (pc + 1) ls (v :: v :: r) q w | _ => False) := h
  split at h'
  · rename_i v r
    cases hw : wide v with
    | true => simp only [hw, cond_true] at h'
    | false =>
      simp only [hw, cond_false] at h'
      intro fl p e s m args below meth c Z hmm C F d0 la H locs hd hlv hS hlk h1 h2
      exact lv_dup C.1 C.2.1 hdec (by rw [rv_cat]; rcases lv_cat v with hc | hc; exact hc; exact absurd ((wide_cat _).mp hc) (by rw [hw]; decide)) (hK _ _ _ _ _ h' fl p e s m args below meth c Z hmm C F d0 la H locs hd hlv hS hlk h1 h2)
  · exact h'.elim
theorem so_dup2 (hK : ∀ pc ls st q w, K pc ls st q w → Wq G M pc ls st q w Q) (hj : insOK M (pc, .dup2, (x, y, z), (ci, cl), M') = true) (h : stp G M Q K (pc, .dup2, (x, y, z), (ci, cl), M') ls st q w) : Wq G M pc ls st q w Q := by
  have hj0 : (decide (decode (mC M) pc = .ok (.dup2, 1)) && (true)) = true := hj
  obtain ⟨hdec, ho⟩ := Bool.and_eq_true_iff.mp hj0
  have hdec := of_decide_eq_true hdec
  have h' : (match (generalizing := false) st with | v :: r => bif wide v then K (pc + 1) ls (v :: v :: r) q w else (match (generalizing := false) r with | u :: r2 => bif wide u then False else K (pc + 1) ls (v :: u :: v :: u :: r2) q w | _ => False) | _ => False) := h
  split at h'
  · rename_i v r
    cases hw : wide v with
    | true =>
      simp only [hw, cond_true] at h'
      intro fl p e s m args below meth c Z hmm C F d0 la H locs hd hlv hS hlk h1 h2
      exact lv_dup2_2 C.1 C.2.1 hdec (by rw [rv_cat]; exact (wide_cat v).mpr hw) (hK _ _ _ _ _ h' fl p e s m args below meth c Z hmm C F d0 la H locs hd hlv hS hlk h1 h2)
    | false =>
      simp only [hw, cond_false] at h'
      split at h'
      · rename_i u r2
        cases hu : wide u with
        | true => simp only [hu, cond_true] at h'
        | false =>
          simp only [hu, cond_false] at h'
          intro fl p e s m args below meth c Z hmm C F d0 la H locs hd hlv hS hlk h1 h2
          exact lv_dup2_11 C.1 C.2.1 hdec (by rw [rv_cat]; rcases lv_cat v with hc | hc; exact hc; exact absurd ((wide_cat _).mp hc) (by rw [hw]; decide)) (by rw [rv_cat]; rcases lv_cat u with hc | hc; exact hc; exact absurd ((wide_cat _).mp hc) (by rw [hu]; decide)) (hK _ _ _ _ _ h' fl p e s m args below meth c Z hmm C F d0 la H locs hd hlv hS hlk h1 h2)
      · exact h'.elim
  · exact h'.elim
theorem so_ifCond_eq {o : Int} (hK : ∀ pc ls st q w, K pc ls st q w → Wq G M pc ls st q w Q) (hj : insOK M (pc, .ifCond .eq o, (x, y, z), (ci, cl), M') = true) (h : stp G M Q K (pc, .ifCond .eq o, (x, y, z), (ci, cl), M') ls st q w) : Wq G M pc ls st q w Q := by
  have hj0 : (decide (decode (mC M) pc = .ok (.ifCond .eq o, 3)) && (decide ((pc : Int) + o = (y : Int)))) = true := hj
  obtain ⟨hdec, ho⟩ := Bool.and_eq_true_iff.mp hj0
  have hdec := of_decide_eq_true hdec
  have h' : (match (generalizing := false) st with | .int a :: r => (a = 0 → K y ls r q w) ∧ (¬ (a = 0) → K (pc + 3) ls r q w) | _ => False) := h
  split at h'
  · intro fl p e s m args below meth c Z hmm C F d0 la H locs hd hlv hS hlk h1 h2
    exact lv_if_eq C.1 C.2.1 hdec (of_decide_eq_true ho) (fun cc => (hK _ _ _ _ _ (h'.1 cc) fl p e s m args below meth c Z hmm C F d0 la H locs hd hlv hS hlk h1 h2)) (fun cc => (hK _ _ _ _ _ (h'.2 cc) fl p e s m args below meth c Z hmm C F d0 la H locs hd hlv hS hlk h1 h2))
  · exact h'.elim
theorem so_if_icmp_eq {o : Int} (hK : ∀ pc ls st q w, K pc ls st q w → Wq G M pc ls st q w Q) (hj : insOK M (pc, .if_icmp .eq o, (x, y, z), (ci, cl), M') = true) (h : stp G M Q K (pc, .if_icmp .eq o, (x, y, z), (ci, cl), M') ls st q w) : Wq G M pc ls st q w Q := by
  have hj0 : (decide (decode (mC M) pc = .ok (.if_icmp .eq o, 3)) && (decide ((pc : Int) + o = (y : Int)))) = true := hj
  obtain ⟨hdec, ho⟩ := Bool.and_eq_true_iff.mp hj0
  have hdec := of_decide_eq_true hdec
  have h' : (match (generalizing := false) st with | .int b :: .int a :: r => (a = b → K y ls r q w) ∧ (¬ (a = b) → K (pc + 3) ls r q w) | _ => False) := h
  split at h'
  · intro fl p e s m args below meth c Z hmm C F d0 la H locs hd hlv hS hlk h1 h2
    exact lv_icmp_eq C.1 C.2.1 hdec (of_decide_eq_true ho) (fun cc => (hK _ _ _ _ _ (h'.1 cc) fl p e s m args below meth c Z hmm C F d0 la H locs hd hlv hS hlk h1 h2)) (fun cc => (hK _ _ _ _ _ (h'.2 cc) fl p e s m args below meth c Z hmm C F d0 la H locs hd hlv hS hlk h1 h2))
  · exact h'.elim
theorem so_ifCond_ne {o : Int} (hK : ∀ pc ls st q w, K pc ls st q w → Wq G M pc ls st q w Q) (hj : insOK M (pc, .ifCond .ne o, (x, y, z), (ci, cl), M') = true) (h : stp G M Q K (pc, .ifCond .ne o, (x, y, z), (ci, cl), M') ls st q w) : Wq G M pc ls st q w Q := by
  have hj0 : (decide (decode (mC M) pc = .ok (.ifCond .ne o, 3)) && (decide ((pc : Int) + o = (y : Int)))) = true := hj
  obtain ⟨hdec, ho⟩ := Bool.and_eq_true_iff.mp hj0
  have hdec := of_decide_eq_true hdec
  have h' : (match (generalizing := false) st with | .int a :: r => (¬ a = 0 → K y ls r q w) ∧ (a = 0 → K (pc + 3) ls r q w) | _ => False) := h
  split at h'
  · intro fl p e s m args below meth c Z hmm C F d0 la H locs hd hlv hS hlk h1 h2
    exact lv_if_ne C.1 C.2.1 hdec (of_decide_eq_true ho) (fun cc => (hK _ _ _ _ _ (h'.1 cc) fl p e s m args below meth c Z hmm C F d0 la H locs hd hlv hS hlk h1 h2)) (fun cc => (hK _ _ _ _ _ (h'.2 cc) fl p e s m args below meth c Z hmm C F d0 la H locs hd hlv hS hlk h1 h2))
  · exact h'.elim
theorem so_if_icmp_ne {o : Int} (hK : ∀ pc ls st q w, K pc ls st q w → Wq G M pc ls st q w Q) (hj : insOK M (pc, .if_icmp .ne o, (x, y, z), (ci, cl), M') = true) (h : stp G M Q K (pc, .if_icmp .ne o, (x, y, z), (ci, cl), M') ls st q w) : Wq G M pc ls st q w Q := by
  have hj0 : (decide (decode (mC M) pc = .ok (.if_icmp .ne o, 3)) && (decide ((pc : Int) + o = (y : Int)))) = true := hj
  obtain ⟨hdec, ho⟩ := Bool.and_eq_true_iff.mp hj0
  have hdec := of_decide_eq_true hdec
  have h' : (match (generalizing := false) st with | .int b :: .int a :: r => (¬ a = b → K y ls r q w) ∧ (a = b → K (pc + 3) ls r q w) | _ => False) := h
  split at h'
  · intro fl p e s m args below meth c Z hmm C F d0 la H locs hd hlv hS hlk h1 h2
    exact lv_icmp_ne C.1 C.2.1 hdec (of_decide_eq_true ho) (fun cc => (hK _ _ _ _ _ (h'.1 cc) fl p e s m args below meth c Z hmm C F d0 la H locs hd hlv hS hlk h1 h2)) (fun cc => (hK _ _ _ _ _ (h'.2 cc) fl p e s m args below meth c Z hmm C F d0 la H locs hd hlv hS hlk h1 h2))
  · exact h'.elim
theorem so_ifCond_lt {o : Int} (hK : ∀ pc ls st q w, K pc ls st q w → Wq G M pc ls st q w Q) (hj : insOK M (pc, .ifCond .lt o, (x, y, z), (ci, cl), M') = true) (h : stp G M Q K (pc, .ifCond .lt o, (x, y, z), (ci, cl), M') ls st q w) : Wq G M pc ls st q w Q := by
  have hj0 : (decide (decode (mC M) pc = .ok (.ifCond .lt o, 3)) && (decide ((pc : Int) + o = (y : Int)))) = true := hj
  obtain ⟨hdec, ho⟩ := Bool.and_eq_true_iff.mp hj0
  have hdec := of_decide_eq_true hdec
  have h' : (match (generalizing := false) st with | .int a :: r => (a < 0 → K y ls r q w) ∧ (¬ (a < 0) → K (pc + 3) ls r q w) | _ => False) := h
  split at h'
  · intro fl p e s m args below meth c Z hmm C F d0 la H locs hd hlv hS hlk h1 h2
    exact lv_if_lt C.1 C.2.1 hdec (of_decide_eq_true ho) (fun cc => (hK _ _ _ _ _ (h'.1 cc) fl p e s m args below meth c Z hmm C F d0 la H locs hd hlv hS hlk h1 h2)) (fun cc => (hK _ _ _ _ _ (h'.2 cc) fl p e s m args below meth c Z hmm C F d0 la H locs hd hlv hS hlk h1 h2))
  · exact h'.elim
theorem so_if_icmp_lt {o : Int} (hK : ∀ pc ls st q w, K pc ls st q w → Wq G M pc ls st q w Q) (hj : insOK M (pc, .if_icmp .lt o, (x, y, z), (ci, cl), M') = true) (h : stp G M Q K (pc, .if_icmp .lt o, (x, y, z), (ci, cl), M') ls st q w) : Wq G M pc ls st q w Q := by
  have hj0 : (decide (decode (mC M) pc = .ok (.if_icmp .lt o, 3)) && (decide ((pc : Int) + o = (y : Int)))) = true := hj
  obtain ⟨hdec, ho⟩ := Bool.and_eq_true_iff.mp hj0
  have hdec := of_decide_eq_true hdec
  have h' : (match (generalizing := false) st with | .int b :: .int a :: r => (a < b → K y ls r q w) ∧ (¬ (a < b) → K (pc + 3) ls r q w) | _ => False) := h
  split at h'
  · intro fl p e s m args below meth c Z hmm C F d0 la H locs hd hlv hS hlk h1 h2
    exact lv_icmp_lt C.1 C.2.1 hdec (of_decide_eq_true ho) (fun cc => (hK _ _ _ _ _ (h'.1 cc) fl p e s m args below meth c Z hmm C F d0 la H locs hd hlv hS hlk h1 h2)) (fun cc => (hK _ _ _ _ _ (h'.2 cc) fl p e s m args below meth c Z hmm C F d0 la H locs hd hlv hS hlk h1 h2))
  · exact h'.elim
theorem so_ifCond_ge {o : Int} (hK : ∀ pc ls st q w, K pc ls st q w → Wq G M pc ls st q w Q) (hj : insOK M (pc, .ifCond .ge o, (x, y, z), (ci, cl), M') = true) (h : stp G M Q K (pc, .ifCond .ge o, (x, y, z), (ci, cl), M') ls st q w) : Wq G M pc ls st q w Q := by
  have hj0 : (decide (decode (mC M) pc = .ok (.ifCond .ge o, 3)) && (decide ((pc : Int) + o = (y : Int)))) = true := hj
  obtain ⟨hdec, ho⟩ := Bool.and_eq_true_iff.mp hj0
  have hdec := of_decide_eq_true hdec
  have h' : (match (generalizing := false) st with | .int a :: r => (0 ≤ a → K y ls r q w) ∧ (¬ (0 ≤ a) → K (pc + 3) ls r q w) | _ => False) := h
  split at h'
  · intro fl p e s m args below meth c Z hmm C F d0 la H locs hd hlv hS hlk h1 h2
    exact lv_if_ge C.1 C.2.1 hdec (of_decide_eq_true ho) (fun cc => (hK _ _ _ _ _ (h'.1 cc) fl p e s m args below meth c Z hmm C F d0 la H locs hd hlv hS hlk h1 h2)) (fun cc => (hK _ _ _ _ _ (h'.2 cc) fl p e s m args below meth c Z hmm C F d0 la H locs hd hlv hS hlk h1 h2))
  · exact h'.elim
theorem so_if_icmp_ge {o : Int} (hK : ∀ pc ls st q w, K pc ls st q w → Wq G M pc ls st q w Q) (hj : insOK M (pc, .if_icmp .ge o, (x, y, z), (ci, cl), M') = true) (h : stp G M Q K (pc, .if_icmp .ge o, (x, y, z), (ci, cl), M') ls st q w) : Wq G M pc ls st q w Q := by
  have hj0 : (decide (decode (mC M) pc = .ok (.if_icmp .ge o, 3)) && (decide ((pc : Int) + o = (y : Int)))) = true := hj
  obtain ⟨hdec, ho⟩ := Bool.and_eq_true_iff.mp hj0
  have hdec := of_decide_eq_true hdec
  have h' : (match (generalizing := false) st with | .int b :: .int a :: r => (b ≤ a → K y ls r q w) ∧ (¬ (b ≤ a) → K (pc + 3) ls r q w) | _ => False) := h
  split at h'
  · intro fl p e s m args below meth c Z hmm C F d0 la H locs hd hlv hS hlk h1 h2
    exact lv_icmp_ge C.1 C.2.1 hdec (of_decide_eq_true ho) (fun cc => (hK _ _ _ _ _ (h'.1 cc) fl p e s m args below meth c Z hmm C F d0 la H locs hd hlv hS hlk h1 h2)) (fun cc => (hK _ _ _ _ _ (h'.2 cc) fl p e s m args below meth c Z hmm C F d0 la H locs hd hlv hS hlk h1 h2))
  · exact h'.elim
theorem so_ifCond_gt {o : Int} (hK : ∀ pc ls st q w, K pc ls st q w → Wq G M pc ls st q w Q) (hj : insOK M (pc, .ifCond .gt o, (x, y, z), (ci, cl), M') = true) (h : stp G M Q K (pc, .ifCond .gt o, (x, y, z), (ci, cl), M') ls st q w) : Wq G M pc ls st q w Q := by
  have hj0 : (decide (decode (mC M) pc = .ok (.ifCond .gt o, 3)) && (decide ((pc : Int) + o = (y : Int)))) = true := hj
  obtain ⟨hdec, ho⟩ := Bool.and_eq_true_iff.mp hj0
  have hdec := of_decide_eq_true hdec
  have h' : (match (generalizing := false) st with | .int a :: r => (0 < a → K y ls r q w) ∧ (¬ (0 < a) → K (pc + 3) ls r q w) | _ => False) := h
  split at h'
  · intro fl p e s m args below meth c Z hmm C F d0 la H locs hd hlv hS hlk h1 h2
    exact lv_if_gt C.1 C.2.1 hdec (of_decide_eq_true ho) (fun cc => (hK _ _ _ _ _ (h'.1 cc) fl p e s m args below meth c Z hmm C F d0 la H locs hd hlv hS hlk h1 h2)) (fun cc => (hK _ _ _ _ _ (h'.2 cc) fl p e s m args below meth c Z hmm C F d0 la H locs hd hlv hS hlk h1 h2))
  · exact h'.elim
theorem so_if_icmp_gt {o : Int} (hK : ∀ pc ls st q w, K pc ls st q w → Wq G M pc ls st q w Q) (hj : insOK M (pc, .if_icmp .gt o, (x, y, z), (ci, cl), M') = true) (h : stp G M Q K (pc, .if_icmp .gt o, (x, y, z), (ci, cl), M') ls st q w) : Wq G M pc ls st q w Q := by
  have hj0 : (decide (decode (mC M) pc = .ok (.if_icmp .gt o, 3)) && (decide ((pc : Int) + o = (y : Int)))) = true := hj
  obtain ⟨hdec, ho⟩ := Bool.and_eq_true_iff.mp hj0
  have hdec := of_decide_eq_true hdec
  have h' : (match (generalizing := false) st with | .int b :: .int a :: r => (b < a → K y ls r q w) ∧ (¬ (b < a) → K (pc + 3) ls r q w) | _ => False) := h
  split at h'
  · intro fl p e s m args below meth c Z hmm C F d0 la H locs hd hlv hS hlk h1 h2
    exact lv_icmp_gt C.1 C.2.1 hdec (of_decide_eq_true ho) (fun cc => (hK _ _ _ _ _ (h'.1 cc) fl p e s m args below meth c Z hmm C F d0 la H locs hd hlv hS hlk h1 h2)) (fun cc => (hK _ _ _ _ _ (h'.2 cc) fl p e s m args below meth c Z hmm C F d0 la H locs hd hlv hS hlk h1 h2))
  · exact h'.elim
theorem so_ifCond_le {o : Int} (hK : ∀ pc ls st q w, K pc ls st q w → Wq G M pc ls st q w Q) (hj : insOK M (pc, .ifCond .le o, (x, y, z), (ci, cl), M') = true) (h : stp G M Q K (pc, .ifCond .le o, (x, y, z), (ci, cl), M') ls st q w) : Wq G M pc ls st q w Q := by
  have hj0 : (decide (decode (mC M) pc = .ok (.ifCond .le o, 3)) && (decide ((pc : Int) + o = (y : Int)))) = true := hj
  obtain ⟨hdec, ho⟩ := Bool.and_eq_true_iff.mp hj0
  have hdec := of_decide_eq_true hdec
  have h' : (match (generalizing := false) st with | .int a :: r => (a ≤ 0 → K y ls r q w) ∧ (¬ (a ≤ 0) → K (pc + 3) ls r q w) | _ => False) := h
  split at h'
  · intro fl p e s m args below meth c Z hmm C F d0 la H locs hd hlv hS hlk h1 h2
    exact lv_if_le C.1 C.2.1 hdec (of_decide_eq_true ho) (fun cc => (hK _ _ _ _ _ (h'.1 cc) fl p e s m args below meth c Z hmm C F d0 la H locs hd hlv hS hlk h1 h2)) (fun cc => (hK _ _ _ _ _ (h'.2 cc) fl p e s m args below meth c Z hmm C F d0 la H locs hd hlv hS hlk h1 h2))
  · exact h'.elim
theorem so_if_icmp_le {o : Int} (hK : ∀ pc ls st q w, K pc ls st q w → Wq G M pc ls st q w Q) (hj : insOK M (pc, .if_icmp .le o, (x, y, z), (ci, cl), M') = true) (h : stp G M Q K (pc, .if_icmp .le o, (x, y, z), (ci, cl), M') ls st q w) : Wq G M pc ls st q w Q := by
  have hj0 : (decide (decode (mC M) pc = .ok (.if_icmp .le o, 3)) && (decide ((pc : Int) + o = (y : Int)))) = true := hj
  obtain ⟨hdec, ho⟩ := Bool.and_eq_true_iff.mp hj0
  have hdec := of_decide_eq_true hdec
  have h' : (match (generalizing := false) st with | .int b :: .int a :: r => (a ≤ b → K y ls r q w) ∧ (¬ (a ≤ b) → K (pc + 3) ls r q w) | _ => False) := h
  split at h'
  · intro fl p e s m args below meth c Z hmm C F d0 la H locs hd hlv hS hlk h1 h2
    exact lv_icmp_le C.1 C.2.1 hdec (of_decide_eq_true ho) (fun cc => (hK _ _ _ _ _ (h'.1 cc) fl p e s m args below meth c Z hmm C F d0 la H locs hd hlv hS hlk h1 h2)) (fun cc => (hK _ _ _ _ _ (h'.2 cc) fl p e s m args below meth c Z hmm C F d0 la H locs hd hlv hS hlk h1 h2))
  · exact h'.elim
theorem so_if_acmp_eq {o : Int} (hK : ∀ pc ls st q w, K pc ls st q w → Wq G M pc ls st q w Q) (hj : insOK M (pc, .if_acmp .eq o, (x, y, z), (ci, cl), M') = true) (h : stp G M Q K (pc, .if_acmp .eq o, (x, y, z), (ci, cl), M') ls st q w) : Wq G M pc ls st q w Q := by
  have hj0 : (decide (decode (mC M) pc = .ok (.if_acmp .eq o, 3)) && (decide ((pc : Int) + o = (y : Int)))) = true := hj
  obtain ⟨hdec, ho⟩ := Bool.and_eq_true_iff.mp hj0
  have hdec := of_decide_eq_true hdec
  have h' : (match (generalizing := false) st with | .ref b :: .ref a :: r => (2 ≤ a ∧ 2 ≤ b) ∧ (a = b → K y ls r q w) ∧ (¬ a = b → K (pc + 3) ls r q w) | _ => False) := h
  split at h'
  · rename_i b a r
    intro fl p e s m args below meth c Z hmm C F d0 la H locs hd hlv hS hlk h1 h2
    exact lv_acmp_eq (rx := some (loc G a)) (ry := some (loc G b)) C.1 C.2.1 hdec (of_decide_eq_true ho) (fun cc => (hK _ _ _ _ _ (h'.2.1 (loc_inj h'.1.1 h'.1.2 (Option.some.inj cc))) fl p e s m args below meth c Z hmm C F d0 la H locs hd hlv hS hlk h1 h2)) (fun cc => (hK _ _ _ _ _ (h'.2.2 (fun z => cc (by rw [z]))) fl p e s m args below meth c Z hmm C F d0 la H locs hd hlv hS hlk h1 h2))
  · exact h'.elim
theorem so_if_acmp_ne {o : Int} (hK : ∀ pc ls st q w, K pc ls st q w → Wq G M pc ls st q w Q) (hj : insOK M (pc, .if_acmp .ne o, (x, y, z), (ci, cl), M') = true) (h : stp G M Q K (pc, .if_acmp .ne o, (x, y, z), (ci, cl), M') ls st q w) : Wq G M pc ls st q w Q := by
  have hj0 : (decide (decode (mC M) pc = .ok (.if_acmp .ne o, 3)) && (decide ((pc : Int) + o = (y : Int)))) = true := hj
  obtain ⟨hdec, ho⟩ := Bool.and_eq_true_iff.mp hj0
  have hdec := of_decide_eq_true hdec
  have h' : (match (generalizing := false) st with | .ref b :: .ref a :: r => (2 ≤ a ∧ 2 ≤ b) ∧ (¬ a = b → K y ls r q w) ∧ (a = b → K (pc + 3) ls r q w) | _ => False) := h
  split at h'
  · rename_i b a r
    intro fl p e s m args below meth c Z hmm C F d0 la H locs hd hlv hS hlk h1 h2
    exact lv_acmp_ne (rx := some (loc G a)) (ry := some (loc G b)) C.1 C.2.1 hdec (of_decide_eq_true ho) (fun cc => (hK _ _ _ _ _ (h'.2.1 (fun z => cc (by rw [z]))) fl p e s m args below meth c Z hmm C F d0 la H locs hd hlv hS hlk h1 h2)) (fun cc => (hK _ _ _ _ _ (h'.2.2 (loc_inj h'.1.1 h'.1.2 (Option.some.inj cc))) fl p e s m args below meth c Z hmm C F d0 la H locs hd hlv hS hlk h1 h2))
  · exact h'.elim
theorem so_ifnull {o : Int} (hK : ∀ pc ls st q w, K pc ls st q w → Wq G M pc ls st q w Q) (hj : insOK M (pc, .ifnull o, (x, y, z), (ci, cl), M') = true) (h : stp G M Q K (pc, .ifnull o, (x, y, z), (ci, cl), M') ls st q w) : Wq G M pc ls st q w Q := by
  have hj0 : (decide (decode (mC M) pc = .ok (.ifnull o, 3)) && (decide ((pc : Int) + o = (y : Int)))) = true := hj
  obtain ⟨hdec, ho⟩ := Bool.and_eq_true_iff.mp hj0
  have hdec := of_decide_eq_true hdec
  have h' : (match (generalizing := false) st with | .ref _ :: r => K (pc + 3) ls r q w | .null :: r => K y ls r q w | _ => False) := h
  split at h'
  · intro fl p e s m args below meth c Z hmm C F d0 la H locs hd hlv hS hlk h1 h2
    exact lv_ifnull C.1 C.2.1 hdec (hK _ _ _ _ _ h' fl p e s m args below meth c Z hmm C F d0 la H locs hd hlv hS hlk h1 h2)
  · intro fl p e s m args below meth c Z hmm C F d0 la H locs hd hlv hS hlk h1 h2
    exact lv_ifnullN C.1 C.2.1 hdec (of_decide_eq_true ho) (hK _ _ _ _ _ h' fl p e s m args below meth c Z hmm C F d0 la H locs hd hlv hS hlk h1 h2)
  · exact h'.elim
theorem so_ifnonnull {o : Int} (hK : ∀ pc ls st q w, K pc ls st q w → Wq G M pc ls st q w Q) (hj : insOK M (pc, .ifnonnull o, (x, y, z), (ci, cl), M') = true) (h : stp G M Q K (pc, .ifnonnull o, (x, y, z), (ci, cl), M') ls st q w) : Wq G M pc ls st q w Q := by
  have hj0 : (decide (decode (mC M) pc = .ok (.ifnonnull o, 3)) && (decide ((pc : Int) + o = (y : Int)))) = true := hj
  obtain ⟨hdec, ho⟩ := Bool.and_eq_true_iff.mp hj0
  have hdec := of_decide_eq_true hdec
  have h' : (match (generalizing := false) st with | .ref _ :: r => K y ls r q w | .null :: r => K (pc + 3) ls r q w | _ => False) := h
  split at h'
  · intro fl p e s m args below meth c Z hmm C F d0 la H locs hd hlv hS hlk h1 h2
    exact lv_ifnonnull C.1 C.2.1 hdec (of_decide_eq_true ho) (hK _ _ _ _ _ h' fl p e s m args below meth c Z hmm C F d0 la H locs hd hlv hS hlk h1 h2)
  · intro fl p e s m args below meth c Z hmm C F d0 la H locs hd hlv hS hlk h1 h2
    exact lv_ifnonnullN C.1 C.2.1 hdec (hK _ _ _ _ _ h' fl p e s m args below meth c Z hmm C F d0 la H locs hd hlv hS hlk h1 h2)
  · exact h'.elim
theorem so_goto {o : Int} (hK : ∀ pc ls st q w, K pc ls st q w → Wq G M pc ls st q w Q) (hj : insOK M (pc, .goto o, (x, y, z), (ci, cl), M') = true) (h : stp G M Q K (pc, .goto o, (x, y, z), (ci, cl), M') ls st q w) : Wq G M pc ls st q w Q := by
  have hj0 : (decide (decode (mC M) pc = .ok (.goto o, 3)) && (decide ((pc : Int) + o = (y : Int)))) = true := hj
  obtain ⟨hdec, ho⟩ := Bool.and_eq_true_iff.mp hj0
  have hdec := of_decide_eq_true hdec
  have h' : K y ls st q w := h
  intro fl p e s m args below meth c Z hmm C F d0 la H locs hd hlv hS hlk h1 h2
  exact lv_goto C.1 C.2.1 hdec (of_decide_eq_true ho) (hK _ _ _ _ _ h' fl p e s m args below meth c Z hmm C F d0 la H locs hd hlv hS hlk h1 h2)
theorem so_getstatic {n : Nat} (hK : ∀ pc ls st q w, K pc ls st q w → Wq G M pc ls st q w Q) (hj : insOK M (pc, .getstatic n, (x, y, z), (ci, cl), M') = true) (h : stp G M Q K (pc, .getstatic n, (x, y, z), (ci, cl), M') ls st q w) : Wq G M pc ls st q w Q := by
  have hj0 : (decide (decode (mC M) pc = .ok (.getstatic n, 3)) && (lkW z (.fieldLink (mY M).cls n RX2 "WIDER" "[I"))) = true := hj
  obtain ⟨hdec, ho⟩ := Bool.and_eq_true_iff.mp hj0
  have hdec := of_decide_eq_true hdec
  have h' : K (pc + 3) ls (.ref 1 :: st) q w := h
  intro fl p e s m args below meth c Z hmm C F d0 la H locs hd hlv hS hlk h1 h2
  have hown : (s.setDrawn d0).vm.findClass (mY M).cls = some m.cls := C.2.2.2.1
  obtain ⟨cf, kf, fi, f, a, cell, g1, g2, g3, g4, g5, g6, g7, g8⟩ := C.2.2.2.2.2.2.2.2.2.2.2.1
  exact W.gets (s := s.setDrawn d0) C.1 C.2.1 hown (dr_words C.2.2.2.2.1 d0 _ (List.mem_cons_of_mem _ (lk_of ho rfl))) g1 g2 g3 g4 (by rw [hS.2.1 a (Array.getElem?_eq_some_iff.mp g5).1]; exact g5) (fun e => by rw [e] at g6; cases g6) g7 rfl hdec (hK _ _ _ _ _ h' fl p e s m args below meth c Z hmm C F d0 la H locs hd hlv hS hlk h1 h2)
theorem so_ireturn (hK : ∀ pc ls st q w, K pc ls st q w → Wq G M pc ls st q w Q) (hj : insOK M (pc, .ireturn, (x, y, z), (ci, cl), M') = true) (h : stp G M Q K (pc, .ireturn, (x, y, z), (ci, cl), M') ls st q w) : Wq G M pc ls st q w Q := by
  have hj0 : (decide (decode (mC M) pc = .ok (.ireturn, 1)) && (true)) = true := hj
  obtain ⟨hdec, ho⟩ := Bool.and_eq_true_iff.mp hj0
  have hdec := of_decide_eq_true hdec
  have h' : (match (generalizing := false) st with | [.int v] => (match (generalizing := false) mT M with | some .int => Q (some (.int v)) w | some .boolean => v &&& 1 = v ∧ Q (some (.int v)) w | _ => False) | _ => False) := h
  split at h'
  · rename_i v
    split at h'
    · rename_i ht
      intro fl p e s m args below meth c Z hmm C F d0 la H locs hd hlv hS hlk h1 h2
      exact F d0 H locs q w _ pc la hd hS hlk h1 h2 h' (Or.inr (Or.inl ⟨v, rfl, hdec, Or.inl ht⟩))
    · rename_i ht
      intro fl p e s m args below meth c Z hmm C F d0 la H locs hd hlv hS hlk h1 h2
      exact F d0 H locs q w _ pc la hd hS hlk h1 h2 h'.2 (Or.inr (Or.inl ⟨v, rfl, hdec, Or.inr ⟨ht, h'.1⟩⟩))
    · exact h'.elim
  · exact h'.elim
theorem so_lreturn (hK : ∀ pc ls st q w, K pc ls st q w → Wq G M pc ls st q w Q) (hj : insOK M (pc, .lreturn, (x, y, z), (ci, cl), M') = true) (h : stp G M Q K (pc, .lreturn, (x, y, z), (ci, cl), M') ls st q w) : Wq G M pc ls st q w Q := by
  have hj0 : (decide (decode (mC M) pc = .ok (.lreturn, 1)) && (true)) = true := hj
  obtain ⟨hdec, ho⟩ := Bool.and_eq_true_iff.mp hj0
  have hdec := of_decide_eq_true hdec
  have h' : (match (generalizing := false) st with | [.long v] => (match (generalizing := false) mT M with | some .long => Q (some (.long v)) w | _ => False) | _ => False) := h
  split at h'
  · rename_i v
    split at h'
    · rename_i ht
      intro fl p e s m args below meth c Z hmm C F d0 la H locs hd hlv hS hlk h1 h2
      exact F d0 H locs q w _ pc la hd hS hlk h1 h2 h' (Or.inr (Or.inr (Or.inl ⟨v, rfl, hdec, ht⟩)))
    · exact h'.elim
  · exact h'.elim
theorem so_dreturn (hK : ∀ pc ls st q w, K pc ls st q w → Wq G M pc ls st q w Q) (hj : insOK M (pc, .dreturn, (x, y, z), (ci, cl), M') = true) (h : stp G M Q K (pc, .dreturn, (x, y, z), (ci, cl), M') ls st q w) : Wq G M pc ls st q w Q := by
  have hj0 : (decide (decode (mC M) pc = .ok (.dreturn, 1)) && (true)) = true := hj
  obtain ⟨hdec, ho⟩ := Bool.and_eq_true_iff.mp hj0
  have hdec := of_decide_eq_true hdec
  have h' : (match (generalizing := false) st with | [.double v] => (match (generalizing := false) mT M with | some .double => Q (some (.double v)) w | _ => False) | _ => False) := h
  split at h'
  · rename_i v
    split at h'
    · rename_i ht
      intro fl p e s m args below meth c Z hmm C F d0 la H locs hd hlv hS hlk h1 h2
      exact F d0 H locs q w _ pc la hd hS hlk h1 h2 h' (Or.inr (Or.inr (Or.inr (Or.inl ⟨v, rfl, hdec, ht⟩))))
    · exact h'.elim
  · exact h'.elim
theorem so_areturn (hK : ∀ pc ls st q w, K pc ls st q w → Wq G M pc ls st q w Q) (hj : insOK M (pc, .areturn, (x, y, z), (ci, cl), M') = true) (h : stp G M Q K (pc, .areturn, (x, y, z), (ci, cl), M') ls st q w) : Wq G M pc ls st q w Q := by
  have hj0 : (decide (decode (mC M) pc = .ok (.areturn, 1)) && (true)) = true := hj
  obtain ⟨hdec, ho⟩ := Bool.and_eq_true_iff.mp hj0
  have hdec := of_decide_eq_true hdec
  have h' : (match (generalizing := false) st with | [.ref a] => (match (generalizing := false) mT M with | some (.object _) => Q (some (.ref a)) w | _ => False) | [.null] => (match (generalizing := false) mT M with | some (.object _) => Q (some .null) w | _ => False) | _ => False) := h
  split at h'
  · rename_i a
    split at h'
    · rename_i n ht
      intro fl p e s m args below meth c Z hmm C F d0 la H locs hd hlv hS hlk h1 h2
      exact F d0 H locs q w _ pc la hd hS hlk h1 h2 h' (Or.inr (Or.inr (Or.inr (Or.inr ⟨_, ht, hdec, Or.inr ⟨_, rfl⟩⟩))))
    · exact h'.elim
  · split at h'
    · rename_i n ht
      intro fl p e s m args below meth c Z hmm C F d0 la H locs hd hlv hS hlk h1 h2
      exact F d0 H locs q w _ pc la hd hS hlk h1 h2 h' (Or.inr (Or.inr (Or.inr (Or.inr ⟨_, ht, hdec, Or.inl rfl⟩))))
    · exact h'.elim
  · exact h'.elim
theorem so_return (hK : ∀ pc ls st q w, K pc ls st q w → Wq G M pc ls st q w Q) (hj : insOK M (pc, .return_, (x, y, z), (ci, cl), M') = true) (h : stp G M Q K (pc, .return_, (x, y, z), (ci, cl), M') ls st q w) : Wq G M pc ls st q w Q := by
  have hj0 : (decide (decode (mC M) pc = .ok (.return_, 1)) && (true)) = true := hj
  obtain ⟨hdec, ho⟩ := Bool.and_eq_true_iff.mp hj0
  have hdec := of_decide_eq_true hdec
  have h' : (match (generalizing := false) st with | [] => (match (generalizing := false) mT M with | none => Q none w | _ => False) | _ => False) := h
  split at h'
  · split at h'
    · rename_i ht
      intro fl p e s m args below meth c Z hmm C F d0 la H locs hd hlv hS hlk h1 h2
      exact F d0 H locs q w _ pc la hd hS hlk h1 h2 h' (Or.inl ⟨rfl, ht, hdec⟩)
    · exact h'.elim
  · exact h'.elim
end QS
