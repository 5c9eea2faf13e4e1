/-! ===== members told; handles ===== -/
def hasM (m : qSt) (c : Nat) (name : Int32) : Prop := (∃ d ∈ abvs m c, ¬ mby m d name 0 = -1) ∨ ∃ f, FOf m c f ∧ ¬ mby m f name 0 = -1
noncomputable def laneV (t : Int32) : Int64 := cIf (isL t) 0 (-1)
noncomputable def sFld (w : qSt) (c : Nat) (n t s : Int32) : qSt := sJ (sI (sI (sAdd w c n 1) 40 10 (10 * c + nM w c) t) 40 11 (10 * c + nM w c) s) 40 14 (10 * c + nM w c) (laneV t)
noncomputable def S_field (w : qSt) (c n t s : Int32) : Int32 × qSt :=
  cIf (c = 8 ∨ ¬ isC w c ∨ ¬ isN n ∨ ¬ isT w t) (-1, stt w (-1)) (cIf (nM w (tn c) = 10) (-2, stt w (-2))
    (cIf (ma w 4 (tn c) ≠ 0 ∨ ¬ mby w (tn c) n 1 = -1 ∨ (ma w 0 (sqN w (tn t)) = 3 ∧ ¬ ma w 1 (sqN w (tn t)) = c)) (-3, stt w (-3))
      (nI (nM w (tn c)), stt (sFld w (tn c) n t s) 0)))
def sMet (w : qSt) (t : Nat) (n b a : Int32) : qSt := sI (sI (sAdd w t n 0) 40 12 (10 * t + nM w t) b) 40 13 (10 * t + nM w t) a
def badM (w : qSt) (t n b a : Int32) : Prop := t = 8 ∨ (¬ isC w t ∧ ¬ isF w t) ∨ ¬ isN n ∨ ¬ (0 ≤ b.toInt ∧ b.toInt ≤ 5) ∨ ((b = 3 ∨ b = 5) ∧ ¬ isN a)
def noM (w : qSt) (t : Nat) (n b a : Int32) : Prop := (ma w 4 t ≠ 0 ∨ ¬ mby w t n 0 = -1 ∨ (ma w 0 t = 2 ∧ (b = 1 ∨ b = 2))) ∨ (ma w 0 t = 1 ∧ ma w 3 t = 0 ∧ b = 0) ∨ (b = 1 ∧ ¬ ∃ j, a = nI j ∧ j < nM w t ∧ ¬ ma w 8 (10 * t + j) = 0)
noncomputable def S_method (w : qSt) (t n b a : Int32) : Int32 × qSt :=
  cIf (badM w t n b a) (-1, stt w (-1)) (cIf (nM w (tn t) = 10) (-2, stt w (-2)) (cIf (noM w (tn t) n b a) (-3, stt w (-3)) (nI (nM w (tn t)), stt (sMet w (tn t) n b a) 0)))
def sHdl (w : qSt) (c me at_ : Int32) : qSt := sI (sI (sI (sI w 40 24 (nH w) c) 40 25 (nH w) me) 40 26 (nH w) at_) 12 29 0 (nI (nH w + 1))
noncomputable def S_handle (w : qSt) (c n me : Int32) : Int32 × qSt :=
  cIf (¬ isC w c ∨ ¬ isN n) (-1, stt w (-1)) (cIf (nH w = 40) (-2, stt w (-2))
    (cIf (me = 0) (match seeN w (tn c) n with | none => (-17, stt w (-17)) | some a => (nI (nH w), stt (sHdl w c me (nI a)) 0))
      (cIf (hasM w (tn c) n) (nI (nH w), stt (sHdl w c me n) 0) (-17, stt w (-17)))))
theorem see_lt {m : qSt} (hI : TInv m) {c : Nat} (hc : c < nT m) (hs : ma m 0 c = 1) {name : Int32} {a : Nat} (h : seeN m c name = some a) : ∃ d j, a = 10 * d + j ∧ d ∈ abvs m c ∧ d < nT m ∧ 9 ≤ d ∧ j < nM m d ∧ j < 10 ∧ ma m 8 a = 1 ∧ ma m 0 d = 1 := by
  have h100 := hI.le
  obtain ⟨d, hd, j, hj, e, ea, e8, e9⟩ := fsF_in h
  obtain ⟨d1, d2, d3⟩ := abvs_in hI c hc hs d hd
  obtain ⟨b1, b2, b3, b4⟩ := hI.mbs (i := d) (by omega)
  rw [tn_nI (by omega)] at ea
  subst ea
  exact ⟨d, j, rfl, hd, by omega, (b3 (by omega)).1, hj, by omega, e8, d3⟩
section
variable {G : qGX} {w : qSt} {Q : Option Value → qSt → Prop}
theorem c12_seen {c n : Int32} (hI : TInv w) (h : ∀ w', Sc (S_seen w c n).2 w' → Q (some (.int (S_seen w c n).1)) w') : Con G M12_seen [.ref 79, .int c, .int n] w Q := by
  have h100 := hI.le
  unfold S_seen at h
  have bad : (¬ isC w c ∨ ¬ isN n) → Wq G M12_seen 15 [some (.ref 79), some (.int c), some (.int n), none] [] (0, 0) w Q := by
    intro hb
    rw [cIf_t hb] at h
    exact Wq.go ok12_seen 20 [] (c12_fail (h _ Sc.rf))
  refine Con.go hw12_seen ok12_seen 40 [15] rfl ?_
  refine c12_isClass hI.ty (And.intro (fun c1 => ?_) (fun c1 => ?_))
  · rw [bI_0] at c1
    exact bad (Or.inl c1)
  · rw [bI_n0] at c1
    refine c12_isName (And.intro (fun c2 => ?_) (fun c2 => ?_))
    · rw [bI_n0] at c2
      rw [cIf_f (fun q => q.elim (fun q => q c1) (fun q => q c2))] at h
      obtain ⟨j, rfl, hj, hs⟩ := c1
      rw [tn_nI (by omega)] at h
      refine c12_see hI hj hs ?_
      cases e : seeN w j n with
      | none =>
        rw [e] at h
        refine And.intro (fun (q : (0 : Int32) ≤ -17) => absurd q (by decide)) (fun _ => ?_)
        exact c12_fail (h _ Sc.rf)
      | some a =>
        rw [e] at h
        obtain ⟨d, i, ea, -, hd, -, -, hi, -⟩ := see_lt hI hj hs e
        refine And.intro (fun _ => ?_) (fun (q : ¬ (0 : Int32) ≤ nI a) => absurd (by rw [i32_le, nI_t (by omega)]; exact Int.natCast_nonneg _) q)
        exact c12_toldBy (by omega) (c12_good (h _ Sc.rf))
    · rw [bI_0] at c2
      exact bad (Or.inr c2)
theorem c12_found {c n : Int32} (hI : TInv w) (h : ∀ w', Sc (S_found w c n).2 w' → Q (some (.int (S_found w c n).1)) w') : Con G M12_found [.ref 79, .int c, .int n] w Q := by
  have h100 := hI.le
  unfold S_found at h
  have bad : (¬ isC w c ∨ ¬ isN n) → Wq G M12_found 15 [some (.ref 79), some (.int c), some (.int n), none] [] (0, 0) w Q := by
    intro hb
    rw [cIf_t hb] at h
    exact Wq.go ok12_found 20 [] (c12_fail (h _ Sc.rf))
  refine Con.go hw12_found ok12_found 40 [15] rfl ?_
  refine c12_isClass hI.ty (And.intro (fun c1 => ?_) (fun c1 => ?_))
  · rw [bI_0] at c1
    exact bad (Or.inl c1)
  · rw [bI_n0] at c1
    refine c12_isName (And.intro (fun c2 => ?_) (fun c2 => ?_))
    · rw [bI_n0] at c2
      rw [cIf_f (fun q => q.elim (fun q => q c1) (fun q => q c2))] at h
      obtain ⟨j, rfl, hj, hs⟩ := c1
      rw [tn_nI (by omega)] at h
      refine c12_find hI hj hs (fun w1 hS => ?_)
      have neg : ∀ v, fdN w j n = v → v < 0 → Q (some (.int v)) (stt w1 v) := by
        intro v hv hlt
        rw [cIf_t (by rw [hv]; exact hlt), hv] at h
        exact h _ (hS.I2 rfl)
      rcases fd_cases hI hj hs n with e | e | ⟨d, i, e, hd, hi, -⟩
      · rw [e]
        refine And.intro (fun (q : (0 : Int32) ≤ -17) => absurd q (by decide)) (fun _ => ?_)
        exact c12_fail (neg _ e (by decide))
      · rw [e]
        refine And.intro (fun (q : (0 : Int32) ≤ -19) => absurd q (by decide)) (fun _ => ?_)
        exact c12_fail (neg _ e (by decide))
      · have := (hI.mbs (i := d) (by omega)).2.1
        rw [cIf_f (by rw [e]; exact nI_pos (by omega)), e, tn_nI (by omega)] at h
        rw [e]
        refine And.intro (fun _ => ?_) (fun (q : ¬ (0 : Int32) ≤ nI _) => absurd (by rw [i32_le, nI_t (by omega)]; exact Int.natCast_nonneg _) q)
        exact c12_toldBy (by omega) (c12_good (h _ (hS.I2 rfl)))
    · rw [bI_0] at c2
      exact bad (Or.inr c2)
theorem c12_hasMethod {c : Nat} {name : Int32} (hI : TInv w) (hc : c < nT w) (hs : ma w 0 c = 1) (h : ∀ w', Sc w w' → Q (some (.int (bI (hasM w c name)))) w') : Con G M12_hasMethod [.ref 79, .int (nI c), .int name] w Q := by
  have h100 := hI.le
  have faces : ∀ (r k : Nat) (w1 : qSt) (n : Nat) (l : Nat → Nat) (p : Prop), k + r = n → Sf w w1 → LI w1 n l → (∀ f, f < 100 → (Lst w1 f ↔ FOf w c f)) → (p ↔ ((∃ d ∈ abvs w c, ¬ mby w d name 0 = -1) ∨ ∃ i, i < k ∧ ¬ mby w (l i) name 0 = -1)) → Wq G M12_hasMethod 51 [some (.ref 79), some (.int (nI c)), some (.int name), some (.int (bI p)), some (.int (nI k))] [] (0, 0) w1 Q := by
    intro r
    induction r with
    | zero =>
      intro k w1 n l p hk hS hLI hset hp
      have eT : nT w1 = nT w := hS.c nT (fun _ => rfl)
      have hn := hLI.le (by omega)
      have e18 : mi w1 18 = nI n := hLI.1
      refine Wq.go ok12_hasMethod 20 [] ?_
      refine And.intro (fun _ => ?_) (fun (q : ¬ mi w1 18 ≤ nI k) => absurd (by rw [e18]; exact nI_le (by omega) (by omega)) q)
      refine And.intro (bI_and _) ?_
      rw [show bI p = bI (hasM w c name) from bI_c ?_]
      · exact h w1 hS.toSc
      · rw [hp]
        refine or_congr_right ⟨fun ⟨i, hi, q⟩ => ⟨l i, ?_, q⟩, fun ⟨f, hf, q⟩ => ?_⟩
        · obtain ⟨l1, l2, l3, l4⟩ := hLI.2.1 i (by omega)
          exact (hset (l i) (by omega)).mp l4
        · have hfin := hf.in_ hI hc
          rcases hLI.2.2.2 f (by omega) with z | ⟨z, i, hi, e⟩
          · have := (hset f (by omega)).mpr hf
            rw [show ma w1 16 f = 1 from this] at z
            exact absurd z (by decide)
          · exact ⟨i, by omega, by rw [e]; exact q⟩
    | succ r ih =>
      intro k w1 n l p hk hS hLI hset hp
      have eT : nT w1 = nT w := hS.c nT (fun _ => rfl)
      have hn := hLI.le (by omega)
      have e18 : mi w1 18 = nI n := hLI.1
      have hI1 : TInv w1 := (hS.c TInv (fun _ => rfl)).mpr hI
      have emb : mby w1 = mby w := hS.toSc.te.emb
      obtain ⟨l1, l2, l3, l4⟩ := hLI.2.1 k (by omega)
      have hink : vp_in (nI k) 100 := in_nI (by omega) (by decide)
      have ek : (nI k).toNatClampNeg = k := nI_clamp (by omega)
      have put : ∀ (v : Int32) (p' : Prop), v = bI p' → (p' ↔ (p ∨ ¬ mby w (l k) name 0 = -1)) → Wq G M12_hasMethod 85 [some (.ref 79), some (.int (nI c)), some (.int name), some (.int (bI p)), some (.int (nI k))] [.int v] (0, 0) w1 Q := by
        intro v p' hv hp'
        rw [hv]
        refine Wq.go ok12_hasMethod 20 [51] ?_
        show Wq G M12_hasMethod 51 [some (.ref 79), some (.int (nI c)), some (.int name), some (.int (bI p')), some (.int (nI k + 1))] [] (0, 0) w1 Q
        rw [nI_1]
        refine ih (k + 1) w1 n l p' (by omega) hS hLI hset ?_
        rw [hp', hp, or_assoc]
        refine or_congr_right ⟨fun q => q.elim (fun ⟨i, hi, q⟩ => ⟨i, by omega, q⟩) (fun q => ⟨k, by omega, q⟩), fun ⟨i, hi, q⟩ => ?_⟩
        by_cases ei : i = k
        · rw [ei] at q; exact Or.inr q
        · exact Or.inl ⟨i, by omega, q⟩
      refine Wq.go ok12_hasMethod 40 [85] ?_
      refine And.intro (fun (q : mi w1 18 ≤ nI k) => ?_) (fun _ => And.intro (fun c5 => ?_) (fun c5 => And.intro hink ?_))
      · rw [e18, nI_leI (by omega) (by omega)] at q; omega
      · rw [bI_n0] at c5
        exact put 1 True (bI_t trivial).symm ⟨fun _ => Or.inl c5, fun _ => trivial⟩
      · rw [bI_0] at c5
        show Con G M12_memberBy [.ref 79, .int (ma w1 15 (nI k).toNatClampNeg), .int name, .int 0] w1 _
        rw [ek, l1]
        refine c12_memberBy hI1 (by omega) ?_
        rw [emb]
        rcases mby_cases w (l k) name 0 with e | ⟨j, hj, e, -, -⟩
        · rw [e]
          refine And.intro (fun _ => ?_) (fun q => absurd (by decide) q)
          exact put 0 False (bI_f id).symm ⟨False.elim, fun q => q.elim c5 (fun q => q e)⟩
        · have hj10 := (hI.mbs (i := l k) (by omega)).2.1
          rw [e]
          refine And.intro (fun q => absurd q (nI_pos (by omega))) (fun _ => ?_)
          refine put 1 True (bI_t trivial).symm ⟨fun _ => Or.inr ?_, fun _ => trivial⟩
          rw [e]; exact fun q => absurd (congrArg Int32.toInt q) (by rw [nI_t (by omega)]; show ¬ (j : Int) = -1; omega)
  have key : ∀ (N d : Nat) (p : Prop), d < N → d < nT w → ma w 0 d = 1 → ((p ∨ ∃ e ∈ abvs w d, ¬ mby w e name 0 = -1) ↔ ∃ e ∈ abvs w c, ¬ mby w e name 0 = -1) → Wq G M12_hasMethod 5 [some (.ref 79), some (.int (nI c)), some (.int name), some (.int (bI p)), some (.int (nI d))] [] (0, 0) w Q := by
    intro N
    induction N with
    | zero => intro d p h0; omega
    | succ N ih =>
      intro d p hN hd hsd hp
      have hin : vp_in (nI d) 100 := in_nI (by omega) (by decide)
      have e2 : (nI d).toNatClampNeg = d := nI_clamp (by omega)
      have put : ∀ (v : Int32) (p' : Prop), v = bI p' → (p' ↔ (p ∨ ¬ mby w d name 0 = -1)) → Wq G M12_hasMethod 30 [some (.ref 79), some (.int (nI c)), some (.int name), some (.int (bI p)), some (.int (nI d))] [.int v] (0, 0) w Q := by
        intro v p' hv hp'
        rw [hv]
        refine Wq.go ok12_hasMethod 20 [5] ?_
        refine And.intro hin ?_
        show Wq G M12_hasMethod 5 [some (.ref 79), some (.int (nI c)), some (.int name), some (.int (bI p')), some (.int (ma w 1 (nI d).toNatClampNeg))] [] (0, 0) w Q
        rw [e2]
        by_cases h8 : d = 8
        · subst h8
          rw [hI.2.2.2.1]
          refine Wq.go ok12_hasMethod 30 [51] ?_
          refine And.intro (fun _ => ?_) (fun q => absurd (by decide) q)
          refine c12_facesOf hI hc (fun w1 n l hS hL hset => ?_)
          refine faces n 0 w1 n l p' (Nat.zero_add _) hS hL hset ?_
          rw [← hp, hp', abvs_8]
          constructor
          · rintro (q | q)
            · exact Or.inl (Or.inl q)
            · exact Or.inl (Or.inr ⟨8, List.mem_cons_self, q⟩)
          · rintro ((q | ⟨e, he, q⟩) | ⟨i, hi, _⟩)
            · exact Or.inl q
            · rw [List.mem_singleton] at he; rw [he] at q; exact Or.inr q
            · exact absurd hi (by omega)
        · obtain ⟨u1, u2, u3, u4⟩ := hI.up hd hsd h8
          rw [u1]
          refine ih _ p' (by omega) (by omega) u4 ?_
          rw [← hp, hp', abvs_c hI hd hsd h8, or_assoc]
          refine or_congr_right ⟨fun q => ?_, fun ⟨e, he, q⟩ => ?_⟩
          · rcases q with q | ⟨e, he, q⟩
            · exact ⟨d, List.mem_cons_self, q⟩
            · exact ⟨e, List.mem_cons_of_mem _ he, q⟩
          · rcases List.mem_cons.mp he with z | z
            · rw [z] at q; exact Or.inl q
            · exact Or.inr ⟨e, z, q⟩
      refine Wq.go ok12_hasMethod 30 [30] ?_
      refine And.intro (fun q => absurd q (nI_pos (by omega))) (fun _ => And.intro (fun c5 => ?_) (fun c5 => ?_))
      · rw [bI_n0] at c5
        exact put 1 True (bI_t trivial).symm ⟨fun _ => Or.inl c5, fun _ => trivial⟩
      · rw [bI_0] at c5
        refine c12_memberBy hI (by omega) ?_
        rcases mby_cases w d name 0 with e | ⟨j, hj, e, -, -⟩
        · rw [e]
          refine And.intro (fun _ => ?_) (fun q => absurd (by decide) q)
          exact put 0 False (bI_f id).symm ⟨False.elim, fun q => q.elim c5 (fun q => q e)⟩
        · have hj10 := (hI.mbs (i := d) (by omega)).2.1
          rw [e]
          refine And.intro (fun q => absurd q (nI_pos (by omega))) (fun _ => ?_)
          refine put 1 True (bI_t trivial).symm ⟨fun _ => Or.inr ?_, fun _ => trivial⟩
          rw [e]; exact fun q => absurd (congrArg Int32.toInt q) (by rw [nI_t (by omega)]; show ¬ (j : Int) = -1; omega)
  refine Con.go hw12_hasMethod ok12_hasMethod 30 [5] rfl ?_
  have := key (c + 1) c False (by omega) hc hs ⟨fun q => q.elim False.elim id, Or.inr⟩
  rw [bI_f id] at this
  exact this
theorem c12_handle {c n me : Int32} (hI : TInv w) (hH : mi w 29 = nI (nH w)) (hH2 : nH w ≤ 40) (hme : me &&& 1 = me) (h : ∀ w', Sc (S_handle w c n me).2 w' → Q (some (.int (S_handle w c n me).1)) w') : Con G M12_handle [.ref 79, .int c, .int n, .int me] w Q := by
  have h100 := hI.le
  unfold S_handle at h
  have bad : (¬ isC w c ∨ ¬ isN n) → Wq G M12_handle 15 [some (.ref 79), some (.int c), some (.int n), some (.int me), none] [] (0, 0) w Q := by
    intro hb
    rw [cIf_t hb] at h
    exact Wq.go ok12_handle 20 [] (c12_fail (h _ Sc.rf))
  refine Con.go hw12_handle ok12_handle 40 [15, 21] rfl ?_
  refine c12_isClass hI.ty (And.intro (fun c1 => ?_) (fun c1 => ?_))
  · rw [bI_0] at c1
    exact bad (Or.inl c1)
  · rw [bI_n0] at c1
    refine c12_isName (And.intro (fun c2 => ?_) (fun c2 => ?_))
    · rw [bI_n0] at c2
      rw [cIf_f (fun q => q.elim (fun q => q c1) (fun q => q c2))] at h
      refine Wq.go ok12_handle 40 [71, 78] ?_
      refine And.intro (fun (c3 : ¬ mi w 29 = 40) => ?_) (fun (c3 : mi w 29 = 40) => ?_) <;> rw [hH, c_40, nI_eqI (by omega) (by omega)] at c3
      · rw [cIf_f c3] at h
        have lack : ∀ w1 x, Sc w w1 → (∀ w', Sc (stt w (-17)) w' → Q (some (.int (-17))) w') → Wq G M12_handle 71 [some (.ref 79), some (.int c), some (.int n), some (.int me), some (.int x)] [] (0, 0) w1 Q := by
          intro w1 x hS hq
          exact Wq.go ok12_handle 20 [] (c12_fail (hq _ (hS.I2 rfl)))
        have fin : ∀ w1 x, Sc w w1 → (∀ w', Sc (stt (sHdl w c me x) 0) w' → Q (some (.int (nI (nH w)))) w') → Wq G M12_handle 78 [some (.ref 79), some (.int c), some (.int n), some (.int me), some (.int x)] [] (0, 0) w1 Q := by
          intro w1 x hS hq
          have e29 : mi w1 29 = nI (nH w) := (hS.c (fun w => mi w 29) (fun _ => rfl)).trans hH
          have hin : vp_in (mi w1 29) 40 := by rw [e29]; exact in_nI (by omega) (by decide)
          refine Wq.go ok12_handle 40 [] ?_
          refine And.intro hin (And.intro hme (And.intro hin (And.intro hin (c12_good ?_))))
          show Q (some (.int (mi w1 29 + 1 - 1))) (sI (sI (sI (sI (sI w1 40 24 (mi w1 29).toNatClampNeg c) 40 25 (mi w1 29).toNatClampNeg me) 40 26 (mi w1 29).toNatClampNeg x) 12 29 0 (mi w1 29 + 1)) 12 0 0 0)
          rw [e29, nI_clamp (by omega), nI_1, nI_pred]
          exact hq _ (((((hS.I2 rfl).I2 rfl).I2 rfl).I2 rfl).I2 rfl)
        obtain ⟨j, rfl, hj, hs⟩ := c1
        rw [tn_nI (by omega)] at h
        refine And.intro (fun c4 => ?_) (fun c4 => ?_)
        · rw [cIf_t c4] at h
          subst c4
          refine c12_see hI hj hs ?_
          cases e : seeN w j n with
          | none =>
            rw [e] at h
            refine And.intro (fun _ => ?_) (fun (q : ¬ (-17 : Int32) < 0) => absurd (by decide) q)
            exact lack w _ Sc.rf h
          | some a =>
            rw [e] at h
            obtain ⟨d, i, ea, -, hd, -, -, hi, -⟩ := see_lt hI hj hs e
            refine And.intro (fun q => absurd q (nI_pos (by omega))) (fun _ => And.intro (fun _ => ?_) (fun q => absurd rfl q))
            exact fin w _ Sc.rf h
        · rw [cIf_f c4] at h
          obtain ⟨i, rfl, hi⟩ := c2
          refine And.intro (fun q => absurd q (nI_pos (by omega))) (fun _ => And.intro (fun q => absurd q c4) (fun _ => ?_))
          refine c12_hasMethod hI hj hs (fun w1 hS => And.intro (fun c5 => ?_) (fun c5 => ?_))
          · rw [bI_n0] at c5
            rw [cIf_t c5] at h
            exact fin w1 _ hS h
          · rw [bI_0] at c5
            rw [cIf_f c5] at h
            exact lack w1 _ hS h
      · rw [cIf_t c3] at h
        exact c12_fail (h _ Sc.rf)
    · rw [bI_0] at c2
      exact bad (Or.inr c2)
end
