/-! ===== the law: what holds between two calls ===== -/
def LwI (w : qSt) : Prop := ∃ A, Rep A w w ∧ Inv w ∧ qZero w ∧ gN w 4 0 = 1
theorem Wq.low {G : qGX} {M : qMH} {pc : Nat} {ls : List (Option Value)} {st : List Value} {q : Nat × Nat} {w : qSt} {Q : Option Value → qSt → Prop} (h : qLow G w → Wq G M pc ls st q w Q) : Wq G M pc ls st q w Q :=
  fun fl p e s m args below meth c Z hfl C hF d0 la H locs hd hl hS hlk h1 h2 => h hS.2.2.2.2.1 fl p e s m args below meth c Z hfl C hF d0 la H locs hd hl hS hlk h1 h2
def ST {α : Type} (w : qSt) (a : α × qSt) : Prop := ∃ v, a.2 = stt w v
section
variable {w : qSt}
theorem ST.cI {α : Type} {p : Prop} {a b : α × qSt} (h1 : ST w a) (h2 : ST w b) : ST w (cIf p a b) := by
  by_cases c : p
  · rw [cIf_t c]; exact h1
  · rw [cIf_f c]; exact h2
theorem ST.inv {α : Type} {a : α × qSt} (h : ST w a) (hi : Inv w) : Inv a.2 := by
  obtain ⟨v, e⟩ := h
  rw [e]; exact hi.st v
theorem i_erased (hi : Inv w) (t k : Int32) : Inv (S_erased w t k).2 := ST.inv (by unfold S_erased; repeat' first | exact ⟨_, rfl⟩ | refine ST.cI ?_ ?_) hi
theorem i_is (hi : Inv w) (s t : Int32) : Inv (S_is w s t).2 := ST.inv (by unfold S_is; repeat' first | exact ⟨_, rfl⟩ | refine ST.cI ?_ ?_) hi
theorem i_found (hi : Inv w) (c n : Int32) : Inv (S_found w c n).2 := ST.inv (by unfold S_found; repeat' first | exact ⟨_, rfl⟩ | refine ST.cI ?_ ?_) hi
theorem i_seen (hi : Inv w) (c n : Int32) : Inv (S_seen w c n).2 := ST.inv (by
  unfold S_seen
  refine ST.cI ⟨_, rfl⟩ ?_
  first | exact ⟨_, rfl⟩ | (cases seeN w (tn c) n <;> exact ⟨_, rfl⟩)) hi
theorem i_kind (hi : Inv w) (x k : Int32) : Inv (S_kind w x k).2 := ST.inv (by unfold S_kind; repeat' first | exact ⟨_, rfl⟩ | refine ST.cI ?_ ?_) hi
theorem i_isA (hi : Inv w) (x t : Int32) : Inv (S_isA w x t).2 := ST.inv (by unfold S_isA; repeat' first | exact ⟨_, rfl⟩ | refine ST.cI ?_ ?_) hi
theorem i_read (hi : Inv w) (x i : Int32) : Inv (S_read w x i).2 := ST.inv (by unfold S_read; repeat' first | exact ⟨_, rfl⟩ | refine ST.cI ?_ ?_) hi
theorem i_readAs (hi : Inv w) (x i l : Int32) : Inv (S_readAs w x i l).2 := ST.inv (by unfold S_readAs; repeat' first | exact ⟨_, rfl⟩ | refine ST.cI ?_ ?_) hi
theorem i_cell (hi : Inv w) (k i : Int32) : Inv (S_cell w k i).2 := ST.inv (by unfold S_cell; repeat' first | exact ⟨_, rfl⟩ | refine ST.cI ?_ ?_) hi
theorem i_sum (hi : Inv w) (k : Int32) : Inv (S_sum w k).2 := ST.inv (by unfold S_sum; repeat' first | exact ⟨_, rfl⟩ | refine ST.cI ?_ ?_) hi
theorem i_digest (hi : Inv w) : Inv (S_digest w).2 := ST.inv ⟨_, rfl⟩ hi
theorem inv_V6 (hi : Inv w) : ∀ h x, h < nH w → ¬ noX w x → (rdR w h x).1 = 0 → (rdR w h x).2.1 = 6 → vn_sni2f (rdR w h x).2.2.1.toInt32 = false :=
  fun h x a b c d => kp6_ok (hi.1.vrd h x a b c 6 (by omega) d)
theorem LwI.of {α : Type} {A : qA} {a b : α × qSt} {w1 w2 : qSt} (h4 : gN w 4 0 = 1) (hF : Fin A a.2 w w1) (hq : RQ w1 a b) (hS : Sc b.2 w2) (hi : Inv a.2) : LwI w2 := by
  obtain ⟨b1, b2, b3, b4⟩ := both hF hq hS
  exact ⟨A, b1, b3.inv hi, b2, b4.trans h4⟩
theorem v_in {G : qGX} {i k : Nat} (lo : qLow G w) (hi : i + 7 ≤ (xS G).2.1) (hL : (xS G).2.1 ≤ 448) (hk : k < 7) : vp_in (nI i + nI k) (gN w 1 0) := by
  rw [lo.2.2.2.1, nI_add]
  exact in_nI (by omega) (by omega)
theorem v_in0 {G : qGX} {i : Nat} (lo : qLow G w) (hi : i + 7 ≤ (xS G).2.1) (hL : (xS G).2.1 ≤ 448) : vp_in (nI i) (gN w 1 0) := by
  rw [lo.2.2.2.1]
  exact in_nI (by omega) (by omega)
end
