/-! trial -/
theorem c12_fail {G : qGX} {w : qSt} {v : Int32} {Q : Option Value → qSt → Prop} (h : Q (some (.int v)) (sI w 12 0 0 v)) : Con G M12_fail [.ref 79, .int v] w Q := by
  refine Con.go hw12_fail ok12_fail 20 [] rfl ?_
  exact h
theorem c12_in {G : qGX} {w : qSt} {v a b : Int64} {Q : Option Value → qSt → Prop} (h : Q (some (.int (if a ≤ v ∧ v ≤ b then 1 else 0))) w) : Con G M12_in [.long v, .long a, .long b] w Q := by
  refine Con.go hw12_in ok12_in 20 [] rfl ?_
  refine And.intro (fun c1 => ?_) (fun c1 => ?_)
  · trace_state
    sorry
  · sorry
