theorem c_within {X : Xt} {v lo hi : Int32} {G : Gt} {Q : Qt} (K : Q (some (.int (if lo ≤ v ∧ v ≤ hi then 1 else 0))) G) : con X m_SW_within [.int v, .int lo, .int hi] G Q := by
  refine con_rn 40 [] (by decide) rfl ?_
  constructor
  · intro h1
    trace_state
    sorry
  · sorry
