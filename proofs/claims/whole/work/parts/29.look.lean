/-! the model's look at items -/
theorem lcmp_le (x y : Int64) : lg_cmp x y ≤ 0 ↔ x ≤ y := by
  rw [← Int64.not_lt, ← lcmp_gt, Int32.not_lt]
theorem add64 (i n : Int32) : (i.toInt64 + n.toInt64).toInt = i.toInt + n.toInt := by
  have h1 := rng i
  have h2 := rng n
  rw [Int64.toInt_add, Int32.toInt_toInt64, Int32.toInt_toInt64, Int.bmod_def]
  split <;> omega
theorem c_lookAt {X : Xt} {s i n : Int32} {G : Gt} {Q : Qt} (hs : 0 ≤ s ∧ s ≤ 7) (hn : 0 ≤ n) (hz : 0 ≤ G 27 s.toNatClampNeg → 0 ≤ G 28 s.toNatClampNeg ∧ G 28 s.toNatClampNeg ≤ 100) (K2 : ¬ 0 ≤ G 27 s.toNatClampNeg → Q (some (.int (-1000011))) (sG G 26 (upd (G 26) 1 1))) (K3 : 0 ≤ G 27 s.toNatClampNeg → ¬ fnd (G 28 s.toNatClampNeg) i n = 0 → Q (some (.int (-1000012))) (sG G 26 (upd (G 26) 1 2))) (K4 : 0 ≤ G 27 s.toNatClampNeg → fnd (G 28 s.toNatClampNeg) i n = 0 → Q (some (.int 0)) G) : con X m_Mo_lookAt [.ref 26, .int s, .int i, .int n] G Q := by
  have key : 0 ≤ G 27 s.toNatClampNeg → (fnd (G 28 s.toNatClampNeg) i n = 0 ↔ ¬ i < 0 ∧ lg_cmp (i.toInt64 + n.toInt64) (G 28 s.toNatClampNeg).toInt64 ≤ 0) := by
    intro h
    rw [fnd_0 (hz h) hn, lcmp_le, Int64.le_iff_toInt_le, add64, Int32.toInt_toInt64, Int32.not_lt]
  refine con_rn 60 [] (by decide) rfl ?_
  repeat' first | refine bib (fun h => ?_) (fun h => ?_) | refine bjb (fun h => ?_) (fun h => ?_) | refine bi (fun h => ?_) (fun h => ?_) | refine bj (fun h => ?_) (fun h => ?_) | refine vi (inI (by decide) (by decide)) ?_ | refine vi ?_ ?_ | refine zi (by decide) ?_ | refine zi ?_ ?_ | refine ni rfl ?_ | refine ni (bI_nar _) ?_ | refine c_Mfound ?_
  all_goals first | exact (sN hs).2 | skip
  · rename_i h1
    exact K3 h1 (fun z => ((key h1).mp z).1 h)
  · rename_i h1 h2
    exact K4 h1 ((key h1).mpr ⟨h2, h⟩)
  · rename_i h1 h2
    exact K3 h1 (fun z => h ((key h1).mp z).2)
  · exact K2 h
/-- both sides look at items: found alike, or nothing -/
theorem look_both {G : Gt} (hS : IS (G 2) (G 3) (G 4) (G 27) (G 28) (G 29)) {s : Int32} (hs : 0 ≤ s ∧ s ≤ 7) (i n : Int32) : (fnd (G 4 s.toNatClampNeg) i n = 1 ∧ ¬ 0 ≤ G 27 s.toNatClampNeg) ∨ (fnd (G 4 s.toNatClampNeg) i n = 2 ∧ 0 ≤ G 27 s.toNatClampNeg ∧ G 28 s.toNatClampNeg = G 4 s.toNatClampNeg) ∨ (fnd (G 4 s.toNatClampNeg) i n = 0 ∧ 0 ≤ G 27 s.toNatClampNeg ∧ G 28 s.toNatClampNeg = G 4 s.toNatClampNeg ∧ (0 ≤ G 4 s.toNatClampNeg ∧ G 4 s.toNatClampNeg ≤ 100) ∧ ∀ k : Nat, (k : Int) < (G 4 s.toNatClampNeg).toInt → G 2 (100 * s.toNatClampNeg + k) = G 29 (100 * s.toNatClampNeg + k)) := by
  have hh := IS_at hS (sN hs).1
  rcases fnd_cases (G 4 s.toNatClampNeg) i n with ⟨h3, h4⟩ | ⟨h3, h4⟩
  · exact Or.inl ⟨h4, hh.1.mp h3⟩
  · have h5 : 0 ≤ G 27 s.toNatClampNeg := Decidable.byContradiction fun z => h3 (hh.1.mpr z)
    obtain ⟨g1, g2, g3, g4⟩ := hh.2 h5
    rcases h4 with h4 | h4
    · exact Or.inr (Or.inr ⟨h4, h5, g1, g3, g4⟩)
    · exact Or.inr (Or.inl ⟨h4, h5, g1⟩)
theorem hzM {G : Gt} (hS : IS (G 2) (G 3) (G 4) (G 27) (G 28) (G 29)) {s : Int32} (h : 0 ≤ s ∧ s ≤ 7) (h2 : 0 ≤ G 27 s.toNatClampNeg) : 0 ≤ G 28 s.toNatClampNeg ∧ G 28 s.toNatClampNeg ≤ 100 := by
  have hh := (IS_at hS (sN h).1).2 h2
  rw [hh.1]
  exact hh.2.2.1
