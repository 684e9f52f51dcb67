/-! set -/
def fnd (z i n : Int32) : Int32 := if z = -1 then 1 else if 0 ≤ i ∧ 0 ≤ n ∧ n ≤ z - i then 0 else 2
theorem fnd_0 {z i n : Int32} (hz : 0 ≤ z ∧ z ≤ 100) (hn : 0 ≤ n) : fnd z i n = 0 ↔ 0 ≤ i ∧ i.toInt + n.toInt ≤ z.toInt := by
  have h1 : 0 ≤ z.toInt := by simpa using le32.mp hz.1
  have h2 : z.toInt ≤ 100 := by simpa using le32.mp hz.2
  have h3 := rng i
  unfold fnd
  rw [if_neg (by rw [eq32]; simp; omega)]
  by_cases h : 0 ≤ i
  · have h4 : 0 ≤ i.toInt := by simpa using le32.mp h
    have e : (z - i).toInt = z.toInt - i.toInt := subI (by omega) (by omega)
    by_cases h5 : n ≤ z - i
    · rw [if_pos ⟨h, hn, h5⟩]
      have := le32.mp h5
      exact ⟨fun _ => ⟨h, by omega⟩, fun _ => rfl⟩
    · rw [if_neg (fun z => h5 z.2.2)]
      refine ⟨fun z => absurd z (by decide), fun q => absurd ?_ h5⟩
      rw [le32, e]
      omega
  · rw [if_neg (fun z => h z.1)]
    exact ⟨fun z => absurd z (by decide), fun q => absurd q.1 h⟩
theorem fnd_cases (z i n : Int32) : (z = -1 ∧ fnd z i n = 1) ∨ (¬ z = -1 ∧ (fnd z i n = 0 ∨ fnd z i n = 2)) := by
  unfold fnd
  by_cases h : z = -1
  · rw [if_pos h]; exact Or.inl ⟨h, rfl⟩
  · rw [if_neg h]
    refine Or.inr ⟨h, ?_⟩
    split
    · exact Or.inl rfl
    · exact Or.inr rfl
theorem c_fnd {X : Xt} {s i n : Int32} {G : Gt} {Q : Qt} (hs : 0 ≤ s ∧ s ≤ 7) (K : Q (some (.int (fnd (G 4 s.toNatClampNeg) i n))) G) : con X m_Sheets_findingAt [.ref 1, .int s, .int i, .int n] G Q := c_findingAt hs K
theorem c_SW_set {X : Xt} {s i v : Int32} {G : Gt} {Q : Qt} (hz : 0 ≤ s ∧ s ≤ 7 → ¬ G 4 s.toNatClampNeg = -1 → 0 ≤ G 4 s.toNatClampNeg ∧ G 4 s.toNatClampNeg ≤ 100) (K1 : ¬ (0 ≤ s ∧ s ≤ 7) → Q (some (.int (-1000001))) G) (K2 : 0 ≤ s ∧ s ≤ 7 → ¬ fnd (G 4 s.toNatClampNeg) i 1 = 0 → Q (some (.int (-1000010 - fnd (G 4 s.toNatClampNeg) i 1))) (sG G 0 (upd (G 0) 7 (fnd (G 4 s.toNatClampNeg) i 1)))) (K3 : 0 ≤ s ∧ s ≤ 7 → fnd (G 4 s.toNatClampNeg) i 1 = 0 → Q (some (.int (cut (G 3 s.toNatClampNeg) v))) (sG (sG G 2 (upd (G 2) (ix s i) (cut (G 3 s.toNatClampNeg) v))) 0 (upd (G 0) 7 0))) : con X m_SW_set [.ref 0, .int s, .int i, .int v] G Q := by
  have hi : 0 ≤ s ∧ s ≤ 7 → fnd (G 4 s.toNatClampNeg) i 1 = 0 → 0 ≤ i ∧ i < 100 := by
    intro h1 h2
    rcases fnd_cases (G 4 s.toNatClampNeg) i 1 with ⟨-, h3⟩ | ⟨h3, -⟩
    · rw [h3] at h2; exact absurd h2 (by decide)
    · have h4 := hz h1 h3
      have h5 := (fnd_0 h4 (by decide)).mp h2
      have h6 : (G 4 s.toNatClampNeg).toInt ≤ 100 := by simpa using le32.mp h4.2
      refine ⟨h5.1, ?_⟩
      rw [lt32]
      have := h5.2
      simp at this ⊢
      omega
  refine con_rn 60 [] (by decide) rfl ?_
  repeat' first | refine bib (fun h => ?_) (fun h => ?_) | refine bjb (fun h => ?_) (fun h => ?_) | refine bi (fun h => ?_) (fun h => ?_) | refine bj (fun h => ?_) (fun h => ?_) | refine vi (inI (by decide) (by decide)) ?_ | refine vi ?_ ?_ | refine zi (by decide) ?_ | refine zi ?_ ?_ | refine ni rfl ?_ | refine ni (bI_nar _) ?_ | refine c_isNumber ?_ | refine (c_fnd (by assumption)) ?_ | refine c_found ?_ | refine c_fine ?_
  · rename_i h1
    refine c_put h1 (hi h1 h).1 (hi h1 h).2 ?_
    refine c_fine ?_
    exact K3 h1 h
  · rename_i h1
    exact K2 h1 h
  · exact K1 h
theorem c_Mo_set {X : Xt} {s i v : Int32} {G : Gt} {Q : Qt} (h0 : G 26 0 = 0) (hz : 0 ≤ s ∧ s ≤ 7 → 0 ≤ G 27 s.toNatClampNeg → 0 ≤ G 28 s.toNatClampNeg ∧ G 28 s.toNatClampNeg ≤ 100) (K1 : ¬ (0 ≤ s ∧ s ≤ 7) → Q (some (.int (-1000001))) G) (K2 : 0 ≤ s ∧ s ≤ 7 → ¬ 0 ≤ G 27 s.toNatClampNeg → Q (some (.int (-1000011))) (sG (sG G 26 (upd (G 26) 1 0)) 26 (upd (upd (G 26) 1 0) 1 1))) (K3 : 0 ≤ s ∧ s ≤ 7 → 0 ≤ G 27 s.toNatClampNeg → ¬ fnd (G 28 s.toNatClampNeg) i 1 = 0 → Q (some (.int (-1000012))) (sG (sG G 26 (upd (G 26) 1 0)) 26 (upd (upd (G 26) 1 0) 1 2))) (K4 : 0 ≤ s ∧ s ≤ 7 → 0 ≤ G 27 s.toNatClampNeg → fnd (G 28 s.toNatClampNeg) i 1 = 0 → Q (some (.int (cut (G 27 s.toNatClampNeg) v))) (sG (sG G 26 (upd (G 26) 1 0)) 29 (upd (G 29) (ix s i) (cut (G 27 s.toNatClampNeg) v)))) : con X m_Mo_set [.ref 26, .int s, .int i, .int v] G Q := by
  have hin : 0 ≤ s ∧ s ≤ 7 → 0 ≤ G 27 s.toNatClampNeg → (0 ≤ i ∧ i ≤ G 28 s.toNatClampNeg - 1 ↔ fnd (G 28 s.toNatClampNeg) i 1 = 0) ∧ (0 ≤ i ∧ i ≤ G 28 s.toNatClampNeg - 1 → (100 * s + i).toNatClampNeg = ix s i ∧ vp_in (100 * s + i) 800) := by
    intro h1 h2
    have h4 := hz h1 h2
    have h5 : 0 ≤ (G 28 s.toNatClampNeg).toInt := by simpa using le32.mp h4.1
    have h6 : (G 28 s.toNatClampNeg).toInt ≤ 100 := by simpa using le32.mp h4.2
    have e : (G 28 s.toNatClampNeg - 1).toInt = (G 28 s.toNatClampNeg).toInt - 1 := by
      rw [subI (by simp; omega) (by simp; omega)]; simp
    refine ⟨?_, fun h3 => ?_⟩
    · rw [fnd_0 h4 (by decide), le32 (a := i), e]
      simp
      intro _
      omega
    · have h7 := le32.mp h3.2
      rw [Int32.mul_comm]
      refine ixX h1 h3.1 ?_
      rw [lt32]
      simp
      omega
  refine con_rm 100 [] (by decide) rfl (by decide +kernel) h0 ?_
  repeat' first | refine bib (fun h => ?_) (fun h => ?_) | refine bjb (fun h => ?_) (fun h => ?_) | refine bi (fun h => ?_) (fun h => ?_) | refine bj (fun h => ?_) (fun h => ?_) | refine vi (inI (by decide) (by decide)) ?_ | refine vi ?_ ?_ | refine zi (by decide) ?_ | refine zi ?_ ?_ | refine ni rfl ?_ | refine ni (bI_nar _) ?_ | refine c_isSheet ?_ | refine (c_in 0 _ rfl rfl) ?_ | refine c_Mfound ?_
  all_goals first | exact (sN (by assumption)).2 | skip
  · rename_i h1 h2 h3 h4; exact ((hin h1 h2).2 h3).2
  · rename_i h1 h2 h3 h4; exact ((hin h1 h2).2 h3).2
  · rename_i h1 h2 h3 h4
    have K := K4 h1 h2 ((hin h1 h2).1.mp h3)
    rw [cut, if_neg (show ¬ G 27 s.toNatClampNeg = 0 from h4), if_neg (show ¬ G 27 s.toNatClampNeg = 1 from h), ← ((hin h1 h2).2 h3).1] at K
    exact Qi K (if_pos rfl)
  · rename_i h1 h2 h3 h4; exact ((hin h1 h2).2 h3).2
  · rename_i h1 h2 h3 h4; exact ((hin h1 h2).2 h3).2
  · rename_i h1 h2 h3 h4
    have K := K4 h1 h2 ((hin h1 h2).1.mp h3)
    rw [cut, if_neg (show ¬ G 27 s.toNatClampNeg = 0 from h4), if_pos (show G 27 s.toNatClampNeg = 1 from h), ← ((hin h1 h2).2 h3).1] at K
    exact Qi K (if_pos rfl)
  · rename_i h1 h2 h3; exact ((hin h1 h2).2 h3).2
  · rename_i h1 h2 h3; exact ((hin h1 h2).2 h3).2
  · rename_i h1 h2 h3
    have K := K4 h1 h2 ((hin h1 h2).1.mp h3)
    rw [cut, if_pos (show G 27 s.toNatClampNeg = 0 from h), ← ((hin h1 h2).2 h3).1] at K
    exact Qi K (if_pos rfl)
  · rename_i h1 h2
    exact K3 h1 h2 (fun z => h ((hin h1 h2).1.mpr z))
  · rename_i h1
    exact K2 h1 h
  · exact K1 h
theorem p_set {X : Xt} {G : Gt} (hI : Inv G) {s i v : Int32} : pair X m_SW_set m_Mo_set [.int s, .int i, .int v] G := by
  obtain ⟨hW, hT, hS, hP, hs, h0⟩ := id hI
  have hzX : 0 ≤ s ∧ s ≤ 7 → ¬ G 4 s.toNatClampNeg = -1 → 0 ≤ G 4 s.toNatClampNeg ∧ G 4 s.toNatClampNeg ≤ 100 := by
    intro h h2
    have hh := IS_at hS (sN h).1
    exact (hh.2 (Decidable.byContradiction fun z => h2 (hh.1.mpr z))).2.2.1
  have hzM : 0 ≤ s ∧ s ≤ 7 → 0 ≤ G 27 s.toNatClampNeg → 0 ≤ G 28 s.toNatClampNeg ∧ G 28 s.toNatClampNeg ≤ 100 := by
    intro h h2
    have hh := (IS_at hS (sN h).1).2 h2
    rw [hh.1]
    exact hh.2.2.1
  refine c_SW_set hzX (fun h => pq ?_) (fun h h2 => pq ?_) (fun h h2 => pq ?_)
  · exact c_Mo_set h0 hzM (fun _ => ⟨rfl, hI⟩) (fun z => absurd z h) (fun z => absurd z h) (fun z => absurd z h)
  · have hh := IS_at hS (sN h).1
    rcases fnd_cases (G 4 s.toNatClampNeg) i 1 with ⟨h3, h4⟩ | ⟨h3, h4 | h4⟩
    · rw [h4]
      exact c_Mo_set h0 hzM (fun z => absurd h z) (fun _ _ => ⟨rfl, ⟨hW, hT, hS, hP, rfl, h0⟩⟩) (fun _ z => absurd z (hh.1.mp h3)) (fun _ z => absurd z (hh.1.mp h3))
    · exact absurd h4 h2
    · rw [h4]
      have h5 : 0 ≤ G 27 s.toNatClampNeg := Decidable.byContradiction fun z => h3 (hh.1.mpr z)
      refine c_Mo_set h0 hzM (fun z => absurd h z) (fun _ z => absurd h5 z) (fun _ _ _ => ⟨rfl, ⟨hW, hT, hS, hP, rfl, h0⟩⟩) (fun _ _ z => ?_)
      have z : fnd (G 28 s.toNatClampNeg) i 1 = 0 := z
      rw [(hh.2 h5).1] at z
      exact absurd z h2
  · have hh := IS_at hS (sN h).1
    have h3 : ¬ G 4 s.toNatClampNeg = -1 := by
      rcases fnd_cases (G 4 s.toNatClampNeg) i 1 with ⟨h3, h4⟩ | ⟨h3, -⟩
      · rw [h4] at h2; exact absurd h2 (by decide)
      · exact h3
    have h5 : 0 ≤ G 27 s.toNatClampNeg := Decidable.byContradiction fun z => h3 (hh.1.mpr z)
    obtain ⟨g1, g2, g3, g4⟩ := hh.2 h5
    refine c_Mo_set h0 hzM (fun z => absurd h z) (fun _ z => absurd h5 z) (fun _ _ z => ?_) (fun _ _ _ => ⟨?_, ⟨hW, hT, ?_, hP, rfl, h0⟩⟩)
    · have z : ¬ fnd (G 28 s.toNatClampNeg) i 1 = 0 := z
      rw [g1] at z
      exact absurd h2 z
    · show some (Value.int (cut (G 27 s.toNatClampNeg) v)) = _
      rw [g2]
    · have hi := (fnd_0 g3 (by decide)).mp h2
      obtain ⟨-, e, -⟩ := toN h.1
      have hi0 : 0 ≤ i.toInt := by simpa using le32.mp hi.1
      have h6 : (G 4 s.toNatClampNeg).toInt ≤ 100 := by simpa using le32.mp g3.2
      have hi1 := hi.2
      simp at hi1
      have ei : ix s i = 100 * s.toNatClampNeg + i.toNatClampNeg := by
        unfold ix
        rw [e, clamp i]
        omega
      have hi8 := (sN h).1
      have ec : i.toNatClampNeg = i.toInt.toNat := rfl
      refine IS_put (s := s.toNatClampNeg) hS (Or.inr ⟨g3, ?_, g2, g1, fun k hk => ?_⟩) (fun q hq hn => ⟨rfl, rfl, rfl, rfl, fun k hk => ⟨?_, ?_⟩⟩)
      · rcases hS _ (sN h).1 with ⟨z, -⟩ | z
        · exact absurd z h3
        · exact z.2.1
      · show upd (G 2) (ix s i) _ (100 * s.toNatClampNeg + k) = upd (G 29) (ix s i) _ (100 * s.toNatClampNeg + k)
        rw [ei]
        unfold upd
        by_cases hk2 : 100 * s.toNatClampNeg + k = 100 * s.toNatClampNeg + i.toNatClampNeg
        · rw [if_pos hk2, if_pos hk2]
          show cut (G 3 _) v = cut (G 27 _) v
          rw [g2]
        · rw [if_neg hk2, if_neg hk2]
          exact g4 k hk
      · show upd (G 2) (ix s i) _ (100 * q + k) = G 2 (100 * q + k)
        exact if_neg (by rw [ei]; omega)
      · show upd (G 29) (ix s i) _ (100 * q + k) = G 29 (100 * q + k)
        exact if_neg (by rw [ei]; omega)
