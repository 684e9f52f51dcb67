/-! the calls of the sheets, pair by pair -/
theorem sN {s : Int32} (h : 0 ≤ s ∧ s ≤ 7) : s.toNatClampNeg < 8 ∧ vp_in s 8 := by
  have h1 : 0 ≤ s.toInt := by simpa using le32.mp h.1
  have h2 : s.toInt ≤ 7 := by simpa using le32.mp h.2
  exact ⟨by rw [clamp]; omega, inI h1 (by omega)⟩
theorem c_SW_drop {X : Xt} {s : Int32} {G : Gt} {Q : Qt} (K1 : ¬ (0 ≤ s ∧ s ≤ 7) → Q (some (.int (-1000001))) G) (K2 : 0 ≤ s ∧ s ≤ 7 → G 4 s.toNatClampNeg = -1 → Q (some (.int (-1000011))) (sG G 0 (upd (G 0) 7 1))) (K3 : 0 ≤ s ∧ s ≤ 7 → ¬ G 4 s.toNatClampNeg = -1 → Q (some (.int (G 4 s.toNatClampNeg))) (sG (sG G 4 (upd (G 4) s.toNatClampNeg (-1))) 0 (upd (G 0) 7 0))) : con X m_SW_drop [.ref 0, .int s] G Q := by
  refine con_rn 60 [] (by decide) rfl ?_
  repeat' first | refine bib (fun h => ?_) (fun h => ?_) | refine bjb (fun h => ?_) (fun h => ?_) | refine bi (fun h => ?_) (fun h => ?_) | refine bj (fun h => ?_) (fun h => ?_) | refine vi (inI (by decide) (by decide)) ?_ | refine vi ?_ ?_ | refine zi (by decide) ?_ | refine zi ?_ ?_ | refine ni rfl ?_ | refine ni (bI_nar _) ?_ | refine c_isNumber ?_ | refine (c_isMissing (by assumption)) ?_ | refine (c_remove (by assumption)) ?_ | refine c_found ?_ | refine c_fine ?_
  · rename_i h1; exact K3 h1 h
  · rename_i h1; exact K2 h1 h
  · exact K1 h
theorem c_Mo_drop {X : Xt} {s : Int32} {G : Gt} {Q : Qt} (h0 : G 26 0 = 0) (K1 : ¬ (0 ≤ s ∧ s ≤ 7) → Q (some (.int (-1000001))) G) (K2 : 0 ≤ s ∧ s ≤ 7 → ¬ 0 ≤ G 27 s.toNatClampNeg → Q (some (.int (-1000011))) (sG (sG G 26 (upd (G 26) 1 0)) 26 (upd (upd (G 26) 1 0) 1 1))) (K3 : 0 ≤ s ∧ s ≤ 7 → 0 ≤ G 27 s.toNatClampNeg → Q (some (.int (G 28 s.toNatClampNeg))) (sG (sG G 26 (upd (G 26) 1 0)) 27 (upd (G 27) s.toNatClampNeg (-1)))) : con X m_Mo_drop [.ref 26, .int s] G Q := by
  refine con_rm 60 [] (by decide) rfl (by decide +kernel) h0 ?_
  repeat' first | refine bib (fun h => ?_) (fun h => ?_) | refine bjb (fun h => ?_) (fun h => ?_) | refine bi (fun h => ?_) (fun h => ?_) | refine bj (fun h => ?_) (fun h => ?_) | refine vi (inI (by decide) (by decide)) ?_ | refine vi ?_ ?_ | refine zi (by decide) ?_ | refine zi ?_ ?_ | refine ni rfl ?_ | refine ni (bI_nar _) ?_ | refine c_isSheet ?_ | refine c_Mfound ?_
  all_goals first | exact (sN (by assumption)).2 | skip
  · rename_i h1; exact K3 h1 h
  · rename_i h1; exact K2 h1 h
  · exact K1 h
theorem IS_at {it ln sz ln' mn' it' : Nat → Int32} {s : Nat} (h : IS it ln sz ln' mn' it') (hs : s < 8) : (sz s = -1 ↔ ¬ 0 ≤ ln' s) ∧ (0 ≤ ln' s → mn' s = sz s ∧ ln' s = ln s ∧ (0 ≤ sz s ∧ sz s ≤ 100) ∧ ∀ k : Nat, (k : Int) < (sz s).toInt → it (100 * s + k) = it' (100 * s + k)) := by
  rcases h s hs with ⟨h1, h2⟩ | ⟨h1, h2, h3, h4, h5⟩
  · rw [h2]
    exact ⟨⟨fun _ => by decide, fun _ => h1⟩, fun z => absurd z (by decide)⟩
  · refine ⟨⟨fun z => ?_, fun z => absurd (h3 ▸ h2.1) z⟩, fun _ => ⟨h4, h3, h1, h5⟩⟩
    rw [z] at h1
    exact absurd h1.1 (by decide)
theorem p_drop {X : Xt} {G : Gt} (hI : Inv G) {s : Int32} : pair X m_SW_drop m_Mo_drop [.int s] G := by
  obtain ⟨hW, hT, hS, hP, hs, h0⟩ := id hI
  refine c_SW_drop (fun h => pq ?_) (fun h h2 => pq ?_) (fun h h2 => pq ?_)
  · exact c_Mo_drop h0 (fun _ => ⟨rfl, hI⟩) (fun z => absurd z h) (fun z => absurd z h)
  · have hh := IS_at hS (sN h).1
    exact c_Mo_drop h0 (fun z => absurd h z) (fun _ _ => ⟨rfl, ⟨hW, hT, hS, hP, rfl, h0⟩⟩) (fun _ z => absurd z (hh.1.mp h2))
  · have hh := IS_at hS (sN h).1
    refine c_Mo_drop h0 (fun z => absurd h z) (fun _ z => absurd (hh.1.mpr z) h2) (fun _ z => ⟨?_, ⟨hW, hT, ?_, hP, rfl, h0⟩⟩)
    · show some (Value.int (G 28 _)) = _
      rw [(hh.2 z).1]
    · intro q hq
      by_cases e : q = s.toNatClampNeg
      · left
        subst e
        exact ⟨if_pos rfl, if_pos rfl⟩
      · show ((upd (G 4) _ _) q = -1 ∧ (upd (G 27) _ _) q = -1) ∨ _
        have e1 : upd (G 4) s.toNatClampNeg (-1) q = G 4 q := if_neg e
        have e2 : upd (G 27) s.toNatClampNeg (-1) q = G 27 q := if_neg e
        show ((upd (G 4) _ _) q = -1 ∧ (upd (G 27) _ _) q = -1) ∨ ((0 ≤ (upd (G 4) s.toNatClampNeg (-1)) q ∧ (upd (G 4) s.toNatClampNeg (-1)) q ≤ 100) ∧ (0 ≤ G 3 q ∧ G 3 q ≤ 2) ∧ (upd (G 27) s.toNatClampNeg (-1)) q = G 3 q ∧ G 28 q = (upd (G 4) s.toNatClampNeg (-1)) q ∧ ∀ k : Nat, (k : Int) < ((upd (G 4) s.toNatClampNeg (-1)) q).toInt → G 2 (100 * q + k) = G 29 (100 * q + k))
        rw [e1, e2]
        exact hS q hq
