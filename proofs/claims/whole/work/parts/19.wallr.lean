/-! ask, told, volume -/
theorem c_Mo_ask {X : Xt} {k a ly : Int32} {ms w : Nat → Int32} {G : Gt} {Q : Qt} (h0 : G 26 0 = 0) (e1 : G 26 6 = ly) (e2 : G 30 = ms) (e3 : G 32 = w) (hl : lyOK ly) (K1 : ¬ ((0 ≤ k ∧ k ≤ ly - 1) ∧ 0 ≤ a ∧ a ≤ 1) → Q (some (.int (-1000001))) G) (K2 : (0 ≤ k ∧ k ≤ ly - 1) ∧ 0 ≤ a ∧ a ≤ 1 → Q (some (.int (aV (kS ly (ms 4) w k) (G 31 k.toNatClampNeg) (w k.toNatClampNeg) (ms 2) (decide (a = 0))))) (AM G (aT (kS ly (ms 4) w k) (decide (a = 0)) (G 42)) (aN (kS ly (ms 4) w k) (decide (a = 0))))) : con X m_Mo_ask [.ref 26, .int k, .int a] G Q := by
  subst e1
  subst e2
  subst e3
  refine con_rm 60 [] (by decide) rfl (by decide +kernel) h0 ?_
  repeat' first | refine bib (fun h => ?_) (fun h => ?_) | refine bjb (fun h => ?_) (fun h => ?_) | refine bi (fun h => ?_) (fun h => ?_) | refine bj (fun h => ?_) (fun h => ?_) | refine vi (inI (by decide) (by decide)) ?_ | refine vi ?_ ?_ | refine zi (by decide) ?_ | refine zi ?_ ?_ | refine ni rfl ?_ | refine ni (bI_nar _) ?_ | refine c_isLayer ?_ | refine (c_in 0 1 rfl rfl) ?_
  · exact K1 (fun z => h z.1)
  · rename_i h1 h2
    rw [AM_0]
    refine c_MkindOf (G := AM G (G 42) 0) hl h1 ?_
    refine c_markOf (kin hl h1) (kS_rng _ _ _ _) ?_
    have K := K2 ⟨h1, h2⟩
    rw [decide_eq_false h] at K
    exact K
  · rename_i h1 h2
    rw [AM_0]
    refine c_MkindOf (G := AM G (G 42) 0) hl h1 ?_
    refine c_worthOf (kin hl h1) (kS_rng _ _ _ _) ?_
    have K := K2 ⟨h1, h2⟩
    rw [decide_eq_true h] at K
    exact K
  · exact K1 (fun z => h z.2)
theorem aN_le (kd : Int32) (b : Bool) : aN kd b ≤ 6 := by
  unfold aN
  repeat' split
  all_goals omega
theorem p_ask {X : Xt} {G : Gt} (hI : Inv G) {k a : Int32} : pair X m_SW_ask m_Mo_ask [.int k, .int a] G := by
  obtain ⟨⟨w1, w2, w3, w4, w5, w6, w7⟩, ⟨t1, t2, t3, t4⟩, hS, hP, hs, h0⟩ := id hI
  refine c_SW_ask w5 (fun h => pq ?_) (fun h => pq ?_)
  · exact c_Mo_ask h0 w1.symm w2.symm w4.symm w5 (fun _ => ⟨rfl, hI⟩) (fun z => absurd z h)
  · refine c_Mo_ask (ly := G 5 3) (ms := G 6) (w := G 8) h0 w1.symm w2.symm w4.symm w5 (fun z => absurd h z) (fun _ => ⟨?_, ?_⟩)
    · show some (Value.int (aV _ (G 31 _) _ _ _)) = _
      rw [w3]
    · have hn := aN_le (kS (G 5 3) (G 6 4) (G 8) k) (decide (a = 0))
      refine ⟨⟨w1, w2, w3, w4, w5, w6, w7⟩, ⟨?_, rfl, ?_, ?_⟩, hS, hP, hs, h0⟩
      · show aT _ _ (G 25) = aT _ _ (G 42)
        rw [t1]
      · exact nI_pos' (by omega)
      · show nI _ ≤ nI 16
        rw [nI_leI (by omega) (by omega)]
        omega
theorem c_SW_told {X : Xt} {k a : Int32} {G : Gt} {Q : Qt} (hl : lyOK (G 5 3)) (K1 : 0 ≤ a ∧ a ≤ 4 → Q (some (.int (G 6 a.toNatClampNeg))) G) (K2 : ¬ (0 ≤ a ∧ a ≤ 4) → ¬ ((5 ≤ a ∧ a ≤ 7) ∧ 0 ≤ k ∧ k ≤ G 5 3 - 1) → Q (some (.int (-1000001))) G) (K3 : ¬ (0 ≤ a ∧ a ≤ 4) → (5 ≤ a ∧ a ≤ 7) ∧ 0 ≤ k ∧ k ≤ G 5 3 - 1 → Q (some (.int (if a = 5 then G 7 k.toNatClampNeg else if a = 6 then G 8 k.toNatClampNeg else bI (hS (G 5 3) (G 6 4) (G 8) k)))) G) : con X m_SW_told [.ref 0, .int k, .int a] G Q := by
  refine con_rn 60 [] (by decide) rfl ?_
  repeat' first | refine bib (fun h => ?_) (fun h => ?_) | refine bjb (fun h => ?_) (fun h => ?_) | refine bi (fun h => ?_) (fun h => ?_) | refine bj (fun h => ?_) (fun h => ?_) | refine vi (inI (by decide) (by decide)) ?_ | refine vi ?_ ?_ | refine zi (by decide) ?_ | refine zi ?_ ?_ | refine ni rfl ?_ | refine ni (bI_nar _) ?_ | refine c_isMeasure ?_ | refine (c_measure (by assumption)) ?_ | refine c_hasLayer ?_
  · rename_i h1
    refine ⟨fun h2 => ?_, fun h2 => ?_, fun h2 => ?_, fun h2 => ?_, trivial⟩
    · refine K2 h1 (fun z => ?_)
      ((try simp only [le32, lt32, eq32, ne_eq, cl_0, cl_1, cl_2, cl_3, cl_4, cl_5, cl_6] at *); (try simp only [Int32.reduceToInt] at *); omega)
    · have h2 : a = 5 := h2
      subst h2
      refine c_thickOf (kin hl h) ?_
      exact K3 (by decide) ⟨by decide, h⟩
    · have h2 : a = 6 := h2
      subst h2
      refine c_weightOf (kin hl h) ?_
      exact K3 (by decide) ⟨by decide, h⟩
    · have h2 : a = 7 := h2
      subst h2
      refine c_holds hl h ?_
      have K := K3 (by decide) ⟨by decide, h⟩
      refine bib (fun h3 => ?_) (fun h3 => ?_)
      · exact Qi K (bI_f h3).symm
      · exact Qi K (bI_t h3).symm
  · rename_i h1
    exact K2 h1 (fun z => h z.2)
  · exact K1 h
theorem eight {a : Int32} (h : 0 ≤ a ∧ a ≤ 7) : (a = 0 ∨ a = 1 ∨ a = 2 ∨ a = 3 ∨ a = 4) ∨ a = 5 ∨ a = 6 ∨ a = 7 := by
  have h1 : 0 ≤ a.toInt := by simpa using le32.mp h.1
  have h2 : a.toInt ≤ 7 := by simpa using le32.mp h.2
  simp only [eq32]
  simp only [Int32.reduceToInt]
  omega
theorem c_Mo_told {X : Xt} {k a ly : Int32} {ms w : Nat → Int32} {G : Gt} {Q : Qt} (h0 : G 26 0 = 0) (e1 : G 26 6 = ly) (e2 : G 30 = ms) (e3 : G 32 = w) (hl : lyOK ly) (K1 : 0 ≤ a ∧ a ≤ 4 → Q (some (.int (ms a.toNatClampNeg))) G) (K2 : ¬ (0 ≤ a ∧ a ≤ 4) → ¬ ((5 ≤ a ∧ a ≤ 7) ∧ 0 ≤ k ∧ k ≤ ly - 1) → Q (some (.int (-1000001))) G) (K3 : ¬ (0 ≤ a ∧ a ≤ 4) → (5 ≤ a ∧ a ≤ 7) ∧ 0 ≤ k ∧ k ≤ ly - 1 → Q (some (.int (if a = 5 then G 31 k.toNatClampNeg else if a = 6 then w k.toNatClampNeg else bI (hS ly (ms 4) w k)))) G) : con X m_Mo_told [.ref 26, .int k, .int a] G Q := by
  subst e1
  subst e2
  subst e3
  by_cases h7 : 0 ≤ a ∧ a ≤ 7
  · rcases eight h7 with (rfl | rfl | rfl | rfl | rfl) | rfl | rfl | rfl
    all_goals refine con_rm 60 [] (by decide) rfl (by decide +kernel) h0 ?_
    repeat' first | refine bib_t (by decide) ?_ | refine bib_f (by decide) ?_ | refine bjb_t (by decide) ?_ | refine bjb_f (by decide) ?_ | refine bi_t (by decide) ?_ | refine bi_f (by decide) ?_ | refine bj_t (by decide) ?_ | refine bj_f (by decide) ?_ | refine bib (fun h => ?_) (fun h => ?_) | refine bjb (fun h => ?_) (fun h => ?_) | refine bi (fun h => ?_) (fun h => ?_) | refine bj (fun h => ?_) (fun h => ?_) | refine vi (inI (by decide) (by decide)) ?_ | refine vi ?_ ?_ | refine zi (by decide) ?_ | refine zi ?_ ?_ | refine ni rfl ?_ | refine ni (bI_nar _) ?_ | refine (c_in 0 7 rfl rfl) ?_ | refine c_isLayer ?_ | refine (c_Mholds hl (by assumption)) ?_
    all_goals first | exact K1 (by decide) | exact kin hl h | exact K2 (by decide) (fun z => h z.2) | exact K3 (by decide) ⟨by decide, h⟩ | skip
    · rename_i h1
      exact Qi (K3 (by decide) ⟨by decide, h1⟩) (bI_f h).symm
    · rename_i h1
      exact Qi (K3 (by decide) ⟨by decide, h1⟩) (bI_t h).symm
  · refine con_rm 60 [] (by decide) rfl (by decide +kernel) h0 ?_
    repeat' first | refine bib (fun h => ?_) (fun h => ?_) | refine bjb (fun h => ?_) (fun h => ?_) | refine bi (fun h => ?_) (fun h => ?_) | refine bj (fun h => ?_) (fun h => ?_) | refine vi (inI (by decide) (by decide)) ?_ | refine vi ?_ ?_ | refine zi (by decide) ?_ | refine zi ?_ ?_ | refine ni rfl ?_ | refine ni (bI_nar _) ?_ | refine (c_in 0 7 rfl rfl) ?_
    · refine K2 (fun z => h ⟨z.1, Int32.le_trans z.2 (by decide)⟩) (fun z => h ⟨Int32.le_trans (by decide) z.1.1, z.1.2⟩)
    all_goals (exfalso; exact h7 (by assumption))
theorem p_told {X : Xt} {G : Gt} (hI : Inv G) {k a : Int32} : pair X m_SW_told m_Mo_told [.int k, .int a] G := by
  obtain ⟨⟨w1, w2, w3, w4, w5, w6, w7⟩, hT, hS, hP, hs, h0⟩ := id hI
  refine c_SW_told w5 (fun h => pq ?_) (fun h h2 => pq ?_) (fun h h2 => pq ?_)
  · exact c_Mo_told h0 w1.symm w2.symm w4.symm w5 (fun _ => ⟨rfl, hI⟩) (fun z => absurd h z) (fun z => absurd h z)
  · exact c_Mo_told h0 w1.symm w2.symm w4.symm w5 (fun z => absurd z h) (fun _ _ => ⟨rfl, hI⟩) (fun _ z => absurd z h2)
  · exact c_Mo_told h0 w1.symm w2.symm w4.symm w5 (fun z => absurd z h) (fun _ z => absurd h2 z) (fun _ _ => ⟨by rw [w3], hI⟩)
