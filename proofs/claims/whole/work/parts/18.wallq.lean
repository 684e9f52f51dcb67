/-! wall, told, wide, as, ask -/
def loW (w : Int32) : Int32 := if w = 4 then 2 else 1
def hiW (w : Int32) : Int32 := if w = 0 then 100 else if w = 1 then 50 else if w = 2 then 60 else if w = 3 then 1000 else 30
theorem five {w : Int32} (h : 0 ≤ w ∧ w ≤ 4) : w = 0 ∨ w = 1 ∨ w = 2 ∨ w = 3 ∨ w = 4 := by
  have h1 : 0 ≤ w.toInt := by simpa using le32.mp h.1
  have h2 : w.toInt ≤ 4 := by simpa using le32.mp h.2
  simp only [eq32]
  simp only [Int32.reduceToInt]
  omega
theorem c_SW_wall {X : Xt} {w v : Int32} {G : Gt} {Q : Qt} (K1 : ¬ ((0 ≤ w ∧ w ≤ 4) ∧ loW w ≤ v ∧ v ≤ hiW w) → Q (some (.int (-1000001))) G) (K2 : (0 ≤ w ∧ w ≤ 4) ∧ loW w ≤ v ∧ v ≤ hiW w → Q (some (.int (G 6 w.toNatClampNeg))) (sG G 6 (upd (G 6) w.toNatClampNeg v))) : con X m_SW_wall [.ref 0, .int w, .int v] G Q := by
  have e : 0 ≤ w ∧ w ≤ 4 → xF X 44 w.toNatClampNeg = loW w ∧ xF X 45 w.toNatClampNeg = hiW w := by
    intro h
    rcases five h with rfl | rfl | rfl | rfl | rfl <;> exact ⟨rfl, rfl⟩
  refine con_rn 60 [] (by decide) rfl ?_
  repeat' first | refine bib (fun h => ?_) (fun h => ?_) | refine bjb (fun h => ?_) (fun h => ?_) | refine bi (fun h => ?_) (fun h => ?_) | refine bj (fun h => ?_) (fun h => ?_) | refine vi (inI (by decide) (by decide)) ?_ | refine vi ?_ ?_ | refine zi (by decide) ?_ | refine zi ?_ ?_ | refine ni rfl ?_ | refine ni (bI_nar _) ?_ | refine c_isMeasure ?_ | refine (c_mayMeasure (by assumption)) ?_ | refine (c_change (by assumption)) ?_
  · exact K1 (fun z => h z.1)
  · rename_i h1
    rw [(e h1).1, (e h1).2] at h
    exact K2 ⟨h1, h⟩
  · rename_i h1
    rw [(e h1).1, (e h1).2] at h
    exact K1 (fun z => h z.2)
theorem c_Mo_wall {X : Xt} {w v : Int32} {G : Gt} {Q : Qt} (h0 : G 26 0 = 0) (K1 : ¬ ((0 ≤ w ∧ w ≤ 4) ∧ loW w ≤ v ∧ v ≤ hiW w) → Q (some (.int (-1000001))) G) (K2 : (0 ≤ w ∧ w ≤ 4) ∧ loW w ≤ v ∧ v ≤ hiW w → Q (some (.int (G 30 w.toNatClampNeg))) (sG G 30 (upd (G 30) w.toNatClampNeg v))) : con X m_Mo_wall [.ref 26, .int w, .int v] G Q := by
  by_cases hw : 0 ≤ w ∧ w ≤ 4
  · rcases five hw with rfl | rfl | rfl | rfl | rfl
    all_goals refine con_rm 80 [] (by decide) rfl (by decide +kernel) h0 ?_
    repeat' first | refine bib_t (by decide) ?_ | refine bib_f (by decide) ?_ | refine bjb_t (by decide) ?_ | refine bjb_f (by decide) ?_ | refine bi_t (by decide) ?_ | refine bi_f (by decide) ?_ | refine bj_t (by decide) ?_ | refine bj_f (by decide) ?_ | refine bib (fun h => ?_) (fun h => ?_) | refine bjb (fun h => ?_) (fun h => ?_) | refine bi (fun h => ?_) (fun h => ?_) | refine bj (fun h => ?_) (fun h => ?_) | refine vi (inI (by decide) (by decide)) ?_ | refine vi ?_ ?_ | refine zi (by decide) ?_ | refine zi ?_ ?_ | refine ni rfl ?_ | refine ni (bI_nar _) ?_ | refine (c_in 0 4 rfl rfl) ?_ | refine (c_in _ _ rfl rfl) ?_
    all_goals first | exact K2 ⟨hw, h⟩ | exact K1 (fun z => h z.2)
  · refine con_rm 80 [] (by decide) rfl (by decide +kernel) h0 ?_
    repeat' first | refine bib (fun h => ?_) (fun h => ?_) | refine bjb (fun h => ?_) (fun h => ?_) | refine bi (fun h => ?_) (fun h => ?_) | refine bj (fun h => ?_) (fun h => ?_) | refine vi (inI (by decide) (by decide)) ?_ | refine vi ?_ ?_ | refine zi (by decide) ?_ | refine zi ?_ ?_ | refine ni rfl ?_ | refine ni (bI_nar _) ?_ | refine (c_in 0 4 rfl rfl) ?_ | refine (c_in _ _ rfl rfl) ?_
    all_goals first | (exfalso; exact hw (by assumption)) | exact K1 (fun z => hw z.1)
theorem ms_put {ms : Nat → Int32} {w v : Int32} (h : msOK ms) (hv : (0 ≤ w ∧ w ≤ 4) ∧ loW w ≤ v ∧ v ≤ hiW w) : msOK (upd ms w.toNatClampNeg v) := by
  obtain ⟨a0, a1, a2, a3, a4⟩ := h
  obtain ⟨hw, hv⟩ := hv
  rcases five hw with rfl | rfl | rfl | rfl | rfl
  · exact ⟨hv, a1, a2, a3, a4⟩
  · exact ⟨a0, hv, a2, a3, a4⟩
  · exact ⟨a0, a1, hv, a3, a4⟩
  · exact ⟨a0, a1, a2, hv, a4⟩
  · exact ⟨a0, a1, a2, a3, hv⟩
theorem p_wall {X : Xt} {G : Gt} (hI : Inv G) {w v : Int32} : pair X m_SW_wall m_Mo_wall [.int w, .int v] G := by
  obtain ⟨⟨w1, w2, w3, w4, w5, w6, w7⟩, hT, hS, hP, hs, h0⟩ := id hI
  refine c_SW_wall (fun h => pq ?_) (fun h => pq ?_)
  · exact c_Mo_wall h0 (fun _ => ⟨rfl, hI⟩) (fun z => absurd z h)
  · refine c_Mo_wall h0 (fun z => absurd h z) (fun _ => ⟨?_, ?_⟩)
    · show some (Value.int (G 30 _)) = some (Value.int (G 6 _))
      rw [w2]
    · refine ⟨⟨w1, ?_, w3, w4, w5, ms_put w6 h, w7⟩, hT, hS, hP, hs, h0⟩
      show upd (G 6) _ _ = upd (G 30) _ _
      rw [w2]
theorem c_SW_wide {X : Xt} {k y : Int32} {G : Gt} {Q : Qt} (hl : lyOK (G 5 3)) (K1 : ¬ ((0 ≤ k ∧ k ≤ G 5 3) ∧ 0 ≤ y ∧ y ≤ G 6 0 - 1) → Q (some (.int (-1000001))) G) (K2 : (0 ≤ k ∧ k ≤ G 5 3) ∧ 0 ≤ y ∧ y ≤ G 6 0 - 1 → Q (some (.int (wS (G 6) (G 7) k.toNatClampNeg y))) G) : con X m_SW_wide [.ref 0, .int k, .int y] G Q := by
  have h6 : 0 ≤ k ∧ k ≤ G 5 3 → k ≤ 6 := fun h => Int32.le_trans h.2 hl.2
  refine con_rn 60 [] (by decide) rfl ?_
  repeat' first | refine bib (fun h => ?_) (fun h => ?_) | refine bjb (fun h => ?_) (fun h => ?_) | refine bi (fun h => ?_) (fun h => ?_) | refine bj (fun h => ?_) (fun h => ?_) | refine vi (inI (by decide) (by decide)) ?_ | refine vi ?_ ?_ | refine zi (by decide) ?_ | refine zi ?_ ?_ | refine ni rfl ?_ | refine ni (bI_nar _) ?_ | refine c_layers ?_ | refine c_within ?_ | refine (c_measure (by decide)) ?_ | refine (c_width (And.left (by assumption)) (h6 (by assumption))) ?_
  · exact K1 (fun z => h z.1)
  · rename_i h1; exact K2 ⟨h1, h⟩
  · exact K1 (fun z => h z.2)
theorem c_Mo_wide {X : Xt} {k y ly : Int32} {ms : Nat → Int32} {G : Gt} {Q : Qt} (h0 : G 26 0 = 0) (e1 : G 26 6 = ly) (e2 : G 30 = ms) (hl : lyOK ly) (K1 : ¬ ((0 ≤ k ∧ k ≤ ly) ∧ 0 ≤ y ∧ y ≤ ms 0 - 1) → Q (some (.int (-1000001))) G) (K2 : (0 ≤ k ∧ k ≤ ly) ∧ 0 ≤ y ∧ y ≤ ms 0 - 1 → Q (some (.int (wS ms (G 31) k.toNatClampNeg y))) G) : con X m_Mo_wide [.ref 26, .int k, .int y] G Q := by
  subst e1
  subst e2
  have h6 : 0 ≤ k ∧ k ≤ G 26 6 → k ≤ 6 := fun h => Int32.le_trans h.2 hl.2
  refine con_rm 60 [] (by decide) rfl (by decide +kernel) h0 ?_
  repeat' first | refine bib (fun h => ?_) (fun h => ?_) | refine bjb (fun h => ?_) (fun h => ?_) | refine bi (fun h => ?_) (fun h => ?_) | refine bj (fun h => ?_) (fun h => ?_) | refine vi (inI (by decide) (by decide)) ?_ | refine vi ?_ ?_ | refine zi (by decide) ?_ | refine zi ?_ ?_ | refine ni rfl ?_ | refine ni (bI_nar _) ?_ | refine (c_in 0 _ rfl rfl) ?_ | refine (c_wideOf (And.left (by assumption)) (h6 (by assumption))) ?_
  · exact K1 (fun z => h z.1)
  · rename_i h1; exact K2 ⟨h1, h⟩
  · exact K1 (fun z => h z.2)
theorem p_wide {X : Xt} {G : Gt} (hI : Inv G) {k y : Int32} : pair X m_SW_wide m_Mo_wide [.int k, .int y] G := by
  obtain ⟨⟨w1, w2, w3, w4, w5, w6, w7⟩, hT, hS, hP, hs, h0⟩ := id hI
  refine c_SW_wide w5 (fun h => pq ?_) (fun h => pq ?_)
  · exact c_Mo_wide h0 w1.symm w2.symm w5 (fun _ => ⟨rfl, hI⟩) (fun z => absurd z h)
  · refine c_Mo_wide h0 w1.symm w2.symm w5 (fun z => absurd h z) (fun _ => ⟨by rw [w3], hI⟩)
abbrev ofK (d a : Int32) : Prop := d = 0 ∨ d = a ∨ (d = 1 ∧ a = 2)
theorem c_SW_as {X : Xt} {k d : Int32} {G : Gt} {Q : Qt} (hl : lyOK (G 5 3)) (K1 : ¬ ((0 ≤ k ∧ k ≤ G 5 3 - 1) ∧ 0 ≤ d ∧ d ≤ 4) → Q (some (.int (-1000001))) G) (K2 : (0 ≤ k ∧ k ≤ G 5 3 - 1) ∧ 0 ≤ d ∧ d ≤ 4 → ofK d (kS (G 5 3) (G 6 4) (G 8) k) → Q (some (.int (G 8 k.toNatClampNeg))) (sG G 0 (upd (G 0) 7 0))) (K3 : (0 ≤ k ∧ k ≤ G 5 3 - 1) ∧ 0 ≤ d ∧ d ≤ 4 → ¬ ofK d (kS (G 5 3) (G 6 4) (G 8) k) → Q (some (.int (-1000013))) (sG G 0 (upd (G 0) 7 3))) : con X m_SW_as [.ref 0, .int k, .int d] G Q := by
  refine con_rn 60 [] (by decide) rfl ?_
  repeat' first | refine bib (fun h => ?_) (fun h => ?_) | refine bjb (fun h => ?_) (fun h => ?_) | refine bi (fun h => ?_) (fun h => ?_) | refine bj (fun h => ?_) (fun h => ?_) | refine vi (inI (by decide) (by decide)) ?_ | refine vi ?_ ?_ | refine zi (by decide) ?_ | refine zi ?_ ?_ | refine ni rfl ?_ | refine ni (bI_nar _) ?_ | refine c_hasLayer ?_ | refine c_within ?_ | refine (c_isOfKind hl (by assumption)) ?_ | refine (c_weightOf (kin hl (by assumption))) ?_ | refine c_found ?_ | refine c_fine ?_
  · exact K1 (fun z => h z.1)
  · rename_i h1 h2; exact K2 ⟨h1, h2⟩ h
  · rename_i h1 h2; exact K3 ⟨h1, h2⟩ h
  · exact K1 (fun z => h z.2)
theorem c_Mo_as {X : Xt} {k d ly : Int32} {ms w : Nat → Int32} {G : Gt} {Q : Qt} (h0 : G 26 0 = 0) (e1 : G 26 6 = ly) (e2 : G 30 = ms) (e3 : G 32 = w) (hl : lyOK ly) (K1 : ¬ ((0 ≤ k ∧ k ≤ ly - 1) ∧ 0 ≤ d ∧ d ≤ 4) → Q (some (.int (-1000001))) G) (K2 : (0 ≤ k ∧ k ≤ ly - 1) ∧ 0 ≤ d ∧ d ≤ 4 → ofK d (kS ly (ms 4) w k) → Q (some (.int (w k.toNatClampNeg))) (sG G 26 (upd (G 26) 1 0))) (K3 : (0 ≤ k ∧ k ≤ ly - 1) ∧ 0 ≤ d ∧ d ≤ 4 → ¬ ofK d (kS ly (ms 4) w k) → Q (some (.int (-1000013))) (sG (sG G 26 (upd (G 26) 1 0)) 26 (upd (upd (G 26) 1 0) 1 3))) : con X m_Mo_as [.ref 26, .int k, .int d] G Q := by
  subst e1
  subst e2
  subst e3
  refine con_rm 60 [] (by decide) rfl (by decide +kernel) h0 ?_
  repeat' first | refine bib (fun h => ?_) (fun h => ?_) | refine bjb (fun h => ?_) (fun h => ?_) | refine bi (fun h => ?_) (fun h => ?_) | refine bj (fun h => ?_) (fun h => ?_) | refine vi (inI (by decide) (by decide)) ?_ | refine vi ?_ ?_ | refine zi (by decide) ?_ | refine zi ?_ ?_ | refine ni rfl ?_ | refine ni (bI_nar _) ?_ | refine c_isLayer ?_ | refine (c_in 0 4 rfl rfl) ?_ | refine (c_MkindOf (G := sG G 26 (upd (G 26) 1 0)) hl (by assumption)) ?_ | refine c_isOf ?_ | refine c_Mfound ?_
  · exact K1 (fun z => h z.1)
  · rename_i h1 h2; exact K3 ⟨h1, h2⟩ h
  · rename_i h1 h2; exact kin hl h1
  · rename_i h1 h2; exact K2 ⟨h1, h2⟩ h
  · exact K1 (fun z => h z.2)
theorem p_as {X : Xt} {G : Gt} (hI : Inv G) {k d : Int32} : pair X m_SW_as m_Mo_as [.int k, .int d] G := by
  obtain ⟨⟨w1, w2, w3, w4, w5, w6, w7⟩, hT, hS, hP, hs, h0⟩ := id hI
  refine c_SW_as w5 (fun h => pq ?_) (fun h h2 => pq ?_) (fun h h2 => pq ?_)
  · exact c_Mo_as h0 w1.symm w2.symm w4.symm w5 (fun _ => ⟨rfl, hI⟩) (fun z => absurd z h) (fun z => absurd z h)
  · exact c_Mo_as h0 w1.symm w2.symm w4.symm w5 (fun z => absurd h z) (fun _ _ => ⟨rfl, ⟨⟨w1, w2, w3, w4, w5, w6, w7⟩, hT, hS, hP, rfl, h0⟩⟩) (fun _ z => absurd h2 z)
  · exact c_Mo_as h0 w1.symm w2.symm w4.symm w5 (fun z => absurd h z) (fun _ z => absurd z h2) (fun _ _ => ⟨rfl, ⟨⟨w1, w2, w3, w4, w5, w6, w7⟩, hT, hS, hP, rfl, h0⟩⟩)
theorem AX_0 (G : Gt) : sG G 24 (upd (G 24) 1 0) = AX G (G 25) 0 := by
  unfold AX
  rw [sG_id]
  rfl
theorem AM_0 (G : Gt) : sG G 26 (upd (G 26) 20 0) = AM G (G 42) 0 := by
  unfold AM
  rw [sG_id]
  rfl
theorem c_forget {X : Xt} {G : Gt} {Q : Qt} (K : Q none (AX G (G 25) 0)) : con X m_Asks_forget [.ref 24] G Q := by
  refine con_rn 40 [] (by decide) rfl ?_
  rw [← AX_0] at K
  exact K
theorem c_SW_ask {X : Xt} {k a : Int32} {G : Gt} {Q : Qt} (hl : lyOK (G 5 3)) (K1 : ¬ ((0 ≤ k ∧ k ≤ G 5 3 - 1) ∧ 0 ≤ a ∧ a ≤ 1) → Q (some (.int (-1000001))) G) (K2 : (0 ≤ k ∧ k ≤ G 5 3 - 1) ∧ 0 ≤ a ∧ a ≤ 1 → Q (some (.int (aV (kS (G 5 3) (G 6 4) (G 8) k) (G 7 k.toNatClampNeg) (G 8 k.toNatClampNeg) (G 6 2) (decide (a = 0))))) (AX G (aT (kS (G 5 3) (G 6 4) (G 8) k) (decide (a = 0)) (G 25)) (aN (kS (G 5 3) (G 6 4) (G 8) k) (decide (a = 0))))) : con X m_SW_ask [.ref 0, .int k, .int a] G Q := by
  refine con_rn 60 [] (by decide) rfl ?_
  repeat' first | refine bib (fun h => ?_) (fun h => ?_) | refine bjb (fun h => ?_) (fun h => ?_) | refine bi (fun h => ?_) (fun h => ?_) | refine bj (fun h => ?_) (fun h => ?_) | refine vi (inI (by decide) (by decide)) ?_ | refine vi ?_ ?_ | refine zi (by decide) ?_ | refine zi ?_ ?_ | refine ni rfl ?_ | refine ni (bI_nar _) ?_ | refine c_hasLayer ?_ | refine c_within ?_ | refine c_forget ?_ | refine (c_worth hl (by assumption)) ?_ | refine (c_mark hl (by assumption)) ?_
  · exact K1 (fun z => h z.1)
  · rename_i h1 h2
    have K := K2 ⟨h1, h2⟩
    rw [decide_eq_false h] at K
    exact K
  · rename_i h1 h2
    have K := K2 ⟨h1, h2⟩
    rw [decide_eq_true h] at K
    exact K
  · exact K1 (fun z => h z.2)
