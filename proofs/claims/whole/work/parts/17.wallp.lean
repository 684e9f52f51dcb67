/-! the calls of the wall, pair by pair -/
theorem kin {ly k : Int32} (h : lyOK ly) (hk : 0 ≤ k ∧ k ≤ ly - 1) : vp_in k 6 := by
  obtain ⟨-, e2, e3, e4, -⟩ := lk_1 h hk
  exact inI (by omega) (by omega)
theorem c_SW_relay {X : Xt} {k t w : Int32} {G : Gt} {Q : Qt} (hl : lyOK (G 5 3)) (K1 : ¬ ((0 ≤ k ∧ k ≤ G 5 3 - 1) ∧ (1 ≤ t ∧ t ≤ 10) ∧ 1 ≤ w ∧ w ≤ 60000) → Q (some (.int (-1000001))) G) (K2 : (0 ≤ k ∧ k ≤ G 5 3 - 1) ∧ (1 ≤ t ∧ t ≤ 10) ∧ 1 ≤ w ∧ w ≤ 60000 → Q (some (.int 1)) (sG (sG G 7 (upd (G 7) k.toNatClampNeg t)) 8 (upd (G 8) k.toNatClampNeg w))) : con X m_SW_relay [.ref 0, .int k, .int t, .int w] G Q := by
  refine con_rn 60 [] (by decide) rfl ?_
  repeat' first | refine bib (fun h => ?_) (fun h => ?_) | refine bjb (fun h => ?_) (fun h => ?_) | refine bi (fun h => ?_) (fun h => ?_) | refine bj (fun h => ?_) (fun h => ?_) | refine vi (inI (by decide) (by decide)) ?_ | refine vi ?_ ?_ | refine zi (by decide) ?_ | refine zi ?_ ?_ | refine ni rfl ?_ | refine ni (bI_nar _) ?_ | refine c_hasLayer ?_ | refine c_mayBeLayer ?_ | refine (c_putLayer (kin hl (by assumption))) ?_
  · exact K1 (fun z => h z.1)
  · rename_i h1; exact K2 ⟨h1, h⟩
  · exact K1 (fun z => h z.2)
theorem c_Mo_relay {X : Xt} {k t w ly : Int32} {G : Gt} {Q : Qt} (h0 : G 26 0 = 0) (e1 : G 26 6 = ly) (hl : lyOK ly) (K1 : ¬ ((0 ≤ k ∧ k ≤ ly - 1) ∧ (1 ≤ t ∧ t ≤ 10) ∧ 1 ≤ w ∧ w ≤ 60000) → Q (some (.int (-1000001))) G) (K2 : (0 ≤ k ∧ k ≤ ly - 1) ∧ (1 ≤ t ∧ t ≤ 10) ∧ 1 ≤ w ∧ w ≤ 60000 → Q (some (.int 1)) (sG (sG G 31 (upd (G 31) k.toNatClampNeg t)) 32 (upd (G 32) k.toNatClampNeg w))) : con X m_Mo_relay [.ref 26, .int k, .int t, .int w] G Q := by
  subst e1
  refine con_rm 60 [] (by decide) rfl (by decide +kernel) h0 ?_
  repeat' first | refine bib (fun h => ?_) (fun h => ?_) | refine bjb (fun h => ?_) (fun h => ?_) | refine bi (fun h => ?_) (fun h => ?_) | refine bj (fun h => ?_) (fun h => ?_) | refine vi (inI (by decide) (by decide)) ?_ | refine vi ?_ ?_ | refine zi (by decide) ?_ | refine zi ?_ ?_ | refine ni rfl ?_ | refine ni (bI_nar _) ?_ | refine c_isLayer ?_ | refine c_isLaid ?_
  · exact K1 (fun z => h z.1)
  · rename_i h1; exact kin hl h1
  · rename_i h1; exact kin hl h1
  · rename_i h1; exact K2 ⟨h1, h⟩
  · exact K1 (fun z => h z.2)
theorem upd_rng {P : Int32 → Prop} {f : Nat → Int32} {k j : Nat} {v : Int32} (hf : j ≠ k → P (f j)) (hv : P v) : P (upd f k v j) := by
  unfold upd
  split
  · exact hv
  · rename_i h; exact hf h
theorem p_relay {X : Xt} {G : Gt} (hI : Inv G) {k t w : Int32} : pair X m_SW_relay m_Mo_relay [.int k, .int t, .int w] G := by
  obtain ⟨⟨w1, w2, w3, w4, w5, w6, w7⟩, hT, hS, hP, hs, h0⟩ := id hI
  refine c_SW_relay w5 (fun h => pq ?_) (fun h => pq ?_)
  · exact c_Mo_relay h0 w1.symm w5 (fun _ => ⟨rfl, hI⟩) (fun z => absurd z h)
  · refine c_Mo_relay h0 w1.symm w5 (fun z => absurd h z) (fun _ => ⟨rfl, ?_⟩)
    refine ⟨⟨w1, w2, ?_, ?_, w5, w6, fun j hj => ⟨?_, ?_⟩⟩, hT, hS, hP, hs, h0⟩
    · show upd (G 7) _ _ = upd (G 31) _ _
      rw [w3]
    · show upd (G 8) _ _ = upd (G 32) _ _
      rw [w4]
    · exact upd_rng (P := fun v => 1 ≤ v ∧ v ≤ 10) (fun _ => (w7 j hj).1) h.2.1
    · exact upd_rng (P := fun v => 1 ≤ v ∧ v ≤ 60000) (fun _ => (w7 j hj).2) h.2.2
theorem c_SW_layer {X : Xt} {t w : Int32} {G : Gt} {Q : Qt} (hl : lyOK (G 5 3)) (K1 : ¬ ((1 ≤ t ∧ t ≤ 10) ∧ 1 ≤ w ∧ w ≤ 60000) → Q (some (.int (-1000001))) G) (K2 : (1 ≤ t ∧ t ≤ 10) ∧ 1 ≤ w ∧ w ≤ 60000 → 6 ≤ G 5 3 → Q (some (.int (-1000003))) G) (K3 : (1 ≤ t ∧ t ≤ 10) ∧ 1 ≤ w ∧ w ≤ 60000 → ¬ 6 ≤ G 5 3 → Q (some (.int (G 5 3))) (sG (sG (sG G 5 (upd (G 5) 3 (G 5 3 + 1))) 7 (upd (G 7) (G 5 3).toNatClampNeg t)) 8 (upd (G 8) (G 5 3).toNatClampNeg w))) : con X m_SW_layer [.ref 0, .int t, .int w] G Q := by
  have hv : ¬ 6 ≤ G 5 3 → vp_in (G 5 3) 6 := fun h => inI (ly_1 hl).2.1 (by have := lt32.mp (Int32.not_le.mp h); simpa using this)
  refine con_rn 60 [] (by decide) rfl ?_
  repeat' first | refine bib (fun h => ?_) (fun h => ?_) | refine bjb (fun h => ?_) (fun h => ?_) | refine bi (fun h => ?_) (fun h => ?_) | refine bj (fun h => ?_) (fun h => ?_) | refine vi (inI (by decide) (by decide)) ?_ | refine vi ?_ ?_ | refine zi (by decide) ?_ | refine zi ?_ ?_ | refine ni rfl ?_ | refine ni (bI_nar _) ?_ | refine c_mayBeLayer ?_ | refine c_isFull ?_ | refine (c_addLayer (hv (by assumption))) ?_
  · rename_i h1; exact K3 h1 h
  · rename_i h1; exact K2 h1 h
  · exact K1 h
theorem c_Mo_layer {X : Xt} {t w ly : Int32} {G : Gt} {Q : Qt} (h0 : G 26 0 = 0) (e1 : G 26 6 = ly) (hl : lyOK ly) (K1 : ¬ ((1 ≤ t ∧ t ≤ 10) ∧ 1 ≤ w ∧ w ≤ 60000) → Q (some (.int (-1000001))) G) (K2 : (1 ≤ t ∧ t ≤ 10) ∧ 1 ≤ w ∧ w ≤ 60000 → 6 ≤ ly → Q (some (.int (-1000003))) G) (K3 : (1 ≤ t ∧ t ≤ 10) ∧ 1 ≤ w ∧ w ≤ 60000 → ¬ 6 ≤ ly → Q (some (.int ly)) (sG (sG (sG G 31 (upd (G 31) ly.toNatClampNeg t)) 32 (upd (G 32) ly.toNatClampNeg w)) 26 (upd (G 26) 6 (ly + 1)))) : con X m_Mo_layer [.ref 26, .int t, .int w] G Q := by
  have h6 : ly = 6 ↔ 6 ≤ ly := ⟨fun z => by rw [z]; exact Int32.le_refl _, fun z => Int32.le_antisymm hl.2 z⟩
  have hv : ¬ ly = 6 → vp_in ly 6 := fun h => inI (ly_1 hl).2.1 (by have := lt32.mp (Int32.not_le.mp (fun z => h (h6.mpr z))); simpa using this)
  subst e1
  refine con_rm 60 [] (by decide) rfl (by decide +kernel) h0 ?_
  repeat' first | refine bib (fun h => ?_) (fun h => ?_) | refine bjb (fun h => ?_) (fun h => ?_) | refine bi (fun h => ?_) (fun h => ?_) | refine bj (fun h => ?_) (fun h => ?_) | refine vi (inI (by decide) (by decide)) ?_ | refine vi ?_ ?_ | refine zi (by decide) ?_ | refine zi ?_ ?_ | refine ni rfl ?_ | refine ni (bI_nar _) ?_ | refine c_isLaid ?_
  · exact hv h
  · exact hv h
  · rename_i h1
    have e : G 26 6 + 1 - 1 = G 26 6 := by simp
    have K := K3 h1 (fun z => h (h6.mpr z))
    exact Qi K e
  · rename_i h1; exact K2 h1 (h6.mp h)
  · exact K1 h
theorem p_layer {X : Xt} {G : Gt} (hI : Inv G) {t w : Int32} : pair X m_SW_layer m_Mo_layer [.int t, .int w] G := by
  obtain ⟨⟨w1, w2, w3, w4, w5, w6, w7⟩, hT, hS, hP, hs, h0⟩ := id hI
  refine c_SW_layer w5 (fun h => pq ?_) (fun h h2 => pq ?_) (fun h h2 => pq ?_)
  · exact c_Mo_layer h0 w1.symm w5 (fun _ => ⟨rfl, hI⟩) (fun z => absurd z h) (fun z => absurd z h)
  · exact c_Mo_layer h0 w1.symm w5 (fun z => absurd h z) (fun _ _ => ⟨rfl, hI⟩) (fun _ z => absurd h2 z)
  · refine c_Mo_layer h0 w1.symm w5 (fun z => absurd h z) (fun _ z => absurd z h2) (fun _ _ => ⟨rfl, ?_⟩)
    have hlt : (G 5 3).toInt < 6 := by have := lt32.mp (Int32.not_le.mp h2); simpa using this
    have hly := (ly_1 w5).2.1
    have e1 : (G 5 3 + 1).toInt = (G 5 3).toInt + 1 := by
      rw [addI (by simp; omega) (by simp; omega)]; simp
    refine ⟨⟨rfl, w2, ?_, ?_, ⟨?_, ?_⟩, w6, fun j hj => ⟨?_, ?_⟩⟩, hT, hS, hP, hs, h0⟩
    · show upd (G 7) _ _ = upd (G 31) _ _
      rw [w3]
    · show upd (G 8) _ _ = upd (G 32) _ _
      rw [w4]
    · show 0 ≤ G 5 3 + 1
      rw [le32, e1]; simp; omega
    · show G 5 3 + 1 ≤ 6
      rw [le32, e1]; simp; omega
    · have hj : (j : Int) < (G 5 3 + 1).toInt := hj
      refine upd_rng (P := fun v => 1 ≤ v ∧ v ≤ 10) (fun hn => (w7 j ?_).1) h.1
      have : (G 5 3).toNatClampNeg = (G 5 3).toInt.toNat := rfl
      omega
    · have hj : (j : Int) < (G 5 3 + 1).toInt := hj
      refine upd_rng (P := fun v => 1 ≤ v ∧ v ≤ 60000) (fun hn => (w7 j ?_).2) h.2
      have : (G 5 3).toNatClampNeg = (G 5 3).toInt.toNat := rfl
      omega
