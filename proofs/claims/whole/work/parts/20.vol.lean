/-! volume -/
def vM (ly : Int32) (ms th : Nat → Int32) (k y : Int32) : Int32 := if k = -1000000 then wS ms th 0 y else if k = ly then wS ms th k.toNatClampNeg y else wS ms th k.toNatClampNeg y - wS ms th (k + 1).toNatClampNeg y
theorem pos_id {v : Int32} (h : ¬ v < 0) : pos v = v := by
  unfold pos
  split
  · rfl
  · rename_i h1
    exact Int32.le_antisymm (Int32.not_lt.mp h) (Int32.not_lt.mp h1)
theorem pos_ge {v : Int32} (h : 0 ≤ v) : pos v = v := pos_id (Int32.not_lt.mpr h)
theorem pos_lt {v : Int32} (h : ¬ 0 ≤ v) : pos v = 0 := by
  unfold pos
  rw [if_neg (fun z => h (Int32.le_of_lt z))]
theorem w_Mvolume {X : Xt} {C : Nat} {k : Int32} {G : Gt} {Q : Qt} (hC : C ≤ 100) (hm : G 30 0 = nI C) (hl : lyOK (G 26 6)) (hk : ¬ k = -1000000 → 0 ≤ k ∧ k ≤ G 26 6) (K : Q (some (.int (sI (fun j => pos (vM (G 26 6) (G 30) (G 31) k (nI j))) C * G 30 3))) G) : ∀ (m j : Nat) (c t : Int32), c = nI j → j + m = C → t = sI (fun j => pos (vM (G 26 6) (G 30) (G 31) k (nI j))) j → wp X m_Mo_volume 32 [(3, .int c), (2, .int t), (0, .ref 26), (1, .int k)] [] G Q
  | 0, j, c, t, hc, hj, ht => by
    subst hc
    have hj : j = C := by omega
    subst hj
    subst ht
    refine rn_wp (stops := [32]) 80 ?_
    refine vi (inI (by decide) (by decide)) (bi (fun h => ?_) (fun h => ?_))
    · refine vi (inI (by decide) (by decide)) ?_
      exact K
    · exfalso
      simp only [cl_0] at h
      rw [hm] at h
      exact h (Int32.le_refl _)
  | m + 1, j, c, t, hc, hj, ht => by
    subst hc
    refine rn_wp (stops := [32]) 80 ?_
    refine vi (inI (by decide) (by decide)) (bi (fun h => ?_) (fun h => ?_))
    · exfalso
      simp only [cl_0] at h
      rw [hm] at h
      simp (disch := omega) only [nI_1, nI_add, nI_clamp, nI_leI, nI_ltI, nI_eq, nI_toInt] at h
      omega
    · have h6 := (ly_1 hl).2
      refine bj (fun h2 => ?_) (fun h2 => ?_)
      · obtain ⟨a1, a2⟩ := hk h2
        have b1 : 0 ≤ k.toInt := by simpa using le32.mp a1
        have b2 := le32.mp a2
        have a3 : k ≤ 6 := by rw [le32]; simp; omega
        refine bj (fun h3 => ?_) (fun h3 => ?_)
        · have b3 : ¬ k.toInt = (G 26 6).toInt := fun z => h3 (eq32.mpr z)
          have b4 : (k + 1).toInt = k.toInt + 1 := by rw [addI (by simp; omega) (by simp; omega)]; simp
          have a4 : 0 ≤ k + 1 := by rw [le32, b4]; simp; omega
          have a5 : k + 1 ≤ 6 := by rw [le32, b4]; simp; omega
          refine c_wideOf a1 a3 ?_
          refine c_wideOf a4 a5 ?_
          refine bi (fun h4 => ?_) (fun h4 => ?_)
          · refine wp_pick [0, 1, 3, 4] (w_Mvolume hC hm hl hk K m (j + 1) _ _ (nI_1 _) (by omega) ?_)
            rw [ht, sI, vM, if_neg h2, if_neg h3, pos_ge h4]
          · refine wp_pick [0, 1, 3, 4] (w_Mvolume hC hm hl hk K m (j + 1) _ _ (nI_1 _) (by omega) ?_)
            rw [ht, sI, vM, if_neg h2, if_neg h3, pos_lt h4]
        · refine c_wideOf a1 a3 ?_
          refine bi (fun h4 => ?_) (fun h4 => ?_)
          · refine wp_pick [0, 1, 3, 4] (w_Mvolume hC hm hl hk K m (j + 1) _ _ (nI_1 _) (by omega) ?_)
            rw [ht, sI, vM, if_neg h2, if_pos h3, pos_ge h4]
          · refine wp_pick [0, 1, 3, 4] (w_Mvolume hC hm hl hk K m (j + 1) _ _ (nI_1 _) (by omega) ?_)
            rw [ht, sI, vM, if_neg h2, if_pos h3, pos_lt h4]
      · refine c_wideOf (by decide) (by decide) ?_
        refine bi (fun h4 => ?_) (fun h4 => ?_)
        · refine wp_pick [0, 1, 3, 4] (w_Mvolume hC hm hl hk K m (j + 1) _ _ (nI_1 _) (by omega) ?_)
          rw [ht, sI, vM, if_pos h2]
          rw [show pos (wS (G 30) (G 31) 0 (nI j)) = wS (G 30) (G 31) 0 (nI j) from pos_ge h4]
          rfl
        · exact absurd (Int32.not_le.mp h4) (wS_nn _ _ _ _)
theorem c_Mo_volume {X : Xt} {C : Nat} {k : Int32} {G : Gt} {Q : Qt} (h0 : G 26 0 = 0) (hC : C ≤ 100) (hm : G 30 0 = nI C) (hl : lyOK (G 26 6)) (K1 : ¬ k = -1000000 → ¬ (0 ≤ k ∧ k ≤ G 26 6) → Q (some (.int (-1000001))) G) (K2 : (¬ k = -1000000 → 0 ≤ k ∧ k ≤ G 26 6) → Q (some (.int (sI (fun j => pos (vM (G 26 6) (G 30) (G 31) k (nI j))) C * G 30 3))) G) : con X m_Mo_volume [.ref 26, .int k] G Q := by
  refine con_rm 60 [32] (by decide) rfl (by decide +kernel) h0 ?_
  repeat' first | refine bib (fun h => ?_) (fun h => ?_) | refine bjb (fun h => ?_) (fun h => ?_) | refine bi (fun h => ?_) (fun h => ?_) | refine bj (fun h => ?_) (fun h => ?_) | refine vi (inI (by decide) (by decide)) ?_ | refine vi ?_ ?_ | refine zi (by decide) ?_ | refine zi ?_ ?_ | refine ni rfl ?_ | refine ni (bI_nar _) ?_ | refine (c_in 0 _ rfl rfl) ?_
  · exact w_Mvolume hC hm hl (fun z => absurd h z) (K2 (fun z => absurd h z)) C 0 _ _ rfl (by omega) rfl
  · rename_i h1
    exact w_Mvolume hC hm hl (fun _ => h) (K2 (fun _ => h)) C 0 _ _ rfl (by omega) rfl
  · rename_i h1
    exact K1 h1 h
theorem sI_congr {f g : Nat → Int32} : ∀ (n : Nat), (∀ j, j < n → f j = g j) → sI f n = sI g n
  | 0, _ => rfl
  | n + 1, h => by rw [sI, sI, sI_congr n (fun j hj => h j (by omega)), h n (by omega)]
theorem p_volume {X : Xt} {G : Gt} (hI : Inv G) {k : Int32} : pair X m_SW_volume m_Mo_volume [.int k] G := by
  obtain ⟨⟨w1, w2, w3, w4, w5, w6, w7⟩, hT, hS, hP, hs, h0⟩ := id hI
  obtain ⟨C, hC, -, hm⟩ := ms_0 w6
  have hm' : G 30 0 = nI C := by rw [← w2]; exact hm
  have hl' : lyOK (G 26 6) := w1 ▸ w5
  have hM : ∀ {v : Int32}, (¬ k = -1000000 → ¬ (0 ≤ k ∧ k ≤ G 5 3) → -1000001 = v) → ((¬ k = -1000000 → 0 ≤ k ∧ k ≤ G 5 3) → sI (fun j => pos (vM (G 5 3) (G 6) (G 7) k (nI j))) C * G 6 3 = v) → con X m_Mo_volume [.ref 26, .int k] G (fun r2 G2 => r2 = some (.int v) ∧ Inv G2) := by
    intro v g1 g2
    refine c_Mo_volume h0 hC hm' hl' (fun a b => ⟨?_, hI⟩) (fun a => ⟨?_, hI⟩)
    · rw [g1 a (w1 ▸ b)]
    · rw [← w1, ← w2, ← w3, g2 (by rw [w1]; exact a)]
  refine con_rn 40 [] (by decide) rfl ?_
  repeat' first | refine bib (fun h => ?_) (fun h => ?_) | refine bjb (fun h => ?_) (fun h => ?_) | refine bi (fun h => ?_) (fun h => ?_) | refine bj (fun h => ?_) (fun h => ?_) | refine vi (inI (by decide) (by decide)) ?_ | refine vi ?_ ?_ | refine zi (by decide) ?_ | refine zi ?_ ?_ | refine ni rfl ?_ | refine ni (bI_nar _) ?_ | refine c_layers ?_ | refine c_within ?_ | refine (c_wholeVolume hC hm) ?_
  · rename_i h1
    obtain ⟨e, e1, -⟩ := toN h.1
    have b2 := le32.mp h.2
    have h6 := (ly_1 w5).2
    have b4 : (k + 1).toNatClampNeg = k.toNatClampNeg + 1 := by
      have : (k + 1).toInt = k.toInt + 1 := by rw [addI (by simp; omega) (by simp; omega)]; simp
      rw [clamp, this]
      omega
    have hcv := @c_volumeOf X C k.toNatClampNeg G
    rw [← e] at hcv
    refine hcv hC hm w5 h.2 (by omega) ?_
    refine pq (hM (fun _ z => absurd h z) (fun _ => ?_))
    congr 1
    refine sI_congr C (fun j hj => ?_)
    congr 1
    rw [vM, if_neg h1, lS, ← e]
    by_cases h3 : k = G 5 3
    · rw [if_pos h3, if_neg (by rw [h3]; exact Int32.lt_irrefl)]
    · rw [if_neg h3, if_pos (Int32.lt_of_le_of_ne h.2 h3), b4]
  · rename_i h1
    exact pq (hM (fun _ _ => rfl) (fun z => absurd (z h1) h))
  · refine pq (hM (fun z => absurd h z) (fun _ => ?_))
    congr 1
    refine sI_congr C (fun j hj => ?_)
    rw [vM, if_pos h]
    exact pos_id (wS_nn _ _ _ _)
