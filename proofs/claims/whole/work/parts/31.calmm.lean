/-! calm: the model's part -/
theorem atM (A p : Nat) : nI A + 2 * nI p = nI (A + 2 * p) := two_at A p
abbrev cL6 (w e b : Int32) (S I N : Nat) : Lt := [(8, .int (nI (100 * S + I))), (0, .ref 26), (1, .int w), (2, .int e), (3, .int b), (4, .int (nI S)), (5, .int (nI I)), (6, .int (nI N))]
set_option maxRecDepth 4000 in
theorem w_Mspots {X : Xt} {w e b : Int32} {S I N : Nat} {G : Gt} {Q : Qt} (hS : S < 8) (hN : I + 2 * N ≤ 100) (K1 : spP (fun k => G 29 (100 * S + (I + k))) w e N → wp X m_Mo_calm 135 (cL6 w e b S I N) [] G Q) (K2 : ¬ spP (fun k => G 29 (100 * S + (I + k))) w e N → Q (some (.int (-1000001))) G) : ∀ (m p : Nat) (c : Int32), c = nI p → p + m = N → spP (fun k => G 29 (100 * S + (I + k))) w e p → wp X m_Mo_calm 73 ((9, .int c) :: cL6 w e b S I N) [] G Q
  | 0, p, c, hc, hp, hj => by
    subst hc
    have hp : p = N := by omega
    subst hp
    refine rn_wp (stops := [73, 135]) 60 ?_
    refine bi (fun h => ?_) (fun h => ?_)
    · exact wp_pick [1, 2, 3, 4, 5, 6, 7, 8] (K1 hj)
    · exact absurd (Int32.le_refl _) h
  | m + 1, p, c, hc, hp, hj => by
    subst hc
    refine rn_wp (stops := [73, 135]) 60 ?_
    refine bi (fun h => ?_) (fun h => ?_)
    · exfalso
      simp (disch := omega) only [nI_1, nI_add, nI_clamp, nI_leI, nI_ltI, nI_eq, nI_toInt] at h
      omega
    · have e1 : nI (100 * S + I) + 2 * nI p = nI (100 * S + (I + 2 * p)) := by rw [two_at, Nat.add_assoc]
      have e2 : nI (100 * S + I) + 2 * nI p + 1 = nI (100 * S + (I + (2 * p + 1))) := by rw [e1, nI_1]; rfl
      refine vi (by rw [e1]; exact vp_in_nI (by omega) (by omega)) ?_
      rw [e1, nI_clamp (by omega)]
      refine c_in 0 _ rfl rfl ?_
      refine bib (fun h1 => ?_) (fun h1 => ?_)
      · exact K2 (fun z => h1 (z p (by omega)).1)
      · refine vi (by rw [e2]; exact vp_in_nI (by omega) (by omega)) ?_
        rw [e2, nI_clamp (by omega)]
        refine c_in 0 _ rfl rfl ?_
        refine bjb (fun h2 => ?_) (fun h2 => ?_)
        · refine w_Mspots hS hN K1 K2 m (p + 1) _ (nI_1 _) (by omega) ?_
          intro q hq
          rcases Nat.lt_succ_iff_lt_or_eq.mp hq with z | z
          · exact hj q z
          · rw [z]; exact ⟨h1, h2⟩
        · exact K2 (fun z => h2 (z p (by omega)).2)
set_option maxRecDepth 4000 in
theorem w_Mcalm {X : Xt} {w e b : Int32} {S I N : Nat} {G : Gt} {Q : Qt} (hS : S < 8) (hN : I + 2 * N ≤ 100) (hb : hbP w e b) (hsp : spP (fun k => G 29 (100 * S + (I + k))) w e N) (K : Q (some (.int (nI (cm (fun p => wvS w e b 1000000 2 (G 29 (100 * S + (I + 2 * p))) (G 29 (100 * S + (I + (2 * p + 1))))) N).1))) G) : ∀ (m p : Nat) (c bst : Int32) (lst : Int64), c = nI p → p + m = N → bst = nI (cm (fun p => wvS w e b 1000000 2 (G 29 (100 * S + (I + 2 * p))) (G 29 (100 * S + (I + (2 * p + 1))))) p).1 → lst = (cm (fun p => wvS w e b 1000000 2 (G 29 (100 * S + (I + 2 * p))) (G 29 (100 * S + (I + (2 * p + 1))))) p).2 → wp X m_Mo_calm 149 ((12, .int c) :: (10, .long lst) :: (9, .int bst) :: cL6 w e b S I N) [] G Q
  | 0, p, c, bst, lst, hc, hp, hb1, hl1 => by
    subst hc
    have hp : p = N := by omega
    subst hp
    refine rn_wp (stops := [149]) 60 ?_
    refine bi (fun h => ?_) (fun h => ?_)
    · exact Qi K hb1
    · exact absurd (Int32.le_refl _) h
  | m + 1, p, c, bst, lst, hc, hp, hb1, hl1 => by
    subst hc
    have hpp := hsp p (by omega)
    refine rn_wp (stops := [149]) 80 ?_
    refine bi (fun h => ?_) (fun h => ?_)
    · exfalso
      simp (disch := omega) only [nI_1, nI_add, nI_clamp, nI_leI, nI_ltI, nI_eq, nI_toInt] at h
      omega
    · have e1 : nI (100 * S + I) + 2 * nI p = nI (100 * S + (I + 2 * p)) := by rw [two_at, Nat.add_assoc]
      have e2 : nI (100 * S + I) + 2 * nI p + 1 = nI (100 * S + (I + (2 * p + 1))) := by rw [e1, nI_1]; rfl
      refine vi (by rw [e1]; exact vp_in_nI (by omega) (by omega)) ?_
      refine vi (by rw [e2]; exact vp_in_nI (by omega) (by omega)) ?_
      rw [e2, e1, nI_clamp (by omega), nI_clamp (by omega)]
      refine c_Mwave hb (by decide) hpp.1 hpp.2 ?_
      have hp0 : nI p = 0 ↔ p = 0 := by
        rw [← nI_0, nI_eq (by omega) (by omega)]
      refine bi (fun h1 => ?_) (fun h1 => ?_)
      · refine wp_pick [0, 1, 2, 4, 5, 6, 7, 8, 9, 10, 11] (w_Mcalm hS hN hb hsp K m (p + 1) _ _ _ (nI_1 _) (by omega) ?_ ?_)
        · rw [cm, if_pos (Or.inl (hp0.mp h1))]
        · rw [cm, if_pos (Or.inl (hp0.mp h1))]
      · refine bi (fun h2 => ?_) (fun h2 => ?_)
        · have h3 := (lg_cmp_ge _ _).mp h2
          rw [hl1] at h3
          refine wp_pick [0, 2, 3, 4, 5, 6, 7, 8, 9, 10, 11] (w_Mcalm hS hN hb hsp K m (p + 1) _ _ _ (nI_1 _) (by omega) ?_ ?_)
          · rw [cm, if_neg (fun z => z.elim (fun q => h1 (hp0.mpr q)) (fun q => Int64.not_lt.mpr h3 q))]
            exact hb1
          · rw [cm, if_neg (fun z => z.elim (fun q => h1 (hp0.mpr q)) (fun q => Int64.not_lt.mpr h3 q))]
            exact hl1
        · have h3 := Int64.not_le.mp (fun z => h2 ((lg_cmp_ge _ _).mpr z))
          rw [hl1] at h3
          refine wp_pick [0, 1, 2, 4, 5, 6, 7, 8, 9, 10, 11] (w_Mcalm hS hN hb hsp K m (p + 1) _ _ _ (nI_1 _) (by omega) ?_ ?_)
          · rw [cm, if_pos (Or.inr h3)]
          · rw [cm, if_pos (Or.inr h3)]
