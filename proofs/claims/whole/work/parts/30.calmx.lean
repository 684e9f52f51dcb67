/-! calm: the class's part -/
theorem c_itemN {X : Xt} {s i : Int32} {j : Nat} {G : Gt} {Q : Qt} (hs : 0 ≤ s ∧ s ≤ 7) (hi : i = nI j) (hj : j < 100) (K : Q (some (.int (G 2 (100 * s.toNatClampNeg + j)))) G) : con X m_Sheets_item [.ref 1, .int s, .int i] G Q := by
  subst hi
  refine c_item hs (nI_pos' (by omega)) ?_ ?_
  · rw [show (100 : Int32) = nI 100 from rfl, nI_ltI (by omega) (by omega)]
    exact hj
  · rw [ix_nat hs (by omega)]
    exact K
theorem two_at (I p : Nat) : nI I + 2 * nI p = nI (I + 2 * p) := by
  rw [show (2 : Int32) = nI 2 from rfl, pk_mul, nI_add]
/-- n places, in rows (x, y) -/
def spP (f : Nat → Int32) (w h : Int32) (n : Nat) : Prop := ∀ p, p < n → (0 ≤ f (2 * p) ∧ f (2 * p) ≤ w) ∧ 0 ≤ f (2 * p + 1) ∧ f (2 * p + 1) ≤ h
set_option maxRecDepth 4000 in
theorem w_areSpots {X : Xt} {s w e : Int32} {I N : Nat} {G : Gt} {Q : Qt} (hs : 0 ≤ s ∧ s ≤ 7) (hN : I + 2 * N ≤ 100) (K1 : spP (fun k => G 2 (100 * s.toNatClampNeg + (I + k))) w e N → Q (some (.int 1)) G) (K2 : ¬ spP (fun k => G 2 (100 * s.toNatClampNeg + (I + k))) w e N → Q (some (.int 0)) G) : ∀ (m p : Nat) (c : Int32), c = nI p → p + m = N → spP (fun k => G 2 (100 * s.toNatClampNeg + (I + k))) w e p → wp X m_SW_areSpots 3 [(6, .int c), (0, .ref 0), (1, .int w), (2, .int e), (3, .int s), (4, .int (nI I)), (5, .int (nI N))] [] G Q
  | 0, p, c, hc, hp, hj => by
    subst hc
    have hp : p = N := by omega
    subst hp
    refine rn_wp (stops := [3]) 60 ?_
    refine bi (fun h => ?_) (fun h => ?_)
    · exact ni rfl (K1 hj)
    · exact absurd (Int32.le_refl _) h
  | m + 1, p, c, hc, hp, hj => by
    subst hc
    refine rn_wp (stops := [3]) 60 ?_
    refine bi (fun h => ?_) (fun h => ?_)
    · exfalso
      simp (disch := omega) only [nI_1, nI_add, nI_clamp, nI_leI, nI_ltI, nI_eq, nI_toInt] at h
      omega
    · refine c_itemN (j := I + 2 * p) hs (two_at I p) (by omega) ?_
      refine c_within ?_
      refine bib (fun h1 => ?_) (fun h1 => ?_)
      · exact ni rfl (K2 (fun z => h1 (z p (by omega)).1))
      · refine c_itemN (j := I + (2 * p + 1)) hs (by rw [two_at, nI_1]; rfl) (by omega) ?_
        refine c_within ?_
        refine bjb (fun h2 => ?_) (fun h2 => ?_)
        · refine wp_pick [0, 2, 3, 4, 5, 6, 7] (w_areSpots hs hN K1 K2 m (p + 1) _ (nI_1 _) (by omega) ?_)
          intro q hq
          rcases Nat.lt_succ_iff_lt_or_eq.mp hq with z | z
          · exact hj q z
          · rw [z]; exact ⟨h1, h2⟩
        · exact ni rfl (K2 (fun z => h2 (z p (by omega)).2))
theorem c_areSpots {X : Xt} {s w e : Int32} {I N : Nat} {G : Gt} {Q : Qt} (hs : 0 ≤ s ∧ s ≤ 7) (hN : I + 2 * N ≤ 100) (K1 : spP (fun k => G 2 (100 * s.toNatClampNeg + (I + k))) w e N → Q (some (.int 1)) G) (K2 : ¬ spP (fun k => G 2 (100 * s.toNatClampNeg + (I + k))) w e N → Q (some (.int 0)) G) : con X m_SW_areSpots [.ref 0, .int w, .int e, .int s, .int (nI I), .int (nI N)] G Q := by
  refine con_rn 10 [3] (by decide) rfl ?_
  exact w_areSpots hs hN K1 K2 N 0 _ rfl (by omega) (fun q hq => absurd hq (by omega))
/-- the calmest of the first n: which, and what comes there -/
def cm (g : Nat → Int64) : Nat → Nat × Int64
  | 0 => (0, 0)
  | p + 1 => if p = 0 ∨ g p < (cm g p).2 then (p, g p) else cm g p
set_option maxRecDepth 4000 in
theorem w_calmest {X : Xt} {s w e b : Int32} {I N : Nat} {G : Gt} {Q : Qt} (hs : 0 ≤ s ∧ s ≤ 7) (hN : I + 2 * N ≤ 100) (hb : hbP w e b) (hsp : spP (fun k => G 2 (100 * s.toNatClampNeg + (I + k))) w e N) (K : Q (some (.int (nI (cm (fun p => wvS w e b 1000000 2 (G 2 (100 * s.toNatClampNeg + (I + 2 * p))) (G 2 (100 * s.toNatClampNeg + (I + (2 * p + 1))))) N).1))) G) : ∀ (m p : Nat) (c bst : Int32) (lst : Int64), c = nI p → p + m = N → bst = nI (cm (fun p => wvS w e b 1000000 2 (G 2 (100 * s.toNatClampNeg + (I + 2 * p))) (G 2 (100 * s.toNatClampNeg + (I + (2 * p + 1))))) p).1 → lst = (cm (fun p => wvS w e b 1000000 2 (G 2 (100 * s.toNatClampNeg + (I + 2 * p))) (G 2 (100 * s.toNatClampNeg + (I + (2 * p + 1))))) p).2 → wp X m_SW_calmest 9 [(10, .int c), (8, .long lst), (7, .int bst), (0, .ref 0), (1, .int w), (2, .int e), (3, .int b), (4, .int s), (5, .int (nI I)), (6, .int (nI N))] [] G Q
  | 0, p, c, bst, lst, hc, hp, hb1, hl1 => by
    subst hc
    have hp : p = N := by omega
    subst hp
    refine rn_wp (stops := [9]) 60 ?_
    refine bi (fun h => ?_) (fun h => ?_)
    · exact Qi K hb1
    · exact absurd (Int32.le_refl _) h
  | m + 1, p, c, bst, lst, hc, hp, hb1, hl1 => by
    subst hc
    have hpp := hsp p (by omega)
    refine rn_wp (stops := [9]) 80 ?_
    refine bi (fun h => ?_) (fun h => ?_)
    · exfalso
      simp (disch := omega) only [nI_1, nI_add, nI_clamp, nI_leI, nI_ltI, nI_eq, nI_toInt] at h
      omega
    · refine c_itemN (j := I + 2 * p) hs (two_at I p) (by omega) ?_
      refine c_itemN (j := I + (2 * p + 1)) hs (by rw [two_at, nI_1]; rfl) (by omega) ?_
      refine c_comes hb (by decide) hpp.1 hpp.2 ?_
      have hp0 : nI p = 0 ↔ p = 0 := by
        rw [← nI_0, nI_eq (by omega) (by omega)]
      refine bi (fun h1 => ?_) (fun h1 => ?_)
      · refine wp_pick [0, 2, 1, 6, 7, 8, 9, 10, 11, 12] (w_calmest hs hN hb hsp K m (p + 1) _ _ _ (nI_1 _) (by omega) ?_ ?_)
        · rw [cm, if_pos (Or.inl (hp0.mp h1))]
        · rw [cm, if_pos (Or.inl (hp0.mp h1))]
      · refine bi (fun h2 => ?_) (fun h2 => ?_)
        · have h3 := (lg_cmp_ge _ _).mp h2
          rw [hl1] at h3
          refine wp_pick [0, 4, 5, 6, 7, 8, 9, 10, 11, 12] (w_calmest hs hN hb hsp K m (p + 1) _ _ _ (nI_1 _) (by omega) ?_ ?_)
          · rw [cm, if_neg (fun z => z.elim (fun q => h1 (hp0.mpr q)) (fun q => Int64.not_lt.mpr h3 q))]
            exact hb1
          · rw [cm, if_neg (fun z => z.elim (fun q => h1 (hp0.mpr q)) (fun q => Int64.not_lt.mpr h3 q))]
            exact hl1
        · have h3 := Int64.not_le.mp (fun z => h2 ((lg_cmp_ge _ _).mpr z))
          rw [hl1] at h3
          refine wp_pick [0, 2, 1, 6, 7, 8, 9, 10, 11, 12] (w_calmest hs hN hb hsp K m (p + 1) _ _ _ (nI_1 _) (by omega) ?_ ?_)
          · rw [cm, if_pos (Or.inr h3)]
          · rw [cm, if_pos (Or.inr h3)]
theorem c_calmest {X : Xt} {s w e b : Int32} {I N : Nat} {G : Gt} {Q : Qt} (hs : 0 ≤ s ∧ s ≤ 7) (hN : I + 2 * N ≤ 100) (hb : hbP w e b) (hsp : spP (fun k => G 2 (100 * s.toNatClampNeg + (I + k))) w e N) (K : Q (some (.int (nI (cm (fun p => wvS w e b 1000000 2 (G 2 (100 * s.toNatClampNeg + (I + 2 * p))) (G 2 (100 * s.toNatClampNeg + (I + (2 * p + 1))))) N).1))) G) : con X m_SW_calmest [.ref 0, .int w, .int e, .int b, .int s, .int (nI I), .int (nI N)] G Q := by
  refine con_rn 10 [9] (by decide) rfl ?_
  exact w_calmest hs hN hb hsp K N 0 _ _ _ rfl (by omega) rfl rfl
