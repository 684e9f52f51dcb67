/-! planned -/
def tS (f : Nat → Nat) : Nat → Nat
  | 0 => 0
  | d + 1 => tS f d + f d
theorem tS_le {f : Nat → Nat} {N : Nat} (h : ∀ d, d < N → f d ≤ 20) : ∀ d, d ≤ N → tS f d ≤ 20 * d
  | 0, _ => Nat.le_refl _
  | d + 1, hd => by
    have := tS_le h d (by omega)
    have := h d (by omega)
    unfold tS
    omega
theorem w_day {X : Xt} {s : Int32} {I N t0 : Nat} {f : Nat → Nat} {G : Gt} {Q : Qt} (hs : 0 ≤ s ∧ s ≤ 7) (hN : I + N ≤ 100) (h20 : N ≤ 20) (ht0 : t0 < 68) (hf : ∀ d, d < N → fX G s I d = nI (f d) ∧ f d ≤ 20) (K1 : ∀ d, d < N → tS f d ≤ t0 → t0 < tS f (d + 1) → Q (some (.int (nI d))) G) (K2 : tS f N ≤ t0 → Q (some (.int (-1000000))) G) : ∀ (m d : Nat) (q l : Int32), q = nI d → d + m = N → l = nI (tS f d) → tS f d ≤ t0 → wp X m_SW_dayOf 15 [(6, .int q), (5, .int l), (0, .ref 0), (1, .int (nI t0)), (2, .int s), (3, .int (nI I)), (4, .int (nI N))] [] G Q
  | 0, d, q, l, hq, hd, hl, ht => by
    subst hq
    have hd : d = N := by omega
    subst hd
    refine rn_wp (stops := [15]) 40 ?_
    refine bi_t (Int32.le_refl _) ?_
    exact K2 ht
  | m + 1, d, q, l, hq, hd, hl, ht => by
    subst hq
    have hb := tS_le (fun d hd => (hf d hd).2) (d + 1) (by omega)
    refine rn_wp (stops := [15]) 40 ?_
    refine bi_f (by simp (disch := omega) only [nI_1, nI_add, nI_clamp, nI_leI, nI_ltI, nI_eq, nI_toInt]; omega) ?_
    refine c_itemN (j := I + d) hs (nI_add I d) (by omega) ?_
    have e : l + G 2 (100 * s.toNatClampNeg + (I + d)) = nI (tS f (d + 1)) := by
      have h1 := (hf d (by omega)).1
      unfold fX at h1
      rw [h1, hl, nI_add]
      rfl
    refine bi (fun h => ?_) (fun h => ?_)
    · rw [e, nI_leI (by omega) (by omega)] at h
      exact w_day hs hN h20 ht0 hf K1 K2 m (d + 1) _ _ (nI_1 _) (by omega) e h
    · rw [e, nI_leI (by omega) (by omega)] at h
      exact K1 d (by omega) ht (by omega)
theorem c_dayOf {X : Xt} {s : Int32} {I N t0 : Nat} {f : Nat → Nat} {G : Gt} {Q : Qt} (hs : 0 ≤ s ∧ s ≤ 7) (hN : I + N ≤ 100) (h20 : N ≤ 20) (ht0 : t0 < 68) (hf : ∀ d, d < N → fX G s I d = nI (f d) ∧ f d ≤ 20) (K1 : ∀ d, d < N → tS f d ≤ t0 → t0 < tS f (d + 1) → Q (some (.int (nI d))) G) (K2 : tS f N ≤ t0 → Q (some (.int (-1000000))) G) : con X m_SW_dayOf [.ref 0, .int (nI t0), .int s, .int (nI I), .int (nI N)] G Q := by
  refine con_rn 20 [15] (by decide) rfl ?_
  refine bj_f ?_ ?_
  · rw [eq32, nI_toInt (by omega), show (-1000000 : Int32).toInt = -1000000 from rfl]
    omega
  · exact w_day hs hN h20 ht0 hf K1 K2 N 0 _ _ rfl (by omega) rfl (Nat.zero_le _)
theorem c_dayN {X : Xt} {s i n : Int32} {G : Gt} {Q : Qt} (K : Q (some (.int (-1000000))) G) : con X m_SW_dayOf [.ref 0, .int (-1000000), .int s, .int i, .int n] G Q := by
  refine con_rn 20 [15] (by decide) rfl ?_
  refine bj_t rfl ?_
  exact K
theorem c_turnOf {X : Xt} {R P : Nat} {G : Gt} {Q : Qt} (hR : R < 8) (hP : P + R < 12) (K : Q (some (.int (G 17 (12 * R + P)))) G) : con X m_Pile_turnOf [.ref 14, .int (nI R), .int (nI P)] G Q := by
  refine con_rn 20 [] (by decide) rfl ?_
  refine c_at rfl rfl ?_
  refine vi (vp_in_nI (by omega) (by omega)) ?_
  rw [nI_clamp (by omega)]
  exact K
abbrev plP (c k m s n r p : Int32) : Prop := crn c k ∧ (1 ≤ m ∧ m ≤ 8) ∧ (0 ≤ s ∧ s ≤ 7) ∧ (1 ≤ n ∧ n ≤ 20) ∧ plc r p
/-- n items, each 0 to 20 -/
abbrev tdP (f : Nat → Int32) (n : Nat) : Prop := ∀ k, k < n → 0 ≤ f k ∧ f k ≤ 20
def tdN (f : Nat → Int32) : Nat → Nat := fun d => (f d).toNatClampNeg
theorem td_ok {f : Nat → Int32} {n : Nat} (h : tdP f n) : ∀ d, d < n → f d = nI (tdN f d) ∧ tdN f d ≤ 20 := by
  intro d hd
  obtain ⟨e, e1, -⟩ := toN (h d hd).1
  have h2 : (f d).toInt ≤ 20 := by simpa using le32.mp (h d hd).2
  unfold tdN
  exact ⟨e, by omega⟩
theorem nN20 {n : Int32} (hn : 1 ≤ n ∧ n ≤ 20) : n = nI n.toNatClampNeg ∧ n.toNatClampNeg ≤ 20 ∧ n.toInt = (n.toNatClampNeg : Int) ∧ 0 ≤ n := by
  have h0 : 0 ≤ n := Int32.le_trans (by decide) hn.1
  obtain ⟨e, e1, -⟩ := toN h0
  have h2 : n.toInt ≤ 20 := by simpa using le32.mp hn.2
  exact ⟨e, by omega, e1, h0⟩
set_option maxRecDepth 8000 in
theorem c_SW_planned {X : Xt} {L : Nat → Nat → Bool} {c k m s i n r p : Int32} {G : Gt} {Q : Qt} (hL : lyX L G) (hz : 0 ≤ s ∧ s ≤ 7 → ¬ G 4 s.toNatClampNeg = -1 → 0 ≤ G 4 s.toNatClampNeg ∧ G 4 s.toNatClampNeg ≤ 100)
    (K1 : ¬ plP c k m s n r p → Q (some (.int (-1000001))) G)
    (K2 : plP c k m s n r p → ¬ fnd (G 4 s.toNatClampNeg) i n = 0 → Q (some (.int (-1000010 - fnd (G 4 s.toNatClampNeg) i n))) (sG G 0 (upd (G 0) 7 (fnd (G 4 s.toNatClampNeg) i n))))
    (K3 : plP c k m s n r p → fnd (G 4 s.toNatClampNeg) i n = 0 → ¬ tdP (fX G s i.toNatClampNeg) n.toNatClampNeg → Q (some (.int (-1000001))) G)
    (K4 : plP c k m s n r p → fnd (G 4 s.toNatClampNeg) i n = 0 → tdP (fX G s i.toNatClampNeg) n.toNatClampNeg → ∀ G' M R P, FrS G G' → m = nI M → r = nI R → p = nI P → M ≤ 8 → R < 8 → P + R < 12 → ∀ d, d < n.toNatClampNeg → R < M ∧ due L (nrB c k) R P = true → tS (tdN (fX G s i.toNatClampNeg)) d ≤ dT L (nrB c k) R + dC L (nrB c k) R P → dT L (nrB c k) R + dC L (nrB c k) R P < tS (tdN (fX G s i.toNatClampNeg)) (d + 1) → Q (some (.int (nI d))) (sG G' 0 (upd (G' 0) 7 0)))
    (K5 : plP c k m s n r p → fnd (G 4 s.toNatClampNeg) i n = 0 → tdP (fX G s i.toNatClampNeg) n.toNatClampNeg → ∀ G' M R P, FrS G G' → m = nI M → r = nI R → p = nI P → M ≤ 8 → R < 8 → P + R < 12 → ¬ (R < M ∧ due L (nrB c k) R P = true) ∨ tS (tdN (fX G s i.toNatClampNeg)) n.toNatClampNeg ≤ dT L (nrB c k) R + dC L (nrB c k) R P → Q (some (.int (-1000000))) (sG G' 0 (upd (G' 0) 7 0))) : con X m_SW_planned [.ref 0, .int c, .int k, .int m, .int s, .int i, .int n, .int r, .int p] G Q := by
  refine con_rn 100 [] (by decide) rfl ?_
  refine c_isCrane (bib (fun h => K1 (fun z => h z.1)) (fun h1 => ?_))
  refine c_within (bib (fun h => K1 (fun z => h z.2.1)) (fun h2 => ?_))
  refine c_isNumber (bib (fun h => K1 (fun z => h z.2.2.1)) (fun h3 => ?_))
  refine c_within (bib (fun h => K1 (fun z => h z.2.2.2.1)) (fun h4 => ?_))
  refine c_isPlace (bjb (fun h5 => ?_) (fun h => K1 (fun z => h z.2.2.2.2)))
  have hp : plP c k m s n r p := ⟨h1, h2, h3, h4, h5⟩
  obtain ⟨en, t1, t2, t3⟩ := nN20 h4
  refine c_fnd h3 ?_
  refine bi (fun hf => ?_) (fun hf => ?_)
  · obtain ⟨ei, hI, -⟩ := fnd_I (N := n.toNatClampNeg) (hz h3) t2 t3 hf
    have k3 := K3 hp hf
    have k4 := K4 hp hf
    have k5 := K5 hp hf
    obtain ⟨M, hM, -, eM⟩ := mN h2
    obtain ⟨R, P, eR, eP, hR, hP⟩ := plcN h5
    refine c_areWithin h3 (by rw [ei]; exact nI_pos' (by omega)) t3 (by rw [ei, nI_toInt (by omega), t2]; omega) (fun htd => ?_) (fun htd => ?_)
    · refine bj_f (by decide) ?_
      have ho := td_ok (f := fX G s i.toNatClampNeg) htd
      subst eM
      subst eR
      subst eP
      refine c_putInTurn hM hL (fun G' hF hO => ?_)
      have e2 : G' 2 = G 2 := hF.1 2 rfl (by decide)
      have k4' := k4 htd G' M R P hF rfl rfl rfl hM hR hP
      have k5' := k5 htd G' M R P hF rfl rfl rfl hM hR hP
      refine bi (fun h => ?_) (fun h => ?_)
      · rw [nI_leI (by omega) (by omega)] at h
        refine c_fine ?_
        exact k5' (Or.inl (fun z => by omega))
      · rw [nI_leI (by omega) (by omega)] at h
        refine c_turnOf hR hP ?_
        have e17 := (hO R P (Or.inl ⟨by omega, hP⟩)).2
        have hf' : ∀ d, d < n.toNatClampNeg → fX G' s i.toNatClampNeg d = nI (tdN (fX G s i.toNatClampNeg) d) ∧ tdN (fX G s i.toNatClampNeg) d ≤ 20 := by
          intro d hd
          show G' 2 _ = _ ∧ _
          rw [e2]
          exact ho d hd
        by_cases hd : due L (nrB c k) R P = true
        · rw [e17, tvO, if_pos hd]
          have hc := fun Q => @c_dayOf X s i.toNatClampNeg n.toNatClampNeg (dT L (nrB c k) R + dC L (nrB c k) R P) (tdN (fX G s i.toNatClampNeg)) G' Q h3 hI t1 (dT_68 hR hP) hf'
          rw [← ei, ← en] at hc
          refine hc _ (fun d q1 q2 q3 => ?_) (fun q => ?_)
          · refine c_fine ?_
            exact k4' d q1 ⟨by omega, hd⟩ q2 q3
          · refine c_fine ?_
            exact k5' (Or.inr q)
        · rw [e17, tvO, if_neg hd]
          refine c_dayN ?_
          refine c_fine ?_
          exact k5' (Or.inl (fun z => hd z.2))
    · refine bj_t rfl ?_
      exact k3 htd
  · refine c_found ?_
    exact K2 hp hf
/-! planned: the model -/
abbrev plB (S I N R P : Nat) : Lt := [(0, .ref 26), (4, .int (nI S)), (5, .int (nI I)), (6, .int (nI N)), (7, .int (nI R)), (8, .int (nI P))]
abbrev plA (c k m : Int32) (S I N R P : Nat) : Lt := [(0, .ref 26), (1, .int c), (2, .int k), (3, .int m), (4, .int (nI S)), (5, .int (nI I)), (6, .int (nI N)), (7, .int (nI R)), (8, .int (nI P))]
set_option maxRecDepth 4000 in
theorem w_plC {X : Xt} {c k m : Int32} {S I N R P : Nat} {G : Gt} {Q : Qt} (hS : S < 8) (hN : I + N ≤ 100) (K1 : tdP (fM G S I) N → wp X m_Mo_planned 125 (plA c k m S I N R P) [] G Q) (K2 : ¬ tdP (fM G S I) N → Q (some (.int (-1000001))) G) : ∀ (z d : Nat) (q : Int32), q = nI d → d + z = N → tdP (fM G S I) d → wp X m_Mo_planned 82 ((10, .int q) :: plA c k m S I N R P) [] G Q
  | 0, d, q, hq, hd, hj => by
    subst hq
    have hd : d = N := by omega
    subst hd
    refine rn_wp (stops := [82, 125]) 40 ?_
    refine bi_t (Int32.le_refl _) ?_
    exact wp_pick [1, 2, 3, 4, 5, 6, 7, 8, 9] (K1 hj)
  | z + 1, d, q, hq, hd, hj => by
    subst hq
    refine rn_wp (stops := [82, 125]) 40 ?_
    refine bi_f (by simp (disch := omega) only [nI_1, nI_add, nI_clamp, nI_leI, nI_ltI, nI_eq, nI_toInt]; omega) ?_
    have e1 : 100 * nI S + nI I + nI d = nI (100 * S + (I + d)) := by rw [cp_ix, Nat.add_assoc]
    refine vi (by rw [e1]; exact vp_in_nI (by omega) (by omega)) ?_
    rw [e1, nI_clamp (by omega)]
    refine c_in 0 20 rfl rfl ?_
    refine bjb (fun h => ?_) (fun h => ?_)
    · refine w_plC hS hN K1 K2 z (d + 1) _ (nI_1 _) (by omega) (fun q hq => ?_)
      rcases Nat.lt_succ_iff_lt_or_eq.mp hq with z | z
      · exact hj q z
      · rw [z]; exact h
    · exact K2 (fun w => h (w d (by omega)))
set_option maxRecDepth 4000 in
theorem w_plI {X : Xt} {S I N R P NO t0 d : Nat} {f : Nat → Nat} {D : Prop} {G : Gt} {Q : Qt} (hS : S < 8) (hN : I + N ≤ 100) (h20 : N ≤ 20) (hR : R < 8) (hP : P < 12) (hNO : NO ≤ 68) (hf : ∀ d, d < N → fM G S I d = nI (f d) ∧ f d ≤ 20) (e14 : G 26 14 = nI NO) (hh : ∀ t, t < NO → ((G 38 t = nI R ∧ G 39 t = nI P) ↔ (D ∧ t = t0))) (hD : D → t0 < NO) (hd : d < N) (K1 : D → tS f d ≤ t0 → t0 < tS f (d + 1) → Q (some (.int (nI d))) G) (Ko : ∀ q a, q = nI (d + 1) → a = nI (min (tS f (d + 1)) NO) → (D → tS f (d + 1) ≤ t0) → wp X m_Mo_planned 143 ((11, .int q) :: (10, .int a) :: plB S I N R P) [] G Q) : ∀ (z k : Nat) (q a : Int32), q = nI k → k + z = f d → a = nI (min (tS f d + k) NO) → (D → tS f d + k ≤ t0) → wp X m_Mo_planned 153 ((12, .int q) :: (11, .int (nI d)) :: (10, .int a) :: plB S I N R P) [] G Q
  | 0, k, q, a, hq, hk, ha, ht => by
    subst hq
    have hk : k = f d := by omega
    subst hk
    have e1 : 100 * nI S + nI I + nI d = nI (100 * S + (I + d)) := by rw [cp_ix, Nat.add_assoc]
    have e2 : G 29 (100 * S + (I + d)) = nI (f d) := (hf d hd).1
    refine rn_wp (stops := [143, 153]) 60 ?_
    refine vi (by rw [e1]; exact vp_in_nI (by omega) (by omega)) ?_
    rw [e1, nI_clamp (by omega), e2]
    refine bi_t (Int32.le_refl _) ?_
    exact wp_pick [0, 2, 3, 4, 5, 6, 7, 8] (Ko _ a (nI_1 d) ha ht)
  | z + 1, k, q, a, hq, hk, ha, ht => by
    subst hq
    have e1 : 100 * nI S + nI I + nI d = nI (100 * S + (I + d)) := by rw [cp_ix, Nat.add_assoc]
    have e2 : G 29 (100 * S + (I + d)) = nI (f d) := (hf d hd).1
    have h20d := (hf d hd).2
    have eS : tS f (d + 1) = tS f d + f d := rfl
    refine rn_wp (stops := [143, 153]) 60 ?_
    refine vi (by rw [e1]; exact vp_in_nI (by omega) (by omega)) ?_
    rw [e1, nI_clamp (by omega), e2]
    refine bi_f (by simp (disch := omega) only [nI_1, nI_add, nI_clamp, nI_leI, nI_ltI, nI_eq, nI_toInt]; omega) ?_
    subst ha
    refine bi (fun h => ?_) (fun h => ?_)
    · rw [e14, nI_leI (by omega) (by omega)] at h
      refine wp_pick [0, 2, 3, 4, 5, 6, 7, 8] (Ko _ _ (nI_1 d) (by rw [show min (tS f (d + 1)) NO = min (tS f d + k) NO by omega]) (fun z => ?_))
      have := hD z
      have := ht z
      omega
    · rw [e14, nI_leI (by omega) (by omega)] at h
      have ea : min (tS f d + k) NO = tS f d + k := by omega
      rw [ea] at h
      rw [ea]
      have hlt : tS f d + k < NO := by omega
      have nx : ¬ (G 38 (tS f d + k) = nI R ∧ G 39 (tS f d + k) = nI P) → wp X m_Mo_planned 153 ((12, .int (nI k + 1)) :: (10, .int (nI (tS f d + k) + 1)) :: (11, .int (nI d)) :: plB S I N R P) [] G Q := by
        intro hno
        refine wp_pick [0, 2, 1, 3, 4, 5, 6, 7, 8] (w_plI hS hN h20 hR hP hNO hf e14 hh hD hd K1 Ko z (k + 1) _ _ (nI_1 _) (by omega) ?_ (fun w => ?_))
        · rw [nI_1, show min (tS f d + (k + 1)) NO = tS f d + k + 1 by omega]
        · have h1 := ht w
          have h2 : ¬ tS f d + k = t0 := fun y => hno ((hh _ hlt).mpr ⟨w, y⟩)
          omega
      refine vi (vp_in_nI (by omega) (by omega)) ?_
      rw [nI_clamp (by omega)]
      refine bj (fun h1 => ?_) (fun h1 => ?_)
      · exact nx (fun y => h1 y.1)
      · refine vi (vp_in_nI (by omega) (by omega)) ?_
        rw [nI_clamp (by omega)]
        refine bj (fun h2 => ?_) (fun h2 => ?_)
        · exact nx (fun y => h2 y.2)
        · obtain ⟨y1, y2⟩ := (hh _ hlt).mp ⟨h1, h2⟩
          exact K1 y1 (by omega) (by omega)
theorem w_plO {X : Xt} {S I N R P NO t0 : Nat} {f : Nat → Nat} {D : Prop} {G : Gt} {Q : Qt} (hS : S < 8) (hN : I + N ≤ 100) (h20 : N ≤ 20) (hR : R < 8) (hP : P < 12) (hNO : NO ≤ 68) (hf : ∀ d, d < N → fM G S I d = nI (f d) ∧ f d ≤ 20) (e14 : G 26 14 = nI NO) (hh : ∀ t, t < NO → ((G 38 t = nI R ∧ G 39 t = nI P) ↔ (D ∧ t = t0))) (hD : D → t0 < NO) (K1 : ∀ d, d < N → D → tS f d ≤ t0 → t0 < tS f (d + 1) → Q (some (.int (nI d))) G) (K2 : ¬ D ∨ tS f N ≤ t0 → Q (some (.int (-1000000))) G) : ∀ (z d : Nat) (q a : Int32), q = nI d → d + z = N → a = nI (min (tS f d) NO) → (D → tS f d ≤ t0) → wp X m_Mo_planned 143 ((11, .int q) :: (10, .int a) :: plB S I N R P) [] G Q
  | 0, d, q, a, hq, hd, ha, ht => by
    subst hq
    have hd : d = N := by omega
    subst hd
    refine rn_wp (stops := [143, 153]) 40 ?_
    refine bi_t (Int32.le_refl _) ?_
    refine K2 ?_
    by_cases w : D
    · exact Or.inr (ht w)
    · exact Or.inl w
  | z + 1, d, q, a, hq, hd, ha, ht => by
    subst hq
    refine rn_wp (stops := [143, 153]) 40 ?_
    refine bi_f (by simp (disch := omega) only [nI_1, nI_add, nI_clamp, nI_leI, nI_ltI, nI_eq, nI_toInt]; omega) ?_
    exact w_plI hS hN h20 hR hP hNO hf e14 hh hD (by omega) (K1 d (by omega)) (fun q' a' hq' ha' ht' => w_plO hS hN h20 hR hP hNO hf e14 hh hD K1 K2 z (d + 1) q' a' hq' (by omega) ha' ht') (f d) 0 _ _ rfl (by omega) ha ht
