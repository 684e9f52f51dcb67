/-! storms: reading the hours -/
abbrev fX (G : Gt) (s : Int32) (I : Nat) : Nat → Int32 := fun k => G 2 (100 * s.toNatClampNeg + (I + k))
abbrev fM (G : Gt) (S I : Nat) : Nat → Int32 := fun k => G 29 (100 * S + (I + k))
set_option maxRecDepth 4000 in
theorem w_read {X : Xt} {s : Int32} {I N : Nat} {G : Gt} {Q : Qt} (hs : 0 ≤ s ∧ s ≤ 7) (hN : I + 2 * N ≤ 100) (h48 : N ≤ 48)
    (K1 : ∀ a b : Nat → Int32, ¬ spP (fX G s I) 200 100 N → Q (some (.int 0)) (sG (sG G 19 a) 20 b))
    (K2 : ∀ a b : Nat → Int32, spP (fX G s I) 200 100 N → (∀ j, j < N → a j = fX G s I (2 * j) ∧ b j = fX G s I (2 * j + 1)) → Q (some (.int 1)) (sG (sG (sG G 19 a) 20 b) 18 (upd (G 18) 2 (nI N)))) : ∀ (m k : Nat) (c : Int32) (a b : Nat → Int32), c = nI k → k + m = N → spP (fX G s I) 200 100 k → (∀ j, j < k → a j = fX G s I (2 * j) ∧ b j = fX G s I (2 * j + 1)) → wp X m_Hours_read 3 [(5, .int c), (0, .ref 18), (1, .ref 1), (2, .int s), (3, .int (nI I)), (4, .int (nI N))] [] (sG (sG G 19 a) 20 b) Q
  | 0, k, c, a, b, hc, hk, hj, hab => by
    subst hc
    have hk : k = N := by omega
    subst hk
    refine rn_wp (stops := [3]) 80 ?_
    refine bi_t (Int32.le_refl _) ?_
    exact ni rfl (K2 a b hj hab)
  | m + 1, k, c, a, b, hc, hk, hj, hab => by
    subst hc
    refine rn_wp (stops := [3]) 80 ?_
    refine bi_f (by simp (disch := omega) only [nI_1, nI_add, nI_clamp, nI_leI, nI_ltI, nI_eq, nI_toInt]; omega) ?_
    refine c_itemN (j := I + 2 * k) hs (two_at I k) (by omega) ?_
    refine vi (vp_in_nI (by omega) (by omega)) ?_
    rw [nI_clamp (by omega)]
    refine c_itemN (j := I + (2 * k + 1)) hs (by rw [two_at, nI_1]; rfl) (by omega) ?_
    refine vi (vp_in_nI (by omega) (by omega)) ?_
    rw [nI_clamp (by omega)]
    have e4 : sG (sG (sG (sG G 19 a) 20 b) 19 (upd a k (fX G s I (2 * k)))) 20 (upd b k (fX G s I (2 * k + 1))) = sG (sG G 19 (upd a k (fX G s I (2 * k)))) 20 (upd b k (fX G s I (2 * k + 1))) := sG_4
    refine vi (vp_in_nI (by omega) (by omega)) ?_
    rw [nI_clamp (by omega)]
    refine c_within ?_
    refine bib (fun h => ?_) (fun h => ?_)
    · have h : ¬ (0 ≤ upd a k (fX G s I (2 * k)) k ∧ upd a k (fX G s I (2 * k)) k ≤ 200) := h
      rw [pk_us] at h
      refine ni rfl (Qg (K1 _ _ (fun z => h (z k (by omega)).1)) e4)
    · have h : 0 ≤ upd a k (fX G s I (2 * k)) k ∧ upd a k (fX G s I (2 * k)) k ≤ 200 := h
      rw [pk_us] at h
      refine vi (vp_in_nI (by omega) (by omega)) ?_
      rw [nI_clamp (by omega)]
      refine c_within ?_
      refine bjb (fun h2 => ?_) (fun h2 => ?_)
      · have h2 : 0 ≤ upd b k (fX G s I (2 * k + 1)) k ∧ upd b k (fX G s I (2 * k + 1)) k ≤ 100 := h2
        rw [pk_us] at h2
        have hw := w_read (X := X) hs hN h48 K1 K2 m (k + 1) _ (upd a k (fX G s I (2 * k))) (upd b k (fX G s I (2 * k + 1))) (nI_1 k) (by omega) (by
          intro q hq
          rcases Nat.lt_succ_iff_lt_or_eq.mp hq with z | z
          · exact hj q z
          · rw [z]; exact ⟨h, h2⟩) (by
          intro q hq
          by_cases e : q = k
          · subst e
            exact ⟨pk_us, pk_us⟩
          · rw [pk_un e, pk_un e]
            exact hab q (by omega))
        rw [← e4] at hw
        exact hw
      · have h2 : ¬ (0 ≤ upd b k (fX G s I (2 * k + 1)) k ∧ upd b k (fX G s I (2 * k + 1)) k ≤ 100) := h2
        rw [pk_us] at h2
        refine ni rfl (Qg (K1 _ _ (fun z => h2 (z k (by omega)).2)) e4)
theorem c_read {X : Xt} {s : Int32} {I N : Nat} {G : Gt} {Q : Qt} (hs : 0 ≤ s ∧ s ≤ 7) (hN : I + 2 * N ≤ 100) (h48 : N ≤ 48)
    (K1 : ∀ a b : Nat → Int32, ¬ spP (fX G s I) 200 100 N → Q (some (.int 0)) (sG (sG G 19 a) 20 b))
    (K2 : ∀ a b : Nat → Int32, spP (fX G s I) 200 100 N → (∀ j, j < N → a j = fX G s I (2 * j) ∧ b j = fX G s I (2 * j + 1)) → Q (some (.int 1)) (sG (sG (sG G 19 a) 20 b) 18 (upd (G 18) 2 (nI N)))) : con X m_Hours_read [.ref 18, .ref 1, .int s, .int (nI I), .int (nI N)] G Q := by
  refine con_rn 10 [3] (by decide) rfl ?_
  have hw := w_read (X := X) hs hN h48 K1 K2 N 0 _ (G 19) (G 20) rfl (by omega) (fun q hq => absurd hq (by omega)) (fun q hq => absurd hq (by omega))
  rw [sG_id, sG_id] at hw
  exact hw
theorem twoS {n : Int32} (hn : 1 ≤ n ∧ n ≤ 48) : n = nI n.toNatClampNeg ∧ 1 ≤ n.toNatClampNeg ∧ n.toNatClampNeg ≤ 48 ∧ 2 * n = nI (2 * n.toNatClampNeg) ∧ (2 * n).toInt = 2 * (n.toNatClampNeg : Int) ∧ 0 ≤ 2 * n := by
  obtain ⟨a, b, c, d, e, f⟩ := twoN ⟨hn.1, Int32.le_trans hn.2 (by decide)⟩
  have h2 : n.toInt ≤ 48 := by simpa using le32.mp hn.2
  have h3 : n.toNatClampNeg = n.toInt.toNat := rfl
  exact ⟨a, b, by omega, d, e, f⟩
theorem fnd_I {z i n : Int32} {N : Nat} (hz : ¬ z = -1 → 0 ≤ z ∧ z ≤ 100) (hn : n.toInt = N) (hn0 : 0 ≤ n) (h : fnd z i n = 0) : i = nI i.toNatClampNeg ∧ i.toNatClampNeg + N ≤ 100 ∧ (i.toNatClampNeg : Int) + N ≤ z.toInt := by
  rcases fnd_cases z i n with ⟨-, h3⟩ | ⟨h3, -⟩
  · rw [h3] at h; exact absurd h (by decide)
  · have h4 := hz h3
    have h5 := (fnd_0 h4 hn0).mp h
    have h6 : z.toInt ≤ 100 := by simpa using le32.mp h4.2
    obtain ⟨e1, e2, -⟩ := toN h5.1
    have := h5.2
    exact ⟨e1, by omega, by omega⟩
theorem c_readHours {X : Xt} {s i n : Int32} {G : Gt} {Q : Qt} (hs : 0 ≤ s ∧ s ≤ 7) (hn : 1 ≤ n ∧ n ≤ 48) (hz : ¬ G 4 s.toNatClampNeg = -1 → 0 ≤ G 4 s.toNatClampNeg ∧ G 4 s.toNatClampNeg ≤ 100)
    (K2 : ¬ fnd (G 4 s.toNatClampNeg) i (2 * n) = 0 → Q (some (.int (-1000010 - fnd (G 4 s.toNatClampNeg) i (2 * n)))) (sG G 0 (upd (G 0) 7 (fnd (G 4 s.toNatClampNeg) i (2 * n)))))
    (K3 : fnd (G 4 s.toNatClampNeg) i (2 * n) = 0 → ∀ a b : Nat → Int32, ¬ spP (fX G s i.toNatClampNeg) 200 100 n.toNatClampNeg → Q (some (.int (-1000001))) (sG (sG G 19 a) 20 b))
    (K4 : fnd (G 4 s.toNatClampNeg) i (2 * n) = 0 → ∀ a b : Nat → Int32, spP (fX G s i.toNatClampNeg) 200 100 n.toNatClampNeg → (∀ j, j < n.toNatClampNeg → a j = fX G s i.toNatClampNeg (2 * j) ∧ b j = fX G s i.toNatClampNeg (2 * j + 1)) → Q (some (.int 0)) (sG (sG (sG G 19 a) 20 b) 18 (upd (G 18) 2 (nI n.toNatClampNeg)))) : con X m_SW_readHours [.ref 0, .int s, .int i, .int n] G Q := by
  obtain ⟨en, t2, t3, t4, t5, t6⟩ := twoS hn
  refine con_rn 40 [] (by decide) rfl ?_
  refine c_fnd hs ?_
  refine bi (fun h => ?_) (fun h => ?_)
  · obtain ⟨ei, hI, -⟩ := fnd_I (N := 2 * n.toNatClampNeg) hz (by rw [t5]; omega) t6 h
    have k3 := K3 h
    have k4 := K4 h
    have hr := fun Q => @c_read X s i.toNatClampNeg n.toNatClampNeg G Q hs hI t3
    rw [← ei, ← en] at hr
    refine hr _ (fun a b hsp => ?_) (fun a b hsp hab => ?_)
    · refine bi_t rfl ?_
      exact k3 a b hsp
    · refine bi_f (by decide) ?_
      rw [← en] at k4
      exact k4 a b hsp hab
  · refine c_found ?_
    exact K2 h
theorem w_lookB {X : Xt} {c n : Int32} {G : Gt} {Q : Qt} (K : wp X m_Mo_lookStorm 90 [(4, .int (-1000001)), (0, .ref 26)] [] G Q) : wp X m_Mo_lookStorm 14 [(5, .int c), (4, .int (-1000001)), (0, .ref 26), (3, .int n)] [] G Q := by
  refine rn_wp (stops := [14, 90]) 20 ?_
  refine bi (fun _ => ?_) (fun _ => ?_)
  · exact wp_pick [1, 2] K
  · refine bj_f (by decide) ?_
    exact wp_pick [1, 2] K
set_option maxRecDepth 4000 in
theorem w_lookS {X : Xt} {S I N : Nat} {G : Gt} {Q : Qt} (hS : S < 8) (hN : I + 2 * N ≤ 100) (K1 : spP (fM G S I) 200 100 N → wp X m_Mo_lookStorm 90 [(4, .int 0), (0, .ref 26)] [] G Q) (K2 : ¬ spP (fM G S I) 200 100 N → wp X m_Mo_lookStorm 90 [(4, .int (-1000001)), (0, .ref 26)] [] G Q) : ∀ (m k : Nat) (c : Int32), c = nI k → k + m = N → spP (fM G S I) 200 100 k → wp X m_Mo_lookStorm 14 [(5, .int c), (4, .int 0), (0, .ref 26), (1, .int (nI S)), (2, .int (nI I)), (3, .int (nI N))] [] G Q
  | 0, k, c, hc, hk, hj => by
    subst hc
    have hk : k = N := by omega
    subst hk
    refine rn_wp (stops := [14, 90]) 80 ?_
    refine bi_t (Int32.le_refl _) ?_
    exact wp_pick [1, 2] (K1 hj)
  | m + 1, k, c, hc, hk, hj => by
    subst hc
    refine rn_wp (stops := [14, 90]) 80 ?_
    refine bi_f (by simp (disch := omega) only [nI_1, nI_add, nI_clamp, nI_leI, nI_ltI, nI_eq, nI_toInt]; omega) ?_
    refine bj_t rfl ?_
    have e1 : 100 * nI S + nI I + 2 * nI k = nI (100 * S + (I + 2 * k)) := by rw [(ixM hS (by omega)).2, two_at, Nat.add_assoc]
    refine vi (by rw [e1]; exact vp_in_nI (by omega) (by omega)) ?_
    rw [e1, nI_clamp (by omega)]
    refine c_in 0 200 rfl rfl ?_
    refine bib (fun h => ?_) (fun h => ?_)
    · exact wp_pick [0, 1, 3, 6] (w_lookB (K2 (fun z => h (z k (by omega)).1)))
    · refine vi (by rw [nI_1]; exact vp_in_nI (by omega) (by omega)) ?_
      rw [nI_1, nI_clamp (by omega)]
      refine c_in 0 100 rfl rfl ?_
      refine bib (fun h2 => ?_) (fun h2 => ?_)
      · exact wp_pick [0, 1, 3, 6] (w_lookB (K2 (fun z => h2 (z k (by omega)).2)))
      · refine wp_pick [0, 1, 3, 4, 5, 6] (w_lookS hS hN K1 K2 m (k + 1) _ (nI_1 _) (by omega) ?_)
        intro q hq
        rcases Nat.lt_succ_iff_lt_or_eq.mp hq with z | z
        · exact hj q z
        · rw [z]; exact ⟨h, h2⟩
theorem U_id (f : Nat → Int32) (k : Nat) : upd f k (f k) = f := by
  funext j
  unfold upd
  split
  · rename_i h; rw [h]
  · rfl
theorem w_lookE {X : Xt} {y : Int32} {G : Gt} {Q : Qt} (K1 : y = 0 → Q (some (.int 0)) (sG G 26 (upd (G 26) 1 0))) (K2 : ¬ y = 0 → Q (some (.int y)) G) : wp X m_Mo_lookStorm 90 [(4, .int y), (0, .ref 26)] [] G Q := by
  refine rn_wp (stops := []) 20 ?_
  refine bj (fun h => ?_) (fun h => ?_)
  · refine Qg (K2 h) ?_
    rw [U_id, sG_id]
  · subst h
    exact K1 rfl
theorem c_lookStorm {X : Xt} {s i n : Int32} {G : Gt} {Q : Qt} (hs : 0 ≤ s ∧ s ≤ 7) (hn : 1 ≤ n ∧ n ≤ 48) (hz : 0 ≤ G 27 s.toNatClampNeg → 0 ≤ G 28 s.toNatClampNeg ∧ G 28 s.toNatClampNeg ≤ 100)
    (K2 : ¬ 0 ≤ G 27 s.toNatClampNeg → Q (some (.int (-1000011))) (sG G 26 (upd (G 26) 1 1)))
    (K3 : 0 ≤ G 27 s.toNatClampNeg → ¬ fnd (G 28 s.toNatClampNeg) i (2 * n) = 0 → Q (some (.int (-1000012))) (sG G 26 (upd (G 26) 1 2)))
    (K4 : 0 ≤ G 27 s.toNatClampNeg → fnd (G 28 s.toNatClampNeg) i (2 * n) = 0 → ¬ spP (fM G s.toNatClampNeg i.toNatClampNeg) 200 100 n.toNatClampNeg → Q (some (.int (-1000001))) G)
    (K5 : 0 ≤ G 27 s.toNatClampNeg → fnd (G 28 s.toNatClampNeg) i (2 * n) = 0 → spP (fM G s.toNatClampNeg i.toNatClampNeg) 200 100 n.toNatClampNeg → Q (some (.int 0)) (sG G 26 (upd (G 26) 1 0))) : con X m_Mo_lookStorm [.ref 26, .int s, .int i, .int n] G Q := by
  obtain ⟨en, t2, t3, t4, t5, t6⟩ := twoS hn
  refine con_rn 80 [14, 90] (by decide) rfl ?_
  refine c_lookAt hs t6 hz (fun g => ?_) (fun g g2 => ?_) (fun g g2 => ?_)
  · refine rn_wp (stops := [14, 90]) 20 ?_
    refine bi (fun h => ?_) (fun h => ?_)
    · exact wp_pick [1, 2] (w_lookE (fun z => absurd z (by decide)) (fun _ => K2 g))
    · refine bj_f (by decide) ?_
      exact wp_pick [1, 2] (w_lookE (fun z => absurd z (by decide)) (fun _ => K2 g))
  · refine rn_wp (stops := [14, 90]) 20 ?_
    refine bi (fun h => ?_) (fun h => ?_)
    · exact wp_pick [1, 2] (w_lookE (fun z => absurd z (by decide)) (fun _ => K3 g g2))
    · refine bj_f (by decide) ?_
      exact wp_pick [1, 2] (w_lookE (fun z => absurd z (by decide)) (fun _ => K3 g g2))
  · obtain ⟨ei, hI, -⟩ := fnd_I (N := 2 * n.toNatClampNeg) (fun _ => hz g) (by rw [t5]; omega) t6 g2
    obtain ⟨es, -, -⟩ := toN hs.1
    have hS := (sN hs).1
    have k4 := K4 g g2
    have k5 := K5 g g2
    clear K2 K3 K4 K5 g g2 t2 t3 t4 t5 t6 hz hn hs
    generalize s.toNatClampNeg = S at *
    generalize i.toNatClampNeg = I at *
    generalize n.toNatClampNeg = N at *
    subst es
    subst ei
    subst en
    refine w_lookS hS hI (fun hsp => ?_) (fun hsp => ?_) N 0 _ rfl (by omega) (fun q hq => absurd hq (by omega))
    · exact w_lookE (fun _ => k5 hsp) (fun z => absurd rfl z)
    · exact w_lookE (fun z => absurd z (by decide)) (fun _ => k4 hsp)
