/-! count -/
theorem c_blocks {X : Xt} {G : Gt} {Q : Qt} (K : Q (some (.int (G 14 3))) G) : con X m_Pile_blocks [.ref 14] G Q := by
  refine con_rn 40 [] (by decide) rfl ?_
  repeat' first | refine bib (fun h => ?_) (fun h => ?_) | refine bjb (fun h => ?_) (fun h => ?_) | refine bi (fun h => ?_) (fun h => ?_) | refine bj (fun h => ?_) (fun h => ?_) | refine vi (inI (by decide) (by decide)) ?_ | refine vi ?_ ?_ | refine zi (by decide) ?_ | refine zi ?_ ?_ | refine ni rfl ?_ | refine ni (bI_nar _) ?_
  exact K
set_option maxRecDepth 8000 in
theorem c_allPlaces {X : Xt} {G : Gt} {Q : Qt} (K : Q (some (.int 68)) G) : con X m_Pile_allPlaces [] G Q := by
  refine con_rn 200 [] (by decide) rfl ?_
  repeat' first | refine bib_t (by decide) ?_ | refine bib_f (by decide) ?_ | refine bjb_t (by decide) ?_ | refine bjb_f (by decide) ?_ | refine bi_t (by decide) ?_ | refine bi_f (by decide) ?_ | refine bj_t (by decide) ?_ | refine bj_f (by decide) ?_ | refine bib (fun h => ?_) (fun h => ?_) | refine bjb (fun h => ?_) (fun h => ?_) | refine bi (fun h => ?_) (fun h => ?_) | refine bj (fun h => ?_) (fun h => ?_) | refine vi (inI (by decide) (by decide)) ?_ | refine vi ?_ ?_ | refine zi (by decide) ?_ | refine zi ?_ ?_ | refine ni rfl ?_ | refine ni (bI_nar _) ?_
  exact Qi K (by decide)
theorem c_SW_count {X : Xt} {N : Nat} {a : Int32} {G : Gt} {Q : Qt} (hN6 : N ≤ 6) (hl : lyOK (G 5 3)) (hm : G 5 3 = nI N)
    (K0 : a = 0 → Q (some (.int (nI (prs (G 4) 8)))) G)
    (K1 : a = 1 → Q (some (.int (G 5 3))) G)
    (K2 : a = 2 → Q (some (.int (nI (hN (G 5 3) (G 6 4) (G 8) N)))) G)
    (K3 : a = 3 → Q (some (.int (nI (oN (G 5 3) (G 6 4) (G 8) N)))) G)
    (K4 : a = 4 → Q (some (.int (G 14 3))) G)
    (K5 : a = 5 → Q (some (.int 68)) G)
    (K6 : ¬ (0 ≤ a ∧ a ≤ 5) → Q (some (.int (-1000001))) G) : con X m_SW_count [.ref 0, .int a] G Q := by
  refine con_rn 40 [] (by decide) rfl ?_
  refine ⟨fun h => ?_, fun h => ?_, fun h => ?_, fun h => ?_, fun h => ?_, fun h => ?_, fun h => ?_, trivial⟩
  · refine K6 (fun z => ?_)
    ((try simp only [le32, lt32, eq32, ne_eq, cl_0, cl_1, cl_2, cl_3, cl_4, cl_5, cl_6] at *); (try simp only [Int32.reduceToInt] at *); omega)
  · refine c_present ?_
    exact K0 h
  · refine c_layers ?_
    exact K1 h
  · refine c_holding hN6 hl hm ?_
    exact K2 h
  · refine c_loose hN6 hl hm ?_
    exact K3 h
  · refine c_blocks ?_
    exact K4 h
  · refine c_allPlaces ?_
    exact K5 h
def prl (f : Nat → Int32) : Nat → Nat
  | 0 => 0
  | n + 1 => prl f n + (if 0 ≤ f n then 1 else 0)
theorem w_Mc0 {X : Xt} {a : Int32} {G : Gt} {Q : Qt} (K : Q (some (.int (nI (prl (G 27) 8)))) G) : ∀ (m k : Nat) (c d : Int32), c = nI k → k + m = 8 → d = nI (prl (G 27) k) → wp X m_Mo_count 50 [(3, .int c), (2, .int d), (0, .ref 26), (1, .int a)] [] G Q
  | 0, k, c, d, hc, hk, hd => by
    subst hc
    have hk : k = 8 := by omega
    subst hk
    refine rn_wp (stops := [50]) 40 ?_
    refine bi_t (by decide) ?_
    exact Qi K hd
  | m + 1, k, c, d, hc, hk, hd => by
    subst hc
    refine rn_wp (stops := [50]) 40 ?_
    refine bi_f (by rw [show (8 : Int32) = nI 8 from rfl]; simp (disch := omega) only [nI_1, nI_add, nI_clamp, nI_leI, nI_ltI, nI_eq, nI_toInt]; omega) ?_
    refine vi (vp_in_nI (by omega) (by omega)) ?_
    rw [nI_clamp (by omega)]
    refine bi (fun h => ?_) (fun h => ?_)
    · refine w_Mc0 K m (k + 1) _ _ (nI_1 _) (by omega) ?_
      rw [hd, prl, if_neg (fun z => Int32.not_lt.mpr z h)]
      exact Int32.add_zero _
    · refine w_Mc0 K m (k + 1) _ _ (nI_1 _) (by omega) ?_
      rw [hd, prl, if_pos (Int32.not_lt.mp h), nI_1]
theorem w_Mc2 {X : Xt} {N : Nat} {G : Gt} {Q : Qt} (hN6 : N ≤ 6) (hl : lyOK (G 26 6)) (hm : G 26 6 = nI N) (K : Q (some (.int (nI (hN (G 26 6) (G 30 4) (G 32) N)))) G) : ∀ (m j : Nat) (c t : Int32), c = nI j → j + m = N → t = nI (hN (G 26 6) (G 30 4) (G 32) j) → wp X m_Mo_count 88 [(3, .int c), (2, .int t), (0, .ref 26), (1, .int 2)] [] G Q
  | 0, j, c, t, hc, hj, ht => by
    subst hc
    have hj : j = N := by omega
    subst hj
    refine rn_wp (stops := [88]) 40 ?_
    refine bi (fun h => ?_) (fun h => ?_)
    · exact Qi K ht
    · exact absurd (by rw [hm]; exact Int32.le_refl _) h
  | m + 1, j, c, t, hc, hj, ht => by
    subst hc
    refine rn_wp (stops := [88]) 40 ?_
    refine bi (fun h => ?_) (fun h => ?_)
    · exfalso
      rw [hm] at h
      simp (disch := omega) only [nI_1, nI_add, nI_clamp, nI_leI, nI_ltI, nI_eq, nI_toInt] at h
      omega
    · refine bj_t rfl ?_
      refine c_Mholds hl (by rw [hm]; exact lkN hN6 (by omega)) ?_
      refine bib (fun h2 => ?_) (fun h2 => ?_)
      · refine w_Mc2 hN6 hl hm K m (j + 1) _ _ (nI_1 _) (by omega) ?_
        rw [ht, hN, if_neg h2]
        exact Int32.add_zero _
      · refine w_Mc2 hN6 hl hm K m (j + 1) _ _ (nI_1 _) (by omega) ?_
        rw [ht, hN, if_pos h2, nI_1]
theorem w_Mc3 {X : Xt} {N : Nat} {G : Gt} {Q : Qt} (hN6 : N ≤ 6) (hl : lyOK (G 26 6)) (hm : G 26 6 = nI N) (K : Q (some (.int (nI (oN (G 26 6) (G 30 4) (G 32) N)))) G) : ∀ (m j : Nat) (c t : Int32), c = nI j → j + m = N → t = nI (oN (G 26 6) (G 30 4) (G 32) j) → wp X m_Mo_count 88 [(3, .int c), (2, .int t), (0, .ref 26), (1, .int 3)] [] G Q
  | 0, j, c, t, hc, hj, ht => by
    subst hc
    have hj : j = N := by omega
    subst hj
    refine rn_wp (stops := [88]) 40 ?_
    refine bi (fun h => ?_) (fun h => ?_)
    · exact Qi K ht
    · exact absurd (by rw [hm]; exact Int32.le_refl _) h
  | m + 1, j, c, t, hc, hj, ht => by
    subst hc
    refine rn_wp (stops := [88]) 40 ?_
    refine bi (fun h => ?_) (fun h => ?_)
    · exfalso
      rw [hm] at h
      simp (disch := omega) only [nI_1, nI_add, nI_clamp, nI_leI, nI_ltI, nI_eq, nI_toInt] at h
      omega
    · refine bj_f (by decide) ?_
      refine c_MkindOf hl (by rw [hm]; exact lkN hN6 (by omega)) ?_
      refine bj (fun h2 => ?_) (fun h2 => ?_)
      · refine w_Mc3 hN6 hl hm K m (j + 1) _ _ (nI_1 _) (by omega) ?_
        rw [ht, oN, if_neg h2]
        exact Int32.add_zero _
      · refine w_Mc3 hN6 hl hm K m (j + 1) _ _ (nI_1 _) (by omega) ?_
        rw [ht, oN, if_pos h2, nI_1]
/-- the bits of the rows against the places -/
def lbR (li ro : Nat → Int32) : Prop := (∀ r, r < 8 → 0 ≤ (ro r).toInt) ∧ ∀ r p : Nat, r < 8 → p < 12 → (¬ li (12 * r + p) = 0 ↔ tb ro r p)
theorem bit_val {x : Int32} {P : Nat} (h : 0 ≤ x.toInt) (hP : P < 32) : (x >>> (nI P &&& 31)) &&& 1 = nI (if x.toInt.toNat.testBit P = true then 1 else 0) := by
  obtain ⟨e, hB⟩ := rN h
  generalize x.toInt.toNat = B at *
  subst e
  rw [pk_shrN hB _ P (s_l P hP), pk_andN (Nat.lt_of_le_of_lt (Nat.div_le_self _ _) (by omega)) 1 rfl, Nat.testBit_eq_decide_div_mod_eq]
  congr 1
  simp only [decide_eq_true_eq]
  split <;> omega
theorem w_Mc4i {X : Xt} {li : Nat → Int32} {R : Nat} {a : Int32} {G : Gt} {Q : Qt} (hR : R < 8) (hb : lbR li (G 37)) (K : ∀ q, q = nI (R + 1) → wp X m_Mo_count 144 [(3, .int q), (2, .int (nI (cnt li (12 * (R + 1))))), (0, .ref 26), (1, .int a)] [] G Q) : ∀ (m k : Nat) (c t : Int32), c = nI k → k + m = 12 → t = nI (cnt li (12 * R + k)) → wp X m_Mo_count 153 [(4, .int c), (3, .int (nI R)), (2, .int t), (0, .ref 26), (1, .int a)] [] G Q
  | 0, k, c, t, hc, hk, ht => by
    subst hc
    have hk : k = 12 := by omega
    subst hk
    refine rn_wp (stops := [144, 153]) 40 ?_
    refine bi_t (by decide) ?_
    subst ht
    exact wp_pick [0, 2, 3, 4] (K _ (nI_1 R))
  | m + 1, k, c, t, hc, hk, ht => by
    subst hc
    refine rn_wp (stops := [144, 153]) 40 ?_
    refine bi_f (by rw [show (12 : Int32) = nI 12 from rfl]; simp (disch := omega) only [nI_1, nI_add, nI_clamp, nI_leI, nI_ltI, nI_eq, nI_toInt]; omega) ?_
    refine vi (vp_in_nI (by omega) (by omega)) ?_
    rw [nI_clamp (by omega)]
    refine wp_pick [0, 2, 1, 3, 4] (w_Mc4i hR hb K m (k + 1) _ _ (nI_1 _) (by omega) ?_)
    rw [ht, bit_val (hb.1 R hR) (by omega), nI_add]
    congr 1
    show _ = cnt li (12 * R + k + 1)
    rw [cnt]
    congr 1
    have := hb.2 R k hR (by omega)
    by_cases h : li (12 * R + k) = 0
    · rw [if_pos h, if_neg (fun z => this.mpr z h)]
    · rw [if_neg h, if_pos (this.mp h)]
theorem w_Mc4 {X : Xt} {li : Nat → Int32} {a : Int32} {G : Gt} {Q : Qt} (hb : lbR li (G 37)) (K : Q (some (.int (nI (cnt li 96)))) G) : ∀ (m k : Nat) (c t : Int32), c = nI k → k + m = 8 → t = nI (cnt li (12 * k)) → wp X m_Mo_count 144 [(3, .int c), (2, .int t), (0, .ref 26), (1, .int a)] [] G Q
  | 0, k, c, t, hc, hk, ht => by
    subst hc
    have hk : k = 8 := by omega
    subst hk
    refine rn_wp (stops := [144, 153]) 40 ?_
    refine bi_t (by decide) ?_
    exact Qi K ht
  | m + 1, k, c, t, hc, hk, ht => by
    subst hc
    refine rn_wp (stops := [144, 153]) 40 ?_
    refine bi_f (by rw [show (8 : Int32) = nI 8 from rfl]; simp (disch := omega) only [nI_1, nI_add, nI_clamp, nI_leI, nI_ltI, nI_eq, nI_toInt]; omega) ?_
    exact w_Mc4i (by omega) hb (fun q hq => w_Mc4 hb K m (k + 1) _ _ hq (by omega) rfl) 12 0 _ _ rfl rfl ht
theorem c_Mo_count {X : Xt} {N : Nat} {li : Nat → Int32} {a : Int32} {G : Gt} {Q : Qt} (h0 : G 26 0 = 0) (hN6 : N ≤ 6) (hl : lyOK (G 26 6)) (hm : G 26 6 = nI N) (hb : lbR li (G 37))
    (K0 : a = 0 → Q (some (.int (nI (prl (G 27) 8)))) G)
    (K1 : a = 1 → Q (some (.int (G 26 6))) G)
    (K2 : a = 2 → Q (some (.int (nI (hN (G 26 6) (G 30 4) (G 32) N)))) G)
    (K3 : a = 3 → Q (some (.int (nI (oN (G 26 6) (G 30 4) (G 32) N)))) G)
    (K4 : a = 4 → Q (some (.int (nI (cnt li 96)))) G)
    (K5 : a = 5 → Q (some (.int 68)) G)
    (K6 : ¬ (0 ≤ a ∧ a ≤ 5) → Q (some (.int (-1000001))) G) : con X m_Mo_count [.ref 26, .int a] G Q := by
  refine con_rm 40 [50, 88, 144] (by decide) rfl (by decide +kernel) h0 ?_
  refine ⟨fun h => ?_, fun h => ?_, fun h => ?_, fun h => ?_, fun h => ?_, fun h => ?_, fun h => ?_, trivial⟩
  · refine K6 (fun z => ?_)
    ((try simp only [le32, lt32, eq32, ne_eq, cl_0, cl_1, cl_2, cl_3, cl_4, cl_5, cl_6] at *); (try simp only [Int32.reduceToInt] at *); omega)
  · exact w_Mc0 (K0 h) 8 0 _ _ rfl rfl rfl
  · exact K1 h
  · have h : a = 2 := h
    subst h
    exact w_Mc2 hN6 hl hm (K2 rfl) N 0 _ _ rfl (by omega) rfl
  · have h : a = 3 := h
    subst h
    exact w_Mc3 hN6 hl hm (K3 rfl) N 0 _ _ rfl (by omega) rfl
  · exact w_Mc4 hb (K4 h) 8 0 _ _ rfl rfl rfl
  · exact K5 h
theorem prl_prs {f g : Nat → Int32} : ∀ (n : Nat), (∀ s, s < n → (f s = -1 ↔ ¬ 0 ≤ g s)) → prl g n = prs f n
  | 0, _ => rfl
  | n + 1, h => by
    rw [prl, prs, prl_prs n (fun s hs => h s (by omega))]
    have := h n (by omega)
    by_cases q : f n = -1
    · rw [if_pos q, if_neg (this.mp q)]
    · rw [if_neg q, if_pos (Decidable.byContradiction fun z => q (this.mpr z))]
theorem p_count {X : Xt} {G : Gt} (hI : Inv G) {a : Int32} : pair X m_SW_count m_Mo_count [.int a] G := by
  obtain ⟨⟨w1, w2, w3, w4, w5, w6, w7⟩, hT, hS, hP, hs, h0⟩ := id hI
  obtain ⟨N, hN6, hm⟩ := lyN w5
  have hl' : lyOK (G 26 6) := w1 ▸ w5
  have hm' : G 26 6 = nI N := w1 ▸ hm
  have hb : lbR (G 15) (G 37) := ⟨fun r hr => (hP.2.1 r hr).1, fun r p hr hp => IP_0 hP hr hp⟩
  have hM : ∀ {v : Int32}, (a = 0 → nI (prs (G 4) 8) = v) → (a = 1 → G 5 3 = v) → (a = 2 → nI (hN (G 5 3) (G 6 4) (G 8) N) = v) → (a = 3 → nI (oN (G 5 3) (G 6 4) (G 8) N) = v) → (a = 4 → G 14 3 = v) → (a = 5 → 68 = v) → (¬ (0 ≤ a ∧ a ≤ 5) → -1000001 = v) → con X m_Mo_count [.ref 26, .int a] G (fun r2 G2 => r2 = some (.int v) ∧ Inv G2) := by
    intro v g0 g1 g2 g3 g4 g5 g6
    refine c_Mo_count h0 hN6 hl' hm' hb (fun h => ⟨?_, hI⟩) (fun h => ⟨?_, hI⟩) (fun h => ⟨?_, hI⟩) (fun h => ⟨?_, hI⟩) (fun h => ⟨?_, hI⟩) (fun h => ⟨?_, hI⟩) (fun h => ⟨?_, hI⟩)
    · rw [prl_prs 8 (fun s hs => (IS_at hS hs).1), g0 h]
    · rw [← w1, g1 h]
    · rw [← w1, ← w2, ← w4, g2 h]
    · rw [← w1, ← w2, ← w4, g3 h]
    · rw [← hP.2.2.2, g4 h]
    · rw [g5 h]
    · rw [g6 h]
  have d0 : ∀ {P : Prop}, a = 0 → (a = 1 ∨ a = 2 ∨ a = 3 ∨ a = 4 ∨ a = 5 ∨ ¬ (0 ≤ a ∧ a ≤ 5)) → P := by
    intro P h h2
    subst h
    exact absurd h2 (by decide)
  refine c_SW_count hN6 w5 hm (fun h => pq ?_) (fun h => pq ?_) (fun h => pq ?_) (fun h => pq ?_) (fun h => pq ?_) (fun h => pq ?_) (fun h => pq ?_)
  · subst h; exact hM (fun _ => rfl) (fun z => absurd z (by decide)) (fun z => absurd z (by decide)) (fun z => absurd z (by decide)) (fun z => absurd z (by decide)) (fun z => absurd z (by decide)) (fun z => absurd (by decide) z)
  · subst h; exact hM (fun z => absurd z (by decide)) (fun _ => rfl) (fun z => absurd z (by decide)) (fun z => absurd z (by decide)) (fun z => absurd z (by decide)) (fun z => absurd z (by decide)) (fun z => absurd (by decide) z)
  · subst h; exact hM (fun z => absurd z (by decide)) (fun z => absurd z (by decide)) (fun _ => rfl) (fun z => absurd z (by decide)) (fun z => absurd z (by decide)) (fun z => absurd z (by decide)) (fun z => absurd (by decide) z)
  · subst h; exact hM (fun z => absurd z (by decide)) (fun z => absurd z (by decide)) (fun z => absurd z (by decide)) (fun _ => rfl) (fun z => absurd z (by decide)) (fun z => absurd z (by decide)) (fun z => absurd (by decide) z)
  · subst h; exact hM (fun z => absurd z (by decide)) (fun z => absurd z (by decide)) (fun z => absurd z (by decide)) (fun z => absurd z (by decide)) (fun _ => rfl) (fun z => absurd z (by decide)) (fun z => absurd (by decide) z)
  · subst h; exact hM (fun z => absurd z (by decide)) (fun z => absurd z (by decide)) (fun z => absurd z (by decide)) (fun z => absurd z (by decide)) (fun z => absurd z (by decide)) (fun _ => rfl) (fun z => absurd (by decide) z)
  · exact hM (fun z => absurd (by rw [z]; decide) h) (fun z => absurd (by rw [z]; decide) h) (fun z => absurd (by rw [z]; decide) h) (fun z => absurd (by rw [z]; decide) h) (fun z => absurd (by rw [z]; decide) h) (fun z => absurd (by rw [z]; decide) h) (fun _ => rfl)
