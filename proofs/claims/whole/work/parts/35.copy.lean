/-! copy -/
abbrev hasI (z i n : Int32) : Prop := 0 ≤ i ∧ 0 ≤ n ∧ n ≤ z - i
theorem hasI_iff {z i n : Int32} (hz : 0 ≤ z ∧ z ≤ 100) : hasI z i n ↔ 0 ≤ i ∧ 0 ≤ n ∧ i.toInt + n.toInt ≤ z.toInt := by
  have h1 : 0 ≤ z.toInt := by simpa using le32.mp hz.1
  have h2 : z.toInt ≤ 100 := by simpa using le32.mp hz.2
  have h3 := rng i
  refine and_congr_right (fun h => and_congr_right (fun _ => ?_))
  have h4 : 0 ≤ i.toInt := by simpa using le32.mp h
  have e : (z - i).toInt = z.toInt - i.toInt := subI (by omega) (by omega)
  rw [le32, e]
  omega
set_option maxRecDepth 4000 in
theorem c_SW_copy {X : Xt} {a i b j n : Int32} {G : Gt} {Q : Qt} (hz : ∀ s : Int32, 0 ≤ s ∧ s ≤ 7 → ¬ G 4 s.toNatClampNeg = -1 → 0 ≤ G 4 s.toNatClampNeg ∧ G 4 s.toNatClampNeg ≤ 100)
    (K1 : ¬ ((0 ≤ a ∧ a ≤ 7) ∧ 0 ≤ b ∧ b ≤ 7) → Q (some (.int (-1000001))) G)
    (K2 : (0 ≤ a ∧ a ≤ 7) ∧ 0 ≤ b ∧ b ≤ 7 → G 4 a.toNatClampNeg = -1 ∨ G 4 b.toNatClampNeg = -1 → Q (some (.int (-1000011))) (sG G 0 (upd (G 0) 7 1)))
    (K3 : (0 ≤ a ∧ a ≤ 7) ∧ 0 ≤ b ∧ b ≤ 7 → ¬ G 4 a.toNatClampNeg = -1 → ¬ G 4 b.toNatClampNeg = -1 → ¬ G 3 a.toNatClampNeg = G 3 b.toNatClampNeg → Q (some (.int (-1000015))) (sG G 0 (upd (G 0) 7 5)))
    (K4 : (0 ≤ a ∧ a ≤ 7) ∧ 0 ≤ b ∧ b ≤ 7 → ¬ G 4 a.toNatClampNeg = -1 → ¬ G 4 b.toNatClampNeg = -1 → G 3 a.toNatClampNeg = G 3 b.toNatClampNeg → ¬ (hasI (G 4 a.toNatClampNeg) i n ∧ hasI (G 4 b.toNatClampNeg) j n) → Q (some (.int (-1000012))) (sG G 0 (upd (G 0) 7 2)))
    (K5 : (0 ≤ a ∧ a ≤ 7) ∧ 0 ≤ b ∧ b ≤ 7 → ¬ G 4 a.toNatClampNeg = -1 → ¬ G 4 b.toNatClampNeg = -1 → G 3 a.toNatClampNeg = G 3 b.toNatClampNeg → hasI (G 4 a.toNatClampNeg) i n → hasI (G 4 b.toNatClampNeg) j n → Q (some (.int n)) (sG (sG G 2 (va_cpy (G 2) (G 2) (ix a i) (ix b j) n.toNatClampNeg)) 0 (upd (G 0) 7 0))) : con X m_SW_copy [.ref 0, .int a, .int i, .int b, .int j, .int n] G Q := by
  refine con_rn 100 [] (by decide) rfl ?_
  refine c_isNumber (bib (fun h => K1 (fun z => h z.1)) (fun ha => ?_))
  refine c_isNumber (bjb (fun hb => ?_) (fun h => K1 (fun z => h z.2)))
  refine c_isMissing ha (bjb (fun h => ?_) (fun m1 => ?_))
  · refine c_found ?_
    exact K2 ⟨ha, hb⟩ (Or.inl h)
  refine c_isMissing hb (bib (fun m2 => ?_) (fun h => ?_))
  · refine c_areOfOneLane ha hb (bjb (fun hl => ?_) (fun h => ?_))
    · refine c_hasItems ha (bib (fun h => ?_) (fun h1 => ?_))
      · refine c_found ?_
        exact K4 ⟨ha, hb⟩ m1 m2 hl (fun z => h z.1)
      · refine c_hasItems hb (bjb (fun h2 => ?_) (fun h => ?_))
        · have q1 := (hasI_iff (hz a ha m1)).mp h1
          have q2 := (hasI_iff (hz b hb m2)).mp h2
          have r1 : (G 4 a.toNatClampNeg).toInt ≤ 100 := by simpa using le32.mp (hz a ha m1).2
          have r2 : (G 4 b.toNatClampNeg).toInt ≤ 100 := by simpa using le32.mp (hz b hb m2).2
          refine c_move ha hb q1.1 q2.1 q1.2.1 (by omega) (by omega) ?_
          refine c_fine ?_
          exact K5 ⟨ha, hb⟩ m1 m2 hl h1 h2
        · refine c_found ?_
          exact K4 ⟨ha, hb⟩ m1 m2 hl (fun z => h z.2)
    · refine c_found ?_
      exact K3 ⟨ha, hb⟩ m1 m2 h
  · refine c_found ?_
    exact K2 ⟨ha, hb⟩ (Or.inr h)
abbrev cpL (a i b j N : Nat) (u : Int32) : Lt := [(6, .int u), (0, .ref 26), (1, .int (nI a)), (2, .int (nI i)), (3, .int (nI b)), (4, .int (nI j)), (5, .int (nI N))]
theorem cp_ix (a i k : Nat) : 100 * nI a + nI i + nI k = nI (100 * a + i + k) := by
  rw [show (100 : Int32) = nI 100 from rfl, pk_mul, nI_add, nI_add]
set_option maxRecDepth 4000 in
theorem w_cpU {X : Xt} {a i b j N : Nat} {f : Nat → Int32} {Q : Qt} (ha : a < 8) (hb : b < 8) (hi : i + N ≤ 100) (hj : j + N ≤ 100) (hs : 100 * b + j ≤ 100 * a + i ∨ 100 * a + i + N ≤ 100 * b + j) : ∀ (m k : Nat) (c : Int32) (G : Gt), c = nI k → k + m = N → G 29 = va_cpy f f (100 * a + i) (100 * b + j) k → Q (some (.int (nI N))) (sG G 29 (va_cpy f f (100 * a + i) (100 * b + j) N)) → wp X m_Mo_copy 143 ((7, .int c) :: cpL a i b j N 1) [] G Q
  | 0, k, c, G, hc, hk, hG, K => by
    subst hc
    have hk : k = N := by omega
    subst hk
    refine rn_wp (stops := [143]) 60 ?_
    refine bi_t (Int32.le_refl _) ?_
    refine Qg K ?_
    rw [← hG, sG_id]
  | m + 1, k, c, G, hc, hk, hG, K => by
    subst hc
    refine rn_wp (stops := [143]) 60 ?_
    refine bi_f (by simp (disch := omega) only [nI_1, nI_add, nI_clamp, nI_leI, nI_ltI, nI_eq, nI_toInt]; omega) ?_
    refine bi_f (by decide) ?_
    refine vi (by rw [cp_ix]; exact vp_in_nI (by omega) (by omega)) ?_
    refine vi (by rw [cp_ix]; exact vp_in_nI (by omega) (by omega)) ?_
    rw [cp_ix, cp_ix, nI_clamp (by omega), nI_clamp (by omega)]
    refine wp_pick [0, 2, 3, 4, 5, 6, 7, 8] (w_cpU (f := f) ha hb hi hj hs m (k + 1) _ _ (nI_1 _) (by omega) ?_ ?_)
    · show upd (G 29) _ _ = _
      rw [hG]
      funext x
      by_cases h1 : x = 100 * b + j + k
      · subst h1
        rw [pk_us, pk_cpy_out (j := 100 * a + i + k) (by omega), pk_cpy_in (by omega) (by omega)]
        congr 1
        omega
      · rw [pk_un h1]
        by_cases h2 : 100 * b + j ≤ x ∧ x < 100 * b + j + k
        · rw [pk_cpy_in h2.1 h2.2, pk_cpy_in h2.1 (by omega)]
        · rw [pk_cpy_out (by omega), pk_cpy_out (by omega)]
    · rw [sG_sG]; exact K
def cpD (f : Nat → Int32) (sp dp N k : Nat) : Nat → Int32 := fun x => if dp + (N - k) ≤ x ∧ x < dp + N then f (sp + (x - dp)) else f x
set_option maxRecDepth 4000 in
theorem w_cpD {X : Xt} {a i b j N : Nat} {f : Nat → Int32} {Q : Qt} (ha : a < 8) (hb : b < 8) (hi : i + N ≤ 100) (hj : j + N ≤ 100) (hs : 100 * a + i ≤ 100 * b + j ∨ 100 * b + j + N ≤ 100 * a + i) : ∀ (m k : Nat) (c : Int32) (G : Gt), c = nI k → k + m = N → G 29 = cpD f (100 * a + i) (100 * b + j) N k → Q (some (.int (nI N))) (sG G 29 (va_cpy f f (100 * a + i) (100 * b + j) N)) → wp X m_Mo_copy 143 ((7, .int c) :: cpL a i b j N 0) [] G Q
  | 0, k, c, G, hc, hk, hG, K => by
    subst hc
    have hk : k = N := by omega
    subst hk
    refine rn_wp (stops := [143]) 60 ?_
    refine bi_t (Int32.le_refl _) ?_
    refine Qg K ?_
    have e : va_cpy f f (100 * a + i) (100 * b + j) k = G 29 := by
      rw [hG]
      funext x
      unfold cpD
      by_cases h2 : 100 * b + j ≤ x ∧ x < 100 * b + j + k
      · rw [pk_cpy_in h2.1 h2.2, if_pos (by omega)]
      · rw [pk_cpy_out (by omega), if_neg (by omega)]
    rw [e, sG_id]
  | m + 1, k, c, G, hc, hk, hG, K => by
    subst hc
    refine rn_wp (stops := [143]) 60 ?_
    refine bi_f (by simp (disch := omega) only [nI_1, nI_add, nI_clamp, nI_leI, nI_ltI, nI_eq, nI_toInt]; omega) ?_
    refine bi_t rfl ?_
    have e : nI N - 1 - nI k = nI (N - 1 - k) := by rw [nI_m1 (by omega), pk_sub (by omega)]
    refine vi (by rw [e, cp_ix]; exact vp_in_nI (by omega) (by omega)) ?_
    refine vi (by rw [e, cp_ix]; exact vp_in_nI (by omega) (by omega)) ?_
    rw [e, cp_ix, cp_ix, nI_clamp (by omega), nI_clamp (by omega)]
    refine wp_pick [0, 2, 3, 4, 5, 6, 7, 8] (w_cpD (f := f) ha hb hi hj hs m (k + 1) _ _ (nI_1 _) (by omega) ?_ ?_)
    · show upd (G 29) _ _ = _
      rw [hG]
      funext x
      unfold cpD
      by_cases h1 : x = 100 * b + j + (N - 1 - k)
      · subst h1
        rw [pk_us, if_neg (by omega), if_pos (by omega)]
        congr 1
        omega
      · rw [pk_un h1]
        by_cases h2 : 100 * b + j + (N - k) ≤ x ∧ x < 100 * b + j + N
        · rw [if_pos h2, if_pos (by omega)]
        · rw [if_neg h2, if_neg (by omega)]
    · rw [sG_sG]; exact K
