/-! the model's small methods -/
theorem le64 {a b : Int32} : a.toInt64 ≤ b.toInt64 ↔ a ≤ b := by
  rw [Int64.le_iff_toInt_le, Int32.toInt_toInt64, Int32.toInt_toInt64, ← Int32.le_iff_toInt_le]
theorem lcmp_lt (x y : Int64) : lg_cmp x y < 0 ↔ x < y := by
  unfold lg_cmp
  split
  · rename_i h
    exact ⟨fun z => absurd z (by decide), fun z => absurd (Int64.lt_trans h z) (Int64.lt_irrefl)⟩
  · split
    · rename_i h1 h2
      exact ⟨fun z => absurd z (by decide), fun z => absurd (h2 ▸ z) Int64.lt_irrefl⟩
    · rename_i h1 h2
      refine ⟨fun _ => ?_, fun _ => by decide⟩
      exact Int64.lt_of_le_of_ne (Int64.not_lt.mp h1) h2
theorem lcmp_gt (x y : Int64) : 0 < lg_cmp x y ↔ y < x := by
  unfold lg_cmp
  split
  · rename_i h
    exact ⟨fun _ => h, fun _ => by decide⟩
  · split
    · rename_i h1 h2
      exact ⟨fun z => absurd z (by decide), fun z => absurd z h1⟩
    · rename_i h1 h2
      exact ⟨fun z => absurd z (by decide), fun z => absurd z h1⟩
theorem c_inL {X : Xt} {a b c : Int64} {G : Gt} {Q : Qt} (K : Q (some (.int (bI (b ≤ a ∧ a ≤ c)))) G) : con X m_Mo_in [.long a, .long b, .long c] G Q := by
  refine con_rn 40 [] (by decide) rfl ?_
  repeat' first | refine bib (fun h => ?_) (fun h => ?_) | refine bjb (fun h => ?_) (fun h => ?_) | refine bi (fun h => ?_) (fun h => ?_) | refine bj (fun h => ?_) (fun h => ?_) | refine vi (inI (by decide) (by decide)) ?_ | refine vi ?_ ?_ | refine zi (by decide) ?_ | refine zi ?_ ?_ | refine ni rfl ?_ | refine ni (bI_nar _) ?_
  · rw [lcmp_lt] at h
    exact Qi K (bI_f (fun z => Int64.not_lt.mpr z.1 h)).symm
  · rw [lcmp_gt] at h
    exact Qi K (bI_f (fun z => Int64.not_lt.mpr z.2 h)).symm
  · rename_i h1
    rw [lcmp_gt] at h
    rw [lcmp_lt] at h1
    exact Qi K (bI_t ⟨Int64.not_lt.mp h1, Int64.not_lt.mp h⟩).symm
theorem c_in {X : Xt} (lo hi : Int32) {x : Int32} {b c : Int64} {G : Gt} {Q : Qt} (hb : b = lo.toInt64) (hc : c = hi.toInt64) (K : Q (some (.int (bI (lo ≤ x ∧ x ≤ hi)))) G) : con X m_Mo_in [.long x.toInt64, .long b, .long c] G Q := by
  refine c_inL ?_
  refine Qi K (bI_congr ?_)
  rw [hb, hc, le64, le64]
theorem c_Mfound {X : Xt} {f : Int32} {G : Gt} {Q : Qt} (K : Q (some (.int (-1000010 - f))) (sG G 26 (upd (G 26) 1 f))) : con X m_Mo_found [.ref 26, .int f] G Q := by
  refine con_rn 40 [] (by decide) rfl ?_
  repeat' first | refine bib (fun h => ?_) (fun h => ?_) | refine bjb (fun h => ?_) (fun h => ?_) | refine bi (fun h => ?_) (fun h => ?_) | refine bj (fun h => ?_) (fun h => ?_) | refine vi (inI (by decide) (by decide)) ?_ | refine vi ?_ ?_ | refine zi (by decide) ?_ | refine zi ?_ ?_ | refine ni rfl ?_ | refine ni (bI_nar _) ?_
  exact K
theorem c_isSheet {X : Xt} {s : Int32} {G : Gt} {Q : Qt} (K : Q (some (.int (bI (0 ≤ s ∧ s ≤ 7)))) G) : con X m_Mo_isSheet [.int s] G Q := by
  refine con_rn 40 [] (by decide) rfl ?_
  repeat' first | refine bib (fun h => ?_) (fun h => ?_) | refine bjb (fun h => ?_) (fun h => ?_) | refine bi (fun h => ?_) (fun h => ?_) | refine bj (fun h => ?_) (fun h => ?_) | refine vi (inI (by decide) (by decide)) ?_ | refine vi ?_ ?_ | refine zi (by decide) ?_ | refine zi ?_ ?_ | refine ni rfl ?_ | refine ni (bI_nar _) ?_ | refine (c_in 0 7 rfl rfl) ?_
  exact K
theorem c_isLaid {X : Xt} {t w : Int32} {G : Gt} {Q : Qt} (K : Q (some (.int (bI ((1 ≤ t ∧ t ≤ 10) ∧ 1 ≤ w ∧ w ≤ 60000)))) G) : con X m_Mo_isLaid [.int t, .int w] G Q := by
  refine con_rn 40 [] (by decide) rfl ?_
  repeat' first | refine bib (fun h => ?_) (fun h => ?_) | refine bjb (fun h => ?_) (fun h => ?_) | refine bi (fun h => ?_) (fun h => ?_) | refine bj (fun h => ?_) (fun h => ?_) | refine vi (inI (by decide) (by decide)) ?_ | refine vi ?_ ?_ | refine zi (by decide) ?_ | refine zi ?_ ?_ | refine ni rfl ?_ | refine ni (bI_nar _) ?_ | refine (c_in 1 10 rfl rfl) ?_ | refine (c_in 1 60000 rfl rfl) ?_
  all_goals first | exact Qi K (bI_t (by ((try simp only [le32, lt32, eq32, ne_eq, cl_0, cl_1, cl_2, cl_3, cl_4, cl_5, cl_6] at *); (try simp only [Int32.reduceToInt] at *); omega))).symm | exact Qi K (bI_f (by ((try simp only [le32, lt32, eq32, ne_eq, cl_0, cl_1, cl_2, cl_3, cl_4, cl_5, cl_6] at *); (try simp only [Int32.reduceToInt] at *); omega))).symm | (refine inI ?_ ?_ <;> ((try simp only [le32, lt32, eq32, ne_eq, cl_0, cl_1, cl_2, cl_3, cl_4, cl_5, cl_6] at *); (try simp only [Int32.reduceToInt] at *); omega))
theorem c_isLayer {X : Xt} {k : Int32} {G : Gt} {Q : Qt} (K : Q (some (.int (bI (0 ≤ k ∧ k ≤ G 26 6 - 1)))) G) : con X m_Mo_isLayer [.ref 26, .int k] G Q := by
  refine con_rn 40 [] (by decide) rfl ?_
  repeat' first | refine bib (fun h => ?_) (fun h => ?_) | refine bjb (fun h => ?_) (fun h => ?_) | refine bi (fun h => ?_) (fun h => ?_) | refine bj (fun h => ?_) (fun h => ?_) | refine vi (inI (by decide) (by decide)) ?_ | refine vi ?_ ?_ | refine zi (by decide) ?_ | refine zi ?_ ?_ | refine ni rfl ?_ | refine ni (bI_nar _) ?_ | refine (c_in 0 _ rfl rfl) ?_
  exact K
theorem c_MisCrane {X : Xt} {c r : Int32} {G : Gt} {Q : Qt} (K : Q (some (.int (bI ((0 ≤ c ∧ c ≤ 11) ∧ 0 ≤ r ∧ r ≤ 30)))) G) : con X m_Mo_isCrane [.int c, .int r] G Q := by
  refine con_rn 40 [] (by decide) rfl ?_
  repeat' first | refine bib (fun h => ?_) (fun h => ?_) | refine bjb (fun h => ?_) (fun h => ?_) | refine bi (fun h => ?_) (fun h => ?_) | refine bj (fun h => ?_) (fun h => ?_) | refine vi (inI (by decide) (by decide)) ?_ | refine vi ?_ ?_ | refine zi (by decide) ?_ | refine zi ?_ ?_ | refine ni rfl ?_ | refine ni (bI_nar _) ?_ | refine (c_in 0 11 rfl rfl) ?_ | refine (c_in 0 30 rfl rfl) ?_
  all_goals first | exact Qi K (bI_t (by ((try simp only [le32, lt32, eq32, ne_eq, cl_0, cl_1, cl_2, cl_3, cl_4, cl_5, cl_6] at *); (try simp only [Int32.reduceToInt] at *); omega))).symm | exact Qi K (bI_f (by ((try simp only [le32, lt32, eq32, ne_eq, cl_0, cl_1, cl_2, cl_3, cl_4, cl_5, cl_6] at *); (try simp only [Int32.reduceToInt] at *); omega))).symm | (refine inI ?_ ?_ <;> ((try simp only [le32, lt32, eq32, ne_eq, cl_0, cl_1, cl_2, cl_3, cl_4, cl_5, cl_6] at *); (try simp only [Int32.reduceToInt] at *); omega))
theorem c_isHarbour {X : Xt} {w h b : Int32} {G : Gt} {Q : Qt} (K : Q (some (.int (bI ((1 ≤ w ∧ w ≤ 50) ∧ (1 ≤ h ∧ h ≤ 50) ∧ 0 ≤ b ∧ b ≤ 10)))) G) : con X m_Mo_isHarbour [.int w, .int h, .int b] G Q := by
  refine con_rn 60 [] (by decide) rfl ?_
  repeat' first | refine bib (fun h => ?_) (fun h => ?_) | refine bjb (fun h => ?_) (fun h => ?_) | refine bi (fun h => ?_) (fun h => ?_) | refine bj (fun h => ?_) (fun h => ?_) | refine vi (inI (by decide) (by decide)) ?_ | refine vi ?_ ?_ | refine zi (by decide) ?_ | refine zi ?_ ?_ | refine ni rfl ?_ | refine ni (bI_nar _) ?_ | refine (c_in 1 50 rfl rfl) ?_ | refine (c_in 0 10 rfl rfl) ?_
  all_goals first | exact Qi K (bI_t (by ((try simp only [le32, lt32, eq32, ne_eq, cl_0, cl_1, cl_2, cl_3, cl_4, cl_5, cl_6] at *); (try simp only [Int32.reduceToInt] at *); omega))).symm | exact Qi K (bI_f (by ((try simp only [le32, lt32, eq32, ne_eq, cl_0, cl_1, cl_2, cl_3, cl_4, cl_5, cl_6] at *); (try simp only [Int32.reduceToInt] at *); omega))).symm | (refine inI ?_ ?_ <;> ((try simp only [le32, lt32, eq32, ne_eq, cl_0, cl_1, cl_2, cl_3, cl_4, cl_5, cl_6] at *); (try simp only [Int32.reduceToInt] at *); omega))
theorem c_MisPlace {X : Xt} {r p : Int32} {G : Gt} {Q : Qt} (K : Q (some (.int (bI ((0 ≤ r ∧ r ≤ 7) ∧ 0 ≤ p ∧ p ≤ 11 - r)))) G) : con X m_Mo_isPlace [.int r, .int p] G Q := by
  refine con_rn 40 [] (by decide) rfl ?_
  repeat' first | refine bib (fun h => ?_) (fun h => ?_) | refine bjb (fun h => ?_) (fun h => ?_) | refine bi (fun h => ?_) (fun h => ?_) | refine bj (fun h => ?_) (fun h => ?_) | refine vi (inI (by decide) (by decide)) ?_ | refine vi ?_ ?_ | refine zi (by decide) ?_ | refine zi ?_ ?_ | refine ni rfl ?_ | refine ni (bI_nar _) ?_ | refine (c_in 0 7 rfl rfl) ?_ | refine (c_in 0 _ rfl rfl) ?_
  all_goals first | exact Qi K (bI_t (by ((try simp only [le32, lt32, eq32, ne_eq, cl_0, cl_1, cl_2, cl_3, cl_4, cl_5, cl_6] at *); (try simp only [Int32.reduceToInt] at *); omega))).symm | exact Qi K (bI_f (by ((try simp only [le32, lt32, eq32, ne_eq, cl_0, cl_1, cl_2, cl_3, cl_4, cl_5, cl_6] at *); (try simp only [Int32.reduceToInt] at *); omega))).symm | (refine inI ?_ ?_ <;> ((try simp only [le32, lt32, eq32, ne_eq, cl_0, cl_1, cl_2, cl_3, cl_4, cl_5, cl_6] at *); (try simp only [Int32.reduceToInt] at *); omega))
theorem c_Mholds {X : Xt} {k : Int32} {G : Gt} {Q : Qt} (hl : lyOK (G 26 6)) (hk : 0 ≤ k ∧ k ≤ G 26 6 - 1) (K : Q (some (.int (bI (hS (G 26 6) (G 30 4) (G 32) k)))) G) : con X m_Mo_holds [.ref 26, .int k] G Q := by
  obtain ⟨e1, e2, e3, e4, e5⟩ := lk_1 hl hk
  refine con_rn 60 [] (by decide) rfl ?_
  repeat' first | refine bib (fun h => ?_) (fun h => ?_) | refine bjb (fun h => ?_) (fun h => ?_) | refine bi (fun h => ?_) (fun h => ?_) | refine bj (fun h => ?_) (fun h => ?_) | refine vi (inI (by decide) (by decide)) ?_ | refine vi ?_ ?_ | refine zi (by decide) ?_ | refine zi ?_ ?_ | refine ni rfl ?_ | refine ni (bI_nar _) ?_
  all_goals first | exact Qi K (bI_t (by ((try simp only [hS, le32, lt32, eq32, ne_eq, cl_0, cl_1, cl_2, cl_3, cl_4, cl_5, cl_6] at *); (try simp only [Int32.reduceToInt] at *); omega))).symm | exact Qi K (bI_f (by ((try simp only [hS, le32, lt32, eq32, ne_eq, cl_0, cl_1, cl_2, cl_3, cl_4, cl_5, cl_6] at *); (try simp only [Int32.reduceToInt] at *); omega))).symm | (refine inI ?_ ?_ <;> ((try simp only [le32, lt32, eq32, ne_eq, cl_0, cl_1, cl_2, cl_3, cl_4, cl_5, cl_6] at *); (try simp only [Int32.reduceToInt] at *); omega))
theorem c_MkindOf {X : Xt} {k : Int32} {G : Gt} {Q : Qt} (hl : lyOK (G 26 6)) (hk : 0 ≤ k ∧ k ≤ G 26 6 - 1) (K : Q (some (.int (kS (G 26 6) (G 30 4) (G 32) k))) G) : con X m_Mo_kindOf [.ref 26, .int k] G Q := by
  by_cases hk0 : k = 0
  · subst hk0
    refine con_rn 60 [] (by decide) rfl ?_
    repeat' first | refine bib (fun h => ?_) (fun h => ?_) | refine bjb (fun h => ?_) (fun h => ?_) | refine bi (fun h => ?_) (fun h => ?_) | refine bj (fun h => ?_) (fun h => ?_) | refine vi (inI (by decide) (by decide)) ?_ | refine vi ?_ ?_ | refine zi (by decide) ?_ | refine zi ?_ ?_ | refine ni rfl ?_ | refine ni (bI_nar _) ?_ | refine (c_Mholds hl hk) ?_
    all_goals first | (exfalso; exact absurd rfl (by assumption)) | (refine Qi K ?_; simp_all [kS, hS]; done) | (refine Qi K ?_; simp_all [kS, hS]; intro a b; exact absurd (h.2 a) (Int32.not_lt.mpr b))
  · refine con_rn 60 [] (by decide) rfl ?_
    repeat' first | refine bib (fun h => ?_) (fun h => ?_) | refine bjb (fun h => ?_) (fun h => ?_) | refine bi (fun h => ?_) (fun h => ?_) | refine bj (fun h => ?_) (fun h => ?_) | refine vi (inI (by decide) (by decide)) ?_ | refine vi ?_ ?_ | refine zi (by decide) ?_ | refine zi ?_ ?_ | refine ni rfl ?_ | refine ni (bI_nar _) ?_ | refine (c_Mholds hl hk) ?_
    all_goals first | (exfalso; exact hk0 (by assumption)) | (refine Qi K ?_; simp_all [kS, hS]; done)
theorem c_isOf {X : Xt} {a d : Int32} {G : Gt} {Q : Qt} (K : Q (some (.int (bI (d = 0 ∨ d = a ∨ (d = 1 ∧ a = 2))))) G) : con X m_Mo_isOf [.int a, .int d] G Q := by
  refine con_rn 60 [] (by decide) rfl ?_
  repeat' first | refine bib (fun h => ?_) (fun h => ?_) | refine bjb (fun h => ?_) (fun h => ?_) | refine bi (fun h => ?_) (fun h => ?_) | refine bj (fun h => ?_) (fun h => ?_) | refine vi (inI (by decide) (by decide)) ?_ | refine vi ?_ ?_ | refine zi (by decide) ?_ | refine zi ?_ ?_ | refine ni rfl ?_ | refine ni (bI_nar _) ?_
  all_goals first | exact Qi K (bI_t (by ((try simp only [le32, lt32, eq32, ne_eq, cl_0, cl_1, cl_2, cl_3, cl_4, cl_5, cl_6] at *); (try simp only [Int32.reduceToInt] at *); omega))).symm | exact Qi K (bI_f (by ((try simp only [le32, lt32, eq32, ne_eq, cl_0, cl_1, cl_2, cl_3, cl_4, cl_5, cl_6] at *); (try simp only [Int32.reduceToInt] at *); omega))).symm | (refine inI ?_ ?_ <;> ((try simp only [le32, lt32, eq32, ne_eq, cl_0, cl_1, cl_2, cl_3, cl_4, cl_5, cl_6] at *); (try simp only [Int32.reduceToInt] at *); omega))
theorem T_id {G : Gt} (h : G 26 0 = 0) : sG G 26 (upd (G 26) 0 0) = G := by
  funext q
  unfold sG
  split
  · rename_i e
    subst e
    funext j
    unfold upd
    split
    · rename_i e; rw [e, h]
    · rfl
  · rfl
theorem w_wideOf {X : Xt} {y : Int32} {k : Nat} {G : Gt} {Q : Qt} (hk : k ≤ 6) (K : Q (some (.int (wS (G 30) (G 31) k y))) G) : ∀ (m j : Nat) (c t : Int32), c = nI j → j + m = k → t = sI (G 31) j → wp X m_Mo_wideOf 5 [(4, .int c), (3, .int t), (0, .ref 26), (1, .int (nI k)), (2, .int y)] [] G Q
  | 0, j, c, t, hc, hj, ht => by
    subst hc
    have hj : j = k := by omega
    subst hj
    subst ht
    refine rn_wp (stops := [5]) 80 ?_
    repeat' first | refine bib (fun h => ?_) (fun h => ?_) | refine bjb (fun h => ?_) (fun h => ?_) | refine bi (fun h => ?_) (fun h => ?_) | refine bj (fun h => ?_) (fun h => ?_) | refine vi (inI (by decide) (by decide)) ?_ | refine vi ?_ ?_ | refine zi (by decide) ?_ | refine zi ?_ ?_ | refine ni rfl ?_ | refine ni (bI_nar _) ?_
    · refine Qi K ?_
      simp only [cl_0, cl_1, cl_2] at *
      unfold wS
      rw [if_pos h]
    · rename_i h1
      refine Qi K ?_
      simp only [cl_0, cl_1, cl_2] at *
      unfold wS pos
      rw [if_neg h1]
      split
      · rfl
      · rename_i h3
        exact Int32.le_antisymm (Int32.not_lt.mp h3) h
    · rename_i h1
      refine Qi K ?_
      simp only [cl_0, cl_1, cl_2] at *
      unfold wS pos
      rw [if_neg h1, if_neg (fun z => h (Int32.le_of_lt z))]
    all_goals (exfalso; simp (disch := omega) only [nI_1, nI_add, nI_clamp, nI_leI, nI_ltI, nI_eq, nI_toInt] at h; omega)
  | m + 1, j, c, t, hc, hj, ht => by
    subst hc
    refine rn_wp (stops := [5]) 80 ?_
    refine bi (fun h => ?_) (fun h => ?_)
    · simp (disch := omega) only [nI_1, nI_add, nI_clamp, nI_leI, nI_ltI, nI_eq, nI_toInt] at h
      omega
    · refine vi (vp_in_nI (by omega) (by omega)) ?_
      refine w_wideOf hk K m (j + 1) _ _ (nI_1 _) (by omega) ?_
      rw [ht, nI_clamp (by omega)]
      rfl
theorem c_wideOf {X : Xt} {k y : Int32} {G : Gt} {Q : Qt} (h0 : 0 ≤ k) (h1 : k ≤ 6) (K : Q (some (.int (wS (G 30) (G 31) k.toNatClampNeg y))) G) : con X m_Mo_wideOf [.ref 26, .int k, .int y] G Q := by
  obtain ⟨e, e1, -⟩ := toN h0
  have h2 : k.toInt ≤ 6 := by simpa using le32.mp h1
  generalize k.toNatClampNeg = j at *
  subst e
  refine con_rn 10 [5] (by decide) rfl ?_
  exact w_wideOf (by omega) K j 0 _ _ rfl (by omega) rfl
/-! the traces: both sides write the same row -/
theorem sG_4 {G : Gt} {p q : Nat} {f g f' g' : Nat → Int32} : sG (sG (sG (sG G p f) q g) p f') q g' = sG (sG G p f') q g' := by
  funext r
  unfold sG
  by_cases h1 : r = q
  · rw [if_pos h1, if_pos h1]
  · rw [if_neg h1, if_neg h1]
    by_cases h2 : r = p
    · rw [if_pos h2, if_pos h2, if_neg h1]
    · rw [if_neg h2, if_neg h2, if_neg h1]
      rw [if_neg h2]
theorem upd_upd (f : Nat → Int32) (k : Nat) (v w : Int32) : upd (upd f k v) k w = upd f k w := by
  funext j
  unfold upd
  split <;> rfl
def AM (G : Gt) (tr : Nat → Int32) (t : Nat) : Gt := sG (sG G 42 tr) 26 (upd (G 26) 20 (nI t))
def AX (G : Gt) (tr : Nat → Int32) (t : Nat) : Gt := sG (sG G 25 tr) 24 (upd (G 24) 1 (nI t))
theorem c_began {X : Xt} {b : Int32} {G : Gt} {tr : Nat → Int32} {t : Nat} {Q : Qt} (ht : t < 16) (K : Q none (AM G (upd tr t b) (t + 1))) : con X m_Mo_began [.ref 26, .int b] (AM G tr t) Q := by
  have e1 : AM G tr t 26 20 = nI t := rfl
  have e2 : AM G tr t 42 = tr := rfl
  refine con_rn 60 [] (by decide) rfl ?_
  refine bi (fun h => ?_) (fun h => ?_)
  · exfalso
    rw [e1, show (16 : Int32) = nI 16 from rfl] at h
    simp (disch := omega) only [nI_1, nI_add, nI_clamp, nI_leI, nI_ltI, nI_eq, nI_toInt] at h
    omega
  · refine vi (by rw [e1]; exact vp_in_nI ht (by omega)) ?_
    refine Qg K ?_
    rw [e1, e2, nI_clamp (by omega)]
    unfold AM
    show sG (sG (sG (sG G 42 tr) 26 _) 42 _) 26 _ = _
    rw [sG_4]
    congr 1
    show upd (upd (G 26) 20 (nI t)) 20 (nI t + 1) = _
    rw [upd_upd, nI_1]
theorem c_begin {X : Xt} {b : Int32} {G : Gt} {tr : Nat → Int32} {t : Nat} {Q : Qt} (ht : t < 16) (K : Q none (AX G (upd tr t b) (t + 1))) : con X m_Asks_begin [.ref 24, .int b] (AX G tr t) Q := by
  have e1 : AX G tr t 24 1 = nI t := rfl
  have e2 : AX G tr t 25 = tr := rfl
  refine con_rn 60 [] (by decide) rfl ?_
  refine bi (fun h => ?_) (fun h => ?_)
  · exfalso
    rw [e1, show (16 : Int32) = nI 16 from rfl] at h
    simp (disch := omega) only [nI_1, nI_add, nI_clamp, nI_leI, nI_ltI, nI_eq, nI_toInt] at h
    omega
  · refine vi (by rw [e1]; exact vp_in_nI ht (by omega)) ?_
    refine Qg K ?_
    rw [e1, e2, nI_clamp (by omega)]
    unfold AX
    show sG (sG (sG (sG G 25 tr) 24 _) 25 _) 24 _ = _
    rw [sG_4]
    congr 1
    show upd (upd (G 24) 1 (nI t)) 1 (nI t + 1) = _
    rw [upd_upd, nI_1]
theorem c_plainWorth {X : Xt} {k : Int32} {G : Gt} {tr : Nat → Int32} {t : Nat} {Q : Qt} (hk : vp_in k 6) (ht : t < 16) (K : Q (some (.int (G 31 k.toNatClampNeg))) (AM G (upd tr t 10) (t + 1))) : con X m_Mo_plainWorth [.ref 26, .int k] (AM G tr t) Q := by
  refine con_rn 60 [] (by decide) rfl ?_
  repeat' first | refine bib (fun h => ?_) (fun h => ?_) | refine bjb (fun h => ?_) (fun h => ?_) | refine bi (fun h => ?_) (fun h => ?_) | refine bj (fun h => ?_) (fun h => ?_) | refine vi (inI (by decide) (by decide)) ?_ | refine vi ?_ ?_ | refine zi (by decide) ?_ | refine zi ?_ ?_ | refine ni rfl ?_ | refine ni (bI_nar _) ?_ | refine (c_began ht) ?_
  · exact hk
  · exact K
set_option maxRecDepth 4000 in
theorem c_McoverMark {X : Xt} {k d : Int32} {G : Gt} {tr : Nat → Int32} {t : Nat} {Q : Qt} (hk : vp_in k 6) (ht : t + 2 < 16) (K : Q (some (.int (G 32 k.toNatClampNeg / 10 + (if d = 2 then 1000 else 0)))) (if d = 2 then AM G (upd (upd (upd tr t 22) (t + 1) 21) (t + 2) 20) (t + 3) else AM G (upd (upd tr t 21) (t + 1) 20) (t + 2))) : con X m_Mo_coverMark [.ref 26, .int k, .int d] (AM G tr t) Q := by
  by_cases hd : d = 2
  · subst hd
    rw [if_pos rfl, if_pos rfl] at K
    refine con_rn 60 [] (by decide) rfl ?_
    repeat' first | refine bib (fun h => ?_) (fun h => ?_) | refine bjb (fun h => ?_) (fun h => ?_) | refine bi (fun h => ?_) (fun h => ?_) | refine bj (fun h => ?_) (fun h => ?_) | refine vi (inI (by decide) (by decide)) ?_ | refine vi ?_ ?_ | refine zi (by decide) ?_ | refine zi ?_ ?_ | refine ni rfl ?_ | refine ni (bI_nar _) ?_ | refine (c_began (by omega)) ?_
    all_goals first | (exfalso; exact (by assumption : ¬ (2 : Int32) = 2) rfl) | exact hk | exact K
  · rw [if_neg hd, if_neg hd] at K
    refine con_rn 60 [] (by decide) rfl ?_
    repeat' first | refine bib (fun h => ?_) (fun h => ?_) | refine bjb (fun h => ?_) (fun h => ?_) | refine bi (fun h => ?_) (fun h => ?_) | refine bj (fun h => ?_) (fun h => ?_) | refine vi (inI (by decide) (by decide)) ?_ | refine vi ?_ ?_ | refine zi (by decide) ?_ | refine zi ?_ ?_ | refine ni rfl ?_ | refine ni (bI_nar _) ?_ | refine (c_began (by omega)) ?_
    all_goals first | (exfalso; exact hd (by assumption)) | exact hk | exact K
theorem c_lentWorth {X : Xt} {k : Int32} {G : Gt} {tr : Nat → Int32} {t : Nat} {Q : Qt} (hk : vp_in k 6) (ht : t < 16) (K : Q (some (.int (G 7 k.toNatClampNeg))) (AX G (upd tr t 10) (t + 1))) : con X m_Asks_lentWorth [.ref 24, .ref 5, .int k] (AX G tr t) Q := by
  refine con_rn 60 [] (by decide) rfl ?_
  repeat' first | refine bib (fun h => ?_) (fun h => ?_) | refine bjb (fun h => ?_) (fun h => ?_) | refine bi (fun h => ?_) (fun h => ?_) | refine bj (fun h => ?_) (fun h => ?_) | refine vi (inI (by decide) (by decide)) ?_ | refine vi ?_ ?_ | refine zi (by decide) ?_ | refine zi ?_ ?_ | refine ni rfl ?_ | refine ni (bI_nar _) ?_ | refine (c_begin ht) ?_ | refine (c_thickOf hk) ?_
  exact K
theorem c_lentMark {X : Xt} {k : Int32} {G : Gt} {tr : Nat → Int32} {t : Nat} {Q : Qt} (hk : vp_in k 6) (ht : t < 16) (K : Q (some (.int (G 8 k.toNatClampNeg))) (AX G (upd tr t 20) (t + 1))) : con X m_Asks_lentMark [.ref 24, .ref 5, .int k] (AX G tr t) Q := by
  refine con_rn 60 [] (by decide) rfl ?_
  repeat' first | refine bib (fun h => ?_) (fun h => ?_) | refine bjb (fun h => ?_) (fun h => ?_) | refine bi (fun h => ?_) (fun h => ?_) | refine bj (fun h => ?_) (fun h => ?_) | refine vi (inI (by decide) (by decide)) ?_ | refine vi ?_ ?_ | refine zi (by decide) ?_ | refine zi ?_ ?_ | refine ni rfl ?_ | refine ni (bI_nar _) ?_ | refine (c_begin ht) ?_ | refine (c_weightOf hk) ?_
  exact K
theorem c_coverWorth {X : Xt} {k : Int32} {G : Gt} {tr : Nat → Int32} {t : Nat} {Q : Qt} (hk : vp_in k 6) (ht : t + 1 < 16) (K : Q (some (.int (G 7 k.toNatClampNeg + G 6 2))) (AX G (upd (upd tr t 11) (t + 1) 10) (t + 2))) : con X m_Asks_coverWorth [.ref 24, .ref 5, .int k] (AX G tr t) Q := by
  refine con_rn 60 [] (by decide) rfl ?_
  repeat' first | refine bib (fun h => ?_) (fun h => ?_) | refine bjb (fun h => ?_) (fun h => ?_) | refine bi (fun h => ?_) (fun h => ?_) | refine bj (fun h => ?_) (fun h => ?_) | refine vi (inI (by decide) (by decide)) ?_ | refine vi ?_ ?_ | refine zi (by decide) ?_ | refine zi ?_ ?_ | refine ni rfl ?_ | refine ni (bI_nar _) ?_ | refine (c_begin (by omega)) ?_ | refine (c_lentWorth hk (by omega)) ?_ | refine (c_measure (by decide)) ?_
  exact K
theorem c_coverMark {X : Xt} {k : Int32} {G : Gt} {tr : Nat → Int32} {t : Nat} {Q : Qt} (hk : vp_in k 6) (ht : t + 1 < 16) (K : Q (some (.int (G 8 k.toNatClampNeg / 10))) (AX G (upd (upd tr t 21) (t + 1) 20) (t + 2))) : con X m_Asks_coverMark [.ref 24, .ref 5, .int k] (AX G tr t) Q := by
  refine con_rn 60 [] (by decide) rfl ?_
  repeat' first | refine bib (fun h => ?_) (fun h => ?_) | refine bjb (fun h => ?_) (fun h => ?_) | refine bi (fun h => ?_) (fun h => ?_) | refine bj (fun h => ?_) (fun h => ?_) | refine vi (inI (by decide) (by decide)) ?_ | refine vi ?_ ?_ | refine zi (by decide) ?_ | refine zi ?_ ?_ | refine ni rfl ?_ | refine ni (bI_nar _) ?_ | refine (c_begin (by omega)) ?_ | refine (c_lentMark hk (by omega)) ?_
  exact K
theorem c_armourMark {X : Xt} {k : Int32} {G : Gt} {tr : Nat → Int32} {t : Nat} {Q : Qt} (hk : vp_in k 6) (ht : t + 2 < 16) (K : Q (some (.int (G 8 k.toNatClampNeg / 10 + 1000))) (AX G (upd (upd (upd tr t 22) (t + 1) 21) (t + 2) 20) (t + 3))) : con X m_Asks_armourMark [.ref 24, .ref 5, .int k] (AX G tr t) Q := by
  refine con_rn 60 [] (by decide) rfl ?_
  repeat' first | refine bib (fun h => ?_) (fun h => ?_) | refine bjb (fun h => ?_) (fun h => ?_) | refine bi (fun h => ?_) (fun h => ?_) | refine bj (fun h => ?_) (fun h => ?_) | refine vi (inI (by decide) (by decide)) ?_ | refine vi ?_ ?_ | refine zi (by decide) ?_ | refine zi ?_ ?_ | refine ni rfl ?_ | refine ni (bI_nar _) ?_ | refine (c_begin (by omega)) ?_ | refine (c_coverMark hk (by omega)) ?_
  exact K
theorem c_armourWorth {X : Xt} {k : Int32} {G : Gt} {tr : Nat → Int32} {t : Nat} {Q : Qt} (hk : vp_in k 6) (ht : t + 5 < 16) (K : Q (some (.int (G 7 k.toNatClampNeg + G 6 2 + (G 8 k.toNatClampNeg / 10 + 1000)))) (AX G (upd (upd (upd (upd (upd (upd tr t 12) (t + 1) 11) (t + 2) 10) (t + 3) 22) (t + 4) 21) (t + 5) 20) (t + 6))) : con X m_Asks_armourWorth [.ref 24, .ref 5, .int k] (AX G tr t) Q := by
  refine con_rn 60 [] (by decide) rfl ?_
  repeat' first | refine bib (fun h => ?_) (fun h => ?_) | refine bjb (fun h => ?_) (fun h => ?_) | refine bi (fun h => ?_) (fun h => ?_) | refine bj (fun h => ?_) (fun h => ?_) | refine vi (inI (by decide) (by decide)) ?_ | refine vi ?_ ?_ | refine zi (by decide) ?_ | refine zi ?_ ?_ | refine ni rfl ?_ | refine ni (bI_nar _) ?_ | refine (c_begin (by omega)) ?_ | refine (c_coverWorth hk (by omega)) ?_ | refine (c_armourMark hk (by omega)) ?_
  exact K
theorem c_looseWorth {X : Xt} {k : Int32} {G : Gt} {tr : Nat → Int32} {t : Nat} {Q : Qt} (hk : vp_in k 6) (ht : t + 2 < 16) (K : Q (some (.int (G 7 k.toNatClampNeg - G 8 k.toNatClampNeg))) (AX G (upd (upd (upd tr t 13) (t + 1) 10) (t + 2) 20) (t + 3))) : con X m_Asks_looseWorth [.ref 24, .ref 5, .int k] (AX G tr t) Q := by
  refine con_rn 60 [] (by decide) rfl ?_
  repeat' first | refine bib (fun h => ?_) (fun h => ?_) | refine bjb (fun h => ?_) (fun h => ?_) | refine bi (fun h => ?_) (fun h => ?_) | refine bj (fun h => ?_) (fun h => ?_) | refine vi (inI (by decide) (by decide)) ?_ | refine vi ?_ ?_ | refine zi (by decide) ?_ | refine zi ?_ ?_ | refine ni rfl ?_ | refine ni (bI_nar _) ?_ | refine (c_begin (by omega)) ?_ | refine (c_lentWorth hk (by omega)) ?_ | refine (c_lentMark hk (by omega)) ?_
  exact K
theorem c_underMark {X : Xt} {k : Int32} {G : Gt} {tr : Nat → Int32} {t : Nat} {Q : Qt} (hk : vp_in k 6) (ht : t + 2 < 16) (K : Q (some (.int (G 8 k.toNatClampNeg + G 7 k.toNatClampNeg))) (AX G (upd (upd (upd tr t 23) (t + 1) 20) (t + 2) 10) (t + 3))) : con X m_Asks_underMark [.ref 24, .ref 5, .int k] (AX G tr t) Q := by
  refine con_rn 60 [] (by decide) rfl ?_
  repeat' first | refine bib (fun h => ?_) (fun h => ?_) | refine bjb (fun h => ?_) (fun h => ?_) | refine bi (fun h => ?_) (fun h => ?_) | refine bj (fun h => ?_) (fun h => ?_) | refine vi (inI (by decide) (by decide)) ?_ | refine vi ?_ ?_ | refine zi (by decide) ?_ | refine zi ?_ ?_ | refine ni rfl ?_ | refine ni (bI_nar _) ?_ | refine (c_begin (by omega)) ?_ | refine (c_lentWorth hk (by omega)) ?_ | refine (c_lentMark hk (by omega)) ?_
  exact K
/-- what an ask gives: 0 worth, 1 mark, by the kind; and the row that it leaves -/
def aV (kd tk w sl : Int32) (wh : Bool) : Int32 := if wh then (if kd = 2 then tk + sl + (w / 10 + 1000) else if kd = 1 then tk + sl else if kd = 4 then tk - w else tk) else (if kd = 2 then w / 10 + 1000 else if kd = 1 then w / 10 else if kd = 3 then w + tk else w)
def aT (kd : Int32) (wh : Bool) (tr : Nat → Int32) : Nat → Int32 := if wh then (if kd = 2 then upd (upd (upd (upd (upd (upd tr 0 12) 1 11) 2 10) 3 22) 4 21) 5 20 else if kd = 1 then upd (upd tr 0 11) 1 10 else if kd = 4 then upd (upd (upd tr 0 13) 1 10) 2 20 else upd tr 0 10) else (if kd = 2 then upd (upd (upd tr 0 22) 1 21) 2 20 else if kd = 1 then upd (upd tr 0 21) 1 20 else if kd = 3 then upd (upd (upd tr 0 23) 1 20) 2 10 else upd tr 0 20)
def aN (kd : Int32) (wh : Bool) : Nat := if wh then (if kd = 2 then 6 else if kd = 1 then 2 else if kd = 4 then 3 else 1) else (if kd = 2 then 3 else if kd = 1 then 2 else if kd = 3 then 3 else 1)
theorem kS_rng (ly f : Int32) (w : Nat → Int32) (k : Int32) : kS ly f w k = 1 ∨ kS ly f w k = 2 ∨ kS ly f w k = 3 ∨ kS ly f w k = 4 := by
  unfold kS
  split <;> split <;> simp
theorem c_worth {X : Xt} {k : Int32} {G : Gt} {tr : Nat → Int32} {Q : Qt} (hl : lyOK (G 5 3)) (hk : 0 ≤ k ∧ k ≤ G 5 3 - 1) (K : Q (some (.int (aV (kS (G 5 3) (G 6 4) (G 8) k) (G 7 k.toNatClampNeg) (G 8 k.toNatClampNeg) (G 6 2) true))) (AX G (aT (kS (G 5 3) (G 6 4) (G 8) k) true tr) (aN (kS (G 5 3) (G 6 4) (G 8) k) true))) : con X m_Asks_worth [.ref 24, .ref 5, .int k] (AX G tr 0) Q := by
  obtain ⟨-, e2, e3, e4, -⟩ := lk_1 hl hk
  have hk6 : vp_in k 6 := inI (by omega) (by omega)
  refine con_rn 60 [] (by decide) rfl ?_
  repeat' first | refine bib (fun h => ?_) (fun h => ?_) | refine bjb (fun h => ?_) (fun h => ?_) | refine bi (fun h => ?_) (fun h => ?_) | refine bj (fun h => ?_) (fun h => ?_) | refine vi (inI (by decide) (by decide)) ?_ | refine vi ?_ ?_ | refine zi (by decide) ?_ | refine zi ?_ ?_ | refine ni rfl ?_ | refine ni (bI_nar _) ?_ | refine (c_kindOf (G := AX G tr 0) hl hk) ?_
  change rn X m_Asks_worth [] Q 57 5 _ [.int (kS (G 5 3) (G 6 4) (G 8) k)] (AX G tr 0)
  have hr := kS_rng (G 5 3) (G 6 4) (G 8) k
  generalize kS (G 5 3) (G 6 4) (G 8) k = kd at *
  refine ⟨fun h => ?_, fun h => ?_, fun h => ?_, fun h => ?_, fun h => ?_, trivial⟩
  · exfalso
    rcases hr with rfl | rfl | rfl | rfl <;> revert h <;> decide
  · subst h
    refine c_coverWorth hk6 (by omega) ?_
    exact K
  · subst h
    refine c_armourWorth hk6 (by omega) ?_
    exact K
  · subst h
    refine c_lentWorth hk6 (by omega) ?_
    exact K
  · subst h
    refine c_looseWorth hk6 (by omega) ?_
    exact K
theorem c_mark {X : Xt} {k : Int32} {G : Gt} {tr : Nat → Int32} {Q : Qt} (hl : lyOK (G 5 3)) (hk : 0 ≤ k ∧ k ≤ G 5 3 - 1) (K : Q (some (.int (aV (kS (G 5 3) (G 6 4) (G 8) k) (G 7 k.toNatClampNeg) (G 8 k.toNatClampNeg) (G 6 2) false))) (AX G (aT (kS (G 5 3) (G 6 4) (G 8) k) false tr) (aN (kS (G 5 3) (G 6 4) (G 8) k) false))) : con X m_Asks_mark [.ref 24, .ref 5, .int k] (AX G tr 0) Q := by
  obtain ⟨-, e2, e3, e4, -⟩ := lk_1 hl hk
  have hk6 : vp_in k 6 := inI (by omega) (by omega)
  refine con_rn 60 [] (by decide) rfl ?_
  repeat' first | refine bib (fun h => ?_) (fun h => ?_) | refine bjb (fun h => ?_) (fun h => ?_) | refine bi (fun h => ?_) (fun h => ?_) | refine bj (fun h => ?_) (fun h => ?_) | refine vi (inI (by decide) (by decide)) ?_ | refine vi ?_ ?_ | refine zi (by decide) ?_ | refine zi ?_ ?_ | refine ni rfl ?_ | refine ni (bI_nar _) ?_ | refine (c_kindOf (G := AX G tr 0) hl hk) ?_
  change rn X m_Asks_mark [] Q 57 5 _ [.int (kS (G 5 3) (G 6 4) (G 8) k)] (AX G tr 0)
  have hr := kS_rng (G 5 3) (G 6 4) (G 8) k
  generalize kS (G 5 3) (G 6 4) (G 8) k = kd at *
  refine ⟨fun h => ?_, fun h => ?_, fun h => ?_, fun h => ?_, trivial⟩
  · have h4 : kd = 4 := by
      rcases hr with rfl | rfl | rfl | rfl
      · exact absurd h (by decide)
      · exact absurd h (by decide)
      · exact absurd h (by decide)
      · rfl
    subst h4
    refine c_lentMark hk6 (by omega) ?_
    exact K
  · subst h
    refine c_coverMark hk6 (by omega) ?_
    exact K
  · subst h
    refine c_armourMark hk6 (by omega) ?_
    exact K
  · subst h
    refine c_underMark hk6 (by omega) ?_
    exact K
set_option maxRecDepth 4000 in
theorem c_worthOf {X : Xt} {k kd : Int32} {G : Gt} {tr : Nat → Int32} {Q : Qt} (hk6 : vp_in k 6) (hr : kd = 1 ∨ kd = 2 ∨ kd = 3 ∨ kd = 4) (K : Q (some (.int (aV kd (G 31 k.toNatClampNeg) (G 32 k.toNatClampNeg) (G 30 2) true))) (AM G (aT kd true tr) (aN kd true))) : con X m_Mo_worthOf [.ref 26, .int k, .int kd] (AM G tr 0) Q := by
  rcases hr with rfl | rfl | rfl | rfl
  · refine con_rn 80 [] (by decide) rfl ?_
    repeat' first | refine bib_t (by decide) ?_ | refine bib_f (by decide) ?_ | refine bjb_t (by decide) ?_ | refine bjb_f (by decide) ?_ | refine bi_t (by decide) ?_ | refine bi_f (by decide) ?_ | refine bj_t (by decide) ?_ | refine bj_f (by decide) ?_ | refine bib (fun h => ?_) (fun h => ?_) | refine bjb (fun h => ?_) (fun h => ?_) | refine bi (fun h => ?_) (fun h => ?_) | refine bj (fun h => ?_) (fun h => ?_) | refine vi (inI (by decide) (by decide)) ?_ | refine vi ?_ ?_ | refine zi (by decide) ?_ | refine zi ?_ ?_ | refine ni rfl ?_ | refine ni (bI_nar _) ?_ | refine (c_began (by omega)) ?_ | refine (c_plainWorth hk6 (by omega)) ?_ | refine (c_McoverMark hk6 (by omega)) ?_ | refine c_isOf ?_
    exact K
  · refine con_rn 80 [] (by decide) rfl ?_
    repeat' first | refine bib_t (by decide) ?_ | refine bib_f (by decide) ?_ | refine bjb_t (by decide) ?_ | refine bjb_f (by decide) ?_ | refine bi_t (by decide) ?_ | refine bi_f (by decide) ?_ | refine bj_t (by decide) ?_ | refine bj_f (by decide) ?_ | refine bib (fun h => ?_) (fun h => ?_) | refine bjb (fun h => ?_) (fun h => ?_) | refine bi (fun h => ?_) (fun h => ?_) | refine bj (fun h => ?_) (fun h => ?_) | refine vi (inI (by decide) (by decide)) ?_ | refine vi ?_ ?_ | refine zi (by decide) ?_ | refine zi ?_ ?_ | refine ni rfl ?_ | refine ni (bI_nar _) ?_ | refine (c_began (by omega)) ?_ | refine (c_plainWorth hk6 (by omega)) ?_ | refine (c_McoverMark hk6 (by omega)) ?_ | refine c_isOf ?_
    exact K
  · refine con_rn 80 [] (by decide) rfl ?_
    repeat' first | refine bib_t (by decide) ?_ | refine bib_f (by decide) ?_ | refine bjb_t (by decide) ?_ | refine bjb_f (by decide) ?_ | refine bi_t (by decide) ?_ | refine bi_f (by decide) ?_ | refine bj_t (by decide) ?_ | refine bj_f (by decide) ?_ | refine bib (fun h => ?_) (fun h => ?_) | refine bjb (fun h => ?_) (fun h => ?_) | refine bi (fun h => ?_) (fun h => ?_) | refine bj (fun h => ?_) (fun h => ?_) | refine vi (inI (by decide) (by decide)) ?_ | refine vi ?_ ?_ | refine zi (by decide) ?_ | refine zi ?_ ?_ | refine ni rfl ?_ | refine ni (bI_nar _) ?_ | refine (c_began (by omega)) ?_ | refine (c_plainWorth hk6 (by omega)) ?_ | refine (c_McoverMark hk6 (by omega)) ?_ | refine c_isOf ?_
    refine Qi K ?_
    simp [aV]
  · refine con_rn 80 [] (by decide) rfl ?_
    repeat' first | refine bib_t (by decide) ?_ | refine bib_f (by decide) ?_ | refine bjb_t (by decide) ?_ | refine bjb_f (by decide) ?_ | refine bi_t (by decide) ?_ | refine bi_f (by decide) ?_ | refine bj_t (by decide) ?_ | refine bj_f (by decide) ?_ | refine bib (fun h => ?_) (fun h => ?_) | refine bjb (fun h => ?_) (fun h => ?_) | refine bi (fun h => ?_) (fun h => ?_) | refine bj (fun h => ?_) (fun h => ?_) | refine vi (inI (by decide) (by decide)) ?_ | refine vi ?_ ?_ | refine zi (by decide) ?_ | refine zi ?_ ?_ | refine ni rfl ?_ | refine ni (bI_nar _) ?_ | refine (c_began (by omega)) ?_ | refine (c_plainWorth hk6 (by omega)) ?_ | refine (c_McoverMark hk6 (by omega)) ?_ | refine c_isOf ?_
    · exact hk6
    · exact K
set_option maxRecDepth 4000 in
theorem c_markOf {X : Xt} {k kd : Int32} {G : Gt} {tr : Nat → Int32} {Q : Qt} (hk6 : vp_in k 6) (hr : kd = 1 ∨ kd = 2 ∨ kd = 3 ∨ kd = 4) (K : Q (some (.int (aV kd (G 31 k.toNatClampNeg) (G 32 k.toNatClampNeg) (G 30 2) false))) (AM G (aT kd false tr) (aN kd false))) : con X m_Mo_markOf [.ref 26, .int k, .int kd] (AM G tr 0) Q := by
  rcases hr with rfl | rfl | rfl | rfl
  · refine con_rn 80 [] (by decide) rfl ?_
    repeat' first | refine bib_t (by decide) ?_ | refine bib_f (by decide) ?_ | refine bjb_t (by decide) ?_ | refine bjb_f (by decide) ?_ | refine bi_t (by decide) ?_ | refine bi_f (by decide) ?_ | refine bj_t (by decide) ?_ | refine bj_f (by decide) ?_ | refine bib (fun h => ?_) (fun h => ?_) | refine bjb (fun h => ?_) (fun h => ?_) | refine bi (fun h => ?_) (fun h => ?_) | refine bj (fun h => ?_) (fun h => ?_) | refine vi (inI (by decide) (by decide)) ?_ | refine vi ?_ ?_ | refine zi (by decide) ?_ | refine zi ?_ ?_ | refine ni rfl ?_ | refine ni (bI_nar _) ?_ | refine (c_began (by omega)) ?_ | refine (c_plainWorth hk6 (by omega)) ?_ | refine (c_McoverMark hk6 (by omega)) ?_ | refine c_isOf ?_
    refine Qi K ?_
    simp [aV]
  · refine con_rn 80 [] (by decide) rfl ?_
    repeat' first | refine bib_t (by decide) ?_ | refine bib_f (by decide) ?_ | refine bjb_t (by decide) ?_ | refine bjb_f (by decide) ?_ | refine bi_t (by decide) ?_ | refine bi_f (by decide) ?_ | refine bj_t (by decide) ?_ | refine bj_f (by decide) ?_ | refine bib (fun h => ?_) (fun h => ?_) | refine bjb (fun h => ?_) (fun h => ?_) | refine bi (fun h => ?_) (fun h => ?_) | refine bj (fun h => ?_) (fun h => ?_) | refine vi (inI (by decide) (by decide)) ?_ | refine vi ?_ ?_ | refine zi (by decide) ?_ | refine zi ?_ ?_ | refine ni rfl ?_ | refine ni (bI_nar _) ?_ | refine (c_began (by omega)) ?_ | refine (c_plainWorth hk6 (by omega)) ?_ | refine (c_McoverMark hk6 (by omega)) ?_ | refine c_isOf ?_
    exact K
  · refine con_rn 80 [] (by decide) rfl ?_
    repeat' first | refine bib_t (by decide) ?_ | refine bib_f (by decide) ?_ | refine bjb_t (by decide) ?_ | refine bjb_f (by decide) ?_ | refine bi_t (by decide) ?_ | refine bi_f (by decide) ?_ | refine bj_t (by decide) ?_ | refine bj_f (by decide) ?_ | refine bib (fun h => ?_) (fun h => ?_) | refine bjb (fun h => ?_) (fun h => ?_) | refine bi (fun h => ?_) (fun h => ?_) | refine bj (fun h => ?_) (fun h => ?_) | refine vi (inI (by decide) (by decide)) ?_ | refine vi ?_ ?_ | refine zi (by decide) ?_ | refine zi ?_ ?_ | refine ni rfl ?_ | refine ni (bI_nar _) ?_ | refine (c_began (by omega)) ?_ | refine (c_plainWorth hk6 (by omega)) ?_ | refine (c_McoverMark hk6 (by omega)) ?_ | refine c_isOf ?_
    · exact hk6
    · exact K
  · refine con_rn 80 [] (by decide) rfl ?_
    repeat' first | refine bib_t (by decide) ?_ | refine bib_f (by decide) ?_ | refine bjb_t (by decide) ?_ | refine bjb_f (by decide) ?_ | refine bi_t (by decide) ?_ | refine bi_f (by decide) ?_ | refine bj_t (by decide) ?_ | refine bj_f (by decide) ?_ | refine bib (fun h => ?_) (fun h => ?_) | refine bjb (fun h => ?_) (fun h => ?_) | refine bi (fun h => ?_) (fun h => ?_) | refine bj (fun h => ?_) (fun h => ?_) | refine vi (inI (by decide) (by decide)) ?_ | refine vi ?_ ?_ | refine zi (by decide) ?_ | refine zi ?_ ?_ | refine ni rfl ?_ | refine ni (bI_nar _) ?_ | refine (c_began (by omega)) ?_ | refine (c_plainWorth hk6 (by omega)) ?_ | refine (c_McoverMark hk6 (by omega)) ?_ | refine c_isOf ?_
    · exact hk6
    · refine Qi K ?_
      simp [aV]
      rfl
