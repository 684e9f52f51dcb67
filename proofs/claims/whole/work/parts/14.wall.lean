/-! the wall: what both sides say of it -/
abbrev hS (ly f : Int32) (w : Nat → Int32) (k : Int32) : Prop := k = ly - 1 ∨ (w (k + 1).toNatClampNeg < w k.toNatClampNeg ∧ w k.toNatClampNeg ≤ f * w (k + 1).toNatClampNeg)
def kS (ly f : Int32) (w : Nat → Int32) (k : Int32) : Int32 := if k = 0 then (if hS ly f w k ∧ 1000 ≤ w 0 then 2 else 1) else if hS ly f w k then 3 else 4
/-- a sum of ints, as the machine adds them -/
def sI (f : Nat → Int32) : Nat → Int32
  | 0 => 0
  | n + 1 => sI f n + f n
def pos (v : Int32) : Int32 := if 0 < v then v else 0
def wS (ms th : Nat → Int32) (k : Nat) (h : Int32) : Int32 := if ms 0 - sI th k ≤ h then 0 else pos (ms 1 + 2 * (ms 0 - h) * ms 2 / 10 - 2 * sI th k * (10 + ms 2) / 10)
theorem pos_nn (v : Int32) : ¬ pos v < 0 := by
  unfold pos
  split
  · rename_i h; exact fun z => Int32.lt_irrefl (Int32.lt_trans h z)
  · decide
theorem wS_nn (ms th : Nat → Int32) (k : Nat) (h : Int32) : ¬ wS ms th k h < 0 := by
  unfold wS
  split
  · decide
  · exact pos_nn _
/-- of a cut what layer k takes, or the core -/
def lS (ly : Int32) (ms th : Nat → Int32) (k : Nat) (h : Int32) : Int32 := if nI k < ly then wS ms th k h - wS ms th (k + 1) h else wS ms th k h
def lyOK (ly : Int32) : Prop := 0 ≤ ly ∧ ly ≤ 6
theorem ly_1 {ly : Int32} (h : lyOK ly) : (ly - 1).toInt = ly.toInt - 1 ∧ 0 ≤ ly.toInt ∧ ly.toInt ≤ 6 := by
  have h1 : 0 ≤ ly.toInt := by simpa using le32.mp h.1
  have h2 : ly.toInt ≤ 6 := by simpa using le32.mp h.2
  refine ⟨?_, h1, h2⟩
  rw [subI (by simp; omega) (by simp; omega)]
  simp
theorem lk_1 {ly k : Int32} (h : lyOK ly) (hk : 0 ≤ k ∧ k ≤ ly - 1) : (k + 1).toInt = k.toInt + 1 ∧ 0 ≤ k.toInt ∧ k.toInt ≤ ly.toInt - 1 ∧ ly.toInt ≤ 6 ∧ (ly - 1).toInt = ly.toInt - 1 := by
  obtain ⟨e1, e2, e3⟩ := ly_1 h
  have h1 : 0 ≤ k.toInt := by simpa using le32.mp hk.1
  have h2 : k.toInt ≤ ly.toInt - 1 := by have := le32.mp hk.2; rw [e1] at this; exact this
  refine ⟨?_, h1, h2, e3, e1⟩
  rw [addI (by simp; omega) (by simp; omega)]
  simp
/-! StoneWorks$Wall -/
theorem c_isMeasure {X : Xt} {w : Int32} {G : Gt} {Q : Qt} (K : Q (some (.int (bI (0 ≤ w ∧ w ≤ 4)))) G) : con X m_Wall_isMeasure [.int w] G Q := by
  refine con_rn 40 [] (by decide) rfl ?_
  repeat' first | refine bib (fun h => ?_) (fun h => ?_) | refine bjb (fun h => ?_) (fun h => ?_) | refine bi (fun h => ?_) (fun h => ?_) | refine bj (fun h => ?_) (fun h => ?_) | refine vi (inI (by decide) (by decide)) ?_ | refine vi ?_ ?_ | refine zi (by decide) ?_ | refine zi ?_ ?_ | refine ni rfl ?_ | refine ni (bI_nar _) ?_ | refine c_within ?_
  exact K
theorem c_mayMeasure {X : Xt} {w v : Int32} {G : Gt} {Q : Qt} (hw : 0 ≤ w ∧ w ≤ 4) (K : Q (some (.int (bI (xF X 44 w.toNatClampNeg ≤ v ∧ v ≤ xF X 45 w.toNatClampNeg)))) G) : con X m_Wall_mayMeasure [.int w, .int v] G Q := by
  refine con_rn 40 [] (by decide) rfl ?_
  repeat' first | refine bib (fun h => ?_) (fun h => ?_) | refine bjb (fun h => ?_) (fun h => ?_) | refine bi (fun h => ?_) (fun h => ?_) | refine bj (fun h => ?_) (fun h => ?_) | refine vi (inI (by decide) (by decide)) ?_ | refine vi ?_ ?_ | refine zi (by decide) ?_ | refine zi ?_ ?_ | refine ni rfl ?_ | refine ni (bI_nar _) ?_ | refine c_within ?_
  · show vp_in w 5
    (refine inI ?_ ?_ <;> ((try simp only [le32, lt32, eq32, ne_eq, cl_0, cl_1, cl_2, cl_3, cl_4, cl_5, cl_6] at *); (try simp only [Int32.reduceToInt] at *); omega))
  · show vp_in w 5
    (refine inI ?_ ?_ <;> ((try simp only [le32, lt32, eq32, ne_eq, cl_0, cl_1, cl_2, cl_3, cl_4, cl_5, cl_6] at *); (try simp only [Int32.reduceToInt] at *); omega))
  · exact K
theorem c_mayBeLayer {X : Xt} {t w : Int32} {G : Gt} {Q : Qt} (K : Q (some (.int (bI ((1 ≤ t ∧ t ≤ 10) ∧ 1 ≤ w ∧ w ≤ 60000)))) G) : con X m_Wall_mayBeLayer [.int t, .int w] G Q := by
  refine con_rn 40 [] (by decide) rfl ?_
  repeat' first | refine bib (fun h => ?_) (fun h => ?_) | refine bjb (fun h => ?_) (fun h => ?_) | refine bi (fun h => ?_) (fun h => ?_) | refine bj (fun h => ?_) (fun h => ?_) | refine vi (inI (by decide) (by decide)) ?_ | refine vi ?_ ?_ | refine zi (by decide) ?_ | refine zi ?_ ?_ | refine ni rfl ?_ | refine ni (bI_nar _) ?_ | refine c_within ?_
  all_goals first | exact Qi K (bI_t (by ((try simp only [le32, lt32, eq32, ne_eq, cl_0, cl_1, cl_2, cl_3, cl_4, cl_5, cl_6] at *); (try simp only [Int32.reduceToInt] at *); omega))).symm | exact Qi K (bI_f (by ((try simp only [le32, lt32, eq32, ne_eq, cl_0, cl_1, cl_2, cl_3, cl_4, cl_5, cl_6] at *); (try simp only [Int32.reduceToInt] at *); omega))).symm | (refine inI ?_ ?_ <;> ((try simp only [le32, lt32, eq32, ne_eq, cl_0, cl_1, cl_2, cl_3, cl_4, cl_5, cl_6] at *); (try simp only [Int32.reduceToInt] at *); omega))
theorem c_measure {X : Xt} {w : Int32} {G : Gt} {Q : Qt} (hw : 0 ≤ w ∧ w ≤ 4) (K : Q (some (.int (G 6 w.toNatClampNeg))) G) : con X m_Wall_measure [.ref 5, .int w] G Q := by
  refine con_rn 40 [] (by decide) rfl ?_
  repeat' first | refine bib (fun h => ?_) (fun h => ?_) | refine bjb (fun h => ?_) (fun h => ?_) | refine bi (fun h => ?_) (fun h => ?_) | refine bj (fun h => ?_) (fun h => ?_) | refine vi (inI (by decide) (by decide)) ?_ | refine vi ?_ ?_ | refine zi (by decide) ?_ | refine zi ?_ ?_ | refine ni rfl ?_ | refine ni (bI_nar _) ?_
  · (refine inI ?_ ?_ <;> ((try simp only [le32, lt32, eq32, ne_eq, cl_0, cl_1, cl_2, cl_3, cl_4, cl_5, cl_6] at *); (try simp only [Int32.reduceToInt] at *); omega))
  · exact K
theorem c_change {X : Xt} {w v : Int32} {G : Gt} {Q : Qt} (hw : 0 ≤ w ∧ w ≤ 4) (K : Q (some (.int (G 6 w.toNatClampNeg))) (sG G 6 (upd (G 6) w.toNatClampNeg v))) : con X m_Wall_change [.ref 5, .int w, .int v] G Q := by
  refine con_rn 40 [] (by decide) rfl ?_
  repeat' first | refine bib (fun h => ?_) (fun h => ?_) | refine bjb (fun h => ?_) (fun h => ?_) | refine bi (fun h => ?_) (fun h => ?_) | refine bj (fun h => ?_) (fun h => ?_) | refine vi (inI (by decide) (by decide)) ?_ | refine vi ?_ ?_ | refine zi (by decide) ?_ | refine zi ?_ ?_ | refine ni rfl ?_ | refine ni (bI_nar _) ?_
  · (refine inI ?_ ?_ <;> ((try simp only [le32, lt32, eq32, ne_eq, cl_0, cl_1, cl_2, cl_3, cl_4, cl_5, cl_6] at *); (try simp only [Int32.reduceToInt] at *); omega))
  · (refine inI ?_ ?_ <;> ((try simp only [le32, lt32, eq32, ne_eq, cl_0, cl_1, cl_2, cl_3, cl_4, cl_5, cl_6] at *); (try simp only [Int32.reduceToInt] at *); omega))
  · exact K
theorem c_layers {X : Xt} {G : Gt} {Q : Qt} (K : Q (some (.int (G 5 3))) G) : con X m_Wall_layers [.ref 5] G Q := by
  refine con_rn 40 [] (by decide) rfl ?_
  repeat' first | refine bib (fun h => ?_) (fun h => ?_) | refine bjb (fun h => ?_) (fun h => ?_) | refine bi (fun h => ?_) (fun h => ?_) | refine bj (fun h => ?_) (fun h => ?_) | refine vi (inI (by decide) (by decide)) ?_ | refine vi ?_ ?_ | refine zi (by decide) ?_ | refine zi ?_ ?_ | refine ni rfl ?_ | refine ni (bI_nar _) ?_
  exact K
theorem c_hasLayer {X : Xt} {k : Int32} {G : Gt} {Q : Qt} (K : Q (some (.int (bI (0 ≤ k ∧ k ≤ G 5 3 - 1)))) G) : con X m_Wall_hasLayer [.ref 5, .int k] G Q := by
  refine con_rn 40 [] (by decide) rfl ?_
  repeat' first | refine bib (fun h => ?_) (fun h => ?_) | refine bjb (fun h => ?_) (fun h => ?_) | refine bi (fun h => ?_) (fun h => ?_) | refine bj (fun h => ?_) (fun h => ?_) | refine vi (inI (by decide) (by decide)) ?_ | refine vi ?_ ?_ | refine zi (by decide) ?_ | refine zi ?_ ?_ | refine ni rfl ?_ | refine ni (bI_nar _) ?_ | refine c_within ?_
  exact K
theorem c_isFull {X : Xt} {G : Gt} {Q : Qt} (K : Q (some (.int (bI (6 ≤ G 5 3)))) G) : con X m_Wall_isFull [.ref 5] G Q := by
  refine con_rn 40 [] (by decide) rfl ?_
  repeat' first | refine bib (fun h => ?_) (fun h => ?_) | refine bjb (fun h => ?_) (fun h => ?_) | refine bi (fun h => ?_) (fun h => ?_) | refine bj (fun h => ?_) (fun h => ?_) | refine vi (inI (by decide) (by decide)) ?_ | refine vi ?_ ?_ | refine zi (by decide) ?_ | refine zi ?_ ?_ | refine ni rfl ?_ | refine ni (bI_nar _) ?_
  all_goals first | exact Qi K (bI_t (by ((try simp only [le32, lt32, eq32, ne_eq, cl_0, cl_1, cl_2, cl_3, cl_4, cl_5, cl_6] at *); (try simp only [Int32.reduceToInt] at *); omega))).symm | exact Qi K (bI_f (by ((try simp only [le32, lt32, eq32, ne_eq, cl_0, cl_1, cl_2, cl_3, cl_4, cl_5, cl_6] at *); (try simp only [Int32.reduceToInt] at *); omega))).symm | (refine inI ?_ ?_ <;> ((try simp only [le32, lt32, eq32, ne_eq, cl_0, cl_1, cl_2, cl_3, cl_4, cl_5, cl_6] at *); (try simp only [Int32.reduceToInt] at *); omega))
theorem c_putLayer {X : Xt} {k t w : Int32} {G : Gt} {Q : Qt} (hk : vp_in k 6) (K : Q none (sG (sG G 7 (upd (G 7) k.toNatClampNeg t)) 8 (upd (G 8) k.toNatClampNeg w))) : con X m_Wall_putLayer [.ref 5, .int k, .int t, .int w] G Q := by
  refine con_rn 40 [] (by decide) rfl ?_
  repeat' first | refine bib (fun h => ?_) (fun h => ?_) | refine bjb (fun h => ?_) (fun h => ?_) | refine bi (fun h => ?_) (fun h => ?_) | refine bj (fun h => ?_) (fun h => ?_) | refine vi (inI (by decide) (by decide)) ?_ | refine vi ?_ ?_ | refine zi (by decide) ?_ | refine zi ?_ ?_ | refine ni rfl ?_ | refine ni (bI_nar _) ?_
  · exact hk
  · exact hk
  · exact K
theorem c_addLayer {X : Xt} {t w : Int32} {G : Gt} {Q : Qt} (hk : vp_in (G 5 3) 6) (K : Q (some (.int (G 5 3))) (sG (sG (sG G 5 (upd (G 5) 3 (G 5 3 + 1))) 7 (upd (G 7) (G 5 3).toNatClampNeg t)) 8 (upd (G 8) (G 5 3).toNatClampNeg w))) : con X m_Wall_addLayer [.ref 5, .int t, .int w] G Q := by
  refine con_rn 40 [] (by decide) rfl ?_
  repeat' first | refine bib (fun h => ?_) (fun h => ?_) | refine bjb (fun h => ?_) (fun h => ?_) | refine bi (fun h => ?_) (fun h => ?_) | refine bj (fun h => ?_) (fun h => ?_) | refine vi (inI (by decide) (by decide)) ?_ | refine vi ?_ ?_ | refine zi (by decide) ?_ | refine zi ?_ ?_ | refine ni rfl ?_ | refine ni (bI_nar _) ?_ | refine (c_putLayer hk) ?_
  exact K
theorem c_thickOf {X : Xt} {k : Int32} {G : Gt} {Q : Qt} (hk : vp_in k 6) (K : Q (some (.int (G 7 k.toNatClampNeg))) G) : con X m_Wall_thickOf [.ref 5, .int k] G Q := by
  refine con_rn 40 [] (by decide) rfl ?_
  repeat' first | refine bib (fun h => ?_) (fun h => ?_) | refine bjb (fun h => ?_) (fun h => ?_) | refine bi (fun h => ?_) (fun h => ?_) | refine bj (fun h => ?_) (fun h => ?_) | refine vi (inI (by decide) (by decide)) ?_ | refine vi ?_ ?_ | refine zi (by decide) ?_ | refine zi ?_ ?_ | refine ni rfl ?_ | refine ni (bI_nar _) ?_
  · exact hk
  · exact K
theorem c_weightOf {X : Xt} {k : Int32} {G : Gt} {Q : Qt} (hk : vp_in k 6) (K : Q (some (.int (G 8 k.toNatClampNeg))) G) : con X m_Wall_weightOf [.ref 5, .int k] G Q := by
  refine con_rn 40 [] (by decide) rfl ?_
  repeat' first | refine bib (fun h => ?_) (fun h => ?_) | refine bjb (fun h => ?_) (fun h => ?_) | refine bi (fun h => ?_) (fun h => ?_) | refine bj (fun h => ?_) (fun h => ?_) | refine vi (inI (by decide) (by decide)) ?_ | refine vi ?_ ?_ | refine zi (by decide) ?_ | refine zi ?_ ?_ | refine ni rfl ?_ | refine ni (bI_nar _) ?_
  · exact hk
  · exact K
theorem c_holds {X : Xt} {k : Int32} {G : Gt} {Q : Qt} (hl : lyOK (G 5 3)) (hk : 0 ≤ k ∧ k ≤ G 5 3 - 1) (K : Q (some (.int (bI (hS (G 5 3) (G 6 4) (G 8) k)))) G) : con X m_Wall_holds [.ref 5, .int k] G Q := by
  obtain ⟨e1, e2, e3, e4, e5⟩ := lk_1 hl hk
  refine con_rn 60 [] (by decide) rfl ?_
  repeat' first | refine bib (fun h => ?_) (fun h => ?_) | refine bjb (fun h => ?_) (fun h => ?_) | refine bi (fun h => ?_) (fun h => ?_) | refine bj (fun h => ?_) (fun h => ?_) | refine vi (inI (by decide) (by decide)) ?_ | refine vi ?_ ?_ | refine zi (by decide) ?_ | refine zi ?_ ?_ | refine ni rfl ?_ | refine ni (bI_nar _) ?_
  all_goals first | exact Qi K (bI_t (by ((try simp only [hS, le32, lt32, eq32, ne_eq, cl_0, cl_1, cl_2, cl_3, cl_4, cl_5, cl_6] at *); (try simp only [Int32.reduceToInt] at *); omega))).symm | exact Qi K (bI_f (by ((try simp only [hS, le32, lt32, eq32, ne_eq, cl_0, cl_1, cl_2, cl_3, cl_4, cl_5, cl_6] at *); (try simp only [Int32.reduceToInt] at *); omega))).symm | (refine inI ?_ ?_ <;> ((try simp only [le32, lt32, eq32, ne_eq, cl_0, cl_1, cl_2, cl_3, cl_4, cl_5, cl_6] at *); (try simp only [Int32.reduceToInt] at *); omega))
theorem c_kindOf {X : Xt} {k : Int32} {G : Gt} {Q : Qt} (hl : lyOK (G 5 3)) (hk : 0 ≤ k ∧ k ≤ G 5 3 - 1) (K : Q (some (.int (kS (G 5 3) (G 6 4) (G 8) k))) G) : con X m_Wall_kindOf [.ref 5, .int k] G Q := by
  refine con_rn 60 [] (by decide) rfl ?_
  repeat' first | refine bib (fun h => ?_) (fun h => ?_) | refine bjb (fun h => ?_) (fun h => ?_) | refine bi (fun h => ?_) (fun h => ?_) | refine bj (fun h => ?_) (fun h => ?_) | refine vi (inI (by decide) (by decide)) ?_ | refine vi ?_ ?_ | refine zi (by decide) ?_ | refine zi ?_ ?_ | refine ni rfl ?_ | refine ni (bI_nar _) ?_ | refine (c_holds hl hk) ?_
  all_goals first | (exact inI (by decide) (by decide)) | (refine Qi K ?_; simp_all [kS, hS]; done) | (refine Qi K ?_; simp_all [kS, hS]; intro a b; exact absurd (h.2 a) (Int32.not_lt.mpr b))
theorem c_isOfKind {X : Xt} {k d : Int32} {G : Gt} {Q : Qt} (hl : lyOK (G 5 3)) (hk : 0 ≤ k ∧ k ≤ G 5 3 - 1) (K : Q (some (.int (bI (d = 0 ∨ d = kS (G 5 3) (G 6 4) (G 8) k ∨ (d = 1 ∧ kS (G 5 3) (G 6 4) (G 8) k = 2))))) G) : con X m_Wall_isOfKind [.ref 5, .int k, .int d] G Q := by
  refine con_rn 60 [] (by decide) rfl ?_
  repeat' first | refine bib (fun h => ?_) (fun h => ?_) | refine bjb (fun h => ?_) (fun h => ?_) | refine bi (fun h => ?_) (fun h => ?_) | refine bj (fun h => ?_) (fun h => ?_) | refine vi (inI (by decide) (by decide)) ?_ | refine vi ?_ ?_ | refine zi (by decide) ?_ | refine zi ?_ ?_ | refine ni rfl ?_ | refine ni (bI_nar _) ?_ | refine (c_kindOf hl hk) ?_
  all_goals first | exact Qi K (bI_t (by ((try simp only [le32, lt32, eq32, ne_eq, cl_0, cl_1, cl_2, cl_3, cl_4, cl_5, cl_6] at *); (try simp only [Int32.reduceToInt] at *); omega))).symm | exact Qi K (bI_f (by ((try simp only [le32, lt32, eq32, ne_eq, cl_0, cl_1, cl_2, cl_3, cl_4, cl_5, cl_6] at *); (try simp only [Int32.reduceToInt] at *); omega))).symm | (refine inI ?_ ?_ <;> ((try simp only [le32, lt32, eq32, ne_eq, cl_0, cl_1, cl_2, cl_3, cl_4, cl_5, cl_6] at *); (try simp only [Int32.reduceToInt] at *); omega))
theorem w_width {X : Xt} {y : Int32} {k : Nat} {G : Gt} {Q : Qt} (hk : k ≤ 6) (K : Q (some (.int (wS (G 6) (G 7) k y))) G) : ∀ (m j : Nat) (c t : Int32), c = nI j → j + m = k → t = sI (G 7) j → wp X m_Wall_widthWithout 5 [(4, .int c), (3, .int t), (0, .ref 5), (1, .int (nI k)), (2, .int y)] [] G Q
  | 0, j, c, t, hc, hj, ht => by
    subst hc
    have hj : j = k := by omega
    subst hj
    subst ht
    refine rn_wp (stops := [5]) 80 ?_
    repeat' first | refine bib (fun h => ?_) (fun h => ?_) | refine bjb (fun h => ?_) (fun h => ?_) | refine bi (fun h => ?_) (fun h => ?_) | refine bj (fun h => ?_) (fun h => ?_) | refine vi (inI (by decide) (by decide)) ?_ | refine vi ?_ ?_ | refine zi (by decide) ?_ | refine zi ?_ ?_ | refine ni rfl ?_ | refine ni (bI_nar _) ?_
    · refine Qi K ?_
      simp only [cl_0, cl_1, cl_2] at *
      unfold wS pos
      rw [if_neg (Int32.not_le.mpr h)]
    · refine Qi K ?_
      simp only [cl_0, cl_1, cl_2] at *
      unfold wS
      rw [if_pos (Int32.not_lt.mp h)]
    all_goals (exfalso; simp (disch := omega) only [nI_1, nI_add, nI_clamp, nI_leI, nI_ltI, nI_eq, nI_toInt] at h; omega)
  | m + 1, j, c, t, hc, hj, ht => by
    subst hc
    refine rn_wp (stops := [5]) 80 ?_
    refine bi (fun h => ?_) (fun h => ?_)
    · simp (disch := omega) only [nI_1, nI_add, nI_clamp, nI_leI, nI_ltI, nI_eq, nI_toInt] at h
      omega
    · refine vi (vp_in_nI (by omega) (by omega)) ?_
      refine w_width hk K m (j + 1) _ _ (nI_1 _) (by omega) ?_
      rw [ht, nI_clamp (by omega)]
      rfl
theorem c_width {X : Xt} {k y : Int32} {G : Gt} {Q : Qt} (h0 : 0 ≤ k) (h1 : k ≤ 6) (K : Q (some (.int (wS (G 6) (G 7) k.toNatClampNeg y))) G) : con X m_Wall_widthWithout [.ref 5, .int k, .int y] G Q := by
  obtain ⟨e, e1, -⟩ := toN h0
  have h2 : k.toInt ≤ 6 := by simpa using le32.mp h1
  generalize k.toNatClampNeg = j at *
  subst e
  refine con_rn 10 [5] (by decide) rfl ?_
  exact w_width (by omega) K j 0 _ _ rfl (by omega) rfl
/-- the wall's measures, as they may be -/
def msOK (ms : Nat → Int32) : Prop := (1 ≤ ms 0 ∧ ms 0 ≤ 100) ∧ (1 ≤ ms 1 ∧ ms 1 ≤ 50) ∧ (1 ≤ ms 2 ∧ ms 2 ≤ 60) ∧ (1 ≤ ms 3 ∧ ms 3 ≤ 1000) ∧ (2 ≤ ms 4 ∧ ms 4 ≤ 30)
theorem ms_0 {ms : Nat → Int32} (h : msOK ms) : ∃ C : Nat, C ≤ 100 ∧ 1 ≤ C ∧ ms 0 = nI C := by
  obtain ⟨e, e1, -⟩ := toN (x := ms 0) (Int32.le_trans (by decide) h.1.1)
  have h1 : 1 ≤ (ms 0).toInt := by simpa using le32.mp h.1.1
  have h2 : (ms 0).toInt ≤ 100 := by simpa using le32.mp h.1.2
  exact ⟨_, by omega, by omega, e⟩
theorem w_wholeVolume {X : Xt} {C : Nat} {G : Gt} {Q : Qt} (hC : C ≤ 100) (hm : G 6 0 = nI C) (K : Q (some (.int (sI (fun h => wS (G 6) (G 7) 0 (nI h)) C * G 6 3))) G) : ∀ (m j : Nat) (c t : Int32), c = nI j → j + m = C → t = sI (fun h => wS (G 6) (G 7) 0 (nI h)) j → wp X m_Wall_wholeVolume 4 [(2, .int c), (1, .int t), (0, .ref 5)] [] G Q
  | 0, j, c, t, hc, hj, ht => by
    subst hc
    have hj : j = C := by omega
    subst hj
    subst ht
    refine rn_wp (stops := [4]) 80 ?_
    repeat' first | refine bib (fun h => ?_) (fun h => ?_) | refine bjb (fun h => ?_) (fun h => ?_) | refine bi (fun h => ?_) (fun h => ?_) | refine bj (fun h => ?_) (fun h => ?_) | refine vi (inI (by decide) (by decide)) ?_ | refine vi ?_ ?_ | refine zi (by decide) ?_ | refine zi ?_ ?_ | refine ni rfl ?_ | refine ni (bI_nar _) ?_ | refine (c_width (by decide) (by decide)) ?_
    · exact K
    · exfalso
      simp only [cl_0] at h
      rw [hm] at h
      exact h (Int32.le_refl _)
  | m + 1, j, c, t, hc, hj, ht => by
    subst hc
    refine rn_wp (stops := [4]) 80 ?_
    repeat' first | refine bib (fun h => ?_) (fun h => ?_) | refine bjb (fun h => ?_) (fun h => ?_) | refine bi (fun h => ?_) (fun h => ?_) | refine bj (fun h => ?_) (fun h => ?_) | refine vi (inI (by decide) (by decide)) ?_ | refine vi ?_ ?_ | refine zi (by decide) ?_ | refine zi ?_ ?_ | refine ni rfl ?_ | refine ni (bI_nar _) ?_ | refine (c_width (by decide) (by decide)) ?_
    · exfalso
      simp only [cl_0] at h
      rw [hm] at h
      simp (disch := omega) only [nI_1, nI_add, nI_clamp, nI_leI, nI_ltI, nI_eq, nI_toInt] at h
      omega
    · refine w_wholeVolume hC hm K m (j + 1) _ _ (nI_1 _) (by omega) ?_
      rw [ht]
      rfl
theorem c_wholeVolume {X : Xt} {C : Nat} {G : Gt} {Q : Qt} (hC : C ≤ 100) (hm : G 6 0 = nI C) (K : Q (some (.int (sI (fun h => wS (G 6) (G 7) 0 (nI h)) C * G 6 3))) G) : con X m_Wall_wholeVolume [.ref 5] G Q := by
  refine con_rn 10 [4] (by decide) rfl ?_
  exact w_wholeVolume hC hm K C 0 _ _ rfl (by omega) rfl
theorem w_volumeOf {X : Xt} {C k : Nat} {G : Gt} {Q : Qt} (hC : C ≤ 100) (hm : G 6 0 = nI C) (hl : lyOK (G 5 3)) (hk : nI k ≤ G 5 3) (hk6 : k ≤ 6) (K : Q (some (.int (sI (fun h => pos (lS (G 5 3) (G 6) (G 7) k (nI h))) C * G 6 3))) G) : ∀ (m j : Nat) (c t : Int32), c = nI j → j + m = C → t = sI (fun h => pos (lS (G 5 3) (G 6) (G 7) k (nI h))) j → wp X m_Wall_volumeOf 4 [(3, .int c), (2, .int t), (0, .ref 5), (1, .int (nI k))] [] G Q
  | 0, j, c, t, hc, hj, ht => by
    subst hc
    have hj : j = C := by omega
    subst hj
    subst ht
    refine rn_wp (stops := [4]) 80 ?_
    refine vi (inI (by decide) (by decide)) (bi (fun h => ?_) (fun h => ?_))
    · refine vi (inI (by decide) (by decide)) ?_
      exact K
    · exfalso
      simp only [cl_0] at h
      rw [hm] at h
      exact h (Int32.le_refl _)
  | m + 1, j, c, t, hc, hj, ht => by
    subst hc
    refine rn_wp (stops := [4]) 80 ?_
    refine vi (inI (by decide) (by decide)) (bi (fun h => ?_) (fun h => ?_))
    · exfalso
      simp only [cl_0] at h
      rw [hm] at h
      simp (disch := omega) only [nI_1, nI_add, nI_clamp, nI_leI, nI_ltI, nI_eq, nI_toInt] at h
      omega
    · have h6 : (6 : Int32) = nI 6 := rfl
      have a1 : 0 ≤ nI k := nI_pos' (by omega)
      have a2 : nI k ≤ 6 := by rw [h6, nI_leI (by omega) (by omega)]; omega
      refine bi (fun h2 => ?_) (fun h2 => ?_)
      · refine c_width a1 a2 ?_
        rw [nI_clamp (by omega)]
        refine wp_pick [0, 1, 3, 4] (w_volumeOf hC hm hl hk hk6 K m (j + 1) _ _ (nI_1 _) (by omega) ?_)
        rw [ht, sI, lS, if_neg (Int32.not_lt.mpr h2)]
        show _ = _ + pos _
        unfold pos
        rw [Int32.sub_zero]
      · have h2 : nI k < G 5 3 := Int32.not_le.mp h2
        have a3 : (nI k + 1) ≤ 6 := by
          have := hl.2
          have h3 := (ly_1 hl).2.2
          have h4 := lt32.mp h2
          rw [nI_toInt (by omega)] at h4
          rw [nI_1, h6, nI_leI (by omega) (by omega)]
          omega
        refine c_width (by rw [nI_1]; exact nI_pos' (by omega)) a3 ?_
        refine c_width a1 a2 ?_
        rw [nI_1, nI_clamp (by omega), nI_clamp (by omega)]
        refine wp_pick [0, 1, 3, 4] (w_volumeOf hC hm hl hk hk6 K m (j + 1) _ _ (nI_1 _) (by omega) ?_)
        rw [ht, sI, lS, if_pos h2]
        rfl
theorem c_volumeOf {X : Xt} {C k : Nat} {G : Gt} {Q : Qt} (hC : C ≤ 100) (hm : G 6 0 = nI C) (hl : lyOK (G 5 3)) (hk : nI k ≤ G 5 3) (hk6 : k ≤ 6) (K : Q (some (.int (sI (fun h => pos (lS (G 5 3) (G 6) (G 7) k (nI h))) C * G 6 3))) G) : con X m_Wall_volumeOf [.ref 5, .int (nI k)] G Q := by
  refine con_rn 10 [4] (by decide) rfl ?_
  exact w_volumeOf hC hm hl hk hk6 K C 0 _ _ rfl (by omega) rfl
/-- how many of n layers hold -/
def hN (ly f : Int32) (w : Nat → Int32) : Nat → Nat
  | 0 => 0
  | n + 1 => hN ly f w n + (if hS ly f w (nI n) then 1 else 0)
def oN (ly f : Int32) (w : Nat → Int32) : Nat → Nat
  | 0 => 0
  | n + 1 => oN ly f w n + (if kS ly f w (nI n) = 4 then 1 else 0)
theorem lyN {ly : Int32} (h : lyOK ly) : ∃ N : Nat, N ≤ 6 ∧ ly = nI N := by
  obtain ⟨e, e1, -⟩ := toN h.1
  have h2 := (ly_1 h).2.2
  exact ⟨_, by omega, e⟩
theorem lkN {N j : Nat} (hN : N ≤ 6) (hj : j < N) : 0 ≤ nI j ∧ nI j ≤ nI N - 1 := by
  refine ⟨nI_pos' (by omega), ?_⟩
  obtain ⟨q, rfl⟩ : ∃ q, N = q + 1 := ⟨N - 1, by omega⟩
  rw [nI_pred, nI_leI (by omega) (by omega)]
  omega
theorem w_holding {X : Xt} {N : Nat} {G : Gt} {Q : Qt} (hN6 : N ≤ 6) (hl : lyOK (G 5 3)) (hm : G 5 3 = nI N) (K : Q (some (.int (nI (hN (G 5 3) (G 6 4) (G 8) N)))) G) : ∀ (m j : Nat) (c t : Int32), c = nI j → j + m = N → t = nI (hN (G 5 3) (G 6 4) (G 8) j) → wp X m_Wall_holding 4 [(2, .int c), (1, .int t), (0, .ref 5)] [] G Q
  | 0, j, c, t, hc, hj, ht => by
    subst hc
    have hj : j = N := by omega
    subst hj
    refine rn_wp (stops := [4]) 80 ?_
    refine bi (fun h => ?_) (fun h => ?_)
    · exact Qi K ht
    · exact absurd (by rw [hm]; exact Int32.le_refl _) h
  | m + 1, j, c, t, hc, hj, ht => by
    subst hc
    refine rn_wp (stops := [4]) 80 ?_
    refine bi (fun h => ?_) (fun h => ?_)
    · exfalso
      rw [hm] at h
      simp (disch := omega) only [nI_1, nI_add, nI_clamp, nI_leI, nI_ltI, nI_eq, nI_toInt] at h
      omega
    · refine c_holds hl (by rw [hm]; exact lkN hN6 (by omega)) ?_
      refine bib (fun h2 => ?_) (fun h2 => ?_)
      · refine w_holding hN6 hl hm K m (j + 1) _ _ (nI_1 _) (by omega) ?_
        rw [ht, hN, if_neg h2]
        rfl
      · refine w_holding hN6 hl hm K m (j + 1) _ _ (nI_1 _) (by omega) ?_
        rw [ht, hN, if_pos h2, nI_1]
theorem c_holding {X : Xt} {N : Nat} {G : Gt} {Q : Qt} (hN6 : N ≤ 6) (hl : lyOK (G 5 3)) (hm : G 5 3 = nI N) (K : Q (some (.int (nI (hN (G 5 3) (G 6 4) (G 8) N)))) G) : con X m_Wall_holding [.ref 5] G Q := by
  refine con_rn 10 [4] (by decide) rfl ?_
  exact w_holding hN6 hl hm K N 0 _ _ rfl (by omega) rfl
theorem w_loose {X : Xt} {N : Nat} {G : Gt} {Q : Qt} (hN6 : N ≤ 6) (hl : lyOK (G 5 3)) (hm : G 5 3 = nI N) (K : Q (some (.int (nI (oN (G 5 3) (G 6 4) (G 8) N)))) G) : ∀ (m j : Nat) (c t : Int32), c = nI j → j + m = N → t = nI (oN (G 5 3) (G 6 4) (G 8) j) → wp X m_Wall_loose 4 [(2, .int c), (1, .int t), (0, .ref 5)] [] G Q
  | 0, j, c, t, hc, hj, ht => by
    subst hc
    have hj : j = N := by omega
    subst hj
    refine rn_wp (stops := [4]) 80 ?_
    refine bi (fun h => ?_) (fun h => ?_)
    · exact Qi K ht
    · exact absurd (by rw [hm]; exact Int32.le_refl _) h
  | m + 1, j, c, t, hc, hj, ht => by
    subst hc
    refine rn_wp (stops := [4]) 80 ?_
    refine bi (fun h => ?_) (fun h => ?_)
    · exfalso
      rw [hm] at h
      simp (disch := omega) only [nI_1, nI_add, nI_clamp, nI_leI, nI_ltI, nI_eq, nI_toInt] at h
      omega
    · refine c_kindOf hl (by rw [hm]; exact lkN hN6 (by omega)) ?_
      refine bj (fun h2 => ?_) (fun h2 => ?_)
      · refine w_loose hN6 hl hm K m (j + 1) _ _ (nI_1 _) (by omega) ?_
        rw [ht, oN, if_neg h2]
        rfl
      · refine w_loose hN6 hl hm K m (j + 1) _ _ (nI_1 _) (by omega) ?_
        rw [ht, oN, if_pos h2, nI_1]
theorem c_loose {X : Xt} {N : Nat} {G : Gt} {Q : Qt} (hN6 : N ≤ 6) (hl : lyOK (G 5 3)) (hm : G 5 3 = nI N) (K : Q (some (.int (nI (oN (G 5 3) (G 6 4) (G 8) N)))) G) : con X m_Wall_loose [.ref 5] G Q := by
  refine con_rn 10 [4] (by decide) rfl ?_
  exact w_loose hN6 hl hm K N 0 _ _ rfl (by omega) rfl
