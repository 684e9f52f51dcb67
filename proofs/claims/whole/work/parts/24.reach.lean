/-! places and reach -/
abbrev plc (r p : Int32) : Prop := (0 ≤ r ∧ r ≤ 7) ∧ 0 ≤ p ∧ p ≤ 11 - r
abbrev crn (c k : Int32) : Prop := (0 ≤ c ∧ c ≤ 11) ∧ 0 ≤ k ∧ k ≤ 30
def abI (x : Int32) : Int32 := if 0 ≤ x then x else 0 - x
abbrev nea (c k r p : Int32) : Prop := abI (p + r / 2 - c) + r ≤ k
theorem c_isPlace {X : Xt} {r p : Int32} {G : Gt} {Q : Qt} (K : Q (some (.int (bI (plc r p)))) G) : con X m_Pile_isPlace [.int r, .int p] G Q := by
  refine con_rn 40 [] (by decide) rfl ?_
  repeat' first | refine bib (fun h => ?_) (fun h => ?_) | refine bjb (fun h => ?_) (fun h => ?_) | refine bi (fun h => ?_) (fun h => ?_) | refine bj (fun h => ?_) (fun h => ?_) | refine vi (inI (by decide) (by decide)) ?_ | refine vi ?_ ?_ | refine zi (by decide) ?_ | refine zi ?_ ?_ | refine ni rfl ?_ | refine ni (bI_nar _) ?_ | refine c_within ?_
  all_goals first | exact Qi K (bI_t (by ((try simp only [plc, le32, lt32, eq32, ne_eq, cl_0, cl_1, cl_2, cl_3, cl_4, cl_5, cl_6] at *); (try simp only [Int32.reduceToInt] at *); omega))).symm | exact Qi K (bI_f (by ((try simp only [plc, le32, lt32, eq32, ne_eq, cl_0, cl_1, cl_2, cl_3, cl_4, cl_5, cl_6] at *); (try simp only [Int32.reduceToInt] at *); omega))).symm | (refine inI ?_ ?_ <;> ((try simp only [le32, lt32, eq32, ne_eq, cl_0, cl_1, cl_2, cl_3, cl_4, cl_5, cl_6] at *); (try simp only [Int32.reduceToInt] at *); omega))
theorem c_isNear {X : Xt} {c k r p : Int32} {G : Gt} {Q : Qt} (K : Q (some (.int (bI (nea c k r p)))) G) : con X m_Pile_isNear [.int c, .int k, .int r, .int p] G Q := by
  refine con_rn 40 [] (by decide) rfl ?_
  repeat' first | refine bib (fun h => ?_) (fun h => ?_) | refine bjb (fun h => ?_) (fun h => ?_) | refine bi (fun h => ?_) (fun h => ?_) | refine bj (fun h => ?_) (fun h => ?_) | refine vi (inI (by decide) (by decide)) ?_ | refine vi ?_ ?_ | refine zi (by decide) ?_ | refine zi ?_ ?_ | refine ni rfl ?_ | refine ni (bI_nar _) ?_
  · exact Qi K (bI_f (fun z => Int32.not_lt.mpr z h)).symm
  · exact Qi K (bI_t (Int32.not_lt.mp h)).symm
theorem c_size {X : Xt} {x : Int32} {G : Gt} {Q : Qt} (K : Q (some (.int (abI x))) G) : con X m_Mo_size [.int x] G Q := by
  refine con_rn 40 [] (by decide) rfl ?_
  repeat' first | refine bib (fun h => ?_) (fun h => ?_) | refine bjb (fun h => ?_) (fun h => ?_) | refine bi (fun h => ?_) (fun h => ?_) | refine bj (fun h => ?_) (fun h => ?_) | refine vi (inI (by decide) (by decide)) ?_ | refine vi ?_ ?_ | refine zi (by decide) ?_ | refine zi ?_ ?_ | refine ni rfl ?_ | refine ni (bI_nar _) ?_
  · exact Qi K (by rw [abI, if_pos h])
  · exact Qi K (by rw [abI, if_neg h, Int32.zero_sub])
theorem c_isReached {X : Xt} {c k r p : Int32} {G : Gt} {Q : Qt} (K : Q (some (.int (bI (nea c k r p)))) G) : con X m_Mo_isReached [.int c, .int k, .int r, .int p] G Q := by
  refine con_rn 40 [] (by decide) rfl ?_
  repeat' first | refine bib (fun h => ?_) (fun h => ?_) | refine bjb (fun h => ?_) (fun h => ?_) | refine bi (fun h => ?_) (fun h => ?_) | refine bj (fun h => ?_) (fun h => ?_) | refine vi (inI (by decide) (by decide)) ?_ | refine vi ?_ ?_ | refine zi (by decide) ?_ | refine zi ?_ ?_ | refine ni rfl ?_ | refine ni (bI_nar _) ?_ | refine c_size ?_
  · exact Qi K (bI_f (fun z => Int32.not_lt.mpr z h)).symm
  · exact Qi K (bI_t (Int32.not_lt.mp h)).symm
theorem c_MisPlace2 {X : Xt} {r p : Int32} {G : Gt} {Q : Qt} (K : Q (some (.int (bI (plc r p)))) G) : con X m_Mo_isPlace [.int r, .int p] G Q := c_MisPlace K
theorem c_SW_reaches {X : Xt} {c k r p : Int32} {G : Gt} {Q : Qt} (K1 : ¬ (crn c k ∧ plc r p) → Q (some (.int (-1000001))) G) (K2 : crn c k ∧ plc r p → Q (some (.int (bI (nea c k r p)))) G) : con X m_SW_reaches [.ref 0, .int c, .int k, .int r, .int p] G Q := by
  refine con_rn 60 [] (by decide) rfl ?_
  repeat' first | refine bib (fun h => ?_) (fun h => ?_) | refine bjb (fun h => ?_) (fun h => ?_) | refine bi (fun h => ?_) (fun h => ?_) | refine bj (fun h => ?_) (fun h => ?_) | refine vi (inI (by decide) (by decide)) ?_ | refine vi ?_ ?_ | refine zi (by decide) ?_ | refine zi ?_ ?_ | refine ni rfl ?_ | refine ni (bI_nar _) ?_ | refine c_isCrane ?_ | refine c_isPlace ?_ | refine c_isNear ?_
  · exact K1 (fun z => h z.1)
  · rename_i h1 h2; exact Qi (K2 ⟨h1, h2⟩) (bI_f h).symm
  · rename_i h1 h2; exact Qi (K2 ⟨h1, h2⟩) (bI_t h).symm
  · exact K1 (fun z => h z.2)
theorem c_Mo_reaches {X : Xt} {c k r p : Int32} {G : Gt} {Q : Qt} (h0 : G 26 0 = 0) (K1 : ¬ (crn c k ∧ plc r p) → Q (some (.int (-1000001))) G) (K2 : crn c k ∧ plc r p → Q (some (.int (bI (nea c k r p)))) G) : con X m_Mo_reaches [.ref 26, .int c, .int k, .int r, .int p] G Q := by
  refine con_rm 60 [] (by decide) rfl (by decide +kernel) h0 ?_
  repeat' first | refine bib (fun h => ?_) (fun h => ?_) | refine bjb (fun h => ?_) (fun h => ?_) | refine bi (fun h => ?_) (fun h => ?_) | refine bj (fun h => ?_) (fun h => ?_) | refine vi (inI (by decide) (by decide)) ?_ | refine vi ?_ ?_ | refine zi (by decide) ?_ | refine zi ?_ ?_ | refine ni rfl ?_ | refine ni (bI_nar _) ?_ | refine c_MisCrane ?_ | refine c_MisPlace2 ?_ | refine c_isReached ?_
  · exact K1 (fun z => h z.1)
  · rename_i h1 h2; exact Qi (K2 ⟨h1, h2⟩) (bI_f h).symm
  · rename_i h1 h2; exact Qi (K2 ⟨h1, h2⟩) (bI_t h).symm
  · exact K1 (fun z => h z.2)
theorem p_reaches {X : Xt} {G : Gt} (hI : Inv G) {c k r p : Int32} : pair X m_SW_reaches m_Mo_reaches [.int c, .int k, .int r, .int p] G := by
  obtain ⟨hW, hT, hS, hP, hs, h0⟩ := id hI
  refine c_SW_reaches (fun h => pq ?_) (fun h => pq ?_)
  · exact c_Mo_reaches h0 (fun _ => ⟨rfl, hI⟩) (fun z => absurd z h)
  · exact c_Mo_reaches h0 (fun z => absurd h z) (fun _ => ⟨rfl, hI⟩)
/-! waves: both sides bounce and add alike -/
def bnc (b : Int32) (v : Int32) : Nat → Int32
  | 0 => v
  | n + 1 => bnc b v n * b / 10
theorem w_bounced {X : Xt} {v b : Int32} {N : Nat} {G : Gt} {Q : Qt} (hN : N ≤ 100) (K : Q (some (.int (bnc b v N))) G) : ∀ (m j : Nat) (c t : Int32), c = nI j → j + m = N → t = bnc b v j → wp X m_Harbour_bounced 5 [(4, .int c), (3, .int t), (0, .int v), (1, .int b), (2, .int (nI N))] [] G Q
  | 0, j, c, t, hc, hj, ht => by
    subst hc
    have hj : j = N := by omega
    subst hj
    refine rn_wp (stops := [5]) 40 ?_
    refine bi (fun h => ?_) (fun h => ?_)
    · exact Qi K ht
    · exact absurd (Int32.le_refl _) h
  | m + 1, j, c, t, hc, hj, ht => by
    subst hc
    refine rn_wp (stops := [5]) 40 ?_
    refine bi (fun h => ?_) (fun h => ?_)
    · exfalso
      simp (disch := omega) only [nI_1, nI_add, nI_clamp, nI_leI, nI_ltI, nI_eq, nI_toInt] at h
      omega
    · refine zi (by decide) ?_
      refine w_bounced hN K m (j + 1) _ _ (nI_1 _) (by omega) ?_
      rw [ht]
      rfl
theorem c_bounced {X : Xt} {v b : Int32} {N : Nat} {G : Gt} {Q : Qt} (hN : N ≤ 100) (K : Q (some (.int (bnc b v N))) G) : con X m_Harbour_bounced [.int v, .int b, .int (nI N)] G Q := by
  refine con_rn 10 [5] (by decide) rfl ?_
  exact w_bounced hN K N 0 _ _ rfl (by omega) rfl
