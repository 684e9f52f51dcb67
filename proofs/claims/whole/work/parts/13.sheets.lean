/-! Sheets -/
theorem c_isMissing {X : Xt} {s : Int32} {G : Gt} {Q : Qt} (hs : 0 ≤ s ∧ s ≤ 7) (K : Q (some (.int (bI (G 4 s.toNatClampNeg = -1)))) G) : con X m_Sheets_isMissing [.ref 1, .int s] G Q := by
  refine con_rn 40 [] (by decide) rfl ?_
  repeat' first | refine bib (fun h => ?_) (fun h => ?_) | refine bjb (fun h => ?_) (fun h => ?_) | refine bi (fun h => ?_) (fun h => ?_) | refine bj (fun h => ?_) (fun h => ?_) | refine vi (inI (by decide) (by decide)) ?_ | refine vi ?_ ?_ | refine zi (by decide) ?_ | refine zi ?_ ?_ | refine ni rfl ?_ | refine ni (bI_nar _) ?_
  all_goals first | exact Qi K (bI_t (by ((try simp only [le32, lt32, eq32, ne_eq, cl_0, cl_1, cl_2, cl_3, cl_4, cl_5, cl_6] at *); (try simp only [Int32.reduceToInt] at *); omega))).symm | exact Qi K (bI_f (by ((try simp only [le32, lt32, eq32, ne_eq, cl_0, cl_1, cl_2, cl_3, cl_4, cl_5, cl_6] at *); (try simp only [Int32.reduceToInt] at *); omega))).symm | (refine inI ?_ ?_ <;> ((try simp only [le32, lt32, eq32, ne_eq, cl_0, cl_1, cl_2, cl_3, cl_4, cl_5, cl_6] at *); (try simp only [Int32.reduceToInt] at *); omega))
theorem c_areOfOneLane {X : Xt} {s t : Int32} {G : Gt} {Q : Qt} (hs : 0 ≤ s ∧ s ≤ 7) (ht : 0 ≤ t ∧ t ≤ 7) (K : Q (some (.int (bI (G 3 s.toNatClampNeg = G 3 t.toNatClampNeg)))) G) : con X m_Sheets_areOfOneLane [.ref 1, .int s, .int t] G Q := by
  refine con_rn 40 [] (by decide) rfl ?_
  repeat' first | refine bib (fun h => ?_) (fun h => ?_) | refine bjb (fun h => ?_) (fun h => ?_) | refine bi (fun h => ?_) (fun h => ?_) | refine bj (fun h => ?_) (fun h => ?_) | refine vi (inI (by decide) (by decide)) ?_ | refine vi ?_ ?_ | refine zi (by decide) ?_ | refine zi ?_ ?_ | refine ni rfl ?_ | refine ni (bI_nar _) ?_
  all_goals first | exact Qi K (bI_t (by ((try simp only [le32, lt32, eq32, ne_eq, cl_0, cl_1, cl_2, cl_3, cl_4, cl_5, cl_6] at *); (try simp only [Int32.reduceToInt] at *); omega))).symm | exact Qi K (bI_f (by ((try simp only [le32, lt32, eq32, ne_eq, cl_0, cl_1, cl_2, cl_3, cl_4, cl_5, cl_6] at *); (try simp only [Int32.reduceToInt] at *); omega))).symm | (refine inI ?_ ?_ <;> ((try simp only [le32, lt32, eq32, ne_eq, cl_0, cl_1, cl_2, cl_3, cl_4, cl_5, cl_6] at *); (try simp only [Int32.reduceToInt] at *); omega))
theorem c_hasItems {X : Xt} {s i n : Int32} {G : Gt} {Q : Qt} (hs : 0 ≤ s ∧ s ≤ 7) (K : Q (some (.int (bI (0 ≤ i ∧ 0 ≤ n ∧ n ≤ G 4 s.toNatClampNeg - i)))) G) : con X m_Sheets_hasItems [.ref 1, .int s, .int i, .int n] G Q := by
  refine con_rn 40 [] (by decide) rfl ?_
  repeat' first | refine bib (fun h => ?_) (fun h => ?_) | refine bjb (fun h => ?_) (fun h => ?_) | refine bi (fun h => ?_) (fun h => ?_) | refine bj (fun h => ?_) (fun h => ?_) | refine vi (inI (by decide) (by decide)) ?_ | refine vi ?_ ?_ | refine zi (by decide) ?_ | refine zi ?_ ?_ | refine ni rfl ?_ | refine ni (bI_nar _) ?_
  all_goals first | exact Qi K (bI_t (by ((try simp only [le32, lt32, eq32, ne_eq, cl_0, cl_1, cl_2, cl_3, cl_4, cl_5, cl_6] at *); (try simp only [Int32.reduceToInt] at *); omega))).symm | exact Qi K (bI_f (by ((try simp only [le32, lt32, eq32, ne_eq, cl_0, cl_1, cl_2, cl_3, cl_4, cl_5, cl_6] at *); (try simp only [Int32.reduceToInt] at *); omega))).symm | (refine inI ?_ ?_ <;> ((try simp only [le32, lt32, eq32, ne_eq, cl_0, cl_1, cl_2, cl_3, cl_4, cl_5, cl_6] at *); (try simp only [Int32.reduceToInt] at *); omega))
theorem c_findingAt {X : Xt} {s i n : Int32} {G : Gt} {Q : Qt} (hs : 0 ≤ s ∧ s ≤ 7) (K : Q (some (.int (if G 4 s.toNatClampNeg = -1 then 1 else if 0 ≤ i ∧ 0 ≤ n ∧ n ≤ G 4 s.toNatClampNeg - i then 0 else 2))) G) : con X m_Sheets_findingAt [.ref 1, .int s, .int i, .int n] G Q := by
  refine con_rn 40 [] (by decide) rfl ?_
  repeat' first | refine bib (fun h => ?_) (fun h => ?_) | refine bjb (fun h => ?_) (fun h => ?_) | refine bi (fun h => ?_) (fun h => ?_) | refine bj (fun h => ?_) (fun h => ?_) | refine vi (inI (by decide) (by decide)) ?_ | refine vi ?_ ?_ | refine zi (by decide) ?_ | refine zi ?_ ?_ | refine ni rfl ?_ | refine ni (bI_nar _) ?_ | refine (c_isMissing hs) ?_ | refine (c_hasItems hs) ?_
  all_goals (refine Qi K ?_; simp_all)
theorem c_remove {X : Xt} {s : Int32} {G : Gt} {Q : Qt} (hs : 0 ≤ s ∧ s ≤ 7) (K : Q (some (.int (G 4 s.toNatClampNeg))) (sG G 4 (upd (G 4) s.toNatClampNeg (-1)))) : con X m_Sheets_remove [.ref 1, .int s] G Q := by
  refine con_rn 40 [] (by decide) rfl ?_
  repeat' first | refine bib (fun h => ?_) (fun h => ?_) | refine bjb (fun h => ?_) (fun h => ?_) | refine bi (fun h => ?_) (fun h => ?_) | refine bj (fun h => ?_) (fun h => ?_) | refine vi (inI (by decide) (by decide)) ?_ | refine vi ?_ ?_ | refine zi (by decide) ?_ | refine zi ?_ ?_ | refine ni rfl ?_ | refine ni (bI_nar _) ?_
  all_goals first | exact K | (refine inI ?_ ?_ <;> ((try simp only [le32, lt32, eq32, ne_eq, cl_0, cl_1, cl_2, cl_3, cl_4, cl_5, cl_6] at *); (try simp only [Int32.reduceToInt] at *); omega))
def ix (s i : Int32) : Nat := (100 * s.toInt + i.toInt).toNat
theorem ixX {s i : Int32} (hs : 0 ≤ s ∧ s ≤ 7) (h0 : 0 ≤ i) (h1 : i < 100) : (s * 100 + i).toNatClampNeg = ix s i ∧ vp_in (s * 100 + i) 800 := by
  simp only [le32, lt32] at *
  simp only [Int32.reduceToInt] at *
  have e1 : (s * 100).toInt = s.toInt * 100 := mulI (by simp; omega) (by simp; omega)
  have e2 : (s * 100 + i).toInt = s.toInt * 100 + i.toInt := by rw [addI (by rw [e1]; omega) (by rw [e1]; omega), e1]
  refine ⟨?_, inI (by rw [e2]; omega) (by rw [e2]; omega)⟩
  rw [clamp, e2, ix]
  congr 1
  omega
theorem c_item {X : Xt} {s i : Int32} {G : Gt} {Q : Qt} (hs : 0 ≤ s ∧ s ≤ 7) (h0 : 0 ≤ i) (h1 : i < 100) (K : Q (some (.int (G 2 (ix s i)))) G) : con X m_Sheets_item [.ref 1, .int s, .int i] G Q := by
  refine con_rn 40 [] (by decide) rfl ?_
  repeat' first | refine bib (fun h => ?_) (fun h => ?_) | refine bjb (fun h => ?_) (fun h => ?_) | refine bi (fun h => ?_) (fun h => ?_) | refine bj (fun h => ?_) (fun h => ?_) | refine vi (inI (by decide) (by decide)) ?_ | refine vi ?_ ?_ | refine zi (by decide) ?_ | refine zi ?_ ?_ | refine ni rfl ?_ | refine ni (bI_nar _) ?_
  · exact (ixX hs h0 h1).2
  · rw [(ixX hs h0 h1).1]; exact K
/-- a value's lowest bits, as many as a lane has -/
def cut (lane v : Int32) : Int32 := if lane = 0 then v.toInt8.toInt32 else if lane = 1 then v.toInt16.toInt32 else v
theorem c_cutToLane {X : Xt} {l v : Int32} {G : Gt} {Q : Qt} (K : Q (some (.int (cut l v))) G) : con X m_Sheets_cutToLane [.int l, .int v] G Q := by
  refine con_rn 40 [] (by decide) rfl ?_
  repeat' first | refine bib (fun h => ?_) (fun h => ?_) | refine bjb (fun h => ?_) (fun h => ?_) | refine bi (fun h => ?_) (fun h => ?_) | refine bj (fun h => ?_) (fun h => ?_) | refine vi (inI (by decide) (by decide)) ?_ | refine vi ?_ ?_ | refine zi (by decide) ?_ | refine zi ?_ ?_ | refine ni rfl ?_ | refine ni (bI_nar _) ?_
  all_goals (refine Qi K ?_; simp only [cut, eq32] at *; simp_all)
theorem c_put {X : Xt} {s i v : Int32} {G : Gt} {Q : Qt} (hs : 0 ≤ s ∧ s ≤ 7) (h0 : 0 ≤ i) (h1 : i < 100) (K : Q (some (.int (cut (G 3 s.toNatClampNeg) v))) (sG G 2 (upd (G 2) (ix s i) (cut (G 3 s.toNatClampNeg) v)))) : con X m_Sheets_put [.ref 1, .int s, .int i, .int v] G Q := by
  refine con_rn 40 [] (by decide) rfl ?_
  repeat' first | refine bib (fun h => ?_) (fun h => ?_) | refine bjb (fun h => ?_) (fun h => ?_) | refine bi (fun h => ?_) (fun h => ?_) | refine bj (fun h => ?_) (fun h => ?_) | refine vi (inI (by decide) (by decide)) ?_ | refine vi ?_ ?_ | refine zi (by decide) ?_ | refine zi ?_ ?_ | refine ni rfl ?_ | refine ni (bI_nar _) ?_ | refine c_cutToLane ?_
  · (refine inI ?_ ?_ <;> ((try simp only [le32, lt32, eq32, ne_eq, cl_0, cl_1, cl_2, cl_3, cl_4, cl_5, cl_6] at *); (try simp only [Int32.reduceToInt] at *); omega))
  · exact (ixX hs h0 h1).2
  · rw [(ixX hs h0 h1).1]; exact K
theorem ixI {s i : Int32} (hs : 0 ≤ s ∧ s ≤ 7) (h0 : 0 ≤ i) (h1 : i.toInt ≤ 100) : (s * 100 + i).toInt = 100 * s.toInt + i.toInt ∧ 0 ≤ s.toInt ∧ s.toInt ≤ 7 ∧ 0 ≤ i.toInt := by
  simp only [le32, lt32] at *
  simp only [Int32.reduceToInt] at *
  have e1 : (s * 100).toInt = s.toInt * 100 := mulI (by simp; omega) (by simp; omega)
  refine ⟨?_, by omega⟩
  rw [addI (by rw [e1]; omega) (by rw [e1]; omega), e1]
  omega
theorem toN {x : Int32} (h : 0 ≤ x) : x = nI x.toNatClampNeg ∧ x.toInt = (x.toNatClampNeg : Int) ∧ x.toNatClampNeg < 2 ^ 31 := by
  have h1 : 0 ≤ x.toInt := by simpa using le32.mp h
  have h2 := (rng x).2
  have h3 : x.toNatClampNeg = x.toInt.toNat := rfl
  have h4 : x.toNatClampNeg < 2 ^ 31 := by omega
  refine ⟨eq32.mpr ?_, by omega, h4⟩
  rw [nI_toInt h4]
  omega
theorem Qg {Q : Qt} {r : Option Value} {G G' : Gt} (h : Q r G) (e : G' = G) : Q r G' := by subst e; exact h
theorem sG_sG (G : Gt) (p : Nat) (f g : Nat → Int32) : sG (sG G p f) p g = sG G p g := by
  funext q
  unfold sG
  split <;> rfl
theorem sG_id (G : Gt) (p : Nat) : sG G p (G p) = G := by
  funext q
  unfold sG
  split
  · rename_i h; rw [h]
  · rfl
/-- System.arraycopy of the items -/
theorem c_move {X : Xt} {a i b j n : Int32} {G : Gt} {Q : Qt} (ha : 0 ≤ a ∧ a ≤ 7) (hb : 0 ≤ b ∧ b ≤ 7) (h0 : 0 ≤ i) (h1 : 0 ≤ j) (h2 : 0 ≤ n) (h3 : i.toInt + n.toInt ≤ 100) (h4 : j.toInt + n.toInt ≤ 100) (K : Q none (sG G 2 (va_cpy (G 2) (G 2) (ix a i) (ix b j) n.toNatClampNeg))) : con X m_Sheets_move [.ref 1, .int a, .int i, .int b, .int j, .int n] G Q := by
  obtain ⟨-, hn, -⟩ := toN h2
  obtain ⟨ei, e1, e2, e3⟩ := ixI ha h0 (by omega)
  obtain ⟨ej, e4, e5, e6⟩ := ixI hb h1 (by omega)
  have ci : (a * 100 + i).toNatClampNeg = ix a i := by rw [clamp, ei, ix]
  have cj : (b * 100 + j).toNatClampNeg = ix b j := by rw [clamp, ej, ix]
  refine con_rn 40 [] (by decide) rfl ?_
  refine ⟨?_, ?_, ?_, ?_, ?_, ?_⟩
  · rw [lt32, ei]; simp; omega
  · rw [lt32, ej]; simp; omega
  · exact Int32.not_lt.mpr h2
  · rw [ci, ix]; omega
  · rw [cj, ix]; omega
  · rw [ci, cj]; exact K
theorem c_rangeCheck {X : Xt} {l a b : Int32} {G : Gt} {Q : Qt} (h0 : 0 ≤ a) (h1 : a ≤ b) (h2 : b ≤ l) (K : Q none G) : con X m_Arr_rangeCheck [.int l, .int a, .int b] G Q := by
  refine con_rn 40 [] (by decide) rfl ?_
  repeat' first | refine bib (fun h => ?_) (fun h => ?_) | refine bjb (fun h => ?_) (fun h => ?_) | refine bi (fun h => ?_) (fun h => ?_) | refine bj (fun h => ?_) (fun h => ?_) | refine vi (inI (by decide) (by decide)) ?_ | refine vi ?_ ?_ | refine zi (by decide) ?_ | refine zi ?_ ?_ | refine ni rfl ?_ | refine ni (bI_nar _) ?_
  · exact K
  all_goals exact (by contradiction)
theorem w_fill4 {X : Xt} {a v : Int32} {B : Nat} {Q : Qt} (hB : B ≤ 800) : ∀ (n k : Nat) (c : Int32) (G : Gt), c = nI k → k + n = B → Q none (sG G 2 (fun j => if k ≤ j ∧ j < B then v else G 2 j)) → wp X m_Arr_fill4 10 [(4, .int c), (0, .ref 2), (1, .int a), (2, .int (nI B)), (3, .int v)] [] G Q
  | 0, k, c, G, hc, hk, K => by
    subst hc
    refine rn_wp (stops := [10]) 20 ?_
    repeat' first | refine bib (fun h => ?_) (fun h => ?_) | refine bjb (fun h => ?_) (fun h => ?_) | refine bi (fun h => ?_) (fun h => ?_) | refine bj (fun h => ?_) (fun h => ?_) | refine vi (inI (by decide) (by decide)) ?_ | refine vi ?_ ?_ | refine zi (by decide) ?_ | refine zi ?_ ?_ | refine ni rfl ?_ | refine ni (bI_nar _) ?_
    · refine Qg K ?_
      have : (fun j => if k ≤ j ∧ j < B then v else G 2 j) = G 2 := by
        funext j
        rw [if_neg (by omega)]
      rw [this, sG_id]
    · simp (disch := omega) only [nI_1, nI_add, nI_clamp, nI_leI, nI_ltI, nI_eq, nI_toInt] at h
      omega
    · simp (disch := omega) only [nI_1, nI_add, nI_clamp, nI_leI, nI_ltI, nI_eq, nI_toInt] at h
      omega
  | n + 1, k, c, G, hc, hk, K => by
    subst hc
    refine rn_wp (stops := [10]) 20 ?_
    repeat' first | refine bib (fun h => ?_) (fun h => ?_) | refine bjb (fun h => ?_) (fun h => ?_) | refine bi (fun h => ?_) (fun h => ?_) | refine bj (fun h => ?_) (fun h => ?_) | refine vi (inI (by decide) (by decide)) ?_ | refine vi ?_ ?_ | refine zi (by decide) ?_ | refine zi ?_ ?_ | refine ni rfl ?_ | refine ni (bI_nar _) ?_
    · simp (disch := omega) only [nI_1, nI_add, nI_clamp, nI_leI, nI_ltI, nI_eq, nI_toInt] at h
      omega
    · exact vp_in_nI (by omega) (by omega)
    · refine w_fill4 hB n (k + 1) _ _ (nI_1 k) (by omega) ?_
      refine Qg K ?_
      simp (disch := omega) only [nI_1, nI_add, nI_clamp, nI_leI, nI_ltI, nI_eq, nI_toInt]
      rw [sG_sG]
      congr 1
      funext j
      simp only [sG_at, upd]
      by_cases h1 : j = k
      · subst h1
        rw [if_neg (by omega), if_pos rfl, if_pos (by omega)]
      · rw [if_neg h1]
        by_cases h2 : k ≤ j ∧ j < B
        · rw [if_pos h2, if_pos (by omega)]
        · rw [if_neg h2, if_neg (by omega)]
theorem c_fill4 {X : Xt} {a b v : Int32} {G : Gt} {Q : Qt} (h0 : 0 ≤ a) (h1 : a ≤ b) (h2 : b ≤ 800) (K : Q none (sG G 2 (fun j => if a.toNatClampNeg ≤ j ∧ j < b.toNatClampNeg then v else G 2 j))) : con X m_Arr_fill4 [.ref 2, .int a, .int b, .int v] G Q := by
  obtain ⟨eb, e1, -⟩ := toN (x := b) (Int32.le_trans h0 h1)
  obtain ⟨ea, e2, -⟩ := toN h0
  simp only [le32, Int32.reduceToInt] at h1
  have h3 : b.toInt ≤ 800 := by simpa using le32.mp h2
  have h4 := le32.mpr h1
  refine con_rn 40 [10] (by decide) rfl ?_
  repeat' first | refine bib (fun h => ?_) (fun h => ?_) | refine bjb (fun h => ?_) (fun h => ?_) | refine bi (fun h => ?_) (fun h => ?_) | refine bj (fun h => ?_) (fun h => ?_) | refine vi (inI (by decide) (by decide)) ?_ | refine vi ?_ ?_ | refine zi (by decide) ?_ | refine zi ?_ ?_ | refine ni rfl ?_ | refine ni (bI_nar _) ?_ | refine (c_rangeCheck h0 h4 h2) ?_
  generalize b.toNatClampNeg = B at *
  subst eb
  exact w_fill4 (by omega) (B - a.toNatClampNeg) a.toNatClampNeg a G ea (by omega) K
theorem c_make {X : Xt} {s l n : Int32} {G : Gt} {Q : Qt} (hs : 0 ≤ s ∧ s ≤ 7) (h0 : 0 ≤ n) (h1 : n ≤ 100) (K : Q none (sG (sG (sG G 3 (upd (G 3) s.toNatClampNeg l)) 4 (upd (G 4) s.toNatClampNeg n)) 2 (fun j => if 100 * s.toInt ≤ j ∧ j < 100 * s.toInt + n.toInt then 0 else G 2 j))) : con X m_Sheets_make [.ref 1, .int s, .int l, .int n] G Q := by
  obtain ⟨e1, e2, e3, e4⟩ := ixI hs h0 (by simpa using le32.mp h1)
  have e5 : (s * 100).toInt = 100 * s.toInt := by rw [mulI (by simp; omega) (by simp; omega)]; simp; omega
  have h1 : n.toInt ≤ 100 := by simpa using le32.mp h1
  refine con_rn 40 [] (by decide) rfl ?_
  repeat' first | refine bib (fun h => ?_) (fun h => ?_) | refine bjb (fun h => ?_) (fun h => ?_) | refine bi (fun h => ?_) (fun h => ?_) | refine bj (fun h => ?_) (fun h => ?_) | refine vi (inI (by decide) (by decide)) ?_ | refine vi ?_ ?_ | refine zi (by decide) ?_ | refine zi ?_ ?_ | refine ni rfl ?_ | refine ni (bI_nar _) ?_
  · (refine inI ?_ ?_ <;> ((try simp only [le32, lt32, eq32, ne_eq, cl_0, cl_1, cl_2, cl_3, cl_4, cl_5, cl_6] at *); (try simp only [Int32.reduceToInt] at *); omega))
  · (refine inI ?_ ?_ <;> ((try simp only [le32, lt32, eq32, ne_eq, cl_0, cl_1, cl_2, cl_3, cl_4, cl_5, cl_6] at *); (try simp only [Int32.reduceToInt] at *); omega))
  · refine c_fill4 ?_ ?_ ?_ ?_
    · rw [le32, e5]; simp; omega
    · rw [le32, e5, e1]; omega
    · rw [le32, e1]; simp; omega
    · show Q none _
      refine Qg K ?_
      congr 1
      funext j
      rw [clamp, clamp, e1, e5]
      show (if _ then _ else G 2 j) = _
      by_cases h2 : 100 * s.toInt ≤ (j : Int) ∧ (j : Int) < 100 * s.toInt + n.toInt
      · rw [if_pos h2, if_pos (by omega)]
      · rw [if_neg h2, if_neg (by omega)]
theorem ix_nat {s : Int32} {i : Nat} (hs : 0 ≤ s ∧ s ≤ 7) (hi : i < 2 ^ 31) : ix s (nI i) = 100 * s.toNatClampNeg + i := by
  obtain ⟨-, h1, -⟩ := toN hs.1
  unfold ix
  rw [nI_toInt hi, h1]
  omega
theorem w_areWithin {X : Xt} {s b : Int32} {I N : Nat} {G : Gt} {Q : Qt} (hs : 0 ≤ s ∧ s ≤ 7) (hN : I + N ≤ 100) (K1 : (∀ k, k < N → 0 ≤ G 2 (100 * s.toNatClampNeg + (I + k)) ∧ G 2 (100 * s.toNatClampNeg + (I + k)) ≤ b) → Q (some (.int 1)) G) (K2 : (¬ ∀ k, k < N → 0 ≤ G 2 (100 * s.toNatClampNeg + (I + k)) ∧ G 2 (100 * s.toNatClampNeg + (I + k)) ≤ b) → Q (some (.int 0)) G) : ∀ (m k : Nat) (c : Int32), c = nI (I + k) → k + m = N → (∀ j, j < k → 0 ≤ G 2 (100 * s.toNatClampNeg + (I + j)) ∧ G 2 (100 * s.toNatClampNeg + (I + j)) ≤ b) → wp X m_Sheets_areWithin 3 [(5, .int c), (0, .ref 1), (1, .int s), (2, .int (nI I)), (3, .int (nI N)), (4, .int b)] [] G Q
  | 0, k, c, hc, hk, hj => by
    subst hc
    refine rn_wp (stops := [3]) 40 ?_
    refine bi (fun h => ?_) (fun h => ?_)
    · refine ni rfl (K1 (fun j h => hj j (by omega)))
    · simp (disch := omega) only [nI_1, nI_add, nI_clamp, nI_leI, nI_ltI, nI_eq, nI_toInt] at h
      omega
  | m + 1, k, c, hc, hk, hj => by
    subst hc
    refine rn_wp (stops := [3]) 40 ?_
    refine bi (fun h => ?_) (fun h => ?_)
    · simp (disch := omega) only [nI_1, nI_add, nI_clamp, nI_leI, nI_ltI, nI_eq, nI_toInt] at h
      omega
    · refine c_item hs (nI_pos' (by omega)) ?_ ?_
      · rw [show (100 : Int32) = nI 100 from rfl, nI_ltI (by omega) (by omega)]
        omega
      · rw [ix_nat hs (by omega)]
        refine c_within ?_
        refine bjb (fun h2 => ?_) (fun h2 => ?_)
        · refine w_areWithin hs hN K1 K2 m (k + 1) _ (nI_1 _) (by omega) ?_
          intro j hjk
          rcases Nat.lt_succ_iff_lt_or_eq.mp hjk with q | q
          · exact hj j q
          · rw [q]; exact h2
        · exact ni rfl (K2 (fun z => h2 (z k (by omega))))
/-- whether n items from i on are 0 to b -/
theorem c_areWithin {X : Xt} {s i n b : Int32} {G : Gt} {Q : Qt} (hs : 0 ≤ s ∧ s ≤ 7) (h0 : 0 ≤ i) (h1 : 0 ≤ n) (h2 : i.toInt + n.toInt ≤ 100) (K1 : (∀ k, k < n.toNatClampNeg → 0 ≤ G 2 (100 * s.toNatClampNeg + (i.toNatClampNeg + k)) ∧ G 2 (100 * s.toNatClampNeg + (i.toNatClampNeg + k)) ≤ b) → Q (some (.int 1)) G) (K2 : (¬ ∀ k, k < n.toNatClampNeg → 0 ≤ G 2 (100 * s.toNatClampNeg + (i.toNatClampNeg + k)) ∧ G 2 (100 * s.toNatClampNeg + (i.toNatClampNeg + k)) ≤ b) → Q (some (.int 0)) G) : con X m_Sheets_areWithin [.ref 1, .int s, .int i, .int n, .int b] G Q := by
  obtain ⟨ei, e1, e2⟩ := toN h0
  obtain ⟨en, e3, e4⟩ := toN h1
  generalize i.toNatClampNeg = I at *
  generalize n.toNatClampNeg = N at *
  subst ei
  subst en
  refine con_rn 20 [3] (by decide) rfl ?_
  exact w_areWithin hs (by omega) K1 K2 N 0 _ rfl (by omega) (fun j h => absurd h (by omega))
/-- how many sheets there are: of the first n -/
def prs (f : Nat → Int32) : Nat → Nat
  | 0 => 0
  | n + 1 => prs f n + (if f n = -1 then 0 else 1)
theorem prs_le (f : Nat → Int32) : ∀ n, prs f n ≤ n
  | 0 => Nat.le_refl 0
  | n + 1 => by
    have := prs_le f n
    unfold prs
    split <;> omega
theorem w_present {X : Xt} {G : Gt} {Q : Qt} (K : Q (some (.int (nI (prs (G 4) 8)))) G) : ∀ (m k : Nat) (c d : Int32), c = nI k → k + m = 8 → d = nI (prs (G 4) k) → wp X m_Sheets_present 4 [(2, .int c), (1, .int d), (0, .ref 1)] [] G Q
  | 0, k, c, d, hc, hk, hd => by
    subst hc
    refine rn_wp (stops := [4]) 40 ?_
    refine bi (fun h => ?_) (fun h => ?_)
    · refine Qi K ?_
      rw [hd, show k = 8 by omega]
    · rw [show (8 : Int32) = nI 8 from rfl] at h
      simp (disch := omega) only [nI_1, nI_add, nI_clamp, nI_leI, nI_ltI, nI_eq, nI_toInt] at h
      omega
  | m + 1, k, c, d, hc, hk, hd => by
    subst hc
    refine rn_wp (stops := [4]) 40 ?_
    refine bi (fun h => ?_) (fun h => ?_)
    · rw [show (8 : Int32) = nI 8 from rfl] at h
      simp (disch := omega) only [nI_1, nI_add, nI_clamp, nI_leI, nI_ltI, nI_eq, nI_toInt] at h
      omega
    · have hk8 : 0 ≤ nI k ∧ nI k ≤ 7 := ⟨nI_pos' (by omega), by rw [show (7 : Int32) = nI 7 from rfl, nI_leI (by omega) (by omega)]; omega⟩
      refine c_isMissing hk8 ?_
      rw [nI_clamp (by omega)]
      refine bjb (fun h2 => ?_) (fun h2 => ?_)
      · refine w_present K m (k + 1) _ _ (nI_1 _) (by omega) ?_
        rw [hd, prs, if_pos h2]; rfl
      · refine w_present K m (k + 1) _ _ (nI_1 _) (by omega) ?_
        rw [hd, prs, if_neg h2, nI_1]
theorem c_present {X : Xt} {G : Gt} {Q : Qt} (K : Q (some (.int (nI (prs (G 4) 8)))) G) : con X m_Sheets_present [.ref 1] G Q := by
  refine con_rn 20 [4] (by decide) rfl ?_
  exact w_present K 8 0 _ _ rfl (by omega) rfl
