/-! sheet, set -/
theorem IS_put {it ln sz ln' mn' it' IT LN SZ LN' MN' IT' : Nat → Int32} {s : Nat} (h : IS it ln sz ln' mn' it') (hs : (SZ s = -1 ∧ LN' s = -1) ∨ ((0 ≤ SZ s ∧ SZ s ≤ 100) ∧ (0 ≤ LN s ∧ LN s ≤ 2) ∧ LN' s = LN s ∧ MN' s = SZ s ∧ ∀ k : Nat, (k : Int) < (SZ s).toInt → IT (100 * s + k) = IT' (100 * s + k))) (ho : ∀ q : Nat, q < 8 → q ≠ s → SZ q = sz q ∧ LN q = ln q ∧ LN' q = ln' q ∧ MN' q = mn' q ∧ ∀ k, k < 100 → IT (100 * q + k) = it (100 * q + k) ∧ IT' (100 * q + k) = it' (100 * q + k)) : IS IT LN SZ LN' MN' IT' := by
  intro q hq
  by_cases e : q = s
  · rw [e]; exact hs
  · obtain ⟨g1, g2, g3, g4, g5⟩ := ho q hq e
    rw [g1, g2, g3, g4]
    rcases h q hq with h1 | ⟨h1, h2, h3, h4, h5⟩
    · exact Or.inl h1
    · refine Or.inr ⟨h1, h2, h3, h4, fun k hk => ?_⟩
      have h6 : (sz q).toInt ≤ 100 := by simpa using le32.mp h1.2
      have h7 := g5 k (by omega)
      rw [h7.1, h7.2]
      exact h5 k hk
theorem ixM {S k : Nat} (hS : S < 8) (hk : k ≤ 100) : (100 * nI S + nI k).toNatClampNeg = 100 * S + k ∧ (100 * nI S + nI k) = nI (100 * S + k) := by
  have e : (100 * nI S + nI k) = nI (100 * S + k) := by
    rw [show (100 : Int32) = nI 100 from rfl, pk_mul, nI_add]
  exact ⟨by rw [e, nI_clamp (by omega)], e⟩
theorem w_Msheet {X : Xt} {S : Nat} {l n : Int32} {Q : Qt} (hS : S < 8) : ∀ (m k : Nat) (c : Int32) (G : Gt), c = nI k → k + m = 100 → Q (some (.int n)) (sG G 29 (fun j => if 100 * S + k ≤ j ∧ j < 100 * S + 100 then 0 else G 29 j)) → wp X m_Mo_sheet 65 [(4, .int c), (0, .ref 26), (1, .int (nI S)), (2, .int l), (3, .int n)] [] G Q
  | 0, k, c, G, hc, hk, K => by
    subst hc
    refine rn_wp (stops := [65]) 40 ?_
    refine bi (fun h => ?_) (fun h => ?_)
    · refine Qg K ?_
      have : (fun j => if 100 * S + k ≤ j ∧ j < 100 * S + 100 then 0 else G 29 j) = G 29 := by
        funext j
        rw [if_neg (by omega)]
      rw [this, sG_id]
    · exfalso
      rw [show (100 : Int32) = nI 100 from rfl] at h
      simp (disch := omega) only [nI_1, nI_add, nI_clamp, nI_leI, nI_ltI, nI_eq, nI_toInt] at h
      omega
  | m + 1, k, c, G, hc, hk, K => by
    subst hc
    refine rn_wp (stops := [65]) 40 ?_
    refine bi (fun h => ?_) (fun h => ?_)
    · exfalso
      rw [show (100 : Int32) = nI 100 from rfl] at h
      simp (disch := omega) only [nI_1, nI_add, nI_clamp, nI_leI, nI_ltI, nI_eq, nI_toInt] at h
      omega
    · refine vi (by rw [(ixM hS (by omega)).2]; exact vp_in_nI (by omega) (by omega)) ?_
      refine w_Msheet hS m (k + 1) _ _ (nI_1 _) (by omega) ?_
      refine Qg K ?_
      rw [(ixM hS (by omega)).1, sG_sG]
      congr 1
      funext j
      simp only [sG_at, upd]
      by_cases h1 : j = 100 * S + k
      · subst h1
        rw [if_neg (by omega), if_pos rfl, if_pos (by omega)]
      · rw [if_neg h1]
        by_cases h2 : 100 * S + k ≤ j ∧ j < 100 * S + 100
        · rw [if_pos h2, if_pos (by omega)]
        · rw [if_neg h2, if_neg (by omega)]
theorem c_SW_sheet {X : Xt} {s l n : Int32} {G : Gt} {Q : Qt} (K1 : ¬ ((0 ≤ s ∧ s ≤ 7) ∧ (0 ≤ l ∧ l ≤ 2) ∧ n ≤ 100) → Q (some (.int (-1000001))) G) (K2 : (0 ≤ s ∧ s ≤ 7) ∧ (0 ≤ l ∧ l ≤ 2) ∧ n ≤ 100 → ¬ 0 ≤ n → Q (some (.int (-1000014))) (sG G 0 (upd (G 0) 7 4))) (K3 : (0 ≤ s ∧ s ≤ 7) ∧ (0 ≤ l ∧ l ≤ 2) ∧ n ≤ 100 → 0 ≤ n → Q (some (.int n)) (sG (sG (sG (sG G 3 (upd (G 3) s.toNatClampNeg l)) 4 (upd (G 4) s.toNatClampNeg n)) 2 (fun j => if 100 * s.toInt ≤ j ∧ j < 100 * s.toInt + n.toInt then 0 else G 2 j)) 0 (upd (G 0) 7 0))) : con X m_SW_sheet [.ref 0, .int s, .int l, .int n] G Q := by
  refine con_rn 60 [] (by decide) rfl ?_
  repeat' first | refine bib (fun h => ?_) (fun h => ?_) | refine bjb (fun h => ?_) (fun h => ?_) | refine bi (fun h => ?_) (fun h => ?_) | refine bj (fun h => ?_) (fun h => ?_) | refine vi (inI (by decide) (by decide)) ?_ | refine vi ?_ ?_ | refine zi (by decide) ?_ | refine zi ?_ ?_ | refine ni rfl ?_ | refine ni (bI_nar _) ?_ | refine c_isNumber ?_ | refine c_within ?_ | refine c_found ?_ | refine (c_make (by assumption) (by assumption) (by assumption)) ?_ | refine c_fine ?_
  · exact K1 (fun z => h z.1)
  · exact K1 (fun z => h z.2.1)
  · rename_i h1 h2 h3; exact K3 ⟨h1, h2, h3⟩ h
  · rename_i h1 h2 h3; exact K2 ⟨h1, h2, h3⟩ h
  · exact K1 (fun z => h z.2.2)
theorem c_Mo_sheet {X : Xt} {s l n : Int32} {G : Gt} {Q : Qt} (h0 : G 26 0 = 0) (K1 : ¬ ((0 ≤ s ∧ s ≤ 7) ∧ (0 ≤ l ∧ l ≤ 2) ∧ n ≤ 100) → Q (some (.int (-1000001))) G) (K2 : (0 ≤ s ∧ s ≤ 7) ∧ (0 ≤ l ∧ l ≤ 2) ∧ n ≤ 100 → ¬ 0 ≤ n → Q (some (.int (-1000014))) (sG (sG G 26 (upd (G 26) 1 0)) 26 (upd (upd (G 26) 1 0) 1 4))) (K3 : (0 ≤ s ∧ s ≤ 7) ∧ (0 ≤ l ∧ l ≤ 2) ∧ n ≤ 100 → 0 ≤ n → Q (some (.int n)) (sG (sG (sG (sG G 26 (upd (G 26) 1 0)) 27 (upd (G 27) s.toNatClampNeg l)) 28 (upd (G 28) s.toNatClampNeg n)) 29 (fun j => if 100 * s.toNatClampNeg ≤ j ∧ j < 100 * s.toNatClampNeg + 100 then 0 else G 29 j))) : con X m_Mo_sheet [.ref 26, .int s, .int l, .int n] G Q := by
  refine con_rm 60 [65] (by decide) rfl (by decide +kernel) h0 ?_
  repeat' first | refine bib (fun h => ?_) (fun h => ?_) | refine bjb (fun h => ?_) (fun h => ?_) | refine bi (fun h => ?_) (fun h => ?_) | refine bj (fun h => ?_) (fun h => ?_) | refine vi (inI (by decide) (by decide)) ?_ | refine vi ?_ ?_ | refine zi (by decide) ?_ | refine zi ?_ ?_ | refine ni rfl ?_ | refine ni (bI_nar _) ?_ | refine c_isSheet ?_ | refine (c_in 0 2 rfl rfl) ?_ | refine c_Mfound ?_
  · exact K1 (fun z => h z.1)
  · exact K1 (fun z => h z.2.1)
  · rename_i h1 h2 h3; exact (sN h1).2
  · rename_i h1 h2 h3; exact (sN h1).2
  · rename_i h1 h2 h3
    obtain ⟨e, -, -⟩ := toN h1.1
    have hS := (sN h1).1
    have K := K3 ⟨h1, h2, h3⟩ h
    clear K1 K2 K3
    generalize s.toNatClampNeg = S at *
    subst e
    refine w_Msheet hS 100 0 _ _ rfl rfl ?_
    exact K
  · rename_i h1 h2 h3; exact K2 ⟨h1, h2, h3⟩ h
  · exact K1 (fun z => h z.2.2)
theorem p_sheet {X : Xt} {G : Gt} (hI : Inv G) {s l n : Int32} : pair X m_SW_sheet m_Mo_sheet [.int s, .int l, .int n] G := by
  obtain ⟨hW, hT, hS, hP, hs, h0⟩ := id hI
  refine c_SW_sheet (fun h => pq ?_) (fun h h2 => pq ?_) (fun h h2 => pq ?_)
  · exact c_Mo_sheet h0 (fun _ => ⟨rfl, hI⟩) (fun z => absurd z h) (fun z => absurd z h)
  · exact c_Mo_sheet h0 (fun z => absurd h z) (fun _ _ => ⟨rfl, ⟨hW, hT, hS, hP, rfl, h0⟩⟩) (fun _ z => absurd z h2)
  · refine c_Mo_sheet h0 (fun z => absurd h z) (fun _ z => absurd h2 z) (fun _ _ => ⟨rfl, ⟨hW, hT, ?_, hP, rfl, h0⟩⟩)
    obtain ⟨-, e, -⟩ := toN h.1.1
    have h3 : n.toInt ≤ 100 := by simpa using le32.mp h.2.2
    have u : ∀ (f : Nat → Int32) (v : Int32), upd f s.toNatClampNeg v s.toNatClampNeg = v := fun f v => if_pos rfl
    have un : ∀ (f : Nat → Int32) (v : Int32) (q : Nat), q ≠ s.toNatClampNeg → upd f s.toNatClampNeg v q = f q := fun f v q hq => if_neg hq
    refine IS_put (s := s.toNatClampNeg) hS (Or.inr ?_) (fun q hq hn => ?_)
    · show (0 ≤ upd (G 4) s.toNatClampNeg n s.toNatClampNeg ∧ upd (G 4) s.toNatClampNeg n s.toNatClampNeg ≤ 100) ∧ (0 ≤ upd (G 3) s.toNatClampNeg l s.toNatClampNeg ∧ upd (G 3) s.toNatClampNeg l s.toNatClampNeg ≤ 2) ∧ upd (G 27) s.toNatClampNeg l s.toNatClampNeg = upd (G 3) s.toNatClampNeg l s.toNatClampNeg ∧ upd (G 28) s.toNatClampNeg n s.toNatClampNeg = upd (G 4) s.toNatClampNeg n s.toNatClampNeg ∧ ∀ k : Nat, (k : Int) < (upd (G 4) s.toNatClampNeg n s.toNatClampNeg).toInt → (if 100 * s.toInt ≤ ((100 * s.toNatClampNeg + k : Nat) : Int) ∧ ((100 * s.toNatClampNeg + k : Nat) : Int) < 100 * s.toInt + n.toInt then 0 else G 2 (100 * s.toNatClampNeg + k)) = (if 100 * s.toNatClampNeg ≤ 100 * s.toNatClampNeg + k ∧ 100 * s.toNatClampNeg + k < 100 * s.toNatClampNeg + 100 then 0 else G 29 (100 * s.toNatClampNeg + k))
      simp only [u]
      refine ⟨⟨h2, h.2.2⟩, h.2.1, trivial, trivial, fun k hk => ?_⟩
      rw [if_pos (by omega), if_pos (by omega)]
    · show upd (G 4) s.toNatClampNeg n q = G 4 q ∧ upd (G 3) s.toNatClampNeg l q = G 3 q ∧ upd (G 27) s.toNatClampNeg l q = G 27 q ∧ upd (G 28) s.toNatClampNeg n q = G 28 q ∧ ∀ k, k < 100 → (if 100 * s.toInt ≤ ((100 * q + k : Nat) : Int) ∧ ((100 * q + k : Nat) : Int) < 100 * s.toInt + n.toInt then 0 else G 2 (100 * q + k)) = G 2 (100 * q + k) ∧ (if 100 * s.toNatClampNeg ≤ 100 * q + k ∧ 100 * q + k < 100 * s.toNatClampNeg + 100 then 0 else G 29 (100 * q + k)) = G 29 (100 * q + k)
      rw [un _ _ q hn, un _ _ q hn, un _ _ q hn, un _ _ q hn]
      refine ⟨rfl, rfl, rfl, rfl, fun k hk => ⟨if_neg (by omega), if_neg (by omega)⟩⟩
