/-! calm, the pair -/
abbrev clP (w e b s n : Int32) : Prop := hbP w e b ∧ (0 ≤ s ∧ s ≤ 7) ∧ 1 ≤ n ∧ n ≤ 50
theorem twoN {n : Int32} (hn : 1 ≤ n ∧ n ≤ 50) : n = nI n.toNatClampNeg ∧ 1 ≤ n.toNatClampNeg ∧ n.toNatClampNeg ≤ 50 ∧ 2 * n = nI (2 * n.toNatClampNeg) ∧ (2 * n).toInt = 2 * (n.toNatClampNeg : Int) ∧ 0 ≤ 2 * n := by
  obtain ⟨e, e1, -⟩ := toN (x := n) (Int32.le_trans (by decide) hn.1)
  have h1 : 1 ≤ n.toInt := by simpa using le32.mp hn.1
  have h2 : n.toInt ≤ 50 := by simpa using le32.mp hn.2
  have e2 : 2 * n = nI (2 * n.toNatClampNeg) := by
    rw [show (2 : Int32) = nI 2 from rfl]
    conv => lhs; rw [e]
    rw [pk_mul]
  refine ⟨e, by omega, by omega, e2, ?_, ?_⟩
  · rw [e2, nI_toInt (by omega)]; omega
  · rw [e2]; exact nI_pos' (by omega)
def clV (f : Nat → Int32) (w e b : Int32) (N : Nat) : Int32 := nI (cm (fun p => wvS w e b 1000000 2 (f (2 * p)) (f (2 * p + 1))) N).1
theorem c_SW_calm {X : Xt} {w e b s i n : Int32} {G : Gt} {Q : Qt} (hz : 0 ≤ s ∧ s ≤ 7 → ¬ G 4 s.toNatClampNeg = -1 → 0 ≤ G 4 s.toNatClampNeg ∧ G 4 s.toNatClampNeg ≤ 100) (K1 : ¬ clP w e b s n → Q (some (.int (-1000001))) G) (K2 : clP w e b s n → ¬ fnd (G 4 s.toNatClampNeg) i (2 * n) = 0 → Q (some (.int (-1000010 - fnd (G 4 s.toNatClampNeg) i (2 * n)))) (sG G 0 (upd (G 0) 7 (fnd (G 4 s.toNatClampNeg) i (2 * n))))) (K3 : clP w e b s n → fnd (G 4 s.toNatClampNeg) i (2 * n) = 0 → ¬ spP (fun k => G 2 (100 * s.toNatClampNeg + (i.toNatClampNeg + k))) w e n.toNatClampNeg → Q (some (.int (-1000001))) G) (K4 : clP w e b s n → fnd (G 4 s.toNatClampNeg) i (2 * n) = 0 → spP (fun k => G 2 (100 * s.toNatClampNeg + (i.toNatClampNeg + k))) w e n.toNatClampNeg → Q (some (.int (clV (fun k => G 2 (100 * s.toNatClampNeg + (i.toNatClampNeg + k))) w e b n.toNatClampNeg))) (sG G 0 (upd (G 0) 7 0))) : con X m_SW_calm [.ref 0, .int w, .int e, .int b, .int s, .int i, .int n] G Q := by
  have hi : clP w e b s n → fnd (G 4 s.toNatClampNeg) i (2 * n) = 0 → i = nI i.toNatClampNeg ∧ i.toNatClampNeg + 2 * n.toNatClampNeg ≤ 100 := by
    intro h1 h2
    obtain ⟨-, -, -, -, t5, t6⟩ := twoN h1.2.2
    rcases fnd_cases (G 4 s.toNatClampNeg) i (2 * n) with ⟨-, h3⟩ | ⟨h3, -⟩
    · rw [h3] at h2; exact absurd h2 (by decide)
    · have h4 := hz h1.2.1 h3
      have h5 := (fnd_0 h4 t6).mp h2
      have h6 : (G 4 s.toNatClampNeg).toInt ≤ 100 := by simpa using le32.mp h4.2
      obtain ⟨e1, e2, -⟩ := toN h5.1
      exact ⟨e1, by have := h5.2; omega⟩
  refine con_rn 80 [] (by decide) rfl ?_
  repeat' first | refine bib (fun h => ?_) (fun h => ?_) | refine bjb (fun h => ?_) (fun h => ?_) | refine bi (fun h => ?_) (fun h => ?_) | refine bj (fun h => ?_) (fun h => ?_) | refine vi (inI (by decide) (by decide)) ?_ | refine vi ?_ ?_ | refine zi (by decide) ?_ | refine zi ?_ ?_ | refine ni rfl ?_ | refine ni (bI_nar _) ?_ | refine c_isOne ?_ | refine c_isNumber ?_ | refine c_within ?_ | refine (c_fnd (by assumption)) ?_ | refine c_found ?_
  · exact K1 (fun z => h z.1)
  · exact K1 (fun z => h z.2.1)
  · rename_i h1 h2 h3
    obtain ⟨ei, hI⟩ := hi ⟨h1, h2, h3⟩ h
    obtain ⟨en, -⟩ := twoN h3
    have ha := fun Q => @c_areSpots X s w e i.toNatClampNeg n.toNatClampNeg G Q h2 hI
    have hc := fun Q => @c_calmest X s w e b i.toNatClampNeg n.toNatClampNeg G Q h2 hI h1
    rw [← ei, ← en] at ha hc
    refine ha _ (fun hsp => ?_) (fun hsp => ?_)
    · refine bj_f (by decide) ?_
      refine hc _ hsp ?_
      refine c_fine ?_
      exact K4 ⟨h1, h2, h3⟩ h hsp
    · refine bj_t rfl ?_
      exact K3 ⟨h1, h2, h3⟩ h hsp
  · rename_i h1 h2 h3
    exact K2 ⟨h1, h2, h3⟩ h
  · exact K1 (fun z => h z.2.2)
