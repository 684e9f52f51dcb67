/-! calm, the pair -/
abbrev clP (w e b s n : Int32) : Prop := hbP w e b ∧ (0 ≤ s ∧ s ≤ 7) ∧ 1 ≤ n ∧ n ≤ 50
theorem twoN {n : Int32} (hn : 1 ≤ n ∧ n ≤ 50) : n = nI n.toNatClampNeg ∧ 1 ≤ n.toNatClampNeg ∧ n.toNatClampNeg ≤ 50 ∧ 2 * n = nI (2 * n.toNatClampNeg) ∧ (2 * n).toInt = 2 * (n.toNatClampNeg : Int) ∧ 0 ≤ 2 * n := by
  obtain ⟨e, e1, -⟩ := toN (x := n) (Int32.le_trans (by decide) hn.1)
  have h1 : 1 ≤ n.toInt := by simpa using le32.mp hn.1
  have h2 : n.toInt ≤ 50 := by simpa using le32.mp hn.2
  have e2 : 2 * n = nI (2 * n.toNatClampNeg) := by
    rw [show (2 : Int32) = nI 2 from rfl]
    conv => lhs; rw [e]
    rw [pk_mul]
  refine ⟨e, by omega, by omega, e2, ?_, ?_⟩
  · rw [e2, nI_toInt (by omega)]; omega
  · rw [e2]; exact nI_pos' (by omega)
def clV (f : Nat → Int32) (w e b : Int32) (N : Nat) : Int32 := nI (cm (fun p => wvS w e b 1000000 2 (f (2 * p)) (f (2 * p + 1))) N).1
theorem c_SW_calm {X : Xt} {w e b s i n : Int32} {G : Gt} {Q : Qt} (hz : 0 ≤ s ∧ s ≤ 7 → ¬ G 4 s.toNatClampNeg = -1 → 0 ≤ G 4 s.toNatClampNeg ∧ G 4 s.toNatClampNeg ≤ 100) (K1 : ¬ clP w e b s n → Q (some (.int (-1000001))) G) (K2 : clP w e b s n → ¬ fnd (G 4 s.toNatClampNeg) i (2 * n) = 0 → Q (some (.int (-1000010 - fnd (G 4 s.toNatClampNeg) i (2 * n)))) (sG G 0 (upd (G 0) 7 (fnd (G 4 s.toNatClampNeg) i (2 * n))))) (K3 : clP w e b s n → fnd (G 4 s.toNatClampNeg) i (2 * n) = 0 → ¬ spP (fun k => G 2 (100 * s.toNatClampNeg + (i.toNatClampNeg + k))) w e n.toNatClampNeg → Q (some (.int (-1000001))) G) (K4 : clP w e b s n → fnd (G 4 s.toNatClampNeg) i (2 * n) = 0 → spP (fun k => G 2 (100 * s.toNatClampNeg + (i.toNatClampNeg + k))) w e n.toNatClampNeg → Q (some (.int (clV (fun k => G 2 (100 * s.toNatClampNeg + (i.toNatClampNeg + k))) w e b n.toNatClampNeg))) (sG G 0 (upd (G 0) 7 0))) : con X m_SW_calm [.ref 0, .int w, .int e, .int b, .int s, .int i, .int n] G Q := by
  have hi : clP w e b s n → fnd (G 4 s.toNatClampNeg) i (2 * n) = 0 → i = nI i.toNatClampNeg ∧ i.toNatClampNeg + 2 * n.toNatClampNeg ≤ 100 := by
    intro h1 h2
    obtain ⟨-, -, -, -, t5, t6⟩ := twoN h1.2.2
    rcases fnd_cases (G 4 s.toNatClampNeg) i (2 * n) with ⟨-, h3⟩ | ⟨h3, -⟩
    · rw [h3] at h2; exact absurd h2 (by decide)
    · have h4 := hz h1.2.1 h3
      have h5 := (fnd_0 h4 t6).mp h2
      have h6 : (G 4 s.toNatClampNeg).toInt ≤ 100 := by simpa using le32.mp h4.2
      obtain ⟨e1, e2, -⟩ := toN h5.1
      exact ⟨e1, by have := h5.2; omega⟩
  refine con_rn 80 [] (by decide) rfl ?_
  repeat' first | refine bib (fun h => ?_) (fun h => ?_) | refine bjb (fun h => ?_) (fun h => ?_) | refine bi (fun h => ?_) (fun h => ?_) | refine bj (fun h => ?_) (fun h => ?_) | refine vi (inI (by decide) (by decide)) ?_ | refine vi ?_ ?_ | refine zi (by decide) ?_ | refine zi ?_ ?_ | refine ni rfl ?_ | refine ni (bI_nar _) ?_ | refine c_isOne ?_ | refine c_isNumber ?_ | refine c_within ?_ | refine (c_fnd (by assumption)) ?_ | refine c_found ?_
  · exact K1 (fun z => h z.1)
  · exact K1 (fun z => h z.2.1)
  · rename_i h1 h2 h3
    obtain ⟨ei, hI⟩ := hi ⟨h1, h2, h3⟩ h
    obtain ⟨en, -⟩ := twoN h3
    have ha := fun Q => @c_areSpots X s w e i.toNatClampNeg n.toNatClampNeg G Q h2 hI
    have hc := fun Q => @c_calmest X s w e b i.toNatClampNeg n.toNatClampNeg G Q h2 hI h1
    rw [← ei, ← en] at ha hc
    refine ha _ (fun hsp => ?_) (fun hsp => ?_)
    · refine bj_f (by decide) ?_
      refine hc _ hsp ?_
      refine c_fine ?_
      exact K4 ⟨h1, h2, h3⟩ h hsp
    · refine bj_t rfl ?_
      exact K3 ⟨h1, h2, h3⟩ h hsp
  · rename_i h1 h2 h3
    exact K2 ⟨h1, h2, h3⟩ h
  · exact K1 (fun z => h z.2.2)
theorem c_Mo_calm {X : Xt} {w e b s i n : Int32} {G : Gt} {Q : Qt} (h0 : G 26 0 = 0) (hz : 0 ≤ s ∧ s ≤ 7 → 0 ≤ G 27 s.toNatClampNeg → 0 ≤ G 28 s.toNatClampNeg ∧ G 28 s.toNatClampNeg ≤ 100) (K1 : ¬ clP w e b s n → Q (some (.int (-1000001))) G) (K2 : clP w e b s n → ¬ 0 ≤ G 27 s.toNatClampNeg → Q (some (.int (-1000011))) (sG G 26 (upd (G 26) 1 1))) (K3 : clP w e b s n → 0 ≤ G 27 s.toNatClampNeg → ¬ fnd (G 28 s.toNatClampNeg) i (2 * n) = 0 → Q (some (.int (-1000012))) (sG G 26 (upd (G 26) 1 2))) (K4 : clP w e b s n → 0 ≤ G 27 s.toNatClampNeg → fnd (G 28 s.toNatClampNeg) i (2 * n) = 0 → ¬ spP (fun k => G 29 (100 * s.toNatClampNeg + (i.toNatClampNeg + k))) w e n.toNatClampNeg → Q (some (.int (-1000001))) G) (K5 : clP w e b s n → 0 ≤ G 27 s.toNatClampNeg → fnd (G 28 s.toNatClampNeg) i (2 * n) = 0 → spP (fun k => G 29 (100 * s.toNatClampNeg + (i.toNatClampNeg + k))) w e n.toNatClampNeg → Q (some (.int (clV (fun k => G 29 (100 * s.toNatClampNeg + (i.toNatClampNeg + k))) w e b n.toNatClampNeg))) (sG G 26 (upd (G 26) 1 0))) : con X m_Mo_calm [.ref 26, .int w, .int e, .int b, .int s, .int i, .int n] G Q := by
  refine con_rm 80 [73] (by decide) rfl (by decide +kernel) h0 ?_
  repeat' first | refine bib (fun h => ?_) (fun h => ?_) | refine bjb (fun h => ?_) (fun h => ?_) | refine bi (fun h => ?_) (fun h => ?_) | refine bj (fun h => ?_) (fun h => ?_) | refine vi (inI (by decide) (by decide)) ?_ | refine vi ?_ ?_ | refine zi (by decide) ?_ | refine zi ?_ ?_ | refine ni rfl ?_ | refine ni (bI_nar _) ?_ | refine c_isHarbour2 ?_ | refine c_isSheet ?_ | refine (c_in 1 50 rfl rfl) ?_
  · exact K1 (fun z => h z.1)
  · exact K1 (fun z => h z.2.1)
  · rename_i h1 h2
    have hcl : clP w e b s n := ⟨h1, h2, h⟩
    obtain ⟨en, t2, t3, t4, t5, t6⟩ := twoN h
    refine c_lookAt h2 t6 (hz h2) (fun g => ?_) (fun g g2 => ?_) (fun g g2 => ?_)
    · refine bi_f (by decide) ?_
      exact K2 hcl g
    · refine bi_f (by decide) ?_
      exact K3 hcl g g2
    · have h4 := hz h2 g
      have h5 := (fnd_0 h4 t6).mp g2
      have h6 : (G 28 s.toNatClampNeg).toInt ≤ 100 := by simpa using le32.mp h4.2
      obtain ⟨ei, ei2, -⟩ := toN h5.1
      have hI : i.toNatClampNeg + 2 * n.toNatClampNeg ≤ 100 := by have := h5.2; omega
      obtain ⟨es, -, -⟩ := toN h2.1
      have hS := (sN h2).1
      have k4 := K4 hcl g g2
      have k5 := K5 hcl g g2
      clear K1 K2 K3 K4 K5 g g2 h4 h5 h6 t2 t3 t4 t5 t6 hz ei2 hcl h
      generalize s.toNatClampNeg = S at *
      generalize i.toNatClampNeg = I at *
      generalize n.toNatClampNeg = N at *
      subst es
      subst ei
      subst en
      refine bi_t (by decide) ?_
      have e8 : 100 * nI S + nI I = nI (100 * S + I) := (ixM hS (by omega)).2
      have hw : wp X m_Mo_calm 73 [(9, .int 0), (8, .int (100 * nI S + nI I)), (0, .ref 26), (1, .int w), (2, .int e), (3, .int b), (4, .int (nI S)), (5, .int (nI I)), (6, .int (nI N))] [] G Q := by
        rw [e8]
        refine w_Mspots hS hI (fun hsp => ?_) k4 N 0 _ rfl (by omega) (fun q hq => absurd hq (by omega))
        refine rn_wp (stops := [149]) 20 ?_
        exact w_Mcalm (G := sG G 26 (upd (G 26) 1 0)) hS hI h1 hsp (k5 hsp) N 0 _ _ _ rfl (by omega) rfl rfl
      exact wp_pick [0, 1, 3, 4, 5, 6, 7, 8, 9] hw
  · exact K1 (fun z => h z.2.2)
theorem cm_congr {g g' : Nat → Int64} : ∀ (n : Nat), (∀ p, p < n → g p = g' p) → cm g n = cm g' n
  | 0, _ => rfl
  | n + 1, h => by
    rw [cm, cm, cm_congr n (fun p hp => h p (by omega)), h n (by omega)]
theorem sp_congr {f f' : Nat → Int32} {w e : Int32} {N : Nat} (h : ∀ k, k < 2 * N → f k = f' k) (hs : spP f w e N) : spP f' w e N := by
  intro p hp
  have h1 := hs p hp
  rw [h (2 * p) (by omega), h (2 * p + 1) (by omega)] at h1
  exact h1
theorem cl_congr {f f' : Nat → Int32} {w e b : Int32} {N : Nat} (h : ∀ k, k < 2 * N → f k = f' k) : clV f w e b N = clV f' w e b N := by
  unfold clV
  rw [cm_congr N (fun p hp => by rw [h (2 * p) (by omega), h (2 * p + 1) (by omega)])]
theorem p_calm {X : Xt} {G : Gt} (hI : Inv G) {w e b s i n : Int32} : pair X m_SW_calm m_Mo_calm [.int w, .int e, .int b, .int s, .int i, .int n] G := by
  obtain ⟨hW, hT, hS, hP, hs, h0⟩ := id hI
  have hzX : 0 ≤ s ∧ s ≤ 7 → ¬ G 4 s.toNatClampNeg = -1 → 0 ≤ G 4 s.toNatClampNeg ∧ G 4 s.toNatClampNeg ≤ 100 := by
    intro h h2
    have hh := IS_at hS (sN h).1
    exact (hh.2 (Decidable.byContradiction fun z => h2 (hh.1.mpr z))).2.2.1
  have hq : clP w e b s n → fnd (G 4 s.toNatClampNeg) i (2 * n) = 0 → 0 ≤ G 27 s.toNatClampNeg ∧ G 28 s.toNatClampNeg = G 4 s.toNatClampNeg ∧ ∀ k, k < 2 * n.toNatClampNeg → G 2 (100 * s.toNatClampNeg + (i.toNatClampNeg + k)) = G 29 (100 * s.toNatClampNeg + (i.toNatClampNeg + k)) := by
    intro h h2
    obtain ⟨-, -, -, -, t5, t6⟩ := twoN h.2.2
    rcases look_both hS h.2.1 i (2 * n) with ⟨g1, g2⟩ | ⟨g1, g2, g3⟩ | ⟨g1, g2, g3, g4, g5⟩
    · rw [g1] at h2; exact absurd h2 (by decide)
    · rw [g1] at h2; exact absurd h2 (by decide)
    · have h5 := (fnd_0 g4 t6).mp h2
      obtain ⟨-, ei2, -⟩ := toN h5.1
      exact ⟨g2, g3, fun k hk => g5 _ (by have := h5.2; omega)⟩
  refine c_SW_calm hzX (fun h => pq ?_) (fun h h2 => pq ?_) (fun h h2 h3 => pq ?_) (fun h h2 h3 => pq ?_)
  · exact c_Mo_calm h0 (fun a c => hzM hS a c) (fun _ => ⟨rfl, hI⟩) (fun z => absurd z h) (fun z => absurd z h) (fun z => absurd z h) (fun z => absurd z h)
  · rcases look_both hS h.2.1 i (2 * n) with ⟨g1, g2⟩ | ⟨g1, g2, g3⟩ | ⟨g1, -⟩
    · rw [g1]
      exact c_Mo_calm h0 (fun a c => hzM hS a c) (fun z => absurd h z) (fun _ _ => ⟨rfl, ⟨hW, hT, hS, hP, rfl, h0⟩⟩) (fun _ z => absurd z g2) (fun _ z => absurd z g2) (fun _ z => absurd z g2)
    · rw [g1]
      refine c_Mo_calm h0 (fun a c => hzM hS a c) (fun z => absurd h z) (fun _ z => absurd g2 z) (fun _ _ _ => ⟨rfl, ⟨hW, hT, hS, hP, rfl, h0⟩⟩) (fun _ _ z => ?_) (fun _ _ z => ?_)
      · have z : fnd (G 28 s.toNatClampNeg) i (2 * n) = 0 := z
        rw [g3] at z
        exact absurd z h2
      · have z : fnd (G 28 s.toNatClampNeg) i (2 * n) = 0 := z
        rw [g3] at z
        exact absurd z h2
    · exact absurd g1 h2
  · obtain ⟨q1, q2, q3⟩ := hq h h2
    refine c_Mo_calm h0 (fun a c => hzM hS a c) (fun z => absurd h z) (fun _ z => absurd q1 z) (fun _ _ z => ?_) (fun _ _ _ _ => ⟨rfl, hI⟩) (fun _ _ _ z => absurd (sp_congr (fun k hk => (q3 k hk).symm) z) h3)
    have z : ¬ fnd (G 28 s.toNatClampNeg) i (2 * n) = 0 := z
    rw [q2] at z
    exact absurd h2 z
  · obtain ⟨q1, q2, q3⟩ := hq h h2
    refine c_Mo_calm h0 (fun a c => hzM hS a c) (fun z => absurd h z) (fun _ z => absurd q1 z) (fun _ _ z => ?_) (fun _ _ _ z => absurd (sp_congr q3 h3) z) (fun _ _ _ _ => ⟨?_, ⟨hW, hT, hS, hP, rfl, h0⟩⟩)
    · have z : ¬ fnd (G 28 s.toNatClampNeg) i (2 * n) = 0 := z
      rw [q2] at z
      exact absurd h2 z
    · show some (Value.int (clV (fun k => G 29 (100 * s.toNatClampNeg + (i.toNatClampNeg + k))) w e b n.toNatClampNeg)) = some (Value.int (clV (fun k => G 2 (100 * s.toNatClampNeg + (i.toNatClampNeg + k))) w e b n.toNatClampNeg))
      rw [cl_congr q3]
