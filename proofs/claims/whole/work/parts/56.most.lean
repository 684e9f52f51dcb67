/-! shared: the class's whole; the model's most -/
theorem c_waste {X : Xt} {G : Gt} {Q : Qt} (K : Q (some (.int (G 9 4))) G) : con X m_Quarry_waste [.ref 9] G Q := by
  refine con_rn 20 [] (by decide) rfl ?_
  repeat' first | refine bib (fun h => ?_) (fun h => ?_) | refine bjb (fun h => ?_) (fun h => ?_) | refine bi (fun h => ?_) (fun h => ?_) | refine bj (fun h => ?_) (fun h => ?_) | refine vi (inI (by decide) (by decide)) ?_ | refine vi ?_ ?_ | refine zi (by decide) ?_ | refine zi ?_ ?_ | refine ni rfl ?_ | refine ni (bI_nar _) ?_
  exact K
theorem c_given {X : Xt} {A B : Nat} {G : Gt} {Q : Qt} (hA : A < 4) (hB : B < 3) (K : Q (some (.int (G 13 (3 * A + B)))) G) : con X m_Quarry_given [.ref 9, .int (nI A), .int (nI B)] G Q := by
  have ei : nI A * 3 + nI B = nI (3 * A + B) := by rw [show (3 : Int32) = nI 3 from rfl, pk_mul, nI_add, Nat.mul_comm]
  refine con_rn 20 [] (by decide) rfl ?_
  refine vi (by rw [ei]; exact vp_in_nI (by omega) (by omega)) ?_
  rw [ei, nI_clamp (by omega)]
  exact K
abbrev shP (s so k : Int32) : Prop := (0 ≤ s ∧ s ≤ 7) ∧ (so = -1000000 ∨ (0 ≤ so ∧ so ≤ 3)) ∧ 0 ≤ k ∧ k ≤ 2
theorem rd_B {f : Nat → Int32} (h : rdP f) : BQ (yF f) (nF f) (tF f) := by
  refine ⟨fun s hs => (td_I (B := 100) rfl (h.1.1 s (by omega))).2, fun k hk => (td_I (B := 100) rfl (h.1.1 (4 + k) (by omega))).2, fun s hs => tkF_lt 3 (Nat.le_refl _)⟩
theorem fewN {k b : Int32} {B : Nat} (hb : b.toInt = B) (h : 0 ≤ k ∧ k ≤ b) : ∃ K : Nat, K ≤ B ∧ k = nI K := rng_N hb h
set_option maxRecDepth 8000 in
theorem c_SW_shared {X : Xt} {s i so k : Int32} {G : Gt} {Q : Qt} (hz : 0 ≤ s ∧ s ≤ 7 → ¬ G 4 s.toNatClampNeg = -1 → 0 ≤ G 4 s.toNatClampNeg ∧ G 4 s.toNatClampNeg ≤ 100)
    (K1 : ¬ shP s so k → Q (some (.int (-1000001))) G)
    (K2 : shP s so k → ¬ fnd (G 4 s.toNatClampNeg) i 10 = 0 → Q (some (.int (-1000010 - fnd (G 4 s.toNatClampNeg) i 10))) (sG G 0 (upd (G 0) 7 (fnd (G 4 s.toNatClampNeg) i 10))))
    (K3 : shP s so k → fnd (G 4 s.toNatClampNeg) i 10 = 0 → ¬ rdP (fX G s i.toNatClampNeg) → ∀ G', FrS G G' → Q (some (.int (-1000001))) G')
    (K4 : shP s so k → fnd (G 4 s.toNatClampNeg) i 10 = 0 → rdP (fX G s i.toNatClampNeg) → so = -1000000 → ∀ G' L, FrS G G' → mnX (yF (fX G s i.toNatClampNeg)) (nF (fX G s i.toNatClampNeg)) (tF (fX G s i.toNatClampNeg)) 8 = L → Q (some (.int (100 - nI L))) (sG G' 0 (upd (G' 0) 7 0)))
    (K5 : shP s so k → fnd (G 4 s.toNatClampNeg) i 10 = 0 → rdP (fX G s i.toNatClampNeg) → ¬ so = -1000000 → ∀ G' L A B, FrS G G' → so = nI A → k = nI B → A < 4 → B < 3 → mnX (yF (fX G s i.toNatClampNeg)) (nF (fX G s i.toNatClampNeg)) (tF (fX G s i.toNatClampNeg)) 8 = L → Q (some (.int (nI (vQ (shQ (yF (fX G s i.toNatClampNeg), nF (fX G s i.toNatClampNeg), tF (fX G s i.toNatClampNeg), L) (3 * A + B)) (3 * A + B))))) (sG G' 0 (upd (G' 0) 7 0))) : con X m_SW_shared [.ref 0, .int s, .int i, .int so, .int k] G Q := by
  have main : (so = -1000000 ∨ (0 ≤ so ∧ so ≤ 3)) → wp X m_SW_shared 22 [(5, .int 1), (0, .ref 0), (1, .int s), (2, .int i), (3, .int so), (4, .int k)] [] G Q := by
    intro hso
    refine rn_wp (stops := []) 80 ?_
    refine c_isNumber (bib (fun h => K1 (fun z => h z.1)) (fun hs => ?_))
    refine bi_f (by decide) ?_
    refine c_within (bjb (fun hk => ?_) (fun h => K1 (fun z => h z.2.2)))
    have hp : shP s so k := ⟨hs, hso, hk⟩
    refine c_fnd hs ?_
    refine bi (fun hf => ?_) (fun hf => ?_)
    · obtain ⟨ei, hI, -⟩ := fnd_I (N := 10) (hz hs) rfl (by decide) hf
      have k3 := K3 hp hf
      have k4 := K4 hp hf
      have k5 := K5 hp hf
      have hr := fun Q => @c_qread X s i.toNatClampNeg G Q hs hI
      rw [← ei] at hr
      refine hr _ (fun hno G' hF => ?_) (fun hrd G' hF hq => ?_)
      · refine bj_t rfl ?_
        exact k3 hno G' hF
      · refine bj_f (by decide) ?_
        refine c_share (L := mnX (yF (fX G s i.toNatClampNeg)) (nF (fX G s i.toNatClampNeg)) (tF (fX G s i.toNatClampNeg)) 8) hq (rd_B hrd) hrd.2 rfl ?_
        have k4' := fun h G' hF => k4 hrd h G' _ hF rfl
        have k5' := fun h G' A B hF e1 e2 l1 l2 => k5 hrd h G' _ A B hF e1 e2 l1 l2 rfl
        generalize mnX (yF (fX G s i.toNatClampNeg)) (nF (fX G s i.toNatClampNeg)) (tF (fX G s i.toNatClampNeg)) 8 = L at *
        intro G2 h2
        refine bj (fun h => ?_) (fun h => ?_)
        · have hso2 : 0 ≤ so ∧ so ≤ 3 := hso.elim (fun z => absurd z h) id
          obtain ⟨A, hA, eA⟩ := fewN (B := 3) rfl hso2
          obtain ⟨B, hB, eB⟩ := fewN (B := 2) rfl hk
          have k5'' := k5' h G2 A B (hF.tr h2.1) eA eB (by omega) (by omega)
          have e13 := h2.2.2.1 (3 * A + B) (by omega)
          subst eA
          subst eB
          refine c_given (by omega) (by omega) ?_
          rw [e13]
          refine c_fine ?_
          exact k5''
        · refine c_waste ?_
          rw [h2.2.2.2]
          refine c_fine ?_
          exact k4' h G2 (hF.tr h2.1)
    · refine c_found ?_
      exact K2 hp hf
  refine con_rn 20 [22] (by decide) rfl ?_
  refine bi (fun h => ?_) (fun h => ?_)
  · exact main (Or.inl h)
  · refine c_within (bib (fun h2 => ?_) (fun h2 => ?_))
    · refine rn_wp (stops := []) 40 ?_
      refine c_isNumber (bib (fun h => K1 (fun z => h z.1)) (fun hs => ?_))
      refine bi_t rfl ?_
      exact K1 (fun z => z.2.1.elim h h2)
    · exact main (Or.inr h2)
/-- the model's cells hold y, n, t -/
def QM (G : Gt) (y n t : Nat → Nat) : Prop := (∀ s, s < 4 → G 33 s = nI (y s)) ∧ (∀ k, k < 3 → G 34 k = nI (n k)) ∧ ∀ s k, s < 4 → k < 3 → (¬ G 35 (3 * s + k) = 0 ↔ (t s).testBit k = true)
theorem comp_bit : ∀ m, m < 8 → ∀ k, k < 3 → (7 - m).testBit k = !m.testBit k := by decide +kernel
def gzF (m t : Nat) : Nat → Bool
  | 0 => false
  | k + 1 => gzF m t k || (m.testBit k && t.testBit k)
theorem gz_3 : ∀ m, m < 8 → ∀ t, t < 8 → gzF m t 3 = bey t (7 - m) := by decide +kernel
theorem o35 (s k : Nat) : 3 * nI s + nI k = nI (3 * s + k) := by rw [show (3 : Int32) = nI 3 from rfl, pk_mul, nI_add]
set_option maxRecDepth 4000 in
theorem w_goes {X : Xt} {y n t : Nat → Nat} {m s : Nat} {c l : Int32} {G : Gt} {Q : Qt} (hq : QM G y n t) (hm : m < 8) (hs : s < 4) (K : ∀ q, q = bB (gzF m (t s) 3) → wp X m_Mo_most 116 [(5, .int q), (4, .int (nI s)), (3, .int c), (2, .int (nI m)), (1, .int l), (0, .ref 26)] [] G Q) : ∀ (z k : Nat) (q g : Int32), q = nI k → k + z = 3 → g = bB (gzF m (t s) k) → wp X m_Mo_most 67 [(6, .int q), (5, .int g), (4, .int (nI s)), (3, .int c), (2, .int (nI m)), (1, .int l), (0, .ref 26)] [] G Q
  | 0, k, q, g, h1, hz, hg => by
    subst h1
    have hk : k = 3 := by omega
    subst hk
    refine rn_wp (stops := [67, 116]) 40 ?_
    refine bi_t (by decide) ?_
    exact wp_pick [1, 2, 3, 4, 5, 6] (K g hg)
  | z + 1, k, q, g, h1, hz, hg => by
    subst h1
    refine rn_wp (stops := [67, 116]) 40 ?_
    refine bi_f (by rw [show (3 : Int32) = nI 3 from rfl, nI_leI (by omega) (by omega)]; omega) ?_
    have nx : ∀ v : Int32, v = bB (gzF m (t s) (k + 1)) → wp X m_Mo_most 67 [(6, .int (nI k + 1)), (5, .int v), (4, .int (nI s)), (3, .int c), (2, .int (nI m)), (1, .int l), (0, .ref 26)] [] G Q := fun v hv => w_goes hq hm hs K z (k + 1) _ _ (nI_1 _) (by omega) hv
    have eg : gzF m (t s) (k + 1) = (gzF m (t s) k || (m.testBit k && (t s).testBit k)) := rfl
    refine bj (fun h => ?_) (fun h => ?_)
    · refine nx 1 ?_
      have : gzF m (t s) k = true := by
        cases e : gzF m (t s) k
        · rw [e] at hg; exact absurd hg h
        · rfl
      rw [eg, this]
      rfl
    · have hgf : gzF m (t s) k = false := by
        cases e : gzF m (t s) k
        · rfl
        · rw [e] at hg
          rw [h] at hg
          exact absurd hg (by decide)
      refine bj (fun h2 => ?_) (fun h2 => ?_)
      · rw [bitN_1 (by omega) (by omega)] at h2
        refine nx 0 ?_
        rw [eg, hgf, Bool.eq_false_iff.mpr h2]
        rfl
      · rw [bitN_1 (by omega) (by omega)] at h2
        refine vi (by rw [o35]; exact vp_in_nI (by omega) (by omega)) ?_
        rw [o35, nI_clamp (by omega)]
        have ho := hq.2.2 s k hs (by omega)
        refine bi (fun h3 => ?_) (fun h3 => ?_)
        · refine nx 0 ?_
          rw [eg, hgf, Bool.eq_false_iff.mpr (fun w => ho.mpr w h3), Bool.and_false]
          rfl
        · refine nx 1 ?_
          rw [eg, hgf, h2, ho.mp h3]
          rfl
set_option maxRecDepth 4000 in
theorem w_mY {X : Xt} {y n t : Nat → Nat} {m : Nat} {l : Int32} {G : Gt} {Q : Qt} (hq : QM G y n t) (hB : BQ y n t) (hm : m < 8) (K : ∀ c, c = nI (cutN y n t (7 - m)) → wp X m_Mo_most 141 [(3, .int c), (2, .int (nI m)), (1, .int l), (0, .ref 26)] [] G Q) : ∀ (z s : Nat) (q c : Int32), q = nI s → s + z = 4 → c = nI (tS (ndT n (7 - m)) 3 + tS (ylT y t (7 - m)) s) → wp X m_Mo_most 55 [(4, .int q), (3, .int c), (2, .int (nI m)), (1, .int l), (0, .ref 26)] [] G Q
  | 0, s, q, c, h1, hz, hc => by
    subst h1
    have hs : s = 4 := by omega
    subst hs
    refine rn_wp (stops := [55, 67, 141]) 40 ?_
    refine bi_t (by decide) ?_
    exact wp_pick [1, 2, 3, 4] (K c hc)
  | z + 1, s, q, c, h1, hz, hc => by
    subst h1
    have hs : s < 4 := by omega
    refine rn_wp (stops := [55, 67, 141]) 40 ?_
    refine bi_f (by rw [show (4 : Int32) = nI 4 from rfl, nI_leI (by omega) (by omega)]; omega) ?_
    refine w_goes hq hm hs (fun g hg => ?_) 3 0 _ _ rfl rfl rfl
    have e : tS (ylT y t (7 - m)) (s + 1) = tS (ylT y t (7 - m)) s + ylT y t (7 - m) s := rfl
    rw [gz_3 m hm (t s) (hB.2.2 s hs)] at hg
    refine rn_wp (stops := [55]) 20 ?_
    refine bi (fun h => ?_) (fun h => ?_)
    · have hb : ¬ bey (t s) (7 - m) = true := fun w => by
        rw [w] at hg
        rw [h] at hg
        exact absurd hg (by decide)
      refine wp_pick [0, 1, 3, 4, 5] (w_mY hq hB hm K z (s + 1) _ _ (nI_1 _) (by omega) ?_)
      rw [e, hc, show ylT y t (7 - m) s = 0 from if_neg hb, Int32.add_zero]
      rfl
    · have hb : bey (t s) (7 - m) = true := by
        cases w : bey (t s) (7 - m)
        · rw [w] at hg; exact absurd hg h
        · rfl
      refine vi (vp_in_nI (by omega) (by omega)) ?_
      rw [nI_clamp (by omega), hq.1 s hs]
      refine wp_pick [0, 1, 3, 4, 5] (w_mY hq hB hm K z (s + 1) _ _ (nI_1 _) (by omega) ?_)
      rw [e, hc, show ylT y t (7 - m) s = y s from if_pos hb, nI_add, Nat.add_assoc]
set_option maxRecDepth 4000 in
theorem w_mN {X : Xt} {y n t : Nat → Nat} {m : Nat} {l : Int32} {G : Gt} {Q : Qt} (hq : QM G y n t) (hB : BQ y n t) (hm : m < 8) (K : ∀ c, c = nI (cutN y n t (7 - m)) → wp X m_Mo_most 141 [(3, .int c), (2, .int (nI m)), (1, .int l), (0, .ref 26)] [] G Q) : ∀ (z s : Nat) (q c : Int32), q = nI s → s + z = 3 → c = nI (tS (ndT n (7 - m)) s) → wp X m_Mo_most 17 [(4, .int q), (3, .int c), (2, .int (nI m)), (1, .int l), (0, .ref 26)] [] G Q
  | 0, s, q, c, h1, hz, hc => by
    subst h1
    have hs : s = 3 := by omega
    subst hs
    refine rn_wp (stops := [17, 55]) 40 ?_
    refine bi_t (by decide) ?_
    exact w_mY hq hB hm K 4 0 _ _ rfl rfl hc
  | z + 1, s, q, c, h1, hz, hc => by
    subst h1
    refine rn_wp (stops := [17, 55]) 40 ?_
    refine bi_f (by rw [show (3 : Int32) = nI 3 from rfl, nI_leI (by omega) (by omega)]; omega) ?_
    have e : tS (ndT n (7 - m)) (s + 1) = tS (ndT n (7 - m)) s + ndT n (7 - m) s := rfl
    have hcb := comp_bit m hm s (by omega)
    refine bj (fun h => ?_) (fun h => ?_)
    · rw [bitN_0 (by omega) (by omega), Decidable.not_not] at h
      refine w_mN hq hB hm K z (s + 1) _ _ (nI_1 _) (by omega) ?_
      rw [e, hc, show ndT n (7 - m) s = 0 from if_neg (by rw [hcb, h]; decide), Int32.add_zero]
      rfl
    · rw [bitN_0 (by omega) (by omega)] at h
      refine vi (vp_in_nI (by omega) (by omega)) ?_
      rw [nI_clamp (by omega), hq.2.1 s (by omega)]
      refine w_mN hq hB hm K z (s + 1) _ _ (nI_1 _) (by omega) ?_
      rw [e, hc, show ndT n (7 - m) s = n s from if_pos (by rw [hcb, Bool.eq_false_iff.mpr h]; rfl), nI_add]
set_option maxRecDepth 4000 in
theorem w_most {X : Xt} {y n t : Nat → Nat} {G : Gt} {Q : Qt} (hq : QM G y n t) (hB : BQ y n t) (K : ∀ v, v = nI (mnM y n t 8) → Q (some (.int v)) G) : ∀ (z m : Nat) (q l : Int32), q = nI m → m + z = 8 → l = nI (mnM y n t m) → wp X m_Mo_most 6 [(2, .int q), (1, .int l), (0, .ref 26)] [] G Q
  | 0, m, q, l, h1, hz, hl => by
    subst h1
    have hm : m = 8 := by omega
    subst hm
    refine rn_wp (stops := [6, 17]) 40 ?_
    refine bi_t (by decide) ?_
    exact K l hl
  | z + 1, m, q, l, h1, hz, hl => by
    subst h1
    have hc := cutN_b (t := t) hB.1 hB.2.1 (7 - m)
    have hM := (mnM_P y n t m (by omega)).1
    have e : mnM y n t (m + 1) = if cutN y n t (7 - m) < mnM y n t m then cutN y n t (7 - m) else mnM y n t m := rfl
    refine rn_wp (stops := [6, 17]) 40 ?_
    refine bi_f (by rw [show (8 : Int32) = nI 8 from rfl, nI_leI (by omega) (by omega)]; omega) ?_
    refine w_mN hq hB (by omega) (fun c hcc => ?_) 3 0 _ _ rfl rfl rfl
    refine rn_wp (stops := [6]) 20 ?_
    subst hl
    subst hcc
    refine bi (fun h => ?_) (fun h => ?_)
    · rw [nI_leI (by omega) (by omega)] at h
      refine wp_pick [0, 1, 3] (w_most hq hB K z (m + 1) _ _ (nI_1 _) (by omega) ?_)
      rw [e, if_neg (by omega)]
    · rw [nI_leI (by omega) (by omega)] at h
      refine wp_pick [0, 1, 3] (w_most hq hB K z (m + 1) _ _ (nI_1 _) (by omega) ?_)
      rw [e, if_pos (by omega)]
theorem c_most {X : Xt} {y n t : Nat → Nat} {G : Gt} {Q : Qt} (hq : QM G y n t) (hB : BQ y n t) (K : ∀ v, v = nI (mnM y n t 8) → Q (some (.int v)) G) : con X m_Mo_most [.ref 26] G Q := by
  refine con_rn 10 [6] (by decide) rfl ?_
  exact w_most hq hB K 8 0 _ _ rfl rfl rfl
