/-! design: the model's search -/
theorem c_overF {X : Xt} {S I N c : Nat} {G : Gt} {Q : Qt} (hS : S < 8) (hN : I + 2 * N ≤ 100) (K : Q (some (.int (ovF (fM G S I) N c))) G) : con X m_Mo_overBy [.ref 26, .int (nI (100 * S + I)), .int (nI N), .int (nI c)] G Q := by
  refine c_overBy (by omega) (Qi K (sI_congr _ (fun k hk => ?_)))
  rw [Nat.add_assoc, Nat.add_assoc]
theorem c_harmF {X : Xt} {S I N d : Nat} {G : Gt} {Q : Qt} (hS : S < 8) (hN : I + 2 * N ≤ 100) (hsp : spP (fM G S I) 200 100 N) (hd : d ≤ 40) (hs : 0 ≤ G 30 2 ∧ G 30 2 ≤ 60) (K : Q (some (.int (haF (fM G S I) N (G 30 2) d))) G) : con X m_Mo_harmBy [.ref 26, .int (nI (100 * S + I)), .int (nI N), .int (nI d)] G Q := by
  refine c_harmBy (by omega) (fun k hk => ?_) ⟨nI_pos' (by omega), ?_⟩ hs (Qi K (sI_congr _ (fun k hk => ?_)))
  · rw [Nat.add_assoc]
    exact (hsp k hk).1
  · rw [show (40 : Int32) = nI 40 from rfl, nI_leI (by omega) (by omega)]; exact hd
  · rw [Nat.add_assoc]
def coF (sl : Int32) (c d : Nat) : Int32 := nI c * nI c * sl + nI d * nI d * nI d / 10
theorem coF_N {sl : Int32} {SL c d : Nat} (hs : sl = nI SL) (h1 : SL ≤ 60) (hc : c ≤ 100) (hd : d ≤ 40) : coF sl c d = nI (c * c * SL + d * d * d / 10) ∧ c * c * SL + d * d * d / 10 < 2 ^ 31 := by
  have a1 : c * c ≤ 100 * 100 := Nat.mul_le_mul hc hc
  have a2 : c * c * SL ≤ 100 * 100 * 60 := Nat.mul_le_mul a1 h1
  have a3 := cube_lt hd
  have a4 : d * d * d / 10 ≤ d * d * d := Nat.div_le_self _ _
  refine ⟨?_, by omega⟩
  unfold coF
  rw [hs, pk_mul, pk_mul, cube_I, show (10 : Int32) = nI 10 from rfl, pk_div (by omega) (by omega) (by omega), nI_add]
theorem coF_le {sl : Int32} (hs : 0 ≤ sl ∧ sl ≤ 60) {c d c0 d0 : Nat} (hc : c ≤ 100) (hd : d ≤ 40) (h1 : c0 ≤ c) (h2 : d0 ≤ d) : ¬ coF sl c d < coF sl c0 d0 ∧ ¬ coF sl c0 d0 = -1000000 := by
  obtain ⟨SL, h60, e⟩ := rng_N (B := 60) rfl hs
  obtain ⟨e1, b1⟩ := coF_N (c := c) (d := d) e h60 hc hd
  obtain ⟨e2, b2⟩ := coF_N (c := c0) (d := d0) e h60 (by omega) (by omega)
  rw [e1, e2]
  constructor
  · rw [nI_ltI b1 b2]
    have m1 : c0 * c0 ≤ c * c := Nat.mul_le_mul h1 h1
    have m2 : c0 * c0 * SL ≤ c * c * SL := Nat.mul_le_mul m1 (Nat.le_refl _)
    have m3 : d0 * d0 * d0 ≤ d * d * d := Nat.mul_le_mul (Nat.mul_le_mul h2 h2) h2
    have m4 : d0 * d0 * d0 / 10 ≤ d * d * d / 10 := Nat.div_le_div_right m3
    omega
  · intro z
    rw [eq32, nI_toInt b2] at z
    rw [show (-1000000 : Int32).toInt = -1000000 from rfl] at z
    omega
/-- what the search has found ahead of crest c -/
def dsS (P R : Nat → Prop) (sl : Int32) (c : Nat) (l b r : Int32) : Prop := (l = -1000000 ∧ ((∀ j, 1 ≤ j → j < c → ¬ P j) ∨ (∀ j, 1 ≤ j → j ≤ 39 → ¬ R j))) ∨ ∃ c0 d0 : Nat, c0 ≤ 100 ∧ d0 ≤ 39 ∧ c0 ≤ c ∧ fstP P c0 ∧ fstP R d0 ∧ l = coF sl c0 d0 ∧ b = nI c0 ∧ r = nI d0
abbrev dB (A N : Nat) (ha ov a : Int32) (l b r : Int32) : Lt := [(11, .int r), (10, .int b), (9, .int l), (8, .int (nI A)), (0, .ref 26), (3, .int (nI N)), (4, .int ha), (5, .int ov), (6, .int a)]
set_option maxRecDepth 8000 in
theorem w_dIn {X : Xt} {S I N c : Nat} {ha ov a : Int32} {G : Gt} {Q : Qt} (hS : S < 8) (hN : I + 2 * N ≤ 100) (hsp : spP (fM G S I) 200 100 N) (hs : 0 ≤ G 30 2 ∧ G 30 2 ≤ 60) (hc1 : 1 ≤ c) (hc : c ≤ 100) (hov : ovF (fM G S I) N c ≤ ov)
    (K : ∀ q l b r : Int32, q = nI (c + 1) → dsS (fun c => ovF (fM G S I) N c ≤ ov) (fun d => haF (fM G S I) N (G 30 2) d ≤ ha) (G 30 2) (c + 1) l b r → wp X m_Mo_design 104 ((12, .int q) :: dB (100 * S + I) N ha ov a l b r) [] G Q) : ∀ (m d : Nat) (q l b r : Int32), q = nI d → d + m = 40 → 1 ≤ d → ((l = -1000000 ∧ ((∀ j, 1 ≤ j → j < c → ¬ ovF (fM G S I) N j ≤ ov) ∨ (∀ j, 1 ≤ j → j ≤ 39 → ¬ haF (fM G S I) N (G 30 2) j ≤ ha)) ∧ ∀ j, 1 ≤ j → j < d → ¬ haF (fM G S I) N (G 30 2) j ≤ ha) ∨ ∃ c0 d0 : Nat, c0 ≤ 100 ∧ d0 ≤ 39 ∧ c0 ≤ c ∧ fstP (fun c => ovF (fM G S I) N c ≤ ov) c0 ∧ fstP (fun d => haF (fM G S I) N (G 30 2) d ≤ ha) d0 ∧ l = coF (G 30 2) c0 d0 ∧ b = nI c0 ∧ r = nI d0) → wp X m_Mo_design 135 ((14, .int q) :: (13, .int 1) :: (12, .int (nI c)) :: dB (100 * S + I) N ha ov a l b r) [] G Q
  | 0, d, q, l, b, r, hq, hd, h1, hst => by
    subst hq
    have hd : d = 40 := by omega
    subst hd
    refine rn_wp (stops := [104, 135]) 80 ?_
    refine bi_t (by decide) ?_
    refine wp_pick [0, 3, 4, 5, 6, 7, 8, 9, 10, 11] (K _ l b r (nI_1 c) ?_)
    rcases hst with ⟨g1, g2, g3⟩ | ⟨c0, d0, g1, g2, g3, g4⟩
    · exact Or.inl ⟨g1, Or.inr (fun j a b => g3 j a (by omega))⟩
    · exact Or.inr ⟨c0, d0, g1, g2, by omega, g4⟩
  | m + 1, d, q, l, b, r, hq, hd, h1, hst => by
    subst hq
    refine rn_wp (stops := [104, 135]) 80 ?_
    refine bi_f (by rw [show (40 : Int32) = nI 40 from rfl, nI_leI (by omega) (by omega)]; omega) ?_
    refine bi_f (by decide) ?_
    refine vi (inI (by decide) (by decide)) ?_
    rw [cl_2]
    refine zi (by decide) ?_
    refine c_harmF hS hN hsp (by omega) hs ?_
    have up : haF (fM G S I) N (G 30 2) d ≤ ha → l = -1000000 → wp X m_Mo_design 135 [(14, .int (nI d + 1)), (11, .int (nI d)), (10, .int (nI c)), (9, .int (coF (G 30 2) c d)), (15, .int (coF (G 30 2) c d)), (13, .int 1), (12, .int (nI c)), (8, .int (nI (100 * S + I))), (0, .ref 26), (3, .int (nI N)), (4, .int ha), (5, .int ov), (6, .int a)] [] G Q := by
      intro z zl
      refine wp_pick [0, 5, 6, 1, 2, 3, 7, 8, 9, 10, 11, 12] (w_dIn hS hN hsp hs hc1 hc hov K m (d + 1) _ _ _ _ (nI_1 _) (by omega) (by omega) (Or.inr ?_))
      rcases hst with ⟨g1, g2, g3⟩ | ⟨c0, d0, g1, g2, g3, g4, g5, g6, g7⟩
      · refine ⟨c, d, hc, by omega, Nat.le_refl _, ⟨hc1, hov, ?_⟩, ⟨h1, z, g3⟩, rfl, rfl, rfl⟩
        rcases g2 with g2 | g2
        · exact g2
        · exact absurd z (g2 d h1 (by omega))
      · exact absurd (g6 ▸ zl) (coF_le hs (c := c) (d := 40) hc (by omega) g3 (by omega)).2
    have no : (haF (fM G S I) N (G 30 2) d ≤ ha → ¬ l = -1000000) → wp X m_Mo_design 135 [(14, .int (nI d + 1)), (15, .int (coF (G 30 2) c d)), (13, .int 1), (12, .int (nI c)), (11, .int r), (10, .int b), (9, .int l), (8, .int (nI (100 * S + I))), (0, .ref 26), (3, .int (nI N)), (4, .int ha), (5, .int ov), (6, .int a)] [] G Q := by
      intro z
      refine wp_pick [0, 2, 3, 4, 5, 6, 7, 8, 9, 10, 11, 12] (w_dIn hS hN hsp hs hc1 hc hov K m (d + 1) _ _ _ _ (nI_1 _) (by omega) (by omega) ?_)
      rcases hst with ⟨g1, g2, g3⟩ | g
      · refine Or.inl ⟨g1, g2, fun j a b => ?_⟩
        rcases Nat.lt_succ_iff_lt_or_eq.mp b with q | q
        · exact g3 j a q
        · rw [q]; exact fun w => z w g1
      · exact Or.inr g
    refine bi (fun z => ?_) (fun z => ?_)
    · exact no (fun w => absurd z (Int32.not_lt.mpr w))
    · refine bi (fun z2 => ?_) (fun z2 => ?_)
      · exact up (Int32.not_lt.mp z) z2
      · refine bi (fun z3 => ?_) (fun z3 => ?_)
        · exact no (fun _ => z2)
        · exfalso
          rcases hst with ⟨g1, -⟩ | ⟨c0, d0, g1, g2, g3, g4, g5, g6, g7⟩
          · exact z2 g1
          · have hle : d0 ≤ d := Nat.le_of_not_lt (fun w => g5.2.2 d h1 w (Int32.not_lt.mp z))
            refine (coF_le hs (c := c) (d := d) hc (by omega) g3 hle).1 ?_
            rw [← g6]
            exact Int32.not_le.mp z3
set_option maxRecDepth 8000 in
theorem w_dOut {X : Xt} {S I N : Nat} {ha ov a : Int32} {G : Gt} {Q : Qt} (hS : S < 8) (hN : I + 2 * N ≤ 100) (hsp : spP (fM G S I) 200 100 N) (hs : 0 ≤ G 30 2 ∧ G 30 2 ≤ 60) (ha2 : 0 ≤ a ∧ a ≤ 2)
    (K1 : ∀ c d, c ≤ 100 → d ≤ 39 → fstP (fun c => ovF (fM G S I) N c ≤ ov) c → fstP (fun d => haF (fM G S I) N (G 30 2) d ≤ ha) d → Q (some (.int (dvF (G 30 2) c d a))) G) (K2 : noD (fM G S I) N (G 30 2) ha ov → Q (some (.int (-1000000))) G) : ∀ (m c : Nat) (q l b r : Int32), q = nI c → c + m = 101 → 1 ≤ c → dsS (fun c => ovF (fM G S I) N c ≤ ov) (fun d => haF (fM G S I) N (G 30 2) d ≤ ha) (G 30 2) c l b r → wp X m_Mo_design 104 ((12, .int q) :: dB (100 * S + I) N ha ov a l b r) [] G Q
  | 0, c, q, l, b, r, hq, hc, h1, hst => by
    subst hq
    have hc : c = 101 := by omega
    subst hc
    refine rn_wp (stops := [104, 135]) 80 ?_
    refine bi_t (by decide) ?_
    rcases hst with ⟨g1, g2⟩ | ⟨c0, d0, g1, g2, g3, g4, g5, g6, g7, g8⟩
    · subst g1
      refine bj_t rfl ?_
      refine K2 ?_
      rcases g2 with g2 | g2
      · exact Or.inl (fun j a b => g2 j a (by omega))
      · exact Or.inr g2
    · have k1 := K1 c0 d0 g1 g2 g4 g5
      subst g7
      subst g8
      refine bj_f (by rw [g6]; exact (coF_le hs (c := 100) (d := 40) (by omega) (by omega) g1 (by omega)).2) ?_
      unfold dvF at k1
      refine bj (fun z => ?_) (fun z => ?_)
      · rw [if_neg z] at k1
        refine bj (fun z2 => ?_) (fun z2 => ?_)
        · rw [if_neg z2] at k1
          exact Qi k1 g6
        · rw [if_pos z2] at k1
          exact k1
      · rw [if_pos z] at k1
        exact k1
  | m + 1, c, q, l, b, r, hq, hc, h1, hst => by
    subst hq
    refine rn_wp (stops := [104, 135]) 80 ?_
    refine bi_f (by rw [show (101 : Int32) = nI 101 from rfl, nI_leI (by omega) (by omega)]; omega) ?_
    refine c_overF hS hN ?_
    have hK : ∀ q l b r : Int32, q = nI (c + 1) → dsS (fun c => ovF (fM G S I) N c ≤ ov) (fun d => haF (fM G S I) N (G 30 2) d ≤ ha) (G 30 2) (c + 1) l b r → wp X m_Mo_design 104 ((12, .int q) :: dB (100 * S + I) N ha ov a l b r) [] G Q := fun q l b r hq h => w_dOut hS hN hsp hs ha2 K1 K2 m (c + 1) q l b r hq (by omega) (by omega) h
    refine bi (fun z => ?_) (fun z => ?_)
    · refine rn_wp (stops := [104, 135]) 20 ?_
      refine bi_f (by decide) ?_
      refine bi_t rfl ?_
      refine wp_pick [0, 3, 4, 5, 6, 7, 8, 9, 10, 11] (hK _ l b r (nI_1 c) ?_)
      rcases hst with ⟨g1, g2⟩ | ⟨c0, d0, g1, g2, g3, g4⟩
      · refine Or.inl ⟨g1, ?_⟩
        rcases g2 with g2 | g2
        · refine Or.inl (fun j a b => ?_)
          rcases Nat.lt_succ_iff_lt_or_eq.mp b with q | q
          · exact g2 j a q
          · rw [q]; exact Int32.not_le.mpr z
        · exact Or.inr g2
      · exact Or.inr ⟨c0, d0, g1, g2, by omega, g4⟩
    · refine w_dIn hS hN hsp hs h1 (by omega) (Int32.not_lt.mp z) hK 39 1 _ _ _ _ rfl rfl (by omega) ?_
      rcases hst with ⟨g1, g2⟩ | g
      · exact Or.inl ⟨g1, g2, fun j a b => by omega⟩
      · exact Or.inr g
set_option maxRecDepth 8000 in
theorem c_Mo_design {X : Xt} {s i n ha ov a : Int32} {G : Gt} {Q : Qt} (h0 : G 26 0 = 0) (hz : 0 ≤ s ∧ s ≤ 7 → 0 ≤ G 27 s.toNatClampNeg → 0 ≤ G 28 s.toNatClampNeg ∧ G 28 s.toNatClampNeg ≤ 100) (hm : msOK (G 30))
    (K1 : ¬ dsP s n ha ov a → Q (some (.int (-1000001))) G)
    (K2 : dsP s n ha ov a → ¬ 0 ≤ G 27 s.toNatClampNeg → Q (some (.int (-1000011))) (sG G 26 (upd (G 26) 1 1)))
    (K3 : dsP s n ha ov a → 0 ≤ G 27 s.toNatClampNeg → ¬ fnd (G 28 s.toNatClampNeg) i (2 * n) = 0 → Q (some (.int (-1000012))) (sG G 26 (upd (G 26) 1 2)))
    (K4 : dsP s n ha ov a → 0 ≤ G 27 s.toNatClampNeg → fnd (G 28 s.toNatClampNeg) i (2 * n) = 0 → ¬ spP (fM G s.toNatClampNeg i.toNatClampNeg) 200 100 n.toNatClampNeg → Q (some (.int (-1000001))) G)
    (K5 : dsP s n ha ov a → 0 ≤ G 27 s.toNatClampNeg → fnd (G 28 s.toNatClampNeg) i (2 * n) = 0 → spP (fM G s.toNatClampNeg i.toNatClampNeg) 200 100 n.toNatClampNeg → noD (fM G s.toNatClampNeg i.toNatClampNeg) n.toNatClampNeg (G 30 2) ha ov → Q (some (.int (-1000000))) (sG G 26 (upd (G 26) 1 0)))
    (K6 : dsP s n ha ov a → 0 ≤ G 27 s.toNatClampNeg → fnd (G 28 s.toNatClampNeg) i (2 * n) = 0 → spP (fM G s.toNatClampNeg i.toNatClampNeg) 200 100 n.toNatClampNeg → ∀ c d, c ≤ 100 → d ≤ 39 → fstP (fun c => ovF (fM G s.toNatClampNeg i.toNatClampNeg) n.toNatClampNeg c ≤ ov) c → fstP (fun d => haF (fM G s.toNatClampNeg i.toNatClampNeg) n.toNatClampNeg (G 30 2) d ≤ ha) d → Q (some (.int (dvF (G 30 2) c d a))) (sG G 26 (upd (G 26) 1 0))) : con X m_Mo_design [.ref 26, .int s, .int i, .int n, .int ha, .int ov, .int a] G Q := by
  refine con_rm 100 [104] (by decide) rfl (by decide +kernel) h0 ?_
  refine c_isSheet (bib (fun h => K1 (fun z => h z.1)) (fun hs => ?_))
  refine c_in 1 48 rfl rfl (bib (fun h => K1 (fun z => h z.2.1)) (fun hn => ?_))
  refine c_in 0 1000000 rfl rfl (bib (fun h => K1 (fun z => h z.2.2.1)) (fun h3 => ?_))
  refine c_in 0 1000000 rfl rfl (bib (fun h => K1 (fun z => h z.2.2.2.1)) (fun h4 => ?_))
  refine c_in 0 2 rfl rfl (bjb (fun ha2 => ?_) (fun h => K1 (fun z => h z.2.2.2.2)))
  have hst : dsP s n ha ov a := ⟨hs, hn, h3, h4, ha2⟩
  obtain ⟨en, t2, t3, t4, t5, t6⟩ := twoS hn
  refine c_lookStorm hs hn (hz hs) (fun g => ?_) (fun g g2 => ?_) (fun g g2 hsp => ?_) (fun g g2 hsp => ?_)
  · refine bi_f (by decide) ?_
    exact K2 hst g
  · refine bi_f (by decide) ?_
    exact K3 hst g g2
  · refine bi_f (by decide) ?_
    exact K4 hst g g2 hsp
  · refine bi_t (by decide) ?_
    obtain ⟨ei, hI, -⟩ := fnd_I (N := 2 * n.toNatClampNeg) (fun _ => hz hs g) (by rw [t5]; omega) t6 g2
    obtain ⟨es, -, -⟩ := toN hs.1
    have hS := (sN hs).1
    have k5 := K5 hst g g2 hsp
    have k6 := K6 hst g g2 hsp
    clear K1 K2 K3 K4 K5 K6 g g2 t2 t4 t5 t6 hz hn hs hst
    generalize s.toNatClampNeg = S at *
    generalize i.toNatClampNeg = I at *
    generalize n.toNatClampNeg = N at *
    subst es
    subst ei
    subst en
    have e8 : 100 * nI S + nI I = nI (100 * S + I) := (ixM hS (by omega)).2
    have hsl : 0 ≤ G 30 2 ∧ G 30 2 ≤ 60 := ⟨Int32.le_trans (by decide) hm.2.2.1.1, hm.2.2.1.2⟩
    refine wp_pick [0, 1, 2, 3, 4, 6, 9, 10, 11, 12] ?_
    have hw := w_dOut (X := X) (G := sG G 26 (upd (G 26) 1 0)) hS hI hsp hsl ha2 k6 k5 100 1 1 (-1000000) 0 0 rfl rfl (by omega) (Or.inl ⟨rfl, Or.inl (fun j a b => by omega)⟩)
    rw [e8]
    exact hw
theorem p_design {X : Xt} {G : Gt} (hI : Inv G) {s i n ha ov a : Int32} : pair X m_SW_design m_Mo_design [.int s, .int i, .int n, .int ha, .int ov, .int a] G := by
  obtain ⟨hW, hT, hS, hP, hs, h0⟩ := id hI
  obtain ⟨w1, w2, w3, w4, w5, w6, w7⟩ := id hW
  have hm' : msOK (G 30) := w2 ▸ w6
  have hzx : 0 ≤ s ∧ s ≤ 7 → ¬ G 4 s.toNatClampNeg = -1 → 0 ≤ G 4 s.toNatClampNeg ∧ G 4 s.toNatClampNeg ≤ 100 := fun h h2 => hzX hS h h2
  have hzm : 0 ≤ s ∧ s ≤ 7 → 0 ≤ G 27 s.toNatClampNeg → 0 ≤ G 28 s.toNatClampNeg ∧ G 28 s.toNatClampNeg ≤ 100 := fun h h2 => hzM hS h h2
  have q4 : (∀ k, k < 2 * n.toNatClampNeg → fX G s i.toNatClampNeg k = fM G s.toNatClampNeg i.toNatClampNeg k) → (∀ c, ovF (fX G s i.toNatClampNeg) n.toNatClampNeg c = ovF (fM G s.toNatClampNeg i.toNatClampNeg) n.toNatClampNeg c) ∧ ∀ d, haF (fX G s i.toNatClampNeg) n.toNatClampNeg (G 6 2) d = haF (fM G s.toNatClampNeg i.toNatClampNeg) n.toNatClampNeg (G 30 2) d := by
    intro q3
    refine ⟨fun c => sI_congr _ (fun k hk => ?_), fun d => ?_⟩
    · rw [q3 (2 * k) (by omega), q3 (2 * k + 1) (by omega)]
    · rw [w2]
      refine sI_congr _ (fun k hk => ?_)
      rw [q3 (2 * k) (by omega)]
  refine c_SW_design hzx w6 (fun h => pq ?_) (fun h h2 => pq ?_) (fun h h2 x y h3 => pq ?_) (fun h h2 x y z h3 hno => pq ?_) (fun h h2 x y z h3 c d c1 d1 c2 d2 => pq ?_)
  · exact c_Mo_design h0 hzm hm' (fun _ => ⟨rfl, hI⟩) (fun z => absurd z h) (fun z => absurd z h) (fun z => absurd z h) (fun z => absurd z h) (fun z => absurd z h)
  · rcases look_both hS h.1 i (2 * n) with ⟨g1, g2⟩ | ⟨g1, g2, g3⟩ | ⟨g1, -⟩
    · rw [g1]
      exact c_Mo_design h0 hzm hm' (fun z => absurd h z) (fun _ _ => ⟨rfl, ⟨hW, hT, hS, hP, rfl, h0⟩⟩) (fun _ z => absurd z g2) (fun _ z => absurd z g2) (fun _ z => absurd z g2) (fun _ z => absurd z g2)
    · rw [g1]
      have h2' : ¬ fnd (G 28 s.toNatClampNeg) i (2 * n) = 0 := by rw [g3]; exact h2
      exact c_Mo_design h0 hzm hm' (fun z => absurd h z) (fun _ z => absurd g2 z) (fun _ _ _ => ⟨rfl, ⟨hW, hT, hS, hP, rfl, h0⟩⟩) (fun _ _ z => absurd z h2') (fun _ _ z => absurd z h2') (fun _ _ z => absurd z h2')
    · exact absurd g1 h2
  · obtain ⟨q1, q2, q3⟩ := hrs_both hS h.1 h.2.1 h2
    have h2' : fnd (G 28 s.toNatClampNeg) i (2 * n) = 0 := by rw [q2]; exact h2
    exact c_Mo_design h0 hzm hm' (fun z => absurd h z) (fun _ z => absurd q1 z) (fun _ _ z => absurd h2' z) (fun _ _ _ _ => ⟨rfl, ⟨hW, hT, hS, hP, hs, h0⟩⟩) (fun _ _ _ z => absurd (sp_congr (fun k hk => (q3 k hk).symm) z) h3) (fun _ _ _ z => absurd (sp_congr (fun k hk => (q3 k hk).symm) z) h3)
  · obtain ⟨q1, q2, q3⟩ := hrs_both hS h.1 h.2.1 h2
    obtain ⟨q5, q6⟩ := q4 q3
    have h2' : fnd (G 28 s.toNatClampNeg) i (2 * n) = 0 := by rw [q2]; exact h2
    refine c_Mo_design h0 hzm hm' (fun z => absurd h z) (fun _ z => absurd q1 z) (fun _ _ z => absurd h2' z) (fun _ _ _ z => absurd (sp_congr q3 h3) z) (fun _ _ _ _ _ => ⟨rfl, ⟨hW, hT, hS, hP, rfl, h0⟩⟩) (fun _ _ _ _ c d c1 d1 c2 d2 => ?_)
    exfalso
    rcases hno with z | z
    · exact z c c2.1 c1 (by rw [q5]; exact c2.2.1)
    · exact z d d2.1 d1 (by rw [q6]; exact d2.2.1)
  · obtain ⟨q1, q2, q3⟩ := hrs_both hS h.1 h.2.1 h2
    obtain ⟨q5, q6⟩ := q4 q3
    have h2' : fnd (G 28 s.toNatClampNeg) i (2 * n) = 0 := by rw [q2]; exact h2
    simp only [q5, q6] at c2 d2
    refine c_Mo_design h0 hzm hm' (fun z => absurd h z) (fun _ z => absurd q1 z) (fun _ _ z => absurd h2' z) (fun _ _ _ z => absurd (sp_congr q3 h3) z) (fun _ _ _ _ hno => ?_) (fun _ _ _ _ c' d' c1' d1' c2' d2' => ⟨?_, ⟨hW, hT, hS, hP, rfl, h0⟩⟩)
    · exfalso
      rcases hno with z | z
      · exact z c c2.1 c1 c2.2.1
      · exact z d d2.1 d1 d2.2.1
    · have e1 : c = c' := fst_u c2 c2'
      have e2 : d = d' := fst_u d2 d2'
      subst e1
      subst e2
      show some (Value.int (dvF (G 30 2) c d a)) = some (Value.int (dvF (G 6 2) c d a))
      rw [w2]
