/-! storm -/
abbrev stP (s n a : Int32) : Prop := (0 ≤ s ∧ s ≤ 7) ∧ (1 ≤ n ∧ n ≤ 48) ∧ 0 ≤ a ∧ a ≤ 1
def stV (f : Nat → Int32) (N : Nat) (d sl cr a : Int32) : Int32 := if a = 0 then sI (fun k => hv (f (2 * k)) d sl) N else sI (fun k => ovv (f (2 * k)) (f (2 * k + 1)) cr) N
theorem fnd_ne (z i n : Int32) : ¬ -1000010 - fnd z i n = 0 := by
  rcases fnd_cases z i n with ⟨-, h⟩ | ⟨-, h | h⟩ <;> rw [h] <;> decide
theorem bsz_rng (ly : Int32) (w : Nat → Int32) : 0 ≤ nI (bsz ly w) ∧ nI (bsz ly w) ≤ 40 := by
  have := rtF_rng (if ly = 0 then 1 else (w 0).toNatClampNeg) 39 1
  unfold bsz
  refine ⟨nI_pos' (by omega), ?_⟩
  rw [show (40 : Int32) = nI 40 from rfl, nI_leI (by omega) (by omega)]
  omega
set_option maxRecDepth 4000 in
theorem c_SW_storm {X : Xt} {s i n a : Int32} {G : Gt} {Q : Qt} (hz : 0 ≤ s ∧ s ≤ 7 → ¬ G 4 s.toNatClampNeg = -1 → 0 ≤ G 4 s.toNatClampNeg ∧ G 4 s.toNatClampNeg ≤ 100) (hw : ¬ G 5 3 = 0 → 1 ≤ G 8 0 ∧ G 8 0 ≤ 60000) (hm : msOK (G 6))
    (K1 : ¬ stP s n a → Q (some (.int (-1000001))) G)
    (K2 : stP s n a → ¬ fnd (G 4 s.toNatClampNeg) i (2 * n) = 0 → Q (some (.int (-1000010 - fnd (G 4 s.toNatClampNeg) i (2 * n)))) (sG G 0 (upd (G 0) 7 (fnd (G 4 s.toNatClampNeg) i (2 * n)))))
    (K3 : stP s n a → fnd (G 4 s.toNatClampNeg) i (2 * n) = 0 → ∀ x y : Nat → Int32, ¬ spP (fX G s i.toNatClampNeg) 200 100 n.toNatClampNeg → Q (some (.int (-1000001))) (sG (sG G 19 x) 20 y))
    (K4 : stP s n a → fnd (G 4 s.toNatClampNeg) i (2 * n) = 0 → ∀ x y z : Nat → Int32, spP (fX G s i.toNatClampNeg) 200 100 n.toNatClampNeg → Q (some (.int (stV (fX G s i.toNatClampNeg) n.toNatClampNeg (nI (bsz (G 5 3) (G 8))) (G 6 2) (G 6 0) a))) (sG (sG (sG (sG G 19 x) 20 y) 18 z) 0 (upd (G 0) 7 0))) : con X m_SW_storm [.ref 0, .int s, .int i, .int n, .int a] G Q := by
  refine con_rn 80 [] (by decide) rfl ?_
  refine c_isNumber (bib (fun h => K1 (fun z => h z.1)) (fun hs => ?_))
  refine c_within (bib (fun h => K1 (fun z => h z.2.1)) (fun hn => ?_))
  refine c_within (bjb (fun ha => ?_) (fun h => K1 (fun z => h z.2.2)))
  have hst : stP s n a := ⟨hs, hn, ha⟩
  have h48 := (twoS hn).2.2.1
  refine c_readHours hs hn (hz hs) (fun h => ?_) (fun h x y hsp => ?_) (fun h x y hsp hab => ?_)
  · refine bi_f (fnd_ne _ _ _) ?_
    exact K2 hst h
  · refine bi_f (by decide) ?_
    exact K3 hst h x y hsp
  · refine bi_t rfl ?_
    have k4 := K4 hst h x y (upd (G 18) 2 (nI n.toNatClampNeg)) hsp
    unfold stV at k4
    refine bj (fun h2 => ?_) (fun h2 => ?_)
    · rw [if_neg h2] at k4
      refine c_measure (by decide) ?_
      refine c_over (N := n.toNatClampNeg) h48 rfl ?_
      refine c_fine ?_
      refine Qi k4 (sI_congr _ (fun k hk => ?_))
      show ovv (x k) (y k) (G 6 0) = _
      rw [(hab k hk).1, (hab k hk).2]
    · rw [if_pos h2] at k4
      refine c_blockSize hw ?_
      refine c_measure (by decide) ?_
      refine c_harm (N := n.toNatClampNeg) h48 rfl (fun k hk => ?_) (bsz_rng _ _) ⟨Int32.le_trans (by decide) hm.2.2.1.1, hm.2.2.1.2⟩ ?_
      · show 0 ≤ x k ∧ x k ≤ 200
        rw [(hab k hk).1]
        exact (hsp k hk).1
      · refine c_fine ?_
        refine Qi k4 (sI_congr _ (fun k hk => ?_))
        show hv (x k) (nI (bsz (G 5 3) (G 8))) (G 6 2) = _
        rw [(hab k hk).1]
set_option maxRecDepth 4000 in
theorem c_Mo_storm {X : Xt} {s i n a : Int32} {G : Gt} {Q : Qt} (h0 : G 26 0 = 0) (hz : 0 ≤ s ∧ s ≤ 7 → 0 ≤ G 27 s.toNatClampNeg → 0 ≤ G 28 s.toNatClampNeg ∧ G 28 s.toNatClampNeg ≤ 100) (hw : ¬ G 26 6 = 0 → 1 ≤ G 32 0 ∧ G 32 0 ≤ 60000) (hm : msOK (G 30))
    (K1 : ¬ stP s n a → Q (some (.int (-1000001))) G)
    (K2 : stP s n a → ¬ 0 ≤ G 27 s.toNatClampNeg → Q (some (.int (-1000011))) (sG G 26 (upd (G 26) 1 1)))
    (K3 : stP s n a → 0 ≤ G 27 s.toNatClampNeg → ¬ fnd (G 28 s.toNatClampNeg) i (2 * n) = 0 → Q (some (.int (-1000012))) (sG G 26 (upd (G 26) 1 2)))
    (K4 : stP s n a → 0 ≤ G 27 s.toNatClampNeg → fnd (G 28 s.toNatClampNeg) i (2 * n) = 0 → ¬ spP (fM G s.toNatClampNeg i.toNatClampNeg) 200 100 n.toNatClampNeg → Q (some (.int (-1000001))) G)
    (K5 : stP s n a → 0 ≤ G 27 s.toNatClampNeg → fnd (G 28 s.toNatClampNeg) i (2 * n) = 0 → spP (fM G s.toNatClampNeg i.toNatClampNeg) 200 100 n.toNatClampNeg → Q (some (.int (stV (fM G s.toNatClampNeg i.toNatClampNeg) n.toNatClampNeg (nI (bsz (G 26 6) (G 32))) (G 30 2) (G 30 0) a))) (sG G 26 (upd (G 26) 1 0))) : con X m_Mo_storm [.ref 26, .int s, .int i, .int n, .int a] G Q := by
  refine con_rm 80 [] (by decide) rfl (by decide +kernel) h0 ?_
  refine c_isSheet (bib (fun h => K1 (fun z => h z.1)) (fun hs => ?_))
  refine c_in 1 48 rfl rfl (bib (fun h => K1 (fun z => h z.2.1)) (fun hn => ?_))
  refine c_in 0 1 rfl rfl (bjb (fun ha => ?_) (fun h => K1 (fun z => h z.2.2)))
  have hst : stP s n a := ⟨hs, hn, ha⟩
  obtain ⟨en, t2, t3, t4, t5, t6⟩ := twoS hn
  refine c_lookStorm hs hn (hz hs) (fun g => ?_) (fun g g2 => ?_) (fun g g2 hsp => ?_) (fun g g2 hsp => ?_)
  · refine bi_f (by decide) ?_
    exact K2 hst g
  · refine bi_f (by decide) ?_
    exact K3 hst g g2
  · refine bi_f (by decide) ?_
    exact K4 hst g g2 hsp
  · refine bi_t (by decide) ?_
    obtain ⟨ei, hI, -⟩ := fnd_I (N := 2 * n.toNatClampNeg) (fun _ => hz hs g) (by rw [t5]; omega) t6 g2
    obtain ⟨es, -, -⟩ := toN hs.1
    have hS := (sN hs).1
    have k5 := K5 hst g g2 hsp
    clear K1 K2 K3 K4 K5 g g2 t2 t4 t5 t6 hz hn hs hst
    generalize s.toNatClampNeg = S at *
    generalize i.toNatClampNeg = I at *
    generalize n.toNatClampNeg = N at *
    subst es
    subst ei
    subst en
    have e8 : 100 * nI S + nI I = nI (100 * S + I) := (ixM hS (by omega)).2
    unfold stV at k5
    have hsl : 0 ≤ G 30 2 ∧ G 30 2 ≤ 60 := ⟨Int32.le_trans (by decide) hm.2.2.1.1, hm.2.2.1.2⟩
    have hwv : ∀ k, k < N → 0 ≤ G 29 (100 * S + I + 2 * k) ∧ G 29 (100 * S + I + 2 * k) ≤ 200 := by
      intro k hk
      rw [Nat.add_assoc]
      exact (hsp k hk).1
    refine bj (fun h2 => ?_) (fun h2 => ?_)
    · rw [if_neg h2] at k5
      refine vi (inI (by decide) (by decide)) ?_
      rw [e8]
      refine c_overBy (A := 100 * S + I) (N := N) (by omega) ?_
      refine Qi k5 (sI_congr _ (fun k hk => ?_))
      show ovv (G 29 (100 * S + I + 2 * k)) (G 29 (100 * S + I + (2 * k + 1))) (G 30 0) = _
      rw [Nat.add_assoc, Nat.add_assoc]
    · rw [if_pos h2] at k5
      have done : Q (some (.int (sI (fun k => hv (G 29 (100 * S + I + 2 * k)) (nI (bsz (G 26 6) (G 32))) (G 30 2)) N))) (sG G 26 (upd (G 26) 1 0)) := by
        refine Qi k5 (sI_congr _ (fun k hk => ?_))
        rw [Nat.add_assoc]
      have hb := bsz_rng (G 26 6) (G 32)
      unfold bsz at done hb
      refine bj (fun h3 => ?_) (fun h3 => ?_)
      · have h3 : ¬ G 26 6 = 0 := h3
        rw [if_neg h3] at done hb
        obtain ⟨e, e1, -⟩ := toN (x := G 32 0) (Int32.le_trans (by decide) (hw h3).1)
        have h4 : (G 32 0).toInt ≤ 60000 := by simpa using le32.mp (hw h3).2
        refine vi (inI (by decide) (by decide)) ?_
        rw [cl_0]
        have e' : (sG G 26 (upd (G 26) 1 0)) 32 0 = nI (G 32 0).toNatClampNeg := e
        rw [e', e8]
        refine c_root (by omega) ?_
        exact c_harmBy (A := 100 * S + I) (N := N) (by omega) hwv hb hsl done
      · have h3 : G 26 6 = 0 := h3
        rw [if_pos h3] at done hb
        rw [e8]
        exact c_harmBy (A := 100 * S + I) (N := N) (by omega) hwv hb hsl done
theorem stV_congr {f f' : Nat → Int32} {N : Nat} {d sl cr a : Int32} (h : ∀ k, k < 2 * N → f k = f' k) : stV f N d sl cr a = stV f' N d sl cr a := by
  have e1 : sI (fun k => hv (f (2 * k)) d sl) N = sI (fun k => hv (f' (2 * k)) d sl) N := sI_congr N (fun k hk => by rw [h (2 * k) (by omega)])
  have e2 : sI (fun k => ovv (f (2 * k)) (f (2 * k + 1)) cr) N = sI (fun k => ovv (f' (2 * k)) (f' (2 * k + 1)) cr) N := sI_congr N (fun k hk => by rw [h (2 * k) (by omega), h (2 * k + 1) (by omega)])
  unfold stV
  rw [e1, e2]
/-- both sides look at two items each of n hours -/
theorem hrs_both {G : Gt} (hS : IS (G 2) (G 3) (G 4) (G 27) (G 28) (G 29)) {s i n : Int32} (hs : 0 ≤ s ∧ s ≤ 7) (hn : 1 ≤ n ∧ n ≤ 48) (h2 : fnd (G 4 s.toNatClampNeg) i (2 * n) = 0) : 0 ≤ G 27 s.toNatClampNeg ∧ G 28 s.toNatClampNeg = G 4 s.toNatClampNeg ∧ ∀ k, k < 2 * n.toNatClampNeg → fX G s i.toNatClampNeg k = fM G s.toNatClampNeg i.toNatClampNeg k := by
  obtain ⟨-, -, -, -, t5, t6⟩ := twoS hn
  rcases look_both hS hs i (2 * n) with ⟨g1, g2⟩ | ⟨g1, g2, g3⟩ | ⟨g1, g2, g3, g4, g5⟩
  · rw [g1] at h2; exact absurd h2 (by decide)
  · rw [g1] at h2; exact absurd h2 (by decide)
  · have h5 := (fnd_0 g4 t6).mp h2
    obtain ⟨-, ei2, -⟩ := toN h5.1
    exact ⟨g2, g3, fun k hk => g5 _ (by have := h5.2; omega)⟩
theorem w8_0 {G : Gt} (hW : IW (G 5 3) (G 26 6) (G 6) (G 30) (G 7) (G 31) (G 8) (G 32)) : ¬ G 5 3 = 0 → 1 ≤ G 8 0 ∧ G 8 0 ≤ 60000 := by
  intro h
  obtain ⟨w1, w2, w3, w4, w5, w6, w7⟩ := hW
  have h1 := (ly_1 w5).2.1
  have h2 : ¬ (G 5 3).toInt = 0 := fun z => h (eq32.mpr (by simpa using z))
  exact (w7 0 (by omega)).2
theorem hzX {G : Gt} (hS : IS (G 2) (G 3) (G 4) (G 27) (G 28) (G 29)) {s : Int32} (h : 0 ≤ s ∧ s ≤ 7) (h2 : ¬ G 4 s.toNatClampNeg = -1) : 0 ≤ G 4 s.toNatClampNeg ∧ G 4 s.toNatClampNeg ≤ 100 := by
  have hh := IS_at hS (sN h).1
  exact (hh.2 (Decidable.byContradiction fun z => h2 (hh.1.mpr z))).2.2.1
theorem p_storm {X : Xt} {G : Gt} (hI : Inv G) {s i n a : Int32} : pair X m_SW_storm m_Mo_storm [.int s, .int i, .int n, .int a] G := by
  obtain ⟨hW, hT, hS, hP, hs, h0⟩ := id hI
  obtain ⟨w1, w2, w3, w4, w5, w6, w7⟩ := id hW
  have hw := w8_0 hW
  have hw' : ¬ G 26 6 = 0 → 1 ≤ G 32 0 ∧ G 32 0 ≤ 60000 := by rw [← w1, ← w4]; exact hw
  have hm' : msOK (G 30) := w2 ▸ w6
  have hzx : 0 ≤ s ∧ s ≤ 7 → ¬ G 4 s.toNatClampNeg = -1 → 0 ≤ G 4 s.toNatClampNeg ∧ G 4 s.toNatClampNeg ≤ 100 := fun h h2 => hzX hS h h2
  have hzm : 0 ≤ s ∧ s ≤ 7 → 0 ≤ G 27 s.toNatClampNeg → 0 ≤ G 28 s.toNatClampNeg ∧ G 28 s.toNatClampNeg ≤ 100 := fun h h2 => hzM hS h h2
  refine c_SW_storm hzx hw w6 (fun h => pq ?_) (fun h h2 => pq ?_) (fun h h2 x y h3 => pq ?_) (fun h h2 x y z h3 => pq ?_)
  · exact c_Mo_storm h0 hzm hw' hm' (fun _ => ⟨rfl, hI⟩) (fun z => absurd z h) (fun z => absurd z h) (fun z => absurd z h) (fun z => absurd z h)
  · rcases look_both hS h.1 i (2 * n) with ⟨g1, g2⟩ | ⟨g1, g2, g3⟩ | ⟨g1, -⟩
    · rw [g1]
      exact c_Mo_storm h0 hzm hw' hm' (fun z => absurd h z) (fun _ _ => ⟨rfl, ⟨hW, hT, hS, hP, rfl, h0⟩⟩) (fun _ z => absurd z g2) (fun _ z => absurd z g2) (fun _ z => absurd z g2)
    · rw [g1]
      have h2' : ¬ fnd (G 28 s.toNatClampNeg) i (2 * n) = 0 := by rw [g3]; exact h2
      exact c_Mo_storm h0 hzm hw' hm' (fun z => absurd h z) (fun _ z => absurd g2 z) (fun _ _ _ => ⟨rfl, ⟨hW, hT, hS, hP, rfl, h0⟩⟩) (fun _ _ z => absurd z h2') (fun _ _ z => absurd z h2')
    · exact absurd g1 h2
  · obtain ⟨q1, q2, q3⟩ := hrs_both hS h.1 h.2.1 h2
    have h2' : fnd (G 28 s.toNatClampNeg) i (2 * n) = 0 := by rw [q2]; exact h2
    exact c_Mo_storm h0 hzm hw' hm' (fun z => absurd h z) (fun _ z => absurd q1 z) (fun _ _ z => absurd h2' z) (fun _ _ _ _ => ⟨rfl, ⟨hW, hT, hS, hP, hs, h0⟩⟩) (fun _ _ _ z => absurd (sp_congr (fun k hk => (q3 k hk).symm) z) h3)
  · obtain ⟨q1, q2, q3⟩ := hrs_both hS h.1 h.2.1 h2
    have h2' : fnd (G 28 s.toNatClampNeg) i (2 * n) = 0 := by rw [q2]; exact h2
    refine c_Mo_storm h0 hzm hw' hm' (fun z => absurd h z) (fun _ z => absurd q1 z) (fun _ _ z => absurd h2' z) (fun _ _ _ z => absurd (sp_congr q3 h3) z) (fun _ _ _ _ => ⟨?_, ⟨hW, hT, hS, hP, rfl, h0⟩⟩)
    show some (Value.int (stV (fM G s.toNatClampNeg i.toNatClampNeg) n.toNatClampNeg (nI (bsz (G 26 6) (G 32))) (G 30 2) (G 30 0) a)) = some (Value.int (stV (fX G s i.toNatClampNeg) n.toNatClampNeg (nI (bsz (G 5 3) (G 8))) (G 6 2) (G 6 0) a))
    rw [stV_congr q3, w1, w2, w4]
