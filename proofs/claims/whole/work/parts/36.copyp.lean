/-! copy: the model, the pair -/
theorem hasI_l {z i n : Int32} (hz : 0 ≤ z ∧ z ≤ 100) : hasI z i n ↔ ¬ i < 0 ∧ ¬ n < 0 ∧ lg_cmp (i.toInt64 + n.toInt64) z.toInt64 ≤ 0 := by
  rw [hasI_iff hz, lcmp_le, Int64.le_iff_toInt_le, add64, Int32.toInt_toInt64, Int32.not_lt, Int32.not_lt]
set_option maxRecDepth 4000 in
theorem c_Mo_copy {X : Xt} {a i b j n : Int32} {G : Gt} {Q : Qt} (h0 : G 26 0 = 0) (hz : ∀ s : Int32, 0 ≤ s ∧ s ≤ 7 → 0 ≤ G 27 s.toNatClampNeg → 0 ≤ G 28 s.toNatClampNeg ∧ G 28 s.toNatClampNeg ≤ 100)
    (K1 : ¬ ((0 ≤ a ∧ a ≤ 7) ∧ 0 ≤ b ∧ b ≤ 7) → Q (some (.int (-1000001))) G)
    (K2 : (0 ≤ a ∧ a ≤ 7) ∧ 0 ≤ b ∧ b ≤ 7 → ¬ (0 ≤ G 27 a.toNatClampNeg ∧ 0 ≤ G 27 b.toNatClampNeg) → Q (some (.int (-1000011))) (sG (sG G 26 (upd (G 26) 1 0)) 26 (upd (upd (G 26) 1 0) 1 1)))
    (K3 : (0 ≤ a ∧ a ≤ 7) ∧ 0 ≤ b ∧ b ≤ 7 → 0 ≤ G 27 a.toNatClampNeg → 0 ≤ G 27 b.toNatClampNeg → ¬ G 27 a.toNatClampNeg = G 27 b.toNatClampNeg → Q (some (.int (-1000015))) (sG (sG G 26 (upd (G 26) 1 0)) 26 (upd (upd (G 26) 1 0) 1 5)))
    (K4 : (0 ≤ a ∧ a ≤ 7) ∧ 0 ≤ b ∧ b ≤ 7 → 0 ≤ G 27 a.toNatClampNeg → 0 ≤ G 27 b.toNatClampNeg → G 27 a.toNatClampNeg = G 27 b.toNatClampNeg → ¬ (hasI (G 28 a.toNatClampNeg) i n ∧ hasI (G 28 b.toNatClampNeg) j n) → Q (some (.int (-1000012))) (sG (sG G 26 (upd (G 26) 1 0)) 26 (upd (upd (G 26) 1 0) 1 2)))
    (K5 : (0 ≤ a ∧ a ≤ 7) ∧ 0 ≤ b ∧ b ≤ 7 → 0 ≤ G 27 a.toNatClampNeg → 0 ≤ G 27 b.toNatClampNeg → G 27 a.toNatClampNeg = G 27 b.toNatClampNeg → hasI (G 28 a.toNatClampNeg) i n → hasI (G 28 b.toNatClampNeg) j n → Q (some (.int n)) (sG (sG G 26 (upd (G 26) 1 0)) 29 (va_cpy (G 29) (G 29) (ix a i) (ix b j) n.toNatClampNeg))) : con X m_Mo_copy [.ref 26, .int a, .int i, .int b, .int j, .int n] G Q := by
  refine con_rm 120 [143] (by decide) rfl (by decide +kernel) h0 ?_
  refine c_isSheet (bib (fun h => K1 (fun z => h z.1)) (fun ha => ?_))
  refine c_isSheet (bjb (fun hb => ?_) (fun h => K1 (fun z => h z.2)))
  have hab : (0 ≤ a ∧ a ≤ 7) ∧ 0 ≤ b ∧ b ≤ 7 := ⟨ha, hb⟩
  refine vi (sN ha).2 (bi (fun h => ?_) (fun m1 => ?_))
  · refine c_Mfound ?_
    exact K2 hab (fun z => Int32.not_lt.mpr z.1 h)
  refine vi (sN hb).2 (bi (fun m2 => ?_) (fun h => ?_))
  · have m1 : 0 ≤ G 27 a.toNatClampNeg := Int32.not_lt.mp m1
    have m2 : 0 ≤ G 27 b.toNatClampNeg := m2
    have k4 := K4 hab m1 m2
    refine vi (sN ha).2 (vi (sN hb).2 (bi (fun hl => ?_) (fun h => ?_)))
    · have k4 := k4 hl
      have ia := hasI_l (i := i) (n := n) (hz a ha m1)
      have ib := hasI_l (i := j) (n := n) (hz b hb m2)
      refine bi (fun h => by refine c_Mfound ?_; exact k4 (fun z => (ia.mp z.1).1 h)) (fun g1 => ?_)
      refine bi (fun h => by refine c_Mfound ?_; exact k4 (fun z => (ib.mp z.2).1 h)) (fun g2 => ?_)
      refine bi (fun h => by refine c_Mfound ?_; exact k4 (fun z => (ia.mp z.1).2.1 h)) (fun g3 => ?_)
      refine vi (sN ha).2 (bi (fun h => by refine c_Mfound ?_; exact k4 (fun z => Int32.not_lt.mpr (ia.mp z.1).2.2 h)) (fun g4 => ?_))
      refine vi (sN hb).2 (bi (fun g5 => ?_) (fun h => by refine c_Mfound ?_; exact k4 (fun z => h (ib.mp z.2).2.2)))
      have q1 : hasI (G 28 a.toNatClampNeg) i n := ia.mpr ⟨g1, g3, Int32.not_lt.mp g4⟩
      have q2 : hasI (G 28 b.toNatClampNeg) j n := ib.mpr ⟨g2, g3, g5⟩
      have k5 := K5 hab m1 m2 hl q1 q2
      have r1 : (G 28 a.toNatClampNeg).toInt ≤ 100 := by simpa using le32.mp (hz a ha m1).2
      have r2 : (G 28 b.toNatClampNeg).toInt ≤ 100 := by simpa using le32.mp (hz b hb m2).2
      obtain ⟨p1, p2, p3⟩ := (hasI_iff (hz a ha m1)).mp q1
      obtain ⟨p4, -, p5⟩ := (hasI_iff (hz b hb m2)).mp q2
      obtain ⟨ea, -, -⟩ := toN ha.1
      obtain ⟨eb, -, -⟩ := toN hb.1
      obtain ⟨ei, ei2, -⟩ := toN p1
      obtain ⟨ej, ej2, -⟩ := toN p4
      obtain ⟨en, en2, -⟩ := toN p2
      have hA := (sN ha).1
      have hB := (sN hb).1
      have hij : j ≤ i ↔ j.toNatClampNeg ≤ i.toNatClampNeg := by rw [le32]; omega
      have hI : i.toNatClampNeg + n.toNatClampNeg ≤ 100 := by omega
      have hJ : j.toNatClampNeg + n.toNatClampNeg ≤ 100 := by omega
      clear K1 K2 K3 K4 K5 k4 ia ib hz q1 q2 g1 g2 g3 g4 g5 hl m1 m2 h0 r1 r2 p1 p2 p3 p4 p5 ei2 ej2 en2 hab
      have eI : ix a i = 100 * a.toNatClampNeg + i.toNatClampNeg := by
        have := ix_nat (i := i.toNatClampNeg) ha (by omega)
        rw [← ei] at this; exact this
      have eJ : ix b j = 100 * b.toNatClampNeg + j.toNatClampNeg := by
        have := ix_nat (i := j.toNatClampNeg) hb (by omega)
        rw [← ej] at this; exact this
      rw [eI, eJ] at k5
      clear eI eJ ha hb
      generalize a.toNatClampNeg = A at *
      generalize b.toNatClampNeg = B at *
      generalize i.toNatClampNeg = I at *
      generalize j.toNatClampNeg = J at *
      generalize n.toNatClampNeg = N at *
      subst ea
      subst eb
      subst ei
      subst ej
      subst en
      refine bi (fun hlt => ?_) (fun hge => ?_)
      · have hlt : ¬ J ≤ I := fun z => Int32.not_lt.mpr (hij.mpr z) hlt
        refine w_cpD (f := G 29) hA hB hI hJ (by omega) N 0 _ _ rfl (by omega) ?_ k5
        funext x
        unfold cpD
        rw [if_neg (by omega)]
        rfl
      · have hge : J ≤ I := hij.mp (Int32.not_lt.mp hge)
        refine w_cpU (f := G 29) hA hB hI hJ (by omega) N 0 _ _ rfl (by omega) ?_ k5
        funext x
        rw [pk_cpy_out (by omega)]
        rfl
    · refine c_Mfound ?_
      exact K3 hab m1 m2 h
  · refine c_Mfound ?_
    exact K2 hab (fun z => h z.2)
theorem p_copy {X : Xt} {G : Gt} (hI : Inv G) {a i b j n : Int32} : pair X m_SW_copy m_Mo_copy [.int a, .int i, .int b, .int j, .int n] G := by
  obtain ⟨hW, hT, hS, hP, hs, h0⟩ := id hI
  have hzX : ∀ s : Int32, 0 ≤ s ∧ s ≤ 7 → ¬ G 4 s.toNatClampNeg = -1 → 0 ≤ G 4 s.toNatClampNeg ∧ G 4 s.toNatClampNeg ≤ 100 := by
    intro s h h2
    have hh := IS_at hS (sN h).1
    exact (hh.2 (Decidable.byContradiction fun z => h2 (hh.1.mpr z))).2.2.1
  have hzm : ∀ s : Int32, 0 ≤ s ∧ s ≤ 7 → 0 ≤ G 27 s.toNatClampNeg → 0 ≤ G 28 s.toNatClampNeg ∧ G 28 s.toNatClampNeg ≤ 100 := fun s h h2 => hzM hS h h2
  have up : ∀ s : Int32, 0 ≤ s ∧ s ≤ 7 → ¬ G 4 s.toNatClampNeg = -1 → 0 ≤ G 27 s.toNatClampNeg ∧ G 28 s.toNatClampNeg = G 4 s.toNatClampNeg ∧ G 27 s.toNatClampNeg = G 3 s.toNatClampNeg := by
    intro s h h2
    have hh := IS_at hS (sN h).1
    have h5 := Decidable.byContradiction fun z => h2 (hh.1.mpr z)
    exact ⟨h5, (hh.2 h5).1, (hh.2 h5).2.1⟩
  refine c_SW_copy hzX (fun h => pq ?_) (fun h h2 => pq ?_) (fun h m1 m2 h2 => pq ?_) (fun h m1 m2 h2 h3 => pq ?_) (fun h m1 m2 h2 h3 h4 => pq ?_)
  · exact c_Mo_copy h0 hzm (fun _ => ⟨rfl, hI⟩) (fun z => absurd z h) (fun z => absurd z h) (fun z => absurd z h) (fun z => absurd z h)
  · have hn : ¬ (0 ≤ G 27 a.toNatClampNeg ∧ 0 ≤ G 27 b.toNatClampNeg) := fun z => by
      rcases h2 with h2 | h2
      · exact (IS_at hS (sN h.1).1).1.mp h2 z.1
      · exact (IS_at hS (sN h.2).1).1.mp h2 z.2
    exact c_Mo_copy h0 hzm (fun z => absurd h z) (fun _ _ => ⟨rfl, ⟨hW, hT, hS, hP, rfl, h0⟩⟩) (fun _ z1 z2 => absurd ⟨z1, z2⟩ hn) (fun _ z1 z2 => absurd ⟨z1, z2⟩ hn) (fun _ z1 z2 => absurd ⟨z1, z2⟩ hn)
  · obtain ⟨a1, a2, a3⟩ := up a h.1 m1
    obtain ⟨b1, b2, b3⟩ := up b h.2 m2
    have e : ¬ G 27 a.toNatClampNeg = G 27 b.toNatClampNeg := by rw [a3, b3]; exact h2
    exact c_Mo_copy h0 hzm (fun z => absurd h z) (fun _ z => absurd ⟨a1, b1⟩ z) (fun _ _ _ _ => ⟨rfl, ⟨hW, hT, hS, hP, rfl, h0⟩⟩) (fun _ _ _ z => absurd z e) (fun _ _ _ z => absurd z e)
  · obtain ⟨a1, a2, a3⟩ := up a h.1 m1
    obtain ⟨b1, b2, b3⟩ := up b h.2 m2
    have e : G 27 a.toNatClampNeg = G 27 b.toNatClampNeg := by rw [a3, b3]; exact h2
    refine c_Mo_copy h0 hzm (fun z => absurd h z) (fun _ z => absurd ⟨a1, b1⟩ z) (fun _ _ _ z => absurd e z) (fun _ _ _ _ _ => ⟨rfl, ⟨hW, hT, hS, hP, rfl, h0⟩⟩) (fun _ _ _ _ z1 z2 => ?_)
    have z1 : hasI (G 28 a.toNatClampNeg) i n := z1
    have z2 : hasI (G 28 b.toNatClampNeg) j n := z2
    rw [a2] at z1
    rw [b2] at z2
    exact absurd ⟨z1, z2⟩ h3
  · obtain ⟨a1, a2, a3⟩ := up a h.1 m1
    obtain ⟨b1, b2, b3⟩ := up b h.2 m2
    have e : G 27 a.toNatClampNeg = G 27 b.toNatClampNeg := by rw [a3, b3]; exact h2
    refine c_Mo_copy h0 hzm (fun z => absurd h z) (fun _ z => absurd ⟨a1, b1⟩ z) (fun _ _ _ z => absurd e z) (fun _ _ _ _ z => ?_) (fun _ _ _ _ _ _ => ⟨rfl, ⟨hW, hT, ?_, hP, rfl, h0⟩⟩)
    · refine absurd ?_ z
      show hasI (G 28 a.toNatClampNeg) i n ∧ hasI (G 28 b.toNatClampNeg) j n
      rw [a2, b2]
      exact ⟨h3, h4⟩
    · obtain ⟨g1, g2, g3, g4⟩ := (IS_at hS (sN h.1).1).2 a1
      obtain ⟨f1, f2, f3, f4⟩ := (IS_at hS (sN h.2).1).2 b1
      obtain ⟨p1, p2, p3⟩ := (hasI_iff (hzX a h.1 m1)).mp h3
      obtain ⟨p4, -, p5⟩ := (hasI_iff (hzX b h.2 m2)).mp h4
      obtain ⟨ei, ei2, ei3⟩ := toN p1
      obtain ⟨ej, ej2, ej3⟩ := toN p4
      obtain ⟨en, en2, -⟩ := toN p2
      have hA := (sN h.1).1
      have hB := (sN h.2).1
      have r2 : (G 4 b.toNatClampNeg).toInt ≤ 100 := by simpa using le32.mp (hzX b h.2 m2).2
      have eI : ix a i = 100 * a.toNatClampNeg + i.toNatClampNeg := by
        have := ix_nat (i := i.toNatClampNeg) h.1 (by omega)
        rw [← ei] at this; exact this
      have eJ : ix b j = 100 * b.toNatClampNeg + j.toNatClampNeg := by
        have := ix_nat (i := j.toNatClampNeg) h.2 (by omega)
        rw [← ej] at this; exact this
      refine IS_put (s := b.toNatClampNeg) hS (Or.inr ⟨f3, ?_, f2, f1, fun k hk => ?_⟩) (fun q hq hn => ⟨rfl, rfl, rfl, rfl, fun k hk => ⟨?_, ?_⟩⟩)
      · rcases hS _ (sN h.2).1 with ⟨z, -⟩ | z
        · exact absurd z m2
        · exact z.2.1
      · have hk : (k : Int) < (G 4 b.toNatClampNeg).toInt := hk
        show va_cpy (G 2) (G 2) (ix a i) (ix b j) _ (100 * b.toNatClampNeg + k) = va_cpy (G 29) (G 29) (ix a i) (ix b j) _ (100 * b.toNatClampNeg + k)
        rw [eI, eJ]
        by_cases hin : j.toNatClampNeg ≤ k ∧ k < j.toNatClampNeg + n.toNatClampNeg
        · rw [pk_cpy_in (by omega) (by omega), pk_cpy_in (by omega) (by omega)]
          have := g4 (i.toNatClampNeg + (k - j.toNatClampNeg)) (by omega)
          rw [show 100 * a.toNatClampNeg + i.toNatClampNeg + (100 * b.toNatClampNeg + k - (100 * b.toNatClampNeg + j.toNatClampNeg)) = 100 * a.toNatClampNeg + (i.toNatClampNeg + (k - j.toNatClampNeg)) by omega]
          exact this
        · rw [pk_cpy_out (by omega), pk_cpy_out (by omega)]
          exact f4 k hk
      · show va_cpy (G 2) (G 2) (ix a i) (ix b j) _ (100 * q + k) = G 2 (100 * q + k)
        rw [eI, eJ, pk_cpy_out (by omega)]
      · show va_cpy (G 29) (G 29) (ix a i) (ix b j) _ (100 * q + k) = G 29 (100 * q + k)
        rw [eI, eJ, pk_cpy_out (by omega)]
