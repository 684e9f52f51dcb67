/-! planned: the model's whole, the pair -/
theorem ord_hit {L nr : Nat → Nat → Bool} {G : Gt} {M R P : Nat} (hM : M ≤ 8) (hR : R < 8) (hP : P + R < 12) (h : okM L nr G M 0) : ∀ t, t < dT L nr M → ((G 38 t = nI R ∧ G 39 t = nI P) ↔ ((R < M ∧ due L nr R P = true) ∧ t = dT L nr R + dC L nr R P)) := by
  intro t ht
  constructor
  · rintro ⟨h1, h2⟩
    obtain ⟨r', p', a, b, c⟩ := ord_sj L nr M 0 t ht
    have a2 : r' < M ∧ p' + r' < 12 := by
      rcases a with a | ⟨-, a⟩
      · exact a
      · omega
    obtain ⟨q1, q2⟩ := h.2.1 r' p' a b
    rw [← c, h1, nI_eq (by omega) (by omega)] at q1
    rw [← c, h2, nI_eq (by omega) (by omega)] at q2
    subst q1
    subst q2
    exact ⟨⟨a2.1, b⟩, c⟩
  · rintro ⟨⟨h1, h2⟩, h3⟩
    rw [h3]
    exact h.2.1 R P (Or.inl ⟨h1, hP⟩) h2
set_option maxRecDepth 8000 in
theorem c_Mo_planned {X : Xt} {L : Nat → Nat → Bool} {c k m s i n r p : Int32} {G : Gt} {Q : Qt} (h0 : G 26 0 = 0) (hL : lyM L G) (hz : 0 ≤ s ∧ s ≤ 7 → 0 ≤ G 27 s.toNatClampNeg → 0 ≤ G 28 s.toNatClampNeg ∧ G 28 s.toNatClampNeg ≤ 100)
    (K1 : ¬ plP c k m s n r p → Q (some (.int (-1000001))) G)
    (K2 : plP c k m s n r p → ¬ 0 ≤ G 27 s.toNatClampNeg → Q (some (.int (-1000011))) (sG G 26 (upd (G 26) 1 1)))
    (K3 : plP c k m s n r p → 0 ≤ G 27 s.toNatClampNeg → ¬ fnd (G 28 s.toNatClampNeg) i n = 0 → Q (some (.int (-1000012))) (sG G 26 (upd (G 26) 1 2)))
    (K4 : plP c k m s n r p → 0 ≤ G 27 s.toNatClampNeg → fnd (G 28 s.toNatClampNeg) i n = 0 → ¬ tdP (fM G s.toNatClampNeg i.toNatClampNeg) n.toNatClampNeg → Q (some (.int (-1000001))) G)
    (K5 : plP c k m s n r p → 0 ≤ G 27 s.toNatClampNeg → fnd (G 28 s.toNatClampNeg) i n = 0 → tdP (fM G s.toNatClampNeg i.toNatClampNeg) n.toNatClampNeg → ∀ G' M R P, FrS (sG G 26 (upd (G 26) 1 0)) G' → m = nI M → r = nI R → p = nI P → M ≤ 8 → R < 8 → P + R < 12 → ∀ d, d < n.toNatClampNeg → R < M ∧ due L (nrB c k) R P = true → tS (tdN (fM G s.toNatClampNeg i.toNatClampNeg)) d ≤ dT L (nrB c k) R + dC L (nrB c k) R P → dT L (nrB c k) R + dC L (nrB c k) R P < tS (tdN (fM G s.toNatClampNeg i.toNatClampNeg)) (d + 1) → Q (some (.int (nI d))) G')
    (K6 : plP c k m s n r p → 0 ≤ G 27 s.toNatClampNeg → fnd (G 28 s.toNatClampNeg) i n = 0 → tdP (fM G s.toNatClampNeg i.toNatClampNeg) n.toNatClampNeg → ∀ G' M R P, FrS (sG G 26 (upd (G 26) 1 0)) G' → m = nI M → r = nI R → p = nI P → M ≤ 8 → R < 8 → P + R < 12 → ¬ (R < M ∧ due L (nrB c k) R P = true) ∨ tS (tdN (fM G s.toNatClampNeg i.toNatClampNeg)) n.toNatClampNeg ≤ dT L (nrB c k) R + dC L (nrB c k) R P → Q (some (.int (-1000000))) G') : con X m_Mo_planned [.ref 26, .int c, .int k, .int m, .int s, .int i, .int n, .int r, .int p] G Q := by
  refine con_rm 100 [82] (by decide) rfl (by decide +kernel) h0 ?_
  refine c_MisCrane (bib (fun h => K1 (fun z => h z.1)) (fun h1 => ?_))
  refine c_in 1 8 rfl rfl (bib (fun h => K1 (fun z => h z.2.1)) (fun h2 => ?_))
  refine c_isSheet (bib (fun h => K1 (fun z => h z.2.2.1)) (fun h3 => ?_))
  refine c_in 1 20 rfl rfl (bib (fun h => K1 (fun z => h z.2.2.2.1)) (fun h4 => ?_))
  refine c_MisPlace2 (bjb (fun h5 => ?_) (fun h => K1 (fun z => h z.2.2.2.2)))
  have hp : plP c k m s n r p := ⟨h1, h2, h3, h4, h5⟩
  obtain ⟨en, t1, t2, t3⟩ := nN20 h4
  refine c_lookAt h3 t3 (hz h3) (fun g => ?_) (fun g g2 => ?_) (fun g g2 => ?_)
  · refine bi_f (by decide) ?_
    exact K2 hp g
  · refine bi_f (by decide) ?_
    exact K3 hp g g2
  · refine bi_t (by decide) ?_
    obtain ⟨ei, hI, -⟩ := fnd_I (N := n.toNatClampNeg) (fun _ => hz h3 g) t2 t3 g2
    obtain ⟨es, -, -⟩ := toN h3.1
    have hS := (sN h3).1
    have k4 := K4 hp g g2
    have k5 := K5 hp g g2
    have k6 := K6 hp g g2
    obtain ⟨M, hM, -, eM⟩ := mN h2
    obtain ⟨R, P, eR, eP, hR, hP⟩ := plcN h5
    clear K1 K2 K3 K4 K5 K6 g g2 t2 t3 hz h2 h3 h4 h5 hp
    generalize s.toNatClampNeg = S at *
    generalize i.toNatClampNeg = I at *
    generalize n.toNatClampNeg = N at *
    subst es
    subst ei
    subst en
    subst eM
    subst eR
    subst eP
    refine wp_pick [0, 2, 3, 4, 5, 6, 7, 8, 9, 10] ?_
    refine w_plC hS hI (fun htd => ?_) k4 N 0 _ rfl (by omega) (fun q hq => absurd hq (by omega))
    refine rn_wp (stops := [143]) 20 ?_
    refine c_findOrder (G := sG G 26 (upd (G 26) 1 0)) hM hL (fun G' hF hO => ?_)
    have e29 : G' 29 = G 29 := hF.1 29 rfl (by decide)
    have hN68 : dT L (nrB c k) M ≤ 68 := Nat.le_trans (dT_le L (nrB c k) M) (bT_8 M (by omega))
    have ho := td_ok (f := fM G S I) htd
    refine wp_pick [0, 1, 2, 6, 7, 8, 9, 10] ?_
    refine w_plO (NO := dT L (nrB c k) M) (t0 := dT L (nrB c k) R + dC L (nrB c k) R P) (f := tdN (fM G S I)) (D := R < M ∧ due L (nrB c k) R P = true) hS hI t1 hR (by omega) hN68 (fun d hd => ?_) hO.2.2 (ord_hit hM hR hP hO) (fun z => ?_) (fun d hd => k5 htd G' M R P hF rfl rfl rfl hM hR hP d hd) (k6 htd G' M R P hF rfl rfl rfl hM hR hP) N 0 _ _ rfl (by omega) ?_ (fun _ => Nat.zero_le _)
    · show G' 29 _ = _ ∧ _
      rw [e29]
      exact ho d hd
    · exact ord_lt (p := 0) (Or.inl ⟨z.1, hP⟩) z.2
    · rw [show min (tS (tdN (fM G S I)) 0) (dT L (nrB c k) M) = 0 from Nat.zero_min _]
      rfl
theorem tS_congr {f g : Nat → Nat} : ∀ (n : Nat), (∀ d, d < n → f d = g d) → tS f n = tS g n
  | 0, _ => rfl
  | n + 1, h => by rw [tS, tS, tS_congr n (fun d hd => h d (by omega)), h n (by omega)]
theorem tS_uniq {f : Nat → Nat} {d e t : Nat} (h1 : tS f d ≤ t) (h2 : t < tS f (d + 1)) (h3 : tS f e ≤ t) (h4 : t < tS f (e + 1)) : d = e := by
  have mono : ∀ a b, a ≤ b → tS f a ≤ tS f b := by
    intro a b hab
    induction b with
    | zero => rw [show a = 0 by omega]; exact Nat.le_refl _
    | succ b ih =>
      by_cases q : a = b + 1
      · rw [q]; exact Nat.le_refl _
      · have := ih (by omega)
        have e : tS f (b + 1) = tS f b + f b := rfl
        omega
  rcases Nat.lt_trichotomy d e with z | z | z
  · have := mono (d + 1) e z
    omega
  · exact z
  · have := mono (e + 1) d z
    omega
theorem tS_last {f : Nat → Nat} {d n t : Nat} (hd : d < n) (h : t < tS f (d + 1)) : ¬ tS f n ≤ t := by
  have mono : ∀ b, d + 1 ≤ b → tS f (d + 1) ≤ tS f b := by
    intro b hab
    induction b with
    | zero => omega
    | succ b ih =>
      by_cases q : d + 1 = b + 1
      · rw [q]; exact Nat.le_refl _
      · have := ih (by omega)
        have e : tS f (b + 1) = tS f b + f b := rfl
        omega
  have := mono n hd
  omega
theorem Inv_s0 {G G' : Gt} (hI : Inv G) (hF : FrS G G') (v : Int32) : Inv (sG (sG G' 0 (upd (G' 0) 7 v)) 26 (upd (G' 26) 1 v)) := Inv_st (Inv_fr hF hI) v
theorem p_planned {X : Xt} {G : Gt} (hI : Inv G) {c k m s i n r p : Int32} : pair X m_SW_planned m_Mo_planned [.int c, .int k, .int m, .int s, .int i, .int n, .int r, .int p] G := by
  obtain ⟨hW, hT, hS, hP, hs, h0⟩ := id hI
  have hzx : 0 ≤ s ∧ s ≤ 7 → ¬ G 4 s.toNatClampNeg = -1 → 0 ≤ G 4 s.toNatClampNeg ∧ G 4 s.toNatClampNeg ≤ 100 := fun h h2 => hzX hS h h2
  have hzm : 0 ≤ s ∧ s ≤ 7 → 0 ≤ G 27 s.toNatClampNeg → 0 ≤ G 28 s.toNatClampNeg ∧ G 28 s.toNatClampNeg ≤ 100 := fun h h2 => hzM hS h h2
  have hq : plP c k m s n r p → fnd (G 4 s.toNatClampNeg) i n = 0 → 0 ≤ G 27 s.toNatClampNeg ∧ G 28 s.toNatClampNeg = G 4 s.toNatClampNeg ∧ ∀ k, k < n.toNatClampNeg → fX G s i.toNatClampNeg k = fM G s.toNatClampNeg i.toNatClampNeg k := by
    intro h h2
    obtain ⟨en, t1, t2, t3⟩ := nN20 h.2.2.2.1
    rcases look_both hS h.2.2.1 i n with ⟨g1, g2⟩ | ⟨g1, g2, g3⟩ | ⟨g1, g2, g3, g4, g5⟩
    · rw [g1] at h2; exact absurd h2 (by decide)
    · rw [g1] at h2; exact absurd h2 (by decide)
    · have h5 := (fnd_0 g4 t3).mp h2
      obtain ⟨-, ei2, -⟩ := toN h5.1
      exact ⟨g2, g3, fun k hk => g5 _ (by have := h5.2; omega)⟩
  have tdc : ∀ {f f' : Nat → Int32} {N : Nat}, (∀ k, k < N → f k = f' k) → tdP f N → tdP f' N := by
    intro f f' N h h2 k hk
    rw [← h k hk]
    exact h2 k hk
  refine c_SW_planned (LyB_X hP) hzx (fun h => pq ?_) (fun h h2 => pq ?_) (fun h h2 h3 => pq ?_) (fun h h2 h3 G' M R P hF eM eR eP hM hR hPR d hd hD q1 q2 => pq ?_) (fun h h2 h3 G' M R P hF eM eR eP hM hR hPR hno => pq ?_)
  · exact c_Mo_planned h0 (LyB_M hP) hzm (fun _ => ⟨rfl, hI⟩) (fun z => absurd z h) (fun z => absurd z h) (fun z => absurd z h) (fun z => absurd z h) (fun z => absurd z h)
  · rcases look_both hS h.2.2.1 i n with ⟨g1, g2⟩ | ⟨g1, g2, g3⟩ | ⟨g1, -⟩
    · rw [g1]
      exact c_Mo_planned (L := LyB G) h0 (LyB_M hP) hzm (fun z => absurd h z) (fun _ _ => ⟨rfl, ⟨hW, hT, hS, hP, rfl, h0⟩⟩) (fun _ z => absurd z g2) (fun _ z => absurd z g2) (fun _ z => absurd z g2) (fun _ z => absurd z g2)
    · rw [g1]
      have h2' : ¬ fnd (G 28 s.toNatClampNeg) i n = 0 := by rw [g3]; exact h2
      exact c_Mo_planned (L := LyB G) h0 (LyB_M hP) hzm (fun z => absurd h z) (fun _ z => absurd g2 z) (fun _ _ _ => ⟨rfl, ⟨hW, hT, hS, hP, rfl, h0⟩⟩) (fun _ _ z => absurd z h2') (fun _ _ z => absurd z h2') (fun _ _ z => absurd z h2')
    · exact absurd g1 h2
  · obtain ⟨q1, q2, q3⟩ := hq h h2
    have h2' : fnd (G 28 s.toNatClampNeg) i n = 0 := by rw [q2]; exact h2
    exact c_Mo_planned h0 (LyB_M hP) hzm (fun z => absurd h z) (fun _ z => absurd q1 z) (fun _ _ z => absurd h2' z) (fun _ _ _ _ => ⟨rfl, hI⟩) (fun _ _ _ z => absurd (tdc (fun k hk => (q3 k hk).symm) z) h3) (fun _ _ _ z => absurd (tdc (fun k hk => (q3 k hk).symm) z) h3)
  all_goals
    obtain ⟨y1, y2, y3⟩ := hq h h2
    have f27 : G' 27 = G 27 := hF.1 27 rfl (by decide)
    have f28 : G' 28 = G 28 := hF.1 28 rfl (by decide)
    have f29 : G' 29 = G 29 := hF.1 29 rfl (by decide)
    have h0' : G' 26 0 = 0 := by rw [hF.2 0 (by decide)]; exact h0
    have hI' := Inv_fr hF hI
    have hLm : lyM (LyB G) G' := lyM_fr (LyB_M hP) hF
    have hzm' : 0 ≤ s ∧ s ≤ 7 → 0 ≤ G' 27 s.toNatClampNeg → 0 ≤ G' 28 s.toNatClampNeg ∧ G' 28 s.toNatClampNeg ≤ 100 := by rw [f27, f28]; exact hzm
    have y1' : 0 ≤ G' 27 s.toNatClampNeg := by rw [f27]; exact y1
    have h2' : fnd (G' 28 s.toNatClampNeg) i n = 0 := by rw [f28, y2]; exact h2
    have eM' : fM G' s.toNatClampNeg i.toNatClampNeg = fM G s.toNatClampNeg i.toNatClampNeg := by unfold fM; rw [f29]
    have h3' : tdP (fM G' s.toNatClampNeg i.toNatClampNeg) n.toNatClampNeg := by rw [eM']; exact tdc y3 h3
    have eS : ∀ d, d ≤ n.toNatClampNeg → tS (tdN (fM G' s.toNatClampNeg i.toNatClampNeg)) d = tS (tdN (fX G s i.toNatClampNeg)) d := by
      intro d hd
      rw [eM']
      refine tS_congr d (fun e he => ?_)
      unfold tdN
      rw [y3 e (by omega)]
    have fin : ∀ {G'' : Gt} {v : Int32}, FrS (sG (sG G' 0 (upd (G' 0) 7 0)) 26 (upd ((sG G' 0 (upd (G' 0) 7 0)) 26) 1 0)) G'' → Inv G'' := fun hF' => Inv_fr hF' (Inv_st hI' 0)
    have nn : ∀ {M' R' P' : Nat}, M' ≤ 8 → R' < 8 → P' + R' < 12 → m = nI M' → r = nI R' → p = nI P' → M' = M ∧ R' = R ∧ P' = P := by
      intro M' R' P' a b c d e f
      rw [eM, nI_eq (by omega) (by omega)] at d
      rw [eR, nI_eq (by omega) (by omega)] at e
      rw [eP, nI_eq (by omega) (by omega)] at f
      exact ⟨d.symm, e.symm, f.symm⟩
    refine c_Mo_planned (L := LyB G) (G := sG G' 0 (upd (G' 0) 7 0)) h0' hLm hzm' (fun z => absurd h z) (fun _ z => absurd y1' z) (fun _ _ z => absurd h2' z) (fun _ _ _ z => absurd h3' z) (fun _ _ _ _ G'' M' R' P' hF' a1 a2 a3 a4 a5 a6 d' b1 b2 b3 b4 => ?_) (fun _ _ _ _ G'' M' R' P' hF' a1 a2 a3 a4 a5 a6 b1 => ?_)
  · obtain ⟨rfl, rfl, rfl⟩ := nn a4 a5 a6 a1 a2 a3
    have b3 : tS (tdN (fM G' s.toNatClampNeg i.toNatClampNeg)) d' ≤ _ := b3
    have b4 : _ < tS (tdN (fM G' s.toNatClampNeg i.toNatClampNeg)) (d' + 1) := b4
    rw [eS d' (by omega)] at b3
    rw [eS (d' + 1) (by omega)] at b4
    rw [tS_uniq q1 q2 b3 b4]
    exact ⟨rfl, fin (v := 0) hF'⟩
  · obtain ⟨rfl, rfl, rfl⟩ := nn a4 a5 a6 a1 a2 a3
    exfalso
    rcases b1 with b1 | b1
    · exact b1 hD
    · have b1 : tS (tdN (fM G' s.toNatClampNeg i.toNatClampNeg)) n.toNatClampNeg ≤ _ := b1
      rw [eS _ (Nat.le_refl _)] at b1
      exact tS_last hd q2 b1
  · obtain ⟨rfl, rfl, rfl⟩ := nn a4 a5 a6 a1 a2 a3
    exfalso
    rcases hno with b | b
    · exact b b2
    · have b4 : _ < tS (tdN (fM G' s.toNatClampNeg i.toNatClampNeg)) (d' + 1) := b4
      rw [eS (d' + 1) (by omega)] at b4
      exact tS_last b1 b4 b
  · exact ⟨rfl, fin (v := 0) hF'⟩
