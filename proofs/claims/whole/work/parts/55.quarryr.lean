/-! the quarry: share, read -/
theorem w_shO {X : Xt} {S : Sq} {wv : Int32} {G0 : Gt} {Q : Qt} (hS : PQ S) (hA : AQ S) (K : ∀ G, hX S wv G0 12 G → Q none G) : ∀ (z a : Nat) (q l : Int32) (G : Gt), q = nI a → a + z = 4 → l = nI (shQ S (3 * a)).2.2.2 → hX S wv G0 (3 * a) G → wp X m_Quarry_share 15 [(2, .int q), (1, .int l), (0, .ref 9)] [] G Q
  | 0, a, q, l, G, h1, hz, hl, hx => by
    subst h1
    have hs : a = 4 := by omega
    subst hs
    refine rn_wp (stops := [15, 22]) 40 ?_
    refine bi_t (by decide) ?_
    exact K G hx
  | z + 1, a, q, l, G, h1, hz, hl, hx => by
    subst h1
    refine rn_wp (stops := [15, 22]) 40 ?_
    refine bi_f (by rw [show (4 : Int32) = nI 4 from rfl, nI_leI (by omega) (by omega)]; omega) ?_
    exact w_shI hS hA (by omega) (fun G' q' l' hq' hl' hx' => w_shO hS hA K z (a + 1) q' l' G' hq' (by omega) hl' hx') 3 0 _ _ G rfl rfl hl hx
abbrev S0 (y n t : Nat → Nat) : Sq := (y, n, t, mnX y n t 8)
theorem cut_0 {y n t : Nat → Nat} (hy : tS y 4 = 100) : cutN y n t 0 ≤ 100 := by
  have nd : ∀ k, ndT n 0 k = 0 := fun k => by unfold ndT; rw [Nat.zero_testBit]; rfl
  have yl : ∀ s, ylT y t 0 s ≤ y s := fun s => by unfold ylT; split <;> omega
  have d0 := yl 0
  have d1 := yl 1
  have d2 := yl 2
  have d3 := yl 3
  have e : tS y 4 = 0 + y 0 + y 1 + y 2 + y 3 := rfl
  show (0 + ndT n 0 0 + ndT n 0 1 + ndT n 0 2) + (0 + ylT y t 0 0 + ylT y t 0 1 + ylT y t 0 2 + ylT y t 0 3) ≤ 100
  rw [nd, nd, nd]
  omega
theorem S_P {y n t : Nat → Nat} {L : Nat} (hB : BQ y n t) (hy : tS y 4 = 100) (p1 : L ≤ 100) (p2 : ∀ m, m < 8 → L ≤ cutN y n t m) (p3 : L = 100 ∨ ∃ m, m < 8 ∧ L = cutN y n t m) : PQ (y, n, t, L) ∧ AQ (y, n, t, L) := by
  refine ⟨⟨⟨hB.1, hB.2.1⟩, hB.2.2, p1, p2⟩, ?_⟩
  rcases p3 with w | ⟨m, w1, w2⟩
  · refine ⟨0, by omega, ?_⟩
    have h1 := cut_0 (n := n) (t := t) hy
    have h2 := p2 0 (by omega)
    show L = cutN y n t 0
    omega
  · exact ⟨m, w1, w2⟩
theorem S0_P {y n t : Nat → Nat} (hB : BQ y n t) (hy : tS y 4 = 100) : PQ (S0 y n t) ∧ AQ (S0 y n t) :=
  S_P hB hy (mnX_P y n t 8 (Nat.le_refl _)).1 (mnX_P y n t 8 (Nat.le_refl _)).2.1 (mnX_P y n t 8 (Nat.le_refl _)).2.2
theorem c_share {X : Xt} {y n t : Nat → Nat} {L : Nat} {G : Gt} {Q : Qt} (hq : QX G y n t) (hB : BQ y n t) (hy : tS y 4 = 100) (hL : mnX y n t 8 = L) (K : ∀ G', hX (y, n, t, L) (100 - nI L) G 12 G' → Q none G') : con X m_Quarry_share [.ref 9] G Q := by
  obtain ⟨p1, p2, p3⟩ := mnX_P y n t 8 (Nat.le_refl _)
  have hm := fun Q => @c_mostG X y n t G Q hq hB
  rw [hL] at p1 p2 p3 hm
  clear hL
  obtain ⟨hP, hA⟩ := S_P hB hy p1 p2 p3
  refine con_rn 20 [15] (by decide) rfl ?_
  refine hm _ ?_
  refine w_shO hP hA K 4 0 _ _ _ rfl rfl rfl ⟨(FrS.rf G).s rfl, hq, fun j hj => absurd hj (by omega), rfl⟩
/-- of a sort the bits of the layers below k that are allowed it -/
def tkF (x : Nat → Nat) (s : Nat) : Nat → Nat
  | 0 => 0
  | k + 1 => if (x k).testBit s = true then tkF x s k ||| 2 ^ k else tkF x s k
theorem tkF_lt {x : Nat → Nat} {s : Nat} : ∀ k, k ≤ 3 → tkF x s k < 8
  | 0, _ => by unfold tkF; omega
  | k + 1, hk => by
    have := tkF_lt (x := x) (s := s) k (by omega)
    unfold tkF
    split
    · exact (tor _ this k (by omega)).2
    · exact this
theorem w_admit {X : Xt} {k V : Nat} {τ : Nat → Nat} {G0 : Gt} {Q : Qt} (hk : k < 3) (hV : V ≤ 15) (hτ : ∀ s, s < 4 → τ s < 8) (K : ∀ g : Nat → Int32, (∀ s, s < 4 → g s = nI (if V.testBit s = true then τ s ||| 2 ^ k else τ s)) → Q none (sG G0 12 g)) : ∀ (z s : Nat) (q : Int32) (g : Nat → Int32), q = nI s → s + z = 4 → (∀ j, j < s → g j = nI (if V.testBit j = true then τ j ||| 2 ^ k else τ j)) → (∀ j, s ≤ j → j < 4 → g j = nI (τ j)) → wp X m_Quarry_admit 2 [(3, .int q), (0, .ref 9), (1, .int (nI k)), (2, .int (nI V))] [] (sG G0 12 g) Q
  | 0, s, q, g, h1, hz, h2, h3 => by
    subst h1
    have hs : s = 4 := by omega
    subst hs
    refine rn_wp (stops := [2]) 40 ?_
    refine bi_t (by decide) ?_
    exact K g h2
  | z + 1, s, q, g, h1, hz, h2, h3 => by
    subst h1
    refine rn_wp (stops := [2]) 40 ?_
    refine bi_f (by rw [show (4 : Int32) = nI 4 from rfl, nI_leI (by omega) (by omega)]; omega) ?_
    refine bj (fun h => ?_) (fun h => ?_)
    · rw [bitN_1 (by omega) (by omega)] at h
      refine w_admit hk hV hτ K z (s + 1) _ g (nI_1 _) (by omega) (fun j hj => ?_) (fun j hj hj2 => h3 j (by omega) hj2)
      by_cases e : j = s
      · rw [e, if_neg h]
        exact h3 s (by omega) (by omega)
      · exact h2 j (by omega)
    · rw [bitN_1 (by omega) (by omega)] at h
      refine vi (vp_in_nI (by omega) (by omega)) ?_
      refine vi (vp_in_nI (by omega) (by omega)) ?_
      rw [nI_clamp (by omega)]
      have hw := w_admit (X := X) hk hV hτ K z (s + 1) _ (upd g s (g s ||| (1 : Int32) <<< (nI k &&& 31))) (nI_1 s) (by omega) (fun j hj => by
        by_cases e : j = s
        · subst e
          rw [pk_us, if_pos h, h3 j (by omega) (by omega), (tor _ (hτ j (by omega)) k hk).1]
        · rw [pk_un e]
          exact h2 j (by omega)) (fun j hj hj2 => by
        rw [pk_un (by omega)]
        exact h3 j (by omega) hj2)
      rw [← sG_sG G0 12 g] at hw
      exact hw
theorem c_admit {X : Xt} {k V : Nat} {τ : Nat → Nat} {G : Gt} {Q : Qt} (hk : k < 3) (hV : V ≤ 15) (hτ : ∀ s, s < 4 → τ s < 8) (h12 : ∀ s, s < 4 → G 12 s = nI (τ s)) (K : ∀ g : Nat → Int32, (∀ s, s < 4 → g s = nI (if V.testBit s = true then τ s ||| 2 ^ k else τ s)) → Q none (sG G 12 g)) {x : Int32} (hx : x = nI V) : con X m_Quarry_admit [.ref 9, .int (nI k), .int x] G Q := by
  subst hx
  refine con_rn 10 [2] (by decide) rfl ?_
  have hw := w_admit (X := X) hk hV hτ K 4 0 _ (G 12) rfl rfl (fun j hj => absurd hj (by omega)) (fun j _ hj => h12 j hj)
  rw [sG_id] at hw
  exact hw
/-- ten items, as they may be -/
abbrev rdP (f : Nat → Int32) : Prop := ((∀ j, j < 7 → 0 ≤ f j ∧ f j ≤ 100) ∧ ∀ j, j < 3 → 0 ≤ f (7 + j) ∧ f (7 + j) ≤ 15) ∧ tS (tdN f) 4 = 100
abbrev yF (f : Nat → Int32) : Nat → Nat := tdN f
abbrev nF (f : Nat → Int32) : Nat → Nat := fun k => tdN f (4 + k)
abbrev tF (f : Nat → Int32) : Nat → Nat := fun s => tkF (fun k => tdN f (7 + k)) s 3
theorem td_I {f : Nat → Int32} {j : Nat} {B : Nat} {b : Int32} (hb : b.toInt = B) (h : 0 ≤ f j ∧ f j ≤ b) : f j = nI (tdN f j) ∧ tdN f j ≤ B := by
  obtain ⟨e, e1, -⟩ := toN h.1
  have h2 := le32.mp h.2
  unfold tdN
  exact ⟨e, by omega⟩
abbrev rdL (s : Int32) (I : Nat) : Lt := [(5, .int (nI (I + 7))), (4, .int (nI (I + 4))), (0, .ref 9), (1, .ref 1), (2, .int s), (3, .int (nI I))]
set_option maxRecDepth 4000 in
theorem w_rd2 {X : Xt} {s : Int32} {I : Nat} {W : Int32} {f : Nat → Int32} {G0 : Gt} {Q : Qt} (hs : 0 ≤ s ∧ s ≤ 7) (hI : I + 10 ≤ 100) (hf : fX G0 s I = f) (h1 : ∀ j, j < 7 → 0 ≤ f j ∧ f j ≤ 100) (h2 : ∀ j, j < 3 → 0 ≤ f (7 + j) ∧ f (7 + j) ≤ 15) (K : ∀ G, FrS G0 G → QX G (yF f) (nF f) (tF f) → wp X m_Quarry_read 141 [(6, .int W)] [] G Q) : ∀ (z k : Nat) (q : Int32) (G : Gt), q = nI k → k + z = 3 → FrS G0 G → (∀ s, s < 4 → G 10 s = nI (yF f s)) → (∀ j, j < k → G 11 j = nI (nF f j)) → (∀ s, s < 4 → G 12 s = nI (tkF (fun k => tdN f (7 + k)) s k)) → wp X m_Quarry_read 96 ((7, .int q) :: (6, .int W) :: rdL s I) [] G Q
  | 0, k, q, G, hq, hz, hF, a1, a2, a3 => by
    subst hq
    have hk : k = 3 := by omega
    subst hk
    refine rn_wp (stops := [96, 141]) 60 ?_
    refine bi_t (by decide) ?_
    exact wp_pick [1] (K G hF ⟨a1, a2, a3⟩)
  | z + 1, k, q, G, hq, hz, hF, a1, a2, a3 => by
    subst hq
    have e2 : G 2 = G0 2 := hF.1 2 rfl (by decide)
    have ef : ∀ j, G 2 (100 * s.toNatClampNeg + (I + j)) = f j := by
      intro j
      rw [e2, ← hf]
    refine rn_wp (stops := [96, 141]) 60 ?_
    refine bi_f (by rw [show (3 : Int32) = nI 3 from rfl, nI_leI (by omega) (by omega)]; omega) ?_
    refine c_itemN (j := I + (4 + k)) hs (by rw [nI_add, Nat.add_assoc]) (by omega) ?_
    rw [ef]
    refine vi (vp_in_nI (by omega) (by omega)) ?_
    rw [nI_clamp (by omega)]
    refine c_itemN (j := I + (7 + k)) hs (by rw [nI_add, Nat.add_assoc]) (by omega) ?_
    have eV : (sG G 11 (upd (G 11) k (f (4 + k)))) 2 (100 * s.toNatClampNeg + (I + (7 + k))) = nI (tdN f (7 + k)) := (ef (7 + k)).trans (td_I (B := 15) rfl (h2 k (by omega))).1
    refine c_admit (G := sG G 11 (upd (G 11) k (f (4 + k)))) (V := tdN f (7 + k)) (τ := fun s => tkF (fun k => tdN f (7 + k)) s k) (by omega) (td_I (B := 15) rfl (h2 k (by omega))).2 (fun s _ => tkF_lt k (by omega)) a3 (fun g hg => ?_) eV
    refine w_rd2 hs hI hf h1 h2 K z (k + 1) _ _ (nI_1 _) (by omega) ((hF.s (p := 11) rfl).s (p := 12) rfl) a1 (fun j hj => ?_) (fun s' hs' => ?_)
    · show upd (G 11) k (f (4 + k)) j = _
      by_cases e : j = k
      · subst e
        rw [pk_us]
        exact (td_I (B := 100) rfl (h1 (4 + j) (by omega))).1
      · rw [pk_un e]
        exact a2 j (by omega)
    · show g s' = _
      rw [hg s' hs']
      rfl
set_option maxRecDepth 4000 in
theorem w_rd1 {X : Xt} {s : Int32} {I : Nat} {f : Nat → Int32} {G0 : Gt} {Q : Qt} (hs : 0 ≤ s ∧ s ≤ 7) (hI : I + 10 ≤ 100) (hf : fX G0 s I = f) (h1 : ∀ j, j < 7 → 0 ≤ f j ∧ f j ≤ 100) (h2 : ∀ j, j < 3 → 0 ≤ f (7 + j) ∧ f (7 + j) ≤ 15) (K : ∀ G, FrS G0 G → QX G (yF f) (nF f) (tF f) → wp X m_Quarry_read 141 [(6, .int (nI (tS (tdN f) 4)))] [] G Q) : ∀ (z k : Nat) (q l : Int32) (G : Gt), q = nI k → k + z = 4 → l = nI (tS (tdN f) k) → FrS G0 G → (∀ s, s < k → G 10 s = nI (yF f s)) → (∀ s, s < k → G 12 s = nI 0) → wp X m_Quarry_read 45 ((7, .int q) :: (6, .int l) :: rdL s I) [] G Q
  | 0, k, q, l, G, hq, hz, hl, hF, a1, a3 => by
    subst hq
    have hk : k = 4 := by omega
    subst hk
    subst hl
    refine rn_wp (stops := [45, 96]) 60 ?_
    refine bi_t (by decide) ?_
    exact w_rd2 hs hI hf h1 h2 K 3 0 _ G rfl rfl hF a1 (fun j hj => absurd hj (by omega)) a3
  | z + 1, k, q, l, G, hq, hz, hl, hF, a1, a3 => by
    subst hq
    have e2 : G 2 = G0 2 := hF.1 2 rfl (by decide)
    have ef : G 2 (100 * s.toNatClampNeg + (I + k)) = f k := by
      rw [e2, ← hf]
    have hk := td_I (B := 100) rfl (h1 k (by omega))
    refine rn_wp (stops := [45, 96]) 60 ?_
    refine bi_f (by rw [show (4 : Int32) = nI 4 from rfl, nI_leI (by omega) (by omega)]; omega) ?_
    refine c_itemN (j := I + k) hs (nI_add I k) (by omega) ?_
    rw [ef]
    refine vi (vp_in_nI (by omega) (by omega)) ?_
    refine vi (vp_in_nI (by omega) (by omega)) ?_
    refine vi (vp_in_nI (by omega) (by omega)) ?_
    rw [nI_clamp (by omega)]
    refine w_rd1 hs hI hf h1 h2 K z (k + 1) _ _ _ (nI_1 _) (by omega) ?_ ((hF.s (p := 10) rfl).s (p := 12) rfl) (fun j hj => ?_) (fun j hj => ?_)
    · show l + upd (G 10) k (f k) k = _
      rw [pk_us, hl]
      rw [hk.1, nI_add]
      rfl
    · show upd (G 10) k (f k) j = _
      by_cases e : j = k
      · subst e
        rw [pk_us]
        exact hk.1
      · rw [pk_un e]
        exact a1 j (by omega)
    · show upd (G 12) k 0 j = _
      by_cases e : j = k
      · subst e
        rw [pk_us]
        rfl
      · rw [pk_un e]
        exact a3 j (by omega)
set_option maxRecDepth 4000 in
theorem c_qread {X : Xt} {s : Int32} {I : Nat} {G : Gt} {Q : Qt} (hs : 0 ≤ s ∧ s ≤ 7) (hI : I + 10 ≤ 100) (K1 : ¬ rdP (fX G s I) → ∀ G', FrS G G' → Q (some (.int 0)) G') (K2 : rdP (fX G s I) → ∀ G', FrS G G' → QX G' (yF (fX G s I)) (nF (fX G s I)) (tF (fX G s I)) → Q (some (.int 1)) G') : con X m_Quarry_read [.ref 9, .ref 1, .int s, .int (nI I)] G Q := by
  have e4 : nI I + 4 = nI (I + 4) := by rw [show (4 : Int32) = nI 4 from rfl, nI_add]
  have e7 : nI I + 4 + 3 = nI (I + 7) := by rw [e4, show (3 : Int32) = nI 3 from rfl, nI_add]
  refine con_rn 40 [45] (by decide) rfl ?_
  refine c_areWithin hs (nI_pos' (by omega)) (by decide) (by rw [nI_toInt (by omega)]; show (I : Int) + 7 ≤ 100; omega) (fun h1 => ?_) (fun h1 => ?_)
  · rw [nI_clamp (by omega)] at h1
    have h1 : ∀ j, j < 7 → 0 ≤ fX G s I j ∧ fX G s I j ≤ 100 := h1
    refine bi_f (by decide) ?_
    refine c_areWithin hs (by rw [e7]; exact nI_pos' (by omega)) (by decide) (by rw [e7, nI_toInt (by omega)]; show ((I + 7 : Nat) : Int) + 3 ≤ 100; omega) (fun h2 => ?_) (fun h2 => ?_)
    · rw [e7, nI_clamp (by omega)] at h2
      have h2 : ∀ j, j < 3 → 0 ≤ fX G s I (7 + j) ∧ fX G s I (7 + j) ≤ 15 := by
        intro j hj
        have := h2 j hj
        rw [Nat.add_assoc] at this
        exact this
      refine bj_f (by decide) ?_
      rw [e7, e4]
      refine w_rd1 hs hI rfl h1 h2 (fun G' hF hq => ?_) 4 0 _ _ _ rfl rfl rfl (FrS.rf G) (fun j hj => absurd hj (by omega)) (fun j hj => absurd hj (by omega))
      have hb : tS (tdN (fX G s I)) 4 ≤ 700 := by
        have a0 := (td_I (B := 100) rfl (h1 0 (by omega))).2
        have a1 := (td_I (B := 100) rfl (h1 1 (by omega))).2
        have a2 := (td_I (B := 100) rfl (h1 2 (by omega))).2
        have a3 := (td_I (B := 100) rfl (h1 3 (by omega))).2
        show 0 + tdN (fX G s I) 0 + tdN (fX G s I) 1 + tdN (fX G s I) 2 + tdN (fX G s I) 3 ≤ 700
        omega
      refine rn_wp (stops := []) 10 ?_
      refine bj (fun h => ?_) (fun h => ?_)
      · rw [show (100 : Int32) = nI 100 from rfl, nI_eq (by omega) (by omega)] at h
        exact ni rfl (K1 (fun w => h w.2) G' hF)
      · rw [show (100 : Int32) = nI 100 from rfl, nI_eq (by omega) (by omega)] at h
        exact ni rfl (K2 ⟨⟨h1, h2⟩, h⟩ G' hF hq)
    · refine bj_t rfl ?_
      refine ni rfl (K1 (fun w => h2 (fun j hj => ?_)) G (FrS.rf G))
      rw [e7, nI_clamp (by omega), Nat.add_assoc]
      exact w.1.2 j hj
  · refine bi_t rfl ?_
    refine ni rfl (K1 (fun w => h1 (fun j hj => ?_)) G (FrS.rf G))
    rw [nI_clamp (by omega)]
    exact w.1.1 j hj
