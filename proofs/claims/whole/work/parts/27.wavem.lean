/-! the model's sum of images -/
set_option maxRecDepth 4000 in
theorem w_Mbnc {X : Xt} {w h b s x y i j : Int32} {k N : Nat} {t : Int64} {G : Gt} {Q : Qt} (hN : N ≤ 100) (hn : 2 * abI i + 2 * abI j = nI N) (K : wp X m_Mo_waveAt 68 ((11, .int (bnc b s N)) :: (10, .int j) :: (9, .int i) :: (7, .long t) :: wL w h b s x y k) [] G Q) : ∀ (m q : Nat) (c v : Int32), c = nI q → q + m = N → v = bnc b s q → wp X m_Mo_waveAt 33 ((12, .int c) :: (11, .int v) :: (10, .int j) :: (9, .int i) :: (7, .long t) :: wL w h b s x y k) [] G Q
  | 0, q, c, v, hc, hq, hv => by
    subst hc
    have hq : q = N := by omega
    subst hq
    subst hv
    refine rn_wp (stops := [33, 68]) 80 ?_
    refine c_size ?_
    refine c_size ?_
    refine bi (fun g => ?_) (fun g => ?_)
    · exact wp_pick [1, 2, 3, 4, 5, 6, 7, 8, 9, 10, 11] K
    · exact absurd (by rw [hn]; exact Int32.le_refl _) g
  | m + 1, q, c, v, hc, hq, hv => by
    subst hc
    refine rn_wp (stops := [33, 68]) 80 ?_
    refine c_size ?_
    refine c_size ?_
    refine bi (fun g => ?_) (fun g => ?_)
    · exfalso
      rw [hn] at g
      simp (disch := omega) only [nI_1, nI_add, nI_clamp, nI_leI, nI_ltI, nI_eq, nI_toInt] at g
      omega
    · refine zi (by decide) ?_
      refine wp_pick [0, 1, 2, 3, 4, 5, 6, 7, 8, 9, 10, 11] (w_Mbnc hN hn K m (q + 1) _ _ (nI_1 _) (by omega) ?_)
      rw [hv]
      rfl
set_option maxRecDepth 4000 in
theorem w_Minr {X : Xt} {w h b s x y : Int32} {k a : Nat} {acc : Int64} {G : Gt} {Q : Qt} (hk : k ≤ 4) (ha : a ≤ 2 * k) (hw : 1 ≤ w ∧ w ≤ 50) (hh : 1 ≤ h ∧ h ≤ 50) (hx : 0 ≤ x ∧ x ≤ 50) (hy : 0 ≤ y ∧ y ≤ 50) (K : wp X m_Mo_waveAt 110 ((9, .int (nI a - nI k)) :: (7, .long (inr w h b s x y k a acc (2 * k + 1))) :: wL w h b s x y k) [] G Q) : ∀ (m c : Nat) (j : Int32) (t : Int64), j = nI c - nI k → c + m = 2 * k + 1 → t = inr w h b s x y k a acc c → wp X m_Mo_waveAt 20 ((10, .int j) :: (9, .int (nI a - nI k)) :: (7, .long t) :: wL w h b s x y k) [] G Q
  | 0, c, j, t, hj, hc, ht => by
    subst hj
    subst ht
    have hc : c = 2 * k + 1 := by omega
    subst hc
    refine rn_wp (stops := [20, 33, 110]) 80 ?_
    refine bi (fun g => ?_) (fun g => ?_)
    · exact wp_pick [1, 2, 3, 4, 5, 6, 7, 8, 9] K
    · exact absurd ((nk_gt hk (by omega)).mpr (by omega)) g
  | m + 1, c, j, t, hj, hc, ht => by
    subst hj
    have hb := bN_eq (k := k) (a := a) (c := c) hk (by omega) (by omega)
    have hd := fr_div (k := k) (a := a) (c := c) (w := w) (h := h) (x := x) (y := y) hk ha (by omega) hw hh hx hy
    rw [← Int32.add_assoc] at hd
    refine rn_wp (stops := [20, 33, 110]) 80 ?_
    refine bi (fun g => ?_) (fun g => ?_)
    · have := (nk_gt hk (by omega)).mp g
      omega
    · refine w_Mbnc hb.2 hb.1 ?_ (bN k a c) 0 _ _ rfl (by omega) rfl
      refine rn_wp (stops := [20]) 60 ?_
      refine c_size ?_
      refine c_size ?_
      refine zi hd ?_
      refine wp_pick [0, 3, 1, 4, 5, 6, 7, 8, 9, 10] (w_Minr hk ha hw hh hx hy K m (c + 1) _ _ (nk_step k c) (by omega) ?_)
      rw [ht, inr, wt, ← Int32.add_assoc]
      rfl
theorem w_Motr {X : Xt} {w h b s x y : Int32} {k : Nat} {G : Gt} {Q : Qt} (hk : k ≤ 4) (hw : 1 ≤ w ∧ w ≤ 50) (hh : 1 ≤ h ∧ h ≤ 50) (hx : 0 ≤ x ∧ x ≤ 50) (hy : 0 ≤ y ∧ y ≤ 50) (K : Q (some (.long (otr w h b s x y k (2 * k + 1)))) G) : ∀ (m a : Nat) (i : Int32) (t : Int64), i = nI a - nI k → a + m = 2 * k + 1 → t = otr w h b s x y k a → wp X m_Mo_waveAt 8 ((9, .int i) :: (7, .long t) :: wL w h b s x y k) [] G Q
  | 0, a, i, t, hi, ha, ht => by
    subst hi
    subst ht
    have ha : a = 2 * k + 1 := by omega
    subst ha
    refine rn_wp (stops := [8, 20]) 80 ?_
    refine bi (fun g => ?_) (fun g => ?_)
    · exact K
    · exact absurd ((nk_gt hk (by omega)).mpr (by omega)) g
  | m + 1, a, i, t, hi, ha, ht => by
    subst hi
    refine rn_wp (stops := [8, 20]) 80 ?_
    refine bi (fun g => ?_) (fun g => ?_)
    · have := (nk_gt hk (by omega)).mp g
      omega
    · refine w_Minr (acc := t) hk (by omega) hw hh hx hy ?_ (2 * k + 1) 0 _ _ ?_ (by omega) rfl
      · refine rn_wp (stops := [8, 20]) 20 ?_
        refine w_Motr hk hw hh hx hy K m (a + 1) _ _ (nk_step k a) (by omega) ?_
        rw [ht]
        rfl
      · rw [nI_0, Int32.zero_sub]
theorem c_waveAt {X : Xt} {w h b s x y : Int32} {k : Nat} {G : Gt} {Q : Qt} (hk : k ≤ 4) (hw : 1 ≤ w ∧ w ≤ 50) (hh : 1 ≤ h ∧ h ≤ 50) (hx : 0 ≤ x ∧ x ≤ 50) (hy : 0 ≤ y ∧ y ≤ 50) (K : Q (some (.long (otr w h b s x y k (2 * k + 1)))) G) : con X m_Mo_waveAt [.int w, .int h, .int b, .int s, .int (nI k), .int x, .int y] G Q := by
  refine con_rn 10 [8] (by decide) rfl ?_
  exact w_Motr hk hw hh hx hy K (2 * k + 1) 0 _ _ (by rw [nI_0, Int32.zero_sub]) (by omega) rfl
