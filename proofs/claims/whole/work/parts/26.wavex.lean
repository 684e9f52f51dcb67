/-! the class's sum of images -/
def inr (w h b s x y : Int32) (k a : Nat) (acc : Int64) : Nat → Int64
  | 0 => acc
  | c + 1 => inr w h b s x y k a acc c + (wt w h b s x y k a c (bN k a c)).toInt64
def otr (w h b s x y : Int32) (k : Nat) : Nat → Int64
  | 0 => 0
  | a + 1 => inr w h b s x y k a (otr w h b s x y k a) (2 * k + 1)
theorem c_bnc {X : Xt} {v b n : Int32} {N : Nat} {G : Gt} {Q : Qt} (hN : N ≤ 100) (hn : n = nI N) (K : Q (some (.int (bnc b v N))) G) : con X m_Harbour_bounced [.int v, .int b, .int n] G Q := by
  subst hn
  exact c_bounced hN K
theorem nk_step (k a : Nat) : nI a - nI k + 1 = nI (a + 1) - nI k := by
  rw [← nI_1, Int32.sub_eq_add_neg, Int32.sub_eq_add_neg, Int32.add_assoc, Int32.add_assoc, Int32.add_comm (-nI k) 1]
theorem nk_gt {k a : Nat} (hk : k ≤ 4) (ha : a ≤ 9) : nI k < nI a - nI k ↔ 2 * k < a := by
  rw [lt32, ik_toInt hk ha, nI_toInt (by omega)]
  omega
abbrev wL (w h b s x y : Int32) (k : Nat) : Lt := [(0, .int w), (1, .int h), (2, .int b), (3, .int s), (4, .int (nI k)), (5, .int x), (6, .int y)]
set_option maxRecDepth 4000 in
theorem w_inr {X : Xt} {w h b s x y : Int32} {k a : Nat} {acc : Int64} {G : Gt} {Q : Qt} (hk : k ≤ 4) (ha : a ≤ 2 * k) (hw : 1 ≤ w ∧ w ≤ 50) (hh : 1 ≤ h ∧ h ≤ 50) (hx : 0 ≤ x ∧ x ≤ 50) (hy : 0 ≤ y ∧ y ≤ 50) (K : wp X m_Harbour_comesTo 91 ((9, .int (nI a - nI k)) :: (7, .long (inr w h b s x y k a acc (2 * k + 1))) :: wL w h b s x y k) [] G Q) : ∀ (m c : Nat) (j : Int32) (t : Int64), j = nI c - nI k → c + m = 2 * k + 1 → t = inr w h b s x y k a acc c → wp X m_Harbour_comesTo 20 ((10, .int j) :: (9, .int (nI a - nI k)) :: (7, .long t) :: wL w h b s x y k) [] G Q
  | 0, c, j, t, hj, hc, ht => by
    subst hj
    subst ht
    have hc : c = 2 * k + 1 := by omega
    subst hc
    refine rn_wp (stops := [20, 91]) 80 ?_
    refine bi (fun g => ?_) (fun g => ?_)
    · exact wp_pick [1, 2, 3, 4, 5, 6, 7, 8, 9] K
    · exact absurd ((nk_gt hk (by omega)).mpr (by omega)) g
  | m + 1, c, j, t, hj, hc, ht => by
    subst hj
    have hb := bN_eq (k := k) (a := a) (c := c) hk (by omega) (by omega)
    have hd := fr_div (k := k) (a := a) (c := c) (w := w) (h := h) (x := x) (y := y) hk ha (by omega) hw hh hx hy
    refine rn_wp (stops := [20, 91]) 80 ?_
    refine bi (fun g => ?_) (fun g => ?_)
    · have := (nk_gt hk (by omega)).mp g
      omega
    · refine c_bnc hb.2 hb.1 ?_
      refine zi hd ?_
      refine wp_pick [0, 3, 1, 4, 5, 6, 7, 8, 9, 10] (w_inr hk ha hw hh hx hy K m (c + 1) _ _ (nk_step k c) (by omega) ?_)
      rw [ht]
      rfl
theorem w_otr {X : Xt} {w h b s x y : Int32} {k : Nat} {G : Gt} {Q : Qt} (hk : k ≤ 4) (hw : 1 ≤ w ∧ w ≤ 50) (hh : 1 ≤ h ∧ h ≤ 50) (hx : 0 ≤ x ∧ x ≤ 50) (hy : 0 ≤ y ∧ y ≤ 50) (K : Q (some (.long (otr w h b s x y k (2 * k + 1)))) G) : ∀ (m a : Nat) (i : Int32) (t : Int64), i = nI a - nI k → a + m = 2 * k + 1 → t = otr w h b s x y k a → wp X m_Harbour_comesTo 8 ((9, .int i) :: (7, .long t) :: wL w h b s x y k) [] G Q
  | 0, a, i, t, hi, ha, ht => by
    subst hi
    subst ht
    have ha : a = 2 * k + 1 := by omega
    subst ha
    refine rn_wp (stops := [8, 20]) 80 ?_
    refine bi (fun g => ?_) (fun g => ?_)
    · exact K
    · exact absurd ((nk_gt hk (by omega)).mpr (by omega)) g
  | m + 1, a, i, t, hi, ha, ht => by
    subst hi
    refine rn_wp (stops := [8, 20]) 80 ?_
    refine bi (fun g => ?_) (fun g => ?_)
    · have := (nk_gt hk (by omega)).mp g
      omega
    · refine w_inr (acc := t) hk (by omega) hw hh hx hy ?_ (2 * k + 1) 0 _ _ ?_ (by omega) rfl
      · refine rn_wp (stops := [8, 20]) 20 ?_
        refine w_otr hk hw hh hx hy K m (a + 1) _ _ (nk_step k a) (by omega) ?_
        rw [ht]
        rfl
      · rw [nI_0, Int32.zero_sub]
theorem c_comesTo {X : Xt} {w h b s x y : Int32} {k : Nat} {G : Gt} {Q : Qt} (hk : k ≤ 4) (hw : 1 ≤ w ∧ w ≤ 50) (hh : 1 ≤ h ∧ h ≤ 50) (hx : 0 ≤ x ∧ x ≤ 50) (hy : 0 ≤ y ∧ y ≤ 50) (K : Q (some (.long (otr w h b s x y k (2 * k + 1)))) G) : con X m_Harbour_comesTo [.int w, .int h, .int b, .int s, .int (nI k), .int x, .int y] G Q := by
  refine con_rn 10 [8] (by decide) rfl ?_
  exact w_otr hk hw hh hx hy K (2 * k + 1) 0 _ _ (by rw [nI_0, Int32.zero_sub]) (by omega) rfl
