/-! hours: what both sides say of a storm -/
def hv (w d sl : Int32) : Int32 := if 30 < w * 100 / (d * sl + 10) then (w * 100 / (d * sl + 10) - 30) * (w * 100 / (d * sl + 10) - 30) / 10 else 0
def ovv (w l cr : Int32) : Int32 := if 0 < w * 2 - 10 * (cr - l) then (w * 2 - 10 * (cr - l)) * (w * 2 - 10 * (cr - l)) / 100 else 0
def rngI (x : Int32) (a b : Int32) : Prop := a ≤ x ∧ x ≤ b
theorem rng_N {x b : Int32} {B : Nat} (hb : b.toInt = B) (h : 0 ≤ x ∧ x ≤ b) : ∃ k : Nat, k ≤ B ∧ x = nI k := by
  obtain ⟨e, e1, -⟩ := toN h.1
  have h1 := le32.mp h.2
  exact ⟨_, by omega, e⟩
theorem hv_c {w d sl : Int32} (hw : 0 ≤ w ∧ w ≤ 200) (hd : 0 ≤ d ∧ d ≤ 40) (hs : 0 ≤ sl ∧ sl ≤ 60) : ¬ d * sl + 10 = 0 ∧ (w * 100 / (d * sl + 10) - 30 ≤ 0 ↔ ¬ 30 < w * 100 / (d * sl + 10)) := by
  obtain ⟨W, hW, rfl⟩ := rng_N (B := 200) rfl hw
  obtain ⟨D, hD, rfl⟩ := rng_N (B := 40) rfl hd
  obtain ⟨S, hS, rfl⟩ := rng_N (B := 60) rfl hs
  have hm : D * S ≤ 40 * 60 := Nat.mul_le_mul hD hS
  have e1 : nI D * nI S + 10 = nI (D * S + 10) := by rw [show (10 : Int32) = nI 10 from rfl, pk_mul, nI_add]
  have e2 : nI W * 100 / nI (D * S + 10) = nI (W * 100 / (D * S + 10)) := by
    rw [show (100 : Int32) = nI 100 from rfl, pk_mul, pk_div (by omega) (by omega) (by omega)]
  rw [e1, e2]
  have hV : W * 100 / (D * S + 10) ≤ W * 100 := Nat.div_le_self _ _
  generalize W * 100 / (D * S + 10) = V at *
  refine ⟨nI_ne0 (by omega) (by omega), ?_⟩
  rw [show (30 : Int32) = nI 30 from rfl, nI_ltI (by omega) (by omega), le32, pk_sub_toInt (by omega) (by omega)]
  simp
  omega
theorem hv_0 {w d sl : Int32} (h : ¬ 30 < w * 100 / (d * sl + 10)) : hv w d sl = 0 := if_neg h
theorem hv_1 {w d sl : Int32} (h : 30 < w * 100 / (d * sl + 10)) : hv w d sl = (w * 100 / (d * sl + 10) - 30) * (w * 100 / (d * sl + 10) - 30) / 10 := if_pos h
theorem ovv_0 {w l cr : Int32} (h : ¬ 0 < w * 2 - 10 * (cr - l)) : ovv w l cr = 0 := if_neg h
theorem ovv_1 {w l cr : Int32} (h : 0 < w * 2 - 10 * (cr - l)) : ovv w l cr = (w * 2 - 10 * (cr - l)) * (w * 2 - 10 * (cr - l)) / 100 := if_pos h
set_option maxRecDepth 4000 in
theorem w_harm {X : Xt} {d sl : Int32} {N : Nat} {G : Gt} {Q : Qt} (hN : N ≤ 48) (hh : G 18 2 = nI N) (hw : ∀ k, k < N → 0 ≤ G 19 k ∧ G 19 k ≤ 200) (hd : 0 ≤ d ∧ d ≤ 40) (hs : 0 ≤ sl ∧ sl ≤ 60) (K : Q (some (.int (sI (fun k => hv (G 19 k) d sl) N))) G) : ∀ (m k : Nat) (c t : Int32), c = nI k → k + m = N → t = sI (fun k => hv (G 19 k) d sl) k → wp X m_Hours_harm 5 [(4, .int c), (3, .int t), (0, .ref 18), (1, .int d), (2, .int sl)] [] G Q
  | 0, k, c, t, hc, hk, ht => by
    subst hc
    have hk : k = N := by omega
    subst hk
    refine rn_wp (stops := [5]) 60 ?_
    refine bi_t (by rw [hh]; exact Int32.le_refl _) ?_
    exact Qi K ht
  | m + 1, k, c, t, hc, hk, ht => by
    subst hc
    refine rn_wp (stops := [5]) 60 ?_
    refine bi_f (by rw [hh]; simp (disch := omega) only [nI_1, nI_add, nI_clamp, nI_leI, nI_ltI, nI_eq, nI_toInt]; omega) ?_
    refine vi (vp_in_nI (by omega) (by omega)) ?_
    rw [nI_clamp (by omega)]
    obtain ⟨g1, g2⟩ := hv_c (hw k (by omega)) hd hs
    refine zi g1 ?_
    refine bi (fun h => ?_) (fun h => ?_)
    · refine wp_pick [0, 2, 3, 4, 5] (w_harm hN hh hw hd hs K m (k + 1) _ _ (nI_1 _) (by omega) ?_)
      rw [ht, sI, hv_0 (g2.mp h), Int32.add_zero]
    · refine zi (by decide) ?_
      refine wp_pick [0, 1, 3, 4, 5] (w_harm hN hh hw hd hs K m (k + 1) _ _ (nI_1 _) (by omega) ?_)
      rw [ht, sI, hv_1 (Decidable.byContradiction fun z => h (g2.mpr z))]
theorem c_harm {X : Xt} {d sl : Int32} {N : Nat} {G : Gt} {Q : Qt} (hN : N ≤ 48) (hh : G 18 2 = nI N) (hw : ∀ k, k < N → 0 ≤ G 19 k ∧ G 19 k ≤ 200) (hd : 0 ≤ d ∧ d ≤ 40) (hs : 0 ≤ sl ∧ sl ≤ 60) (K : Q (some (.int (sI (fun k => hv (G 19 k) d sl) N))) G) : con X m_Hours_harm [.ref 18, .int d, .int sl] G Q := by
  refine con_rn 10 [5] (by decide) rfl ?_
  exact w_harm hN hh hw hd hs K N 0 _ _ rfl (by omega) rfl
set_option maxRecDepth 4000 in
theorem w_over {X : Xt} {cr : Int32} {N : Nat} {G : Gt} {Q : Qt} (hN : N ≤ 48) (hh : G 18 2 = nI N) (K : Q (some (.int (sI (fun k => ovv (G 19 k) (G 20 k) cr) N))) G) : ∀ (m k : Nat) (c t : Int32), c = nI k → k + m = N → t = sI (fun k => ovv (G 19 k) (G 20 k) cr) k → wp X m_Hours_over 4 [(3, .int c), (2, .int t), (0, .ref 18), (1, .int cr)] [] G Q
  | 0, k, c, t, hc, hk, ht => by
    subst hc
    have hk : k = N := by omega
    subst hk
    refine rn_wp (stops := [4]) 60 ?_
    refine bi_t (by rw [hh]; exact Int32.le_refl _) ?_
    exact Qi K ht
  | m + 1, k, c, t, hc, hk, ht => by
    subst hc
    refine rn_wp (stops := [4]) 60 ?_
    refine bi_f (by rw [hh]; simp (disch := omega) only [nI_1, nI_add, nI_clamp, nI_leI, nI_ltI, nI_eq, nI_toInt]; omega) ?_
    refine vi (vp_in_nI (by omega) (by omega)) ?_
    refine vi (vp_in_nI (by omega) (by omega)) ?_
    rw [nI_clamp (by omega)]
    refine bi (fun h => ?_) (fun h => ?_)
    · refine wp_pick [0, 2, 3, 4] (w_over hN hh K m (k + 1) _ _ (nI_1 _) (by omega) ?_)
      rw [ht, sI, ovv_0 (Int32.not_lt.mpr h), Int32.add_zero]
    · refine zi (by decide) ?_
      refine wp_pick [0, 1, 3, 4] (w_over hN hh K m (k + 1) _ _ (nI_1 _) (by omega) ?_)
      rw [ht, sI, ovv_1 (Int32.not_le.mp h)]
theorem c_over {X : Xt} {cr : Int32} {N : Nat} {G : Gt} {Q : Qt} (hN : N ≤ 48) (hh : G 18 2 = nI N) (K : Q (some (.int (sI (fun k => ovv (G 19 k) (G 20 k) cr) N))) G) : con X m_Hours_over [.ref 18, .int cr] G Q := by
  refine con_rn 10 [4] (by decide) rfl ?_
  exact w_over hN hh K N 0 _ _ rfl (by omega) rfl
theorem twoA (A k : Nat) : nI A + 2 * nI k = nI (A + 2 * k) := two_at A k
set_option maxRecDepth 4000 in
theorem w_harmBy {X : Xt} {d : Int32} {A N : Nat} {G : Gt} {Q : Qt} (hN : A + 2 * N ≤ 800) (hw : ∀ k, k < N → 0 ≤ G 29 (A + 2 * k) ∧ G 29 (A + 2 * k) ≤ 200) (hd : 0 ≤ d ∧ d ≤ 40) (hs : 0 ≤ G 30 2 ∧ G 30 2 ≤ 60) (K : Q (some (.int (sI (fun k => hv (G 29 (A + 2 * k)) d (G 30 2)) N))) G) : ∀ (m k : Nat) (c t : Int32), c = nI k → k + m = N → t = sI (fun k => hv (G 29 (A + 2 * k)) d (G 30 2)) k → wp X m_Mo_harmBy 6 [(5, .int c), (4, .int t), (0, .ref 26), (1, .int (nI A)), (2, .int (nI N)), (3, .int d)] [] G Q
  | 0, k, c, t, hc, hk, ht => by
    subst hc
    have hk : k = N := by omega
    subst hk
    refine rn_wp (stops := [6]) 60 ?_
    refine bi_t (Int32.le_refl _) ?_
    exact Qi K ht
  | m + 1, k, c, t, hc, hk, ht => by
    subst hc
    refine rn_wp (stops := [6]) 60 ?_
    refine bi_f (by simp (disch := omega) only [nI_1, nI_add, nI_clamp, nI_leI, nI_ltI, nI_eq, nI_toInt]; omega) ?_
    refine vi (by rw [twoA]; exact vp_in_nI (by omega) (by omega)) ?_
    rw [twoA, nI_clamp (by omega)]
    refine vi (inI (by decide) (by decide)) ?_
    rw [cl_2]
    obtain ⟨g1, g2⟩ := hv_c (hw k (by omega)) hd hs
    refine zi g1 ?_
    refine bi (fun h => ?_) (fun h => ?_)
    · refine wp_pick [0, 1, 3, 4, 5, 6] (w_harmBy hN hw hd hs K m (k + 1) _ _ (nI_1 _) (by omega) ?_)
      rw [ht, sI, hv_0 (Int32.not_lt.mpr h)]
    · refine zi (by decide) ?_
      refine wp_pick [0, 1, 3, 4, 5, 6] (w_harmBy hN hw hd hs K m (k + 1) _ _ (nI_1 _) (by omega) ?_)
      rw [ht, sI, hv_1 (Int32.not_le.mp h)]
theorem c_harmBy {X : Xt} {d : Int32} {A N : Nat} {G : Gt} {Q : Qt} (hN : A + 2 * N ≤ 800) (hw : ∀ k, k < N → 0 ≤ G 29 (A + 2 * k) ∧ G 29 (A + 2 * k) ≤ 200) (hd : 0 ≤ d ∧ d ≤ 40) (hs : 0 ≤ G 30 2 ∧ G 30 2 ≤ 60) (K : Q (some (.int (sI (fun k => hv (G 29 (A + 2 * k)) d (G 30 2)) N))) G) : con X m_Mo_harmBy [.ref 26, .int (nI A), .int (nI N), .int d] G Q := by
  refine con_rn 10 [6] (by decide) rfl ?_
  exact w_harmBy hN hw hd hs K N 0 _ _ rfl (by omega) rfl
set_option maxRecDepth 4000 in
theorem w_overBy {X : Xt} {cr : Int32} {A N : Nat} {G : Gt} {Q : Qt} (hN : A + 2 * N ≤ 800) (K : Q (some (.int (sI (fun k => ovv (G 29 (A + 2 * k)) (G 29 (A + (2 * k + 1))) cr) N))) G) : ∀ (m k : Nat) (c t : Int32), c = nI k → k + m = N → t = sI (fun k => ovv (G 29 (A + 2 * k)) (G 29 (A + (2 * k + 1))) cr) k → wp X m_Mo_overBy 6 [(5, .int c), (4, .int t), (0, .ref 26), (1, .int (nI A)), (2, .int (nI N)), (3, .int cr)] [] G Q
  | 0, k, c, t, hc, hk, ht => by
    subst hc
    have hk : k = N := by omega
    subst hk
    refine rn_wp (stops := [6]) 60 ?_
    refine bi_t (Int32.le_refl _) ?_
    exact Qi K ht
  | m + 1, k, c, t, hc, hk, ht => by
    subst hc
    refine rn_wp (stops := [6]) 60 ?_
    refine bi_f (by simp (disch := omega) only [nI_1, nI_add, nI_clamp, nI_leI, nI_ltI, nI_eq, nI_toInt]; omega) ?_
    refine vi (by rw [twoA]; exact vp_in_nI (by omega) (by omega)) ?_
    refine vi (by rw [twoA, nI_1]; exact vp_in_nI (by omega) (by omega)) ?_
    rw [twoA, nI_1, nI_clamp (by omega), nI_clamp (by omega), Int32.mul_comm 2]
    refine bi (fun h => ?_) (fun h => ?_)
    · refine wp_pick [0, 1, 3, 4, 5, 6] (w_overBy hN K m (k + 1) _ _ (nI_1 _) (by omega) ?_)
      rw [ht, sI, ← Nat.add_assoc, ovv_0 (Int32.not_lt.mpr h)]
    · refine zi (by decide) ?_
      refine wp_pick [0, 1, 3, 4, 5, 6] (w_overBy hN K m (k + 1) _ _ (nI_1 _) (by omega) ?_)
      rw [ht, sI, ← Nat.add_assoc, ovv_1 (Int32.not_le.mp h)]
theorem c_overBy {X : Xt} {cr : Int32} {A N : Nat} {G : Gt} {Q : Qt} (hN : A + 2 * N ≤ 800) (K : Q (some (.int (sI (fun k => ovv (G 29 (A + 2 * k)) (G 29 (A + (2 * k + 1))) cr) N))) G) : con X m_Mo_overBy [.ref 26, .int (nI A), .int (nI N), .int cr] G Q := by
  refine con_rn 10 [6] (by decide) rfl ?_
  exact w_overBy hN K N 0 _ _ rfl (by omega) rfl
/-- the least whole number of which the third power is w or more, from d on -/
def rtF (W : Nat) : Nat → Nat → Nat
  | 0, d => d
  | m + 1, d => if W ≤ d * d * d then d else rtF W m (d + 1)
theorem cube_lt {k : Nat} (h : k ≤ 40) : k * k * k ≤ 64000 := by
  have h1 : k * k ≤ 40 * 40 := Nat.mul_le_mul h h
  have h2 : k * k * k ≤ 40 * 40 * 40 := Nat.mul_le_mul h1 h
  omega
theorem cube_I (k : Nat) : nI k * nI k * nI k = nI (k * k * k) := by rw [pk_mul, pk_mul]
theorem w_root {X : Xt} {W : Nat} {G : Gt} {Q : Qt} (hW : W ≤ 60000) : ∀ (m k : Nat) (c : Int32), c = nI k → k + m = 40 → Q (some (.int (nI (rtF W m k)))) G → wp X m_Mo_root 2 [(1, .int c), (0, .int (nI W))] [] G Q
  | 0, k, c, hc, hk, K => by
    subst hc
    have hk : k = 40 := by omega
    subst hk
    refine rn_wp (stops := [2]) 40 ?_
    refine bi_t (by rw [cube_I, nI_leI (by omega) (by omega)]; omega) ?_
    exact K
  | m + 1, k, c, hc, hk, K => by
    subst hc
    have hq := cube_lt (k := k) (by omega)
    refine rn_wp (stops := [2]) 40 ?_
    refine bi (fun h => ?_) (fun h => ?_)
    · rw [cube_I, nI_leI (by omega) (by omega)] at h
      rw [rtF, if_pos h] at K
      exact K
    · rw [cube_I, nI_leI (by omega) (by omega)] at h
      rw [rtF, if_neg h] at K
      exact w_root hW m (k + 1) _ (nI_1 _) (by omega) K
theorem c_root {X : Xt} {W : Nat} {G : Gt} {Q : Qt} (hW : W ≤ 60000) (K : Q (some (.int (nI (rtF W 39 1)))) G) : con X m_Mo_root [.int (nI W)] G Q := by
  refine con_rn 10 [2] (by decide) rfl ?_
  exact w_root hW 39 1 _ rfl rfl K
theorem w_bsize {X : Xt} {W : Nat} {G : Gt} {Q : Qt} (hW : W ≤ 60000) : ∀ (m k : Nat) (c : Int32), c = nI k → k + m = 40 → Q (some (.int (nI (rtF W m k)))) G → wp X m_Wall_blockSize 20 [(2, .int c), (1, .int (nI W)), (0, .ref 5)] [] G Q
  | 0, k, c, hc, hk, K => by
    subst hc
    have hk : k = 40 := by omega
    subst hk
    refine rn_wp (stops := [20]) 40 ?_
    refine bi_t (by decide) ?_
    exact K
  | m + 1, k, c, hc, hk, K => by
    subst hc
    have hq := cube_lt (k := k) (by omega)
    refine rn_wp (stops := [20]) 40 ?_
    refine bi_f (by rw [show (40 : Int32) = nI 40 from rfl, nI_leI (by omega) (by omega)]; omega) ?_
    refine bi (fun h => ?_) (fun h => ?_)
    · rw [cube_I, nI_leI (by omega) (by omega)] at h
      rw [rtF, if_pos h] at K
      exact K
    · rw [cube_I, nI_leI (by omega) (by omega)] at h
      rw [rtF, if_neg h] at K
      exact w_bsize hW m (k + 1) _ (nI_1 _) (by omega) K
/-- how large a block of layer 0 is -/
def bsz (ly : Int32) (w : Nat → Int32) : Nat := rtF (if ly = 0 then 1 else (w 0).toNatClampNeg) 39 1
theorem c_blockSize {X : Xt} {G : Gt} {Q : Qt} (hw : ¬ G 5 3 = 0 → 1 ≤ G 8 0 ∧ G 8 0 ≤ 60000) (K : Q (some (.int (nI (bsz (G 5 3) (G 8))))) G) : con X m_Wall_blockSize [.ref 5] G Q := by
  refine con_rn 20 [20] (by decide) rfl ?_
  refine bj (fun h => ?_) (fun h => ?_)
  · refine vi (inI (by decide) (by decide)) ?_
    rw [cl_0]
    unfold bsz at K
    rw [if_neg h] at K
    obtain ⟨e, e1, -⟩ := toN (x := G 8 0) (Int32.le_trans (by decide) (hw h).1)
    have h2 : (G 8 0).toInt ≤ 60000 := by simpa using le32.mp (hw h).2
    generalize (G 8 0).toNatClampNeg = W at *
    rw [e]
    exact w_bsize (by omega) 39 1 _ rfl rfl K
  · unfold bsz at K
    rw [if_pos h] at K
    exact w_bsize (W := 1) (by omega) 39 1 _ rfl rfl K
theorem rtF_rng (W : Nat) : ∀ (m d : Nat), d ≤ rtF W m d ∧ rtF W m d ≤ d + m
  | 0, d => ⟨Nat.le_refl _, Nat.le_refl _⟩
  | m + 1, d => by
    unfold rtF
    split
    · omega
    · have := rtF_rng W m (d + 1)
      omega
