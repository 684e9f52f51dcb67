/-! the quarry: the class -/
theorem bitN {m k : Nat} (hm : m < 2 ^ 31) (hk : k < 32) : (nI m >>> (nI k &&& 31)) &&& 1 = nI (if m.testBit k = true then 1 else 0) := by
  have h := bit_val (x := nI m) (P := k) (by rw [nI_toInt hm]; omega) hk
  rw [nI_toInt hm] at h
  exact h
theorem bitN_1 {m k : Nat} (hm : m < 2 ^ 31) (hk : k < 32) : (nI m >>> (nI k &&& 31)) &&& 1 = 1 ↔ m.testBit k = true := by
  rw [bitN hm hk]
  split
  · rename_i h; exact ⟨fun _ => h, fun _ => rfl⟩
  · rename_i h; exact ⟨fun z => absurd z (by decide), fun z => absurd z h⟩
theorem bitN_0 {m k : Nat} (hm : m < 2 ^ 31) (hk : k < 32) : (nI m >>> (nI k &&& 31)) &&& 1 = 0 ↔ ¬ m.testBit k = true := by
  rw [bitN hm hk]
  split
  · rename_i h; exact ⟨fun z => absurd z (by decide), fun z => absurd h z⟩
  · rename_i h; exact ⟨fun _ => h, fun _ => rfl⟩
theorem tbey : ∀ t, t < 8 → ∀ m, m < 8 → (nI t &&& (nI m ^^^ (-1)) = 0 ↔ bey t m = false) := by decide +kernel
theorem tclr : ∀ t, t < 8 → ∀ b, b < 3 → nI t &&& ((1 : Int32) <<< (nI b &&& 31) ^^^ (-1)) = nI (clr t b) := by decide +kernel
theorem tor : ∀ t, t < 8 → ∀ b, b < 3 → nI t ||| (1 : Int32) <<< (nI b &&& 31) = nI (t ||| 2 ^ b) ∧ t ||| 2 ^ b < 8 := by decide +kernel
/-- the class's cells hold y, n, t -/
def QX (G : Gt) (y n t : Nat → Nat) : Prop := (∀ s, s < 4 → G 10 s = nI (y s)) ∧ (∀ k, k < 3 → G 11 k = nI (n k)) ∧ ∀ s, s < 4 → G 12 s = nI (t s)
def BQ (y n t : Nat → Nat) : Prop := (∀ s, s < 4 → y s ≤ 100) ∧ (∀ k, k < 3 → n k ≤ 100) ∧ TI t
theorem c_isTB {X : Xt} {y n t : Nat → Nat} {s m : Nat} {G : Gt} {Q : Qt} (hq : QX G y n t) (hB : BQ y n t) (hs : s < 4) (hm : m < 8) (K : Q (some (.int (bI (bey (t s) m = true)))) G) : con X m_Quarry_isTakenBeyond [.ref 9, .int (nI s), .int (nI m)] G Q := by
  have h1 := tbey (t s) (hB.2.2 s hs) m hm
  refine con_rn 20 [] (by decide) rfl ?_
  refine vi (vp_in_nI hs (by omega)) ?_
  rw [nI_clamp (by omega), hq.2.2 s hs]
  refine bi (fun h => ?_) (fun h => ?_)
  · refine ni rfl (Qi K (bI_f ?_).symm)
    rw [h1.mp h]
    decide
  · refine ni rfl (Qi K (bI_t ?_).symm)
    cases e : bey (t s) m
    · exact absurd (h1.mpr e) h
    · rfl
theorem w_cutY {X : Xt} {y n t : Nat → Nat} {m : Nat} {G : Gt} {Q : Qt} (hq : QX G y n t) (hB : BQ y n t) (hm : m < 8) (K : Q (some (.int (nI (cutN y n t m)))) G) : ∀ (z s : Nat) (q l : Int32), q = nI s → s + z = 4 → l = nI (tS (ndT n m) 3 + tS (ylT y t m) s) → wp X m_Quarry_cutOff 35 [(3, .int q), (2, .int l), (0, .ref 9), (1, .int (nI m))] [] G Q
  | 0, s, q, l, h1, hz, hl => by
    subst h1
    have hs : s = 4 := by omega
    subst hs
    refine rn_wp (stops := [35]) 40 ?_
    refine bi_t (by decide) ?_
    exact Qi K hl
  | z + 1, s, q, l, h1, hz, hl => by
    subst h1
    refine rn_wp (stops := [35]) 40 ?_
    refine bi_f (by rw [show (4 : Int32) = nI 4 from rfl, nI_leI (by omega) (by omega)]; omega) ?_
    refine c_isTB hq hB (by omega) hm ?_
    have e : tS (ylT y t m) (s + 1) = tS (ylT y t m) s + ylT y t m s := rfl
    refine bib (fun h => ?_) (fun h => ?_)
    · refine w_cutY hq hB hm K z (s + 1) _ _ (nI_1 _) (by omega) ?_
      rw [e, hl, show ylT y t m s = 0 from if_neg h]
      rfl
    · refine vi (vp_in_nI (by omega) (by omega)) ?_
      rw [nI_clamp (by omega), hq.1 s (by omega)]
      refine w_cutY hq hB hm K z (s + 1) _ _ (nI_1 _) (by omega) ?_
      rw [e, hl, show ylT y t m s = y s from if_pos h, nI_add, Nat.add_assoc]
theorem w_cutN {X : Xt} {y n t : Nat → Nat} {m : Nat} {G : Gt} {Q : Qt} (hq : QX G y n t) (hB : BQ y n t) (hm : m < 8) (K : Q (some (.int (nI (cutN y n t m)))) G) : ∀ (z s : Nat) (q l : Int32), q = nI s → s + z = 3 → l = nI (tS (ndT n m) s) → wp X m_Quarry_cutOff 4 [(3, .int q), (2, .int l), (0, .ref 9), (1, .int (nI m))] [] G Q
  | 0, s, q, l, h1, hz, hl => by
    subst h1
    have hs : s = 3 := by omega
    subst hs
    refine rn_wp (stops := [4, 35]) 40 ?_
    refine bi_t (by decide) ?_
    exact w_cutY hq hB hm K 4 0 _ _ rfl rfl hl
  | z + 1, s, q, l, h1, hz, hl => by
    subst h1
    refine rn_wp (stops := [4, 35]) 40 ?_
    refine bi_f (by rw [show (3 : Int32) = nI 3 from rfl, nI_leI (by omega) (by omega)]; omega) ?_
    have e : tS (ndT n m) (s + 1) = tS (ndT n m) s + ndT n m s := rfl
    refine bj (fun h => ?_) (fun h => ?_)
    · rw [bitN_1 (by omega) (by omega)] at h
      refine w_cutN hq hB hm K z (s + 1) _ _ (nI_1 _) (by omega) ?_
      rw [e, hl, show ndT n m s = 0 from if_neg h]
      rfl
    · rw [bitN_1 (by omega) (by omega)] at h
      refine vi (vp_in_nI (by omega) (by omega)) ?_
      rw [nI_clamp (by omega), hq.2.1 s (by omega)]
      refine w_cutN hq hB hm K z (s + 1) _ _ (nI_1 _) (by omega) ?_
      rw [e, hl, show ndT n m s = n s from if_pos h, nI_add]
theorem c_cutOff {X : Xt} {y n t : Nat → Nat} {m : Nat} {G : Gt} {Q : Qt} (hq : QX G y n t) (hB : BQ y n t) (hm : m < 8) (K : Q (some (.int (nI (cutN y n t m)))) G) : con X m_Quarry_cutOff [.ref 9, .int (nI m)] G Q := by
  refine con_rn 10 [4] (by decide) rfl ?_
  exact w_cutN hq hB hm K 3 0 _ _ rfl rfl rfl
theorem mn2_I {x y : Nat} (hx : x < 2 ^ 31) (hy : y < 2 ^ 31) : (if nI y < nI x then nI y else nI x) = nI (mn2 x y) := by
  unfold mn2
  by_cases h : y < x
  · rw [if_pos h, if_pos (by rw [nI_ltI hy hx]; exact h)]
  · rw [if_neg h, if_neg (by rw [nI_ltI hy hx]; exact h)]
theorem w_mostG {X : Xt} {y n t : Nat → Nat} {G : Gt} {Q : Qt} (hq : QX G y n t) (hB : BQ y n t) (K : Q (some (.int (nI (mnX y n t 8)))) G) : ∀ (z i : Nat) (q l : Int32), q = nI i → i + z = 8 → l = nI (mnX y n t i) → wp X m_Quarry_mostGiven 5 [(2, .int q), (1, .int l), (0, .ref 9)] [] G Q
  | 0, i, q, l, h1, hz, hl => by
    subst h1
    have hs : i = 8 := by omega
    subst hs
    refine rn_wp (stops := [5]) 40 ?_
    refine bi_t (by decide) ?_
    exact Qi K hl
  | z + 1, i, q, l, h1, hz, hl => by
    subst h1
    have hc := cutN_b (t := t) hB.1 hB.2.1 i
    have hm := (mnX_P y n t i (by omega)).1
    refine rn_wp (stops := [5]) 40 ?_
    refine bi_f (by rw [show (8 : Int32) = nI 8 from rfl, nI_leI (by omega) (by omega)]; omega) ?_
    refine c_cutOff hq hB (by omega) ?_
    refine w_mostG hq hB K z (i + 1) _ _ (nI_1 _) (by omega) ?_
    rw [hl, mn2_I (by omega) (by omega)]
    rfl
theorem c_mostG {X : Xt} {y n t : Nat → Nat} {G : Gt} {Q : Qt} (hq : QX G y n t) (hB : BQ y n t) (K : Q (some (.int (nI (mnX y n t 8)))) G) : con X m_Quarry_mostGiven [.ref 9] G Q := by
  refine con_rn 10 [5] (by decide) rfl ?_
  exact w_mostG hq hB K 8 0 _ _ rfl rfl rfl
set_option maxRecDepth 4000 in
theorem w_mostB {X : Xt} {y n t : Nat → Nat} {a b L : Nat} {G : Gt} {Q : Qt} (hq : QX G y n t) (hB : BQ y n t) (hC : CI y n t L) (ha : a < 4) (hb : b < 3) (hL : L ≤ 100) (K : Q (some (.int (nI (mnH y n t a b L 8)))) G) : ∀ (z i : Nat) (q l : Int32), q = nI i → i + z = 8 → l = nI (mnH y n t a b L i) → wp X m_Quarry_mostBetween 35 [(5, .int q), (4, .int l), (0, .ref 9), (1, .int (nI a)), (2, .int (nI b)), (3, .int (nI L))] [] G Q
  | 0, i, q, l, h1, hz, hl => by
    subst h1
    have hs : i = 8 := by omega
    subst hs
    refine rn_wp (stops := [35]) 40 ?_
    refine bi_t (by decide) ?_
    exact Qi K hl
  | z + 1, i, q, l, h1, hz, hl => by
    subst h1
    have hc := cutN_b (t := t) hB.1 hB.2.1 i
    have hm := (mnH_P (a := a) (b := b) hC i (by omega)).1.1
    have hya := hB.1 a ha
    have hLi := hC i (by omega)
    refine rn_wp (stops := [35]) 60 ?_
    refine bi_f (by rw [show (8 : Int32) = nI 8 from rfl, nI_leI (by omega) (by omega)]; omega) ?_
    refine bj (fun h => ?_) (fun h => ?_)
    · rw [bitN_1 (by omega) (by omega)] at h
      refine w_mostB hq hB hC ha hb hL K z (i + 1) _ _ (nI_1 _) (by omega) ?_
      rw [hl, mnH, if_neg (fun w => h w.1)]
    · rw [bitN_1 (by omega) (by omega)] at h
      refine c_isTB hq hB ha (by omega) ?_
      refine bib (fun h2 => ?_) (fun h2 => ?_)
      · refine w_mostB hq hB hC ha hb hL K z (i + 1) _ _ (nI_1 _) (by omega) ?_
        rw [hl, mnH, if_neg (fun w => h2 w.2)]
      · refine c_cutOff hq hB (by omega) ?_
        refine w_mostB hq hB hC ha hb hL K z (i + 1) _ _ (nI_1 _) (by omega) ?_
        rw [hl, pk_sub hLi, mn2_I (by omega) (by omega), mnH, if_pos ⟨h, h2⟩]
theorem c_mostB {X : Xt} {y n t : Nat → Nat} {a b L : Nat} {G : Gt} {Q : Qt} (hq : QX G y n t) (hB : BQ y n t) (hC : CI y n t L) (ha : a < 4) (hb : b < 3) (hL : L ≤ 100) (K : Q (some (.int (nI (hiF y n t a b L)))) G) : con X m_Quarry_mostBetween [.ref 9, .int (nI a), .int (nI b), .int (nI L)] G Q := by
  have ht := hB.2.2 a ha
  unfold hiF at K
  refine con_rn 40 [35] (by decide) rfl ?_
  refine vi (vp_in_nI ha (by omega)) ?_
  rw [nI_clamp (by omega), hq.2.2 a ha]
  refine bj (fun h => ?_) (fun h => ?_)
  · rw [bitN_0 (by omega) (by omega), Decidable.not_not] at h
    rw [if_pos h] at K
    refine vi (vp_in_nI ha (by omega)) ?_
    refine vi (vp_in_nI hb (by omega)) ?_
    rw [nI_clamp (by omega), nI_clamp (by omega), hq.1 a ha, hq.2.1 b hb]
    have h1 := hB.1 a ha
    have h2 := hB.2.1 b hb
    refine w_mostB hq hB hC ha hb hL K 8 0 _ _ rfl rfl ?_
    rw [mn2_I (by omega) (by omega)]
    rfl
  · rw [bitN_0 (by omega) (by omega)] at h
    rw [if_neg h] at K
    exact K
/-- what the sharing has done ahead of pair i -/
def hX (S : Sq) (wv : Int32) (G0 : Gt) (i : Nat) (G : Gt) : Prop := FrS G0 G ∧ QX G (shQ S i).1 (shQ S i).2.1 (shQ S i).2.2.1 ∧ (∀ j, j < i → G 13 j = nI (vQ (shQ S j) j)) ∧ G 9 4 = wv
theorem hX_st {S : Sq} {wv : Int32} {G0 G : Gt} {a b : Nat} (ha : a < 4) (hb : b < 3) (hP : PQ (shQ S (3 * a + b))) (h : hX S wv G0 (3 * a + b) G) : hX S wv G0 (3 * a + b + 1) (sG (sG (sG (sG G 13 (upd (G 13) (3 * a + b) (nI (vQ (shQ S (3 * a + b)) (3 * a + b))))) 10 (upd (G 10) a (G 10 a - nI (vQ (shQ S (3 * a + b)) (3 * a + b))))) 11 (upd (G 11) b (G 11 b - nI (vQ (shQ S (3 * a + b)) (3 * a + b))))) 12 (upd (G 12) a (G 12 a &&& ((1 : Int32) <<< (nI b &&& 31) ^^^ (-1))))) := by
  obtain ⟨h1, ⟨q1, q2, q3⟩, h3, h4⟩ := h
  have ea : (3 * a + b) / 3 = a := by omega
  have eb : (3 * a + b) % 3 = b := by omega
  have hv := vQ_le (i := 3 * a + b) hP
  rw [ea, eb] at hv
  have est : shQ S (3 * a + b + 1) = stQ (shQ S (3 * a + b)) (3 * a + b) := rfl
  refine ⟨(((h1.s rfl).s rfl).s rfl).s rfl, ⟨fun s hs => ?_, fun k hk => ?_, fun s hs => ?_⟩, fun j hj => ?_, h4⟩
  · rw [est]
    show upd (G 10) a _ s = nI (upn _ _ _ s)
    rw [ea]
    by_cases e : s = a
    · subst e
      rw [pk_us, upn_s, q1 s hs, pk_sub hv.1]
    · rw [pk_un e, upn_n e, q1 s hs]
  · rw [est]
    show upd (G 11) b _ k = nI (upn _ _ _ k)
    rw [eb]
    by_cases e : k = b
    · subst e
      rw [pk_us, upn_s, q2 k hk, pk_sub hv.2]
    · rw [pk_un e, upn_n e, q2 k hk]
  · rw [est]
    show upd (G 12) a _ s = nI (upn _ _ _ s)
    rw [ea, eb]
    by_cases e : s = a
    · subst e
      rw [pk_us, upn_s, q3 s hs, tclr _ (hP.2.1 s hs) b hb]
    · rw [pk_un e, upn_n e, q3 s hs]
  · show upd (G 13) (3 * a + b) _ j = _
    by_cases e : j = 3 * a + b
    · subst e
      rw [pk_us]
    · rw [pk_un e]
      exact h3 j (by omega)
/-- some cut is just what is left -/
def AQ (S : Sq) : Prop := ∃ m, m < 8 ∧ S.2.2.2 = cutN S.1 S.2.1 S.2.2.1 m
theorem AQ_st {S : Sq} {i : Nat} (hi : i < 12) (hP : PQ S) (hA : AQ S) : AQ (stQ S i) ∧ vQ S i ≤ S.2.2.2 := by
  obtain ⟨m, hm, e⟩ := hA
  have hL := vQ_L hi hP m hm
  have hv := vQ_le (i := i) hP
  by_cases ho : (S.2.2.1 (i / 3)).testBit (i % 3) = true
  · have hr := cut_rel (y := S.1) (n := S.2.1) (v := vQ S i) (a := i / 3) (b := i % 3) (m := m) hP.2.1 (by omega) (by omega) hm ho hv.1 hv.2
    have h1 : cutN (upn S.1 (i / 3) (S.1 (i / 3) - vQ S i)) (upn S.2.1 (i % 3) (S.2.1 (i % 3) - vQ S i)) (upn S.2.2.1 (i / 3) (clr (S.2.2.1 (i / 3)) (i % 3))) m + vQ S i ≤ S.2.2.2 := by
      rcases hr with ⟨-, -, q⟩ | ⟨-, -, q⟩ | ⟨-, -, -, q⟩ | ⟨-, -, -, q⟩ <;> omega
    refine ⟨⟨m, hm, ?_⟩, by omega⟩
    show S.2.2.2 - vQ S i = cutN (upn S.1 (i / 3) (S.1 (i / 3) - vQ S i)) (upn S.2.1 (i % 3) (S.2.1 (i % 3) - vQ S i)) (upn S.2.2.1 (i / 3) (clr (S.2.2.1 (i / 3)) (i % 3))) m
    omega
  · have ev : vQ S i = 0 := by unfold vQ hiF; rw [if_neg ho]
    have e2 : clr (S.2.2.1 (i / 3)) (i % 3) = S.2.2.1 (i / 3) := if_neg ho
    refine ⟨⟨m, hm, ?_⟩, by omega⟩
    show S.2.2.2 - vQ S i = cutN (upn S.1 (i / 3) (S.1 (i / 3) - vQ S i)) (upn S.2.1 (i % 3) (S.2.1 (i % 3) - vQ S i)) (upn S.2.2.1 (i / 3) (clr (S.2.2.1 (i / 3)) (i % 3))) m
    rw [ev, e2, Nat.sub_zero, Nat.sub_zero, Nat.sub_zero, upn_id, upn_id, upn_id]
    exact e
theorem AQ_sh {S : Sq} (hP : PQ S) (hA : AQ S) : ∀ i, i ≤ 12 → AQ (shQ S i)
  | 0, _ => hA
  | i + 1, hi => (AQ_st (by omega) (PQ_sh hP i (by omega)) (AQ_sh hP hA i (by omega))).1
theorem PQ_B {S : Sq} (h : PQ S) : BQ S.1 S.2.1 S.2.2.1 := ⟨h.1.1, h.1.2, h.2.1⟩
set_option maxRecDepth 4000 in
theorem w_shI {X : Xt} {S : Sq} {wv : Int32} {a : Nat} {G0 : Gt} {Q : Qt} (hS : PQ S) (hA : AQ S) (ha : a < 4) (K : ∀ G q l, q = nI (a + 1) → l = nI (shQ S (3 * (a + 1))).2.2.2 → hX S wv G0 (3 * (a + 1)) G → wp X m_Quarry_share 15 [(2, .int q), (1, .int l), (0, .ref 9)] [] G Q) : ∀ (z b : Nat) (q l : Int32) (G : Gt), q = nI b → b + z = 3 → l = nI (shQ S (3 * a + b)).2.2.2 → hX S wv G0 (3 * a + b) G → wp X m_Quarry_share 22 [(3, .int q), (2, .int (nI a)), (1, .int l), (0, .ref 9)] [] G Q
  | 0, b, q, l, G, h1, hz, hl, hx => by
    subst h1
    have hs : b = 3 := by omega
    subst hs
    refine rn_wp (stops := [15, 22]) 60 ?_
    refine bi_t (by decide) ?_
    exact wp_pick [0, 2, 3] (K G _ l (nI_1 a) hl hx)
  | z + 1, b, q, l, G, h1, hz, hl, hx => by
    subst h1
    have hP := PQ_sh hS (3 * a + b) (by omega)
    have ea : (3 * a + b) / 3 = a := by omega
    have eb : (3 * a + b) % 3 = b := by omega
    have ev : vQ (shQ S (3 * a + b)) (3 * a + b) = hiF (shQ S (3 * a + b)).1 (shQ S (3 * a + b)).2.1 (shQ S (3 * a + b)).2.2.1 a b (shQ S (3 * a + b)).2.2.2 := by unfold vQ; rw [ea, eb]
    have hLc := PQ_sh hS (3 * a + b + 1) (by omega)
    have hst := hX_st ha (by omega) hP hx
    have hvl : vQ (shQ S (3 * a + b)) (3 * a + b) ≤ (shQ S (3 * a + b)).2.2.2 := (AQ_st (by omega) hP (AQ_sh hS hA _ (by omega))).2
    subst hl
    refine rn_wp (stops := [15, 22]) 60 ?_
    refine bi_f (by rw [show (3 : Int32) = nI 3 from rfl, nI_leI (by omega) (by omega)]; omega) ?_
    refine c_mostB hx.2.1 (PQ_B hP) hP.2.2.2 ha (by omega) hP.2.2.1 ?_
    rw [← ev]
    have ei : nI a * 3 + nI b = nI (3 * a + b) := by rw [show (3 : Int32) = nI 3 from rfl, pk_mul, nI_add, Nat.mul_comm]
    refine vi (by rw [ei]; exact vp_in_nI (by omega) (by omega)) ?_
    refine vi (vp_in_nI ha (by omega)) ?_
    refine vi (vp_in_nI ha (by omega)) ?_
    refine vi (vp_in_nI (by omega) (by omega)) ?_
    refine vi (vp_in_nI (by omega) (by omega)) ?_
    refine vi (vp_in_nI ha (by omega)) ?_
    refine vi (vp_in_nI ha (by omega)) ?_
    rw [ei, nI_clamp (by omega), nI_clamp (n := a) (by omega), nI_clamp (n := b) (by omega)]
    refine wp_pick [0, 3, 1, 4] (w_shI hS hA ha K z (b + 1) _ _ _ (nI_1 _) (by omega) ?_ hst)
    rw [pk_sub hvl]
    rfl
