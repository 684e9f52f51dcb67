/-! shared: the model's sharing -/
theorem clr_bit : ∀ t, t < 8 → ∀ b, b < 3 → ∀ k, k < 3 → (clr t b).testBit k = (t.testBit k && !decide (k = b)) := by decide +kernel
def hM (S : Sq) (G0 : Gt) (i : Nat) (G : Gt) : Prop := FrS G0 G ∧ QM G (shQ S i).1 (shQ S i).2.1 (shQ S i).2.2.1 ∧ ∀ j, j < i → G 36 j = nI (vQ (shQ S j) j)
/-- a part v given from a to b, the pair closed -/
abbrev gv1 (S : Sq) (a v : Nat) : Nat → Nat := upn S.1 a (S.1 a - v)
abbrev gv2 (S : Sq) (b v : Nat) : Nat → Nat := upn S.2.1 b (S.2.1 b - v)
abbrev gv3 (S : Sq) (a b : Nat) : Nat → Nat := upn S.2.2.1 a (clr (S.2.2.1 a) b)
theorem gv_B {S : Sq} {a b v : Nat} (hP : PQ S) (ha : a < 4) (hb : b < 3) : BQ (gv1 S a v) (gv2 S b v) (gv3 S a b) := by
  refine ⟨fun s hs => ?_, fun k hk => ?_, fun s hs => ?_⟩
  · unfold gv1 upn
    split
    · have := hP.1.1 a ha
      omega
    · exact hP.1.1 s hs
  · unfold gv2 upn
    split
    · have := hP.1.2 b hb
      omega
    · exact hP.1.2 k hk
  · unfold gv3 upn
    split
    · exact clr_lt _ (hP.2.1 a ha) b hb
    · exact hP.2.1 s hs
theorem gv_0 {S : Sq} {a b v : Nat} {G : Gt} (hP : PQ S) (ha : a < 4) (hb : b < 3) (hv1 : v ≤ S.1 a) (hv2 : v ≤ S.2.1 b) (hq : QM G S.1 S.2.1 S.2.2.1) : QM (sG (sG (sG G 35 (upd (G 35) (3 * a + b) 0)) 33 (upd (G 33) a (G 33 a - nI v))) 34 (upd (G 34) b (G 34 b - nI v))) (gv1 S a v) (gv2 S b v) (gv3 S a b) := by
  obtain ⟨q1, q2, q3⟩ := hq
  refine ⟨fun s hs => ?_, fun k hk => ?_, fun s k hs hk => ?_⟩
  · show upd (G 33) a _ s = nI (upn _ _ _ s)
    by_cases e : s = a
    · subst e
      rw [pk_us, upn_s, q1 s hs, pk_sub hv1]
    · rw [pk_un e, upn_n e, q1 s hs]
  · show upd (G 34) b _ k = nI (upn _ _ _ k)
    by_cases e : k = b
    · subst e
      rw [pk_us, upn_s, q2 k hk, pk_sub hv2]
    · rw [pk_un e, upn_n e, q2 k hk]
  · show ¬ upd (G 35) (3 * a + b) 0 (3 * s + k) = 0 ↔ (upn _ _ _ s).testBit k = true
    by_cases e : s = a
    · subst e
      rw [upn_s, clr_bit _ (hP.2.1 s hs) b hb k hk]
      by_cases e2 : k = b
      · subst e2
        rw [pk_us, decide_eq_true rfl, Bool.not_true, Bool.and_false]
        exact ⟨fun w => absurd rfl w, fun w => absurd w (by decide)⟩
      · rw [pk_un (by omega), decide_eq_false e2, Bool.not_false, Bool.and_true]
        exact q3 s k hs hk
    · rw [pk_un (by omega), upn_n e]
      exact q3 s k hs hk
theorem gv_s {S : Sq} {a b v : Nat} {G : Gt} (ha : a < 4) (hb : b < 3) (hv1 : v + 1 ≤ S.1 a) (hv2 : v + 1 ≤ S.2.1 b) (hq : QM G (gv1 S a (v + 1)) (gv2 S b (v + 1)) (gv3 S a b)) : QM (sG (sG G 33 (upd (G 33) a (G 33 a + 1))) 34 (upd (G 34) b (G 34 b + 1))) (gv1 S a v) (gv2 S b v) (gv3 S a b) := by
  obtain ⟨q1, q2, q3⟩ := hq
  refine ⟨fun s hs => ?_, fun k hk => ?_, q3⟩
  · show upd (G 33) a _ s = nI (upn _ _ _ s)
    have := q1 s hs
    by_cases e : s = a
    · subst e
      rw [pk_us, upn_s, this]
      unfold gv1
      rw [upn_s, nI_1]
      congr 1
      omega
    · rw [pk_un e, upn_n e, this]
      unfold gv1
      rw [upn_n e]
  · show upd (G 34) b _ k = nI (upn _ _ _ k)
    have := q2 k hk
    by_cases e : k = b
    · subst e
      rw [pk_us, upn_s, this]
      unfold gv2
      rw [upn_s, nI_1]
      congr 1
      omega
    · rw [pk_un e, upn_n e, this]
      unfold gv2
      rw [upn_n e]
abbrev L407 (A : Nat) (so k : Int32) (v b a : Int32) (w l : Int32) : Lt := (12, .int v) :: (11, .int b) :: (10, .int a) :: (9, .int w) :: (8, .int l) :: sB A so k
set_option maxRecDepth 4000 in
theorem w_dec {X : Xt} {A : Nat} {so k w : Int32} {S : Sq} {a b : Nat} {G0 : Gt} {Q : Qt} (P : Gt → Prop) (hPs : ∀ G g g', P G → P (sG (sG G 33 g) 34 g')) (hP : PQ S) (ha : a < 4) (hb : b < 3) (K : ∀ G, FrS G0 G → P G → QM G (gv1 S a (vQ S (3 * a + b))) (gv2 S b (vQ S (3 * a + b))) (gv3 S a b) → wp X m_Mo_shared 447 (L407 A so k (nI (vQ S (3 * a + b))) (nI b) (nI a) w (nI S.2.2.2)) [] G Q) : ∀ (d v : Nat) (q : Int32) (G : Gt), q = nI v → v = vQ S (3 * a + b) + d → v ≤ S.1 a → v ≤ S.2.1 b → (0 < d → (S.2.2.1 a).testBit b = true) → FrS G0 G → P G → QM G (gv1 S a v) (gv2 S b v) (gv3 S a b) → wp X m_Mo_shared 407 (L407 A so k q (nI b) (nI a) w (nI S.2.2.2)) [] G Q
  | 0, v, q, G, hq, hv, h1, h2, ho, hF, hp, hQ => by
    subst hq
    have hv : v = vQ S (3 * a + b) := by omega
    subst hv
    have ea : (3 * a + b) / 3 = a := by omega
    have eb : (3 * a + b) % 3 = b := by omega
    have hL := vQ_L (i := 3 * a + b) (by omega) hP
    rw [ea, eb] at hL
    obtain ⟨m1, m2, m3⟩ := mnM_P (gv1 S a (vQ S (3 * a + b))) (gv2 S b (vQ S (3 * a + b))) (gv3 S a b) 8 (Nat.le_refl _)
    have hB := gv_B (v := vQ S (3 * a + b)) hP ha hb
    have hy := hP.1.1 a ha
    have hLL := hP.2.2.1
    refine rn_wp (stops := [407, 447]) 40 ?_
    refine c_most hQ hB ?_
    generalize mnM (gv1 S a (vQ S (3 * a + b))) (gv2 S b (vQ S (3 * a + b))) (gv3 S a b) 8 = M at *
    intro x hx
    subst hx
    have hge : S.2.2.2 ≤ M + vQ S (3 * a + b) := by
      rcases m3 with z | ⟨m, z1, z2⟩
      · omega
      · have := hL m z1
        rw [z2]
        exact this
    refine bi_t (by rw [nI_add, nI_leI (by omega) (by omega)]; exact hge) ?_
    exact K G hF hp hQ
  | d + 1, v, q, G, hq, hv, h1, h2, ho, hF, hp, hQ => by
    subst hq
    obtain ⟨v', rfl⟩ : ∃ v', v = v' + 1 := ⟨v - 1, by omega⟩
    have ea : (3 * a + b) / 3 = a := by omega
    have eb : (3 * a + b) % 3 = b := by omega
    have ho1 := ho (by omega)
    have hhi := hiF_P hP.2.2.2 ho1
    have ev : vQ S (3 * a + b) = hiF S.1 S.2.1 S.2.2.1 a b S.2.2.2 := by unfold vQ; rw [ea, eb]
    rw [← ev] at hhi
    obtain ⟨m, hm8, hm⟩ := key_2 (v' := v' + 1) hP.2.1 ha hb ho1 hhi (by omega) h1 h2
    obtain ⟨m1, m2, m3⟩ := mnM_P (gv1 S a (v' + 1)) (gv2 S b (v' + 1)) (gv3 S a b) 8 (Nat.le_refl _)
    have m2 := m2 m hm8 (by omega)
    have hB := gv_B (v := v' + 1) hP ha hb
    have hy := hP.1.1 a ha
    have hLL := hP.2.2.1
    refine rn_wp (stops := [407, 447]) 40 ?_
    refine c_most hQ hB ?_
    generalize mnM (gv1 S a (v' + 1)) (gv2 S b (v' + 1)) (gv3 S a b) 8 = M at *
    intro x hx
    subst hx
    have hlt : M + (v' + 1) < S.2.2.2 := by
      have : M ≤ cutN (upn S.1 a (S.1 a - (v' + 1))) (upn S.2.1 b (S.2.1 b - (v' + 1))) (upn S.2.2.1 a (clr (S.2.2.1 a) b)) m := m2
      omega
    refine bi_f (by rw [nI_add, nI_leI (by omega) (by omega)]; omega) ?_
    refine vi (vp_in_nI (by omega) (by omega)) ?_
    refine vi (vp_in_nI (by omega) (by omega)) ?_
    refine vi (vp_in_nI (by omega) (by omega)) ?_
    refine vi (vp_in_nI (by omega) (by omega)) ?_
    rw [nI_clamp (n := a) (by omega), nI_clamp (n := b) (by omega)]
    exact w_dec P hPs hP ha hb K d v' _ _ (pk_m1 v') (by omega) (by omega) (by omega) (fun _ => ho1) ((hF.s (p := 33) rfl).s (p := 34) rfl) (hPs _ _ _ hp) (gv_s ha hb h1 h2 hQ)
set_option maxRecDepth 4000 in
theorem w_smI {X : Xt} {A : Nat} {so k w : Int32} {S : Sq} {a : Nat} {G0 : Gt} {Q : Qt} (hS : PQ S) (hA : AQ S) (ha : a < 4) (K : ∀ G q l, q = nI (a + 1) → l = nI (shQ S (3 * (a + 1))).2.2.2 → hM S G0 (3 * (a + 1)) G → wp X m_Mo_shared 300 ((10, .int q) :: (9, .int w) :: (8, .int l) :: sB A so k) [] G Q) : ∀ (z b : Nat) (q l : Int32) (G : Gt), q = nI b → b + z = 3 → l = nI (shQ S (3 * a + b)).2.2.2 → hM S G0 (3 * a + b) G → wp X m_Mo_shared 309 ((11, .int q) :: (10, .int (nI a)) :: (9, .int w) :: (8, .int l) :: sB A so k) [] G Q
  | 0, b, q, l, G, h1, hz, hl, hx => by
    subst h1
    have hs : b = 3 := by omega
    subst hs
    refine rn_wp (stops := [300, 309]) 60 ?_
    refine bi_t (by decide) ?_
    exact wp_pick [0, 2, 3, 4, 5, 6, 7] (K G _ l (nI_1 a) hl hx)
  | z + 1, b, q, l, G, h1, hz, hl, hx => by
    subst h1
    subst hl
    have hb : b < 3 := by omega
    have hP := PQ_sh hS (3 * a + b) (by omega)
    have hvl : vQ (shQ S (3 * a + b)) (3 * a + b) ≤ (shQ S (3 * a + b)).2.2.2 := (AQ_st (by omega) hP (AQ_sh hS hA _ (by omega))).2
    have ea : (3 * a + b) / 3 = a := by omega
    have eb : (3 * a + b) % 3 = b := by omega
    have hvq := vQ_le (i := 3 * a + b) hP
    rw [ea, eb] at hvq
    have est : shQ S (3 * a + b + 1) = stQ (shQ S (3 * a + b)) (3 * a + b) := rfl
    obtain ⟨x1, x2, x3⟩ := hx
    have ho := x2.2.2 a b ha hb
    have e33 := x2.1 a ha
    have e34 := x2.2.1 b hb
    have hy := hP.1.1 a ha
    have hn := hP.1.2 b hb
    have n0 : vp_nar .boolean 0 = 0 := rfl
    have fin : ∀ (v0 : Nat) (q : Int32), q = nI v0 → v0 ≤ (shQ S (3 * a + b)).1 a → v0 ≤ (shQ S (3 * a + b)).2.1 b → vQ (shQ S (3 * a + b)) (3 * a + b) ≤ v0 → (vQ (shQ S (3 * a + b)) (3 * a + b) < v0 → ((shQ S (3 * a + b)).2.2.1 a).testBit b = true) → wp X m_Mo_shared 370 (L407 A so k q (nI b) (nI a) w (nI (shQ S (3 * a + b)).2.2.2)) [] G Q := by
      intro v0 q hq h1 h2 h3 h4
      subst hq
      refine rn_wp (stops := [407]) 60 ?_
      refine vi (by rw [o35]; exact vp_in_nI (by omega) (by omega)) ?_
      refine vi (vp_in_nI (by omega) (by omega)) ?_
      refine vi (vp_in_nI (by omega) (by omega)) ?_
      refine vi (vp_in_nI (by omega) (by omega)) ?_
      refine vi (vp_in_nI (by omega) (by omega)) ?_
      rw [o35, nI_clamp (n := 3 * a + b) (by omega), nI_clamp (n := a) (by omega), nI_clamp (n := b) (by omega), n0]
      refine w_dec (S := shQ S (3 * a + b)) (fun G => ∀ j, j < 3 * a + b → G 36 j = nI (vQ (shQ S j) j)) (fun G g g' h => h) hP ha hb (fun G' hF' hp' hQ' => ?_) (v0 - vQ (shQ S (3 * a + b)) (3 * a + b)) v0 _ _ rfl (by omega) h1 h2 (fun w => h4 (by omega)) (((x1.s (p := 35) rfl).s (p := 33) rfl).s (p := 34) rfl) x3 (gv_0 hP ha hb h1 h2 x2)
      refine rn_wp (stops := [309]) 20 ?_
      refine vi (by rw [o35]; exact vp_in_nI (by omega) (by omega)) ?_
      rw [o35, nI_clamp (n := 3 * a + b) (by omega)]
      refine wp_pick [0, 3, 4, 1, 5, 6, 7, 8] (w_smI hS hA ha K z (b + 1) _ _ _ (nI_1 _) (by omega) ?_ ⟨hF'.s rfl, ?_, fun j hj => ?_⟩)
      · rw [pk_sub hvl]
        rfl
      · show QM _ (shQ S (3 * a + b + 1)).1 (shQ S (3 * a + b + 1)).2.1 (shQ S (3 * a + b + 1)).2.2.1
        rw [est]
        unfold stQ
        rw [ea, eb]
        exact hQ'
      · show upd (G' 36) (3 * a + b) _ j = _
        by_cases e : j = 3 * a + b
        · subst e
          rw [pk_us]
        · rw [pk_un e]
          exact hp' j (by omega)
    refine rn_wp (stops := [300, 309, 370]) 60 ?_
    refine bi_f (by rw [show (3 : Int32) = nI 3 from rfl, nI_leI (by omega) (by omega)]; omega) ?_
    refine vi (by rw [o35]; exact vp_in_nI (by omega) (by omega)) ?_
    rw [o35, nI_clamp (n := 3 * a + b) (by omega)]
    refine bj (fun h => ?_) (fun h => ?_)
    · have hop := ho.mp h
      refine vi (vp_in_nI (by omega) (by omega)) ?_
      refine vi (vp_in_nI (by omega) (by omega)) ?_
      rw [nI_clamp (n := a) (by omega), nI_clamp (n := b) (by omega), e33, e34]
      refine bi (fun h2 => ?_) (fun h2 => ?_)
      · rw [nI_leI (by omega) (by omega)] at h2
        refine vi (vp_in_nI (by omega) (by omega)) ?_
        rw [nI_clamp (n := b) (by omega), e34]
        exact fin ((shQ S (3 * a + b)).2.1 b) _ rfl h2 (Nat.le_refl _) hvq.2 (fun _ => hop)
      · rw [nI_leI (by omega) (by omega)] at h2
        refine vi (vp_in_nI (by omega) (by omega)) ?_
        rw [nI_clamp (n := a) (by omega), e33]
        exact fin ((shQ S (3 * a + b)).1 a) _ rfl (Nat.le_refl _) (by omega) hvq.1 (fun _ => hop)
    · have hop : ¬ ((shQ S (3 * a + b)).2.2.1 a).testBit b = true := fun w => ho.mpr w h
      have ev0 : vQ (shQ S (3 * a + b)) (3 * a + b) = 0 := by
        unfold vQ hiF
        rw [ea, eb, if_neg hop]
      exact fin 0 _ rfl (Nat.zero_le _) (Nat.zero_le _) (by omega) (fun w => by omega)
theorem w_smO {X : Xt} {A : Nat} {so k w : Int32} {S : Sq} {G0 : Gt} {Q : Qt} (hS : PQ S) (hA : AQ S) (K : ∀ G, hM S G0 12 G → wp X m_Mo_shared 480 ((9, .int w) :: sB A so k) [] G Q) : ∀ (z a : Nat) (q l : Int32) (G : Gt), q = nI a → a + z = 4 → l = nI (shQ S (3 * a)).2.2.2 → hM S G0 (3 * a) G → wp X m_Mo_shared 300 ((10, .int q) :: (9, .int w) :: (8, .int l) :: sB A so k) [] G Q
  | 0, a, q, l, G, h1, hz, hl, hx => by
    subst h1
    have hs : a = 4 := by omega
    subst hs
    refine rn_wp (stops := [300, 309, 480]) 40 ?_
    refine bi_t (by decide) ?_
    exact wp_pick [1, 3, 4, 5, 6] (K G hx)
  | z + 1, a, q, l, G, h1, hz, hl, hx => by
    subst h1
    refine rn_wp (stops := [300, 309, 480]) 40 ?_
    refine bi_f (by rw [show (4 : Int32) = nI 4 from rfl, nI_leI (by omega) (by omega)]; omega) ?_
    exact w_smI hS hA (by omega) (fun G' q' l' hq' hl' hx' => w_smO hS hA K z (a + 1) q' l' G' hq' (by omega) hl' hx') 3 0 _ _ G rfl rfl hl hx
