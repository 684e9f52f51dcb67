/-! shared: the model's reading -/
abbrev sB (A : Nat) (so k : Int32) : Lt := [(6, .int (nI A)), (0, .ref 26), (3, .int so), (4, .int k)]
abbrev ckP (f : Nat → Int32) (j : Nat) : Prop := 0 ≤ f j ∧ f j ≤ (if j < 7 then 100 else 15)
def tR (f : Nat → Int32) : Nat → Nat := fun j => if j < 4 then tdN f j else 0
theorem ck_td {f : Nat → Int32} {j : Nat} (h : ckP f j) : f j = nI (tdN f j) ∧ tdN f j ≤ 100 := by
  by_cases q : j < 7
  · rw [ckP, if_pos q] at h
    exact td_I (B := 100) rfl h
  · rw [ckP, if_neg q] at h
    have := td_I (B := 15) rfl h
    exact ⟨this.1, by omega⟩
theorem rd_ck {f : Nat → Int32} : rdP f ↔ (∀ j, j < 10 → ckP f j) ∧ tS (tR f) 10 = 100 := by
  have e : tS (tR f) 10 = tS (tdN f) 4 := by
    show 0 + tdN f 0 + tdN f 1 + tdN f 2 + tdN f 3 + 0 + 0 + 0 + 0 + 0 + 0 = 0 + tdN f 0 + tdN f 1 + tdN f 2 + tdN f 3
    omega
  rw [e]
  refine and_congr_left (fun _ => ⟨fun h j hj => ?_, fun h => ⟨fun j hj => ?_, fun j hj => ?_⟩⟩)
  · by_cases q : j < 7
    · rw [ckP, if_pos q]; exact h.1 j q
    · rw [ckP, if_neg q]
      have := h.2 (j - 7) (by omega)
      rw [show 7 + (j - 7) = j by omega] at this
      exact this
  · have := h j (by omega)
    rw [ckP, if_pos hj] at this
    exact this
  · have := h (7 + j) (by omega)
    rw [ckP, if_neg (by omega)] at this
    exact this
set_option maxRecDepth 4000 in
theorem w_sck {X : Xt} {S I : Nat} {so k : Int32} {G : Gt} {Q : Qt} (hS : S < 8) (hI : I + 10 ≤ 100) (K1 : (∀ j, j < 10 → ckP (fM G S I) j) → wp X m_Mo_shared 149 ((7, .int (nI (tS (tR (fM G S I)) 10))) :: sB (100 * S + I) so k) [] G Q) (K2 : (¬ ∀ j, j < 10 → ckP (fM G S I) j) → Q (some (.int (-1000001))) G) : ∀ (z j : Nat) (q l : Int32), q = nI j → j + z = 10 → l = nI (tS (tR (fM G S I)) j) → (∀ i, i < j → ckP (fM G S I) i) → wp X m_Mo_shared 78 ((8, .int q) :: (7, .int l) :: sB (100 * S + I) so k) [] G Q
  | 0, j, q, l, h1, hz, hl, hj => by
    subst h1
    have h10 : j = 10 := by omega
    subst h10
    subst hl
    refine rn_wp (stops := [78, 149]) 60 ?_
    refine bi_t (by decide) ?_
    exact wp_pick [1, 2, 3, 4, 5] (K1 hj)
  | z + 1, j, q, l, h1, hz, hl, hj => by
    subst h1
    have ea : nI (100 * S + I) + nI j = nI (100 * S + (I + j)) := by rw [nI_add, Nat.add_assoc]
    refine rn_wp (stops := [78, 149]) 60 ?_
    refine bi_f (by rw [show (10 : Int32) = nI 10 from rfl, nI_leI (by omega) (by omega)]; omega) ?_
    refine vi (by rw [ea]; exact vp_in_nI (by omega) (by omega)) ?_
    rw [ea, nI_clamp (by omega)]
    have nx : ∀ l' : Int32, ckP (fM G S I) j → l' = nI (tS (tR (fM G S I)) (j + 1)) → wp X m_Mo_shared 78 ((8, .int (nI j + 1)) :: (7, .int l') :: (9, .int (fM G S I j)) :: sB (100 * S + I) so k) [] G Q := by
      intro l' hc hl'
      refine wp_pick [0, 1, 3, 4, 5, 6] (w_sck hS hI K1 K2 z (j + 1) _ _ (nI_1 _) (by omega) hl' (fun i hi => ?_))
      rcases Nat.lt_succ_iff_lt_or_eq.mp hi with w | w
      · exact hj i w
      · rw [w]; exact hc
    have eS : tS (tR (fM G S I)) (j + 1) = tS (tR (fM G S I)) j + tR (fM G S I) j := rfl
    refine bi (fun h => ?_) (fun h => ?_)
    · rw [show (7 : Int32) = nI 7 from rfl, nI_leI (by omega) (by omega)] at h
      refine c_in 0 15 rfl rfl ?_
      refine bjb (fun h2 => ?_) (fun h2 => ?_)
      · have hc : ckP (fM G S I) j := by rw [ckP, if_neg (by omega)]; exact h2
        refine bi_t (by rw [show (4 : Int32) = nI 4 from rfl, nI_leI (by omega) (by omega)]; omega) ?_
        refine nx _ hc ?_
        rw [eS, hl, show tR (fM G S I) j = 0 from if_neg (by omega), Int32.add_zero]
        rfl
      · refine K2 (fun w => h2 ?_)
        have := w j (by omega)
        rw [ckP, if_neg (by omega)] at this
        exact this
    · rw [show (7 : Int32) = nI 7 from rfl, nI_leI (by omega) (by omega)] at h
      refine c_in 0 100 rfl rfl ?_
      refine bjb (fun h2 => ?_) (fun h2 => ?_)
      · have hc : ckP (fM G S I) j := by rw [ckP, if_pos (by omega)]; exact h2
        refine bi (fun h4 => ?_) (fun h4 => ?_)
        · rw [show (4 : Int32) = nI 4 from rfl, nI_leI (by omega) (by omega)] at h4
          refine nx _ hc ?_
          rw [eS, hl, show tR (fM G S I) j = 0 from if_neg (by omega), Int32.add_zero]
          rfl
        · rw [show (4 : Int32) = nI 4 from rfl, nI_leI (by omega) (by omega)] at h4
          refine nx _ hc ?_
          have e9 : G 29 (100 * S + (I + j)) = nI (tdN (fM G S I) j) := (ck_td hc).1
          rw [eS, hl, show tR (fM G S I) j = tdN (fM G S I) j from if_pos (by omega), e9, nI_add]
      · refine K2 (fun w => h2 ?_)
        have := w j (by omega)
        rw [ckP, if_pos (by omega)] at this
        exact this
theorem tk_bit {x : Nat → Nat} {s : Nat} : ∀ j, j < 3 → (tkF x s 3).testBit j = (x j).testBit s := by
  have e : tkF x s 3 = if (x 2).testBit s = true then (if (x 1).testBit s = true then (if (x 0).testBit s = true then 0 ||| 2 ^ 0 else 0) ||| 2 ^ 1 else (if (x 0).testBit s = true then 0 ||| 2 ^ 0 else 0)) ||| 2 ^ 2 else (if (x 1).testBit s = true then (if (x 0).testBit s = true then 0 ||| 2 ^ 0 else 0) ||| 2 ^ 1 else (if (x 0).testBit s = true then 0 ||| 2 ^ 0 else 0)) := rfl
  rw [e]
  intro j hj
  have h3 : j = 0 ∨ j = 1 ∨ j = 2 := by omega
  rcases h3 with rfl | rfl | rfl <;> cases (x 0).testBit s <;> cases (x 1).testBit s <;> cases (x 2).testBit s <;> decide
set_option maxRecDepth 4000 in
theorem w_sh {X : Xt} {S I : Nat} {so k : Int32} {f : Nat → Int32} {G0 : Gt} {Q : Qt} (hS : S < 8) (hI : I + 10 ≤ 100) (hf : fM G0 S I = f) (hc : ∀ j, j < 10 → ckP f j) (K : ∀ G, FrS G0 G → (∀ a, a < 4 → G 33 a = nI (yF f a)) → wp X m_Mo_shared 196 (sB (100 * S + I) so k) [] G Q) : ∀ (z a : Nat) (q : Int32) (G : Gt), q = nI a → a + z = 4 → FrS G0 G → (∀ j, j < a → G 33 j = nI (yF f j)) → wp X m_Mo_shared 167 ((8, .int q) :: sB (100 * S + I) so k) [] G Q
  | 0, a, q, G, h1, hz, hF, hj => by
    subst h1
    have h4 : a = 4 := by omega
    subst h4
    refine rn_wp (stops := [167, 196]) 40 ?_
    refine bi_t (by decide) ?_
    exact wp_pick [1, 2, 3, 4] (K G hF hj)
  | z + 1, a, q, G, h1, hz, hF, hj => by
    subst h1
    have e29 : G 29 = G0 29 := hF.1 29 rfl (by decide)
    have ea : nI (100 * S + I) + nI a = nI (100 * S + (I + a)) := by rw [nI_add, Nat.add_assoc]
    have ef : G 29 (100 * S + (I + a)) = nI (tdN f a) := by
      rw [e29, show G0 29 (100 * S + (I + a)) = f a by rw [← hf]]
      exact (ck_td (hc a (by omega))).1
    refine rn_wp (stops := [167, 196]) 40 ?_
    refine bi_f (by rw [show (4 : Int32) = nI 4 from rfl, nI_leI (by omega) (by omega)]; omega) ?_
    refine vi (by rw [ea]; exact vp_in_nI (by omega) (by omega)) ?_
    refine vi (vp_in_nI (by omega) (by omega)) ?_
    rw [ea, nI_clamp (by omega), nI_clamp (by omega), ef]
    refine w_sh hS hI hf hc K z (a + 1) _ _ (nI_1 _) (by omega) (hF.s rfl) (fun j hj2 => ?_)
    show upd (G 33) a _ j = _
    by_cases e : j = a
    · subst e
      rw [pk_us]
    · rw [pk_un e]
      exact hj j (by omega)
/-- what is open ahead of a, b -/
def opM (f : Nat → Int32) (G : Gt) (b a : Nat) : Prop := ∀ s j, s < 4 → (j < b ∨ (j = b ∧ s < a)) → j < 3 → (¬ G 35 (3 * s + j) = 0 ↔ (tF f s).testBit j = true)
set_option maxRecDepth 4000 in
theorem w_so {X : Xt} {S I b : Nat} {so k : Int32} {f : Nat → Int32} {G0 : Gt} {Q : Qt} (hS : S < 8) (hI : I + 10 ≤ 100) (hb : b < 3) (hf : fM G0 S I = f) (hc : ∀ j, j < 10 → ckP f j) (P : Gt → Prop) (hPs : ∀ G g, P G → P (sG G 35 g)) (K : ∀ G q, q = nI (b + 1) → FrS G0 G → P G → opM f G (b + 1) 0 → wp X m_Mo_shared 199 ((8, .int q) :: sB (100 * S + I) so k) [] G Q) : ∀ (z a : Nat) (q : Int32) (G : Gt), q = nI a → a + z = 4 → FrS G0 G → P G → opM f G b a → wp X m_Mo_shared 227 ((9, .int q) :: (8, .int (nI b)) :: sB (100 * S + I) so k) [] G Q
  | 0, a, q, G, h1, hz, hF, hP, ho => by
    subst h1
    have h4 : a = 4 := by omega
    subst h4
    refine rn_wp (stops := [199, 227]) 60 ?_
    refine bi_t (by decide) ?_
    refine wp_pick [0, 2, 3, 4, 5] (K G _ (nI_1 b) hF hP (fun s j hs hj hj3 => ?_))
    refine ho s j hs ?_ hj3
    rcases hj with w | w
    · by_cases e : j = b
      · exact Or.inr ⟨e, hs⟩
      · exact Or.inl (by omega)
    · omega
  | z + 1, a, q, G, h1, hz, hF, hP, ho => by
    subst h1
    have e29 : G 29 = G0 29 := hF.1 29 rfl (by decide)
    have ea : nI (100 * S + I) + 7 + nI b = nI (100 * S + (I + (7 + b))) := by rw [show (7 : Int32) = nI 7 from rfl, nI_add, nI_add, Nat.add_assoc, Nat.add_assoc]
    have hcb := hc (7 + b) (by omega)
    have h15 : tdN f (7 + b) ≤ 15 := by
      rw [ckP, if_neg (by omega)] at hcb
      exact (td_I (B := 15) rfl hcb).2
    have ef : G 29 (100 * S + (I + (7 + b))) = nI (tdN f (7 + b)) := by
      rw [e29, show G0 29 (100 * S + (I + (7 + b))) = f (7 + b) by rw [← hf]]
      exact (ck_td hcb).1
    have hbit : (tF f a).testBit b = (tdN f (7 + b)).testBit a := tk_bit b hb
    have n1 : vp_nar .boolean 1 = 1 := rfl
    have n0 : vp_nar .boolean 0 = 0 := rfl
    have nx : ∀ v : Int32, (¬ v = 0 ↔ (tF f a).testBit b = true) → wp X m_Mo_shared 227 ((9, .int (nI a + 1)) :: (8, .int (nI b)) :: sB (100 * S + I) so k) [] (sG G 35 (upd (G 35) (3 * a + b) v)) Q := by
      intro v hv
      refine w_so hS hI hb hf hc P hPs K z (a + 1) _ _ (nI_1 _) (by omega) (hF.s rfl) (hPs _ _ hP) (fun s j hs hj hj3 => ?_)
      show ¬ upd (G 35) (3 * a + b) v (3 * s + j) = 0 ↔ _
      by_cases e : s = a ∧ j = b
      · obtain ⟨rfl, rfl⟩ := e
        rw [pk_us]
        exact hv
      · rw [pk_un (by omega)]
        refine ho s j hs ?_ hj3
        rcases hj with w | w
        · exact Or.inl w
        · exact Or.inr ⟨w.1, by omega⟩
    refine rn_wp (stops := [199, 227]) 60 ?_
    refine bi_f (by rw [show (4 : Int32) = nI 4 from rfl, nI_leI (by omega) (by omega)]; omega) ?_
    refine vi (by rw [ea]; exact vp_in_nI (by omega) (by omega)) ?_
    rw [ea, nI_clamp (by omega), ef]
    refine bj (fun h => ?_) (fun h => ?_)
    · rw [bitN_1 (by omega) (by omega)] at h
      refine vi (by rw [o35]; exact vp_in_nI (by omega) (by omega)) ?_
      rw [o35, nI_clamp (by omega), n0]
      exact nx 0 ⟨fun w => absurd rfl w, fun w => absurd (hbit ▸ w) h⟩
    · rw [bitN_1 (by omega) (by omega)] at h
      refine vi (by rw [o35]; exact vp_in_nI (by omega) (by omega)) ?_
      rw [o35, nI_clamp (by omega), n1]
      exact nx 1 ⟨fun _ => hbit.trans h, fun _ => by decide⟩
set_option maxRecDepth 4000 in
theorem w_sn {X : Xt} {S I : Nat} {so k : Int32} {f : Nat → Int32} {G0 : Gt} {Q : Qt} (hS : S < 8) (hI : I + 10 ≤ 100) (hf : fM G0 S I = f) (hc : ∀ j, j < 10 → ckP f j) (K : ∀ G, FrS G0 G → QM G (yF f) (nF f) (tF f) → wp X m_Mo_shared 284 (sB (100 * S + I) so k) [] G Q) : ∀ (z b : Nat) (q : Int32) (G : Gt), q = nI b → b + z = 3 → FrS G0 G → (∀ a, a < 4 → G 33 a = nI (yF f a)) ∧ (∀ j, j < b → G 34 j = nI (nF f j)) → opM f G b 0 → wp X m_Mo_shared 199 ((8, .int q) :: sB (100 * S + I) so k) [] G Q
  | 0, b, q, G, h1, hz, hF, hP, ho => by
    subst h1
    have h4 : b = 3 := by omega
    subst h4
    refine rn_wp (stops := [199, 284]) 60 ?_
    refine bi_t (by decide) ?_
    exact wp_pick [1, 2, 3, 4] (K G hF ⟨hP.1, hP.2, fun s j hs hj => ho s j hs (Or.inl hj) hj⟩)
  | z + 1, b, q, G, h1, hz, hF, hP, ho => by
    subst h1
    have e29 : G 29 = G0 29 := hF.1 29 rfl (by decide)
    have ea : nI (100 * S + I) + 4 + nI b = nI (100 * S + (I + (4 + b))) := by rw [show (4 : Int32) = nI 4 from rfl, nI_add, nI_add, Nat.add_assoc, Nat.add_assoc]
    have ef : G 29 (100 * S + (I + (4 + b))) = nI (tdN f (4 + b)) := by
      rw [e29, show G0 29 (100 * S + (I + (4 + b))) = f (4 + b) by rw [← hf]]
      exact (ck_td (hc (4 + b) (by omega))).1
    refine rn_wp (stops := [199, 227, 284]) 60 ?_
    refine bi_f (by rw [show (3 : Int32) = nI 3 from rfl, nI_leI (by omega) (by omega)]; omega) ?_
    refine vi (by rw [ea]; exact vp_in_nI (by omega) (by omega)) ?_
    refine vi (vp_in_nI (by omega) (by omega)) ?_
    rw [ea, nI_clamp (by omega), nI_clamp (by omega), ef]
    refine w_so hS hI (by omega) hf hc (fun G => (∀ a, a < 4 → G 33 a = nI (yF f a)) ∧ (∀ j, j < b + 1 → G 34 j = nI (nF f j))) (fun G g h => h) (fun G' q' hq' hF' hP' ho' => w_sn hS hI hf hc K z (b + 1) q' G' hq' (by omega) hF' hP' ho') 4 0 _ _ rfl rfl (hF.s rfl) ⟨hP.1, fun j hj => ?_⟩ ho
    show upd (G 34) b _ j = _
    by_cases e : j = b
    · subst e
      rw [pk_us]
    · rw [pk_un e]
      exact hP.2 j (by omega)
