/-! lay, lift: the model, the pairs -/
theorem rN {x : Int32} (h : 0 ≤ x.toInt) : x = nI x.toInt.toNat ∧ x.toInt.toNat < 2 ^ 31 := by
  have h2 := rng x
  have h4 : x.toInt.toNat < 2 ^ 31 := by omega
  refine ⟨eq32.mpr ?_, h4⟩
  rw [nI_toInt h4]
  omega
abbrev tb (f : Nat → Int32) (R P : Nat) : Prop := (f R).toInt.toNat.testBit P = true
abbrev canM (f : Nat → Int32) (R P : Nat) : Prop := ¬ tb f R P ∧ (R = 0 ∨ (tb f (R - 1) P ∧ tb f (R - 1) (P + 1)))
abbrev offM (f : Nat → Int32) (R P : Nat) : Prop := tb f R P ∧ (R = 7 ∨ (¬ tb f (R + 1) P ∧ (P = 0 ∨ ¬ tb f (R + 1) (P - 1))))
theorem c_Mo_lay {X : Xt} {r p : Int32} {G : Gt} {Q : Qt} (h0 : G 26 0 = 0) (hro : ∀ r, r < 8 → 0 ≤ (G 37 r).toInt) (K1 : ¬ plc r p → Q (some (.int (-1000001))) G) (K2 : ∀ R P : Nat, r = nI R → p = nI P → R < 8 → P + R < 12 → ¬ canM (G 37) R P → Q (some (.int (-1000002))) G) (K3 : ∀ R P : Nat, r = nI R → p = nI P → R < 8 → P + R < 12 → canM (G 37) R P → Q (some (.int 1)) (sG G 37 (upd (G 37) R (G 37 R ||| (1 : Int32) <<< (nI P &&& 31))))) : con X m_Mo_lay [.ref 26, .int r, .int p] G Q := by
  refine con_rm 80 [] (by decide) rfl (by decide +kernel) h0 ?_
  refine c_MisPlace2 ?_
  refine bjb (fun h => ?_) (fun h => ?_)
  · obtain ⟨R, P, e1, e2, h1, h2⟩ := plcN h
    subst e1
    subst e2
    have k2 := K2 R P rfl rfl h1 h2
    have k3 := K3 R P rfl rfl h1 h2
    refine vi (vp_in_nI (by omega) (by omega)) ?_
    rw [nI_clamp (by omega)]
    refine c_isIn (rN (hro R h1)).1 rfl (rN (hro R h1)).2 (by omega) ?_
    refine bjb (fun h3 => ?_) (fun h3 => ?_)
    · exact k2 (fun z => z.1 h3)
    · refine bi (fun h4 => ?_) (fun h4 => ?_)
      · have hz : R = 0 := by
          rw [← nI_0, nI_leI (by omega) (by omega)] at h4
          omega
        refine vi (vp_in_nI (by omega) (by omega)) ?_
        refine vi (vp_in_nI (by omega) (by omega)) ?_
        rw [nI_clamp (by omega)]
        exact k3 ⟨h3, Or.inl hz⟩
      · have hz : 0 < R := by
          rw [← nI_0, nI_leI (by omega) (by omega)] at h4
          omega
        refine vi (by rw [nI_m1 hz]; exact vp_in_nI (by omega) (by omega)) ?_
        rw [nI_m1 hz, nI_clamp (by omega)]
        refine c_isIn (rN (hro (R - 1) (by omega))).1 rfl (rN (hro (R - 1) (by omega))).2 (by omega) ?_
        refine bib (fun h5 => ?_) (fun h5 => ?_)
        · refine k2 (fun z => ?_)
          rcases z.2 with q | q
          · omega
          · exact h5 q.1
        · refine vi (by rw [nI_m1 hz]; exact vp_in_nI (by omega) (by omega)) ?_
          rw [nI_m1 hz, nI_clamp (by omega)]
          refine c_isIn (rN (hro (R - 1) (by omega))).1 (nI_1 P) (rN (hro (R - 1) (by omega))).2 (by omega) ?_
          refine bjb (fun h6 => ?_) (fun h6 => ?_)
          · refine vi (vp_in_nI (by omega) (by omega)) ?_
            refine vi (vp_in_nI (by omega) (by omega)) ?_
            rw [nI_clamp (by omega)]
            exact k3 ⟨h3, Or.inr ⟨h5, h6⟩⟩
          · refine k2 (fun z => ?_)
            rcases z.2 with q | q
            · omega
            · exact h6 q.2
  · exact K1 h
theorem c_Mo_lift {X : Xt} {r p : Int32} {G : Gt} {Q : Qt} (h0 : G 26 0 = 0) (hro : ∀ r, r < 8 → 0 ≤ (G 37 r).toInt) (K1 : ¬ plc r p → Q (some (.int (-1000001))) G) (K2 : ∀ R P : Nat, r = nI R → p = nI P → R < 8 → P + R < 12 → ¬ offM (G 37) R P → Q (some (.int (-1000002))) G) (K3 : ∀ R P : Nat, r = nI R → p = nI P → R < 8 → P + R < 12 → offM (G 37) R P → Q (some (.int 1)) (sG G 37 (upd (G 37) R (G 37 R &&& ((1 : Int32) <<< (nI P &&& 31) ^^^ (-1)))))) : con X m_Mo_lift [.ref 26, .int r, .int p] G Q := by
  refine con_rm 80 [] (by decide) rfl (by decide +kernel) h0 ?_
  refine c_MisPlace2 ?_
  refine bjb (fun h => ?_) (fun h => ?_)
  · obtain ⟨R, P, e1, e2, h1, h2⟩ := plcN h
    subst e1
    subst e2
    have k2 := K2 R P rfl rfl h1 h2
    have k3 := K3 R P rfl rfl h1 h2
    refine vi (vp_in_nI (by omega) (by omega)) ?_
    rw [nI_clamp (by omega)]
    refine c_isIn (rN (hro R h1)).1 rfl (rN (hro R h1)).2 (by omega) ?_
    refine bib (fun h3 => ?_) (fun h3 => ?_)
    · exact k2 (fun z => h3 z.1)
    · refine bi (fun h4 => ?_) (fun h4 => ?_)
      · have hz : R = 7 := by
          rw [show (7 : Int32) = nI 7 from rfl, nI_leI (by omega) (by omega)] at h4
          omega
        refine vi (vp_in_nI (by omega) (by omega)) ?_
        refine vi (vp_in_nI (by omega) (by omega)) ?_
        rw [nI_clamp (by omega)]
        exact k3 ⟨h3, Or.inl hz⟩
      · have hz : R < 7 := by
          rw [show (7 : Int32) = nI 7 from rfl, nI_leI (by omega) (by omega)] at h4
          omega
        refine vi (by rw [nI_1 R]; exact vp_in_nI (by omega) (by omega)) ?_
        rw [nI_1 R, nI_clamp (by omega)]
        refine c_isIn (rN (hro (R + 1) (by omega))).1 rfl (rN (hro (R + 1) (by omega))).2 (by omega) ?_
        refine bjb (fun h5 => ?_) (fun h5 => ?_)
        · refine k2 (fun z => ?_)
          rcases z.2 with q | q
          · omega
          · exact q.1 h5
        · refine vi (by rw [nI_1 R]; exact vp_in_nI (by omega) (by omega)) ?_
          rw [nI_1 R, nI_clamp (by omega)]
          rcases Nat.eq_zero_or_pos P with hp | hp
          · subst hp
            refine c_isIn_n (by decide) ?_
            refine bi_t rfl ?_
            refine vi (vp_in_nI (by omega) (by omega)) ?_
            refine vi (vp_in_nI (by omega) (by omega)) ?_
            rw [nI_clamp (by omega)]
            exact k3 ⟨h3, Or.inr ⟨h5, Or.inl rfl⟩⟩
          · refine c_isIn (rN (hro (R + 1) (by omega))).1 (nI_m1 hp) (rN (hro (R + 1) (by omega))).2 (by omega) ?_
            refine bib (fun h6 => ?_) (fun h6 => ?_)
            · refine vi (vp_in_nI (by omega) (by omega)) ?_
              refine vi (vp_in_nI (by omega) (by omega)) ?_
              rw [nI_clamp (by omega)]
              exact k3 ⟨h3, Or.inr ⟨h5, Or.inr h6⟩⟩
            · refine k2 (fun z => ?_)
              rcases z.2 with q | q
              · omega
              · rcases q.2 with q | q
                · omega
                · exact q h6
  · exact K1 h
theorem cnt_out {f : Nat → Int32} {k : Nat} {v : Int32} : ∀ {n : Nat}, n ≤ k → cnt (upd f k v) n = cnt f n
  | 0, _ => rfl
  | n + 1, h => by
    rw [cnt, cnt, cnt_out (by omega), pk_un (by omega)]
theorem cnt_on {f : Nat → Int32} {k : Nat} (hk : f k = 0) : ∀ {n : Nat}, k < n → cnt (upd f k 1) n = cnt f n + 1
  | 0, h => absurd h (by omega)
  | n + 1, h => by
    rw [cnt, cnt]
    by_cases e : n = k
    · subst e
      rw [cnt_out (Nat.le_refl _), pk_us, if_pos hk, if_neg (by decide)]
    · rw [cnt_on hk (by omega), pk_un e]
      omega
theorem cnt_off {f : Nat → Int32} {k : Nat} (hk : ¬ f k = 0) : ∀ {n : Nat}, k < n → cnt f n = cnt (upd f k 0) n + 1
  | 0, h => absurd h (by omega)
  | n + 1, h => by
    rw [cnt, cnt]
    by_cases e : n = k
    · subst e
      rw [cnt_out (Nat.le_refl _), pk_us, if_neg hk, if_pos rfl]
    · rw [cnt_off hk (n := n) (by omega), pk_un e]
      omega
theorem IP_0 {li ro : Nat → Int32} {n : Int32} (h : IP li n ro) {R P : Nat} (hR : R < 8) (hP : P < 12) : (¬ li (12 * R + P) = 0 ↔ tb ro R P) := by
  have h1 := h.1 R P hR hP
  have h2 := h.2.2.1 R P hR hP
  unfold tb
  rw [← h2]
  rcases h1 with h1 | h1
  · rw [h1]; exact ⟨fun z => absurd rfl z, fun z => absurd z (by decide)⟩
  · rw [h1]; exact ⟨fun _ => rfl, fun _ => by decide⟩
theorem IP_hi {li ro : Nat → Int32} {n : Int32} (h : IP li n ro) {R P : Nat} (hR : R < 8) (hP : 12 ≤ P + R) : ¬ tb ro R P := by
  obtain ⟨h1, h2⟩ := h.2.1 R hR
  have h3 : (ro R).toInt.toNat < 2 ^ (12 - R) := by
    have : ((2 ^ (12 - R) : Nat) : Int) = (2 : Int) ^ (12 - R) := by exact_mod_cast rfl
    omega
  have := Nat.testBit_lt_two_pow (Nat.lt_of_lt_of_le h3 (Nat.pow_le_pow_right (by omega) (show 12 - R ≤ P by omega)))
  unfold tb
  rw [this]
  decide
theorem IP_set {li ro : Nat → Int32} {n n' v x : Int32} (h : IP li n ro) {R P : Nat} (hR : R < 8) (hP : P + R < 12) (hv : v = 0 ∨ v = 1) (hx : (0 ≤ x.toInt ∧ x.toInt < 2 ^ (12 - R)) ∧ ∀ j, j < 12 → (x.toInt.toNat.testBit j = true ↔ if j = P then v = 1 else tb ro R j)) (hn : n' = nI (cnt (upd li (12 * R + P) v) 96)) : IP (upd li (12 * R + P) v) n' (upd ro R x) := by
  obtain ⟨h1, h2, h3, h4⟩ := h
  refine ⟨fun r p hr hp => ?_, fun r hr => ?_, fun r p hr hp => ?_, hn⟩
  · unfold upd
    split
    · exact hv
    · exact h1 r p hr hp
  · unfold upd
    split
    · rename_i e; rw [e]; exact hx.1
    · exact h2 r hr
  · by_cases e : r = R
    · subst e
      rw [pk_us, hx.2 p hp]
      by_cases e2 : p = P
      · subst e2
        rw [pk_us, if_pos rfl]
      · rw [pk_un (by omega), if_neg e2]
        exact h3 r p hr hp
    · rw [pk_un e, pk_un (by omega)]
      exact h3 r p hr hp
theorem p_lay {X : Xt} {G : Gt} (hI : Inv G) {r p : Int32} : pair X m_SW_lay m_Mo_lay [.int r, .int p] G := by
  obtain ⟨hW, hT, hS, hP, hs, h0⟩ := id hI
  have hro : ∀ r, r < 8 → 0 ≤ (G 37 r).toInt := fun r hr => (hP.2.1 r hr).1
  have key : ∀ R P : Nat, R < 8 → P + R < 12 → (G 15 (12 * R + P) = 0 ∧ brn (G 15) R P ↔ canM (G 37) R P) := by
    intro R P h1 h2
    have a := IP_0 hP h1 (show P < 12 by omega)
    have b : G 15 (12 * R + P) = 0 ↔ ¬ tb (G 37) R P := by rw [← a, Decidable.not_not]
    rw [b]
    refine and_congr_right (fun _ => ?_)
    by_cases hz : R = 0
    · exact ⟨fun _ => Or.inl hz, fun _ => Or.inl hz⟩
    · have c := IP_0 hP (show R - 1 < 8 by omega) (show P < 12 by omega)
      have d := IP_0 hP (show R - 1 < 8 by omega) (show P + 1 < 12 by omega)
      unfold brn
      rw [c, d]
  have nn : ∀ {R P R' P' : Nat}, R < 8 → P + R < 12 → R' < 8 → P' + R' < 12 → nI R = nI R' → nI P = nI P' → R' = R ∧ P' = P := by
    intro R P R' P' a b c d e f
    rw [nI_eq (by omega) (by omega)] at e f
    exact ⟨e.symm, f.symm⟩
  refine c_SW_lay (fun h => pq ?_) (fun R P e1 e2 h1 h2 h3 => pq ?_) (fun R P e1 e2 h1 h2 h3 => pq ?_)
  · exact c_Mo_lay h0 hro (fun _ => ⟨rfl, hI⟩) (fun R P e1 e2 h1 h2 _ => absurd (by rw [e1, e2]; exact plcI h1 h2) h) (fun R P e1 e2 h1 h2 _ => absurd (by rw [e1, e2]; exact plcI h1 h2) h)
  · subst e1
    subst e2
    refine c_Mo_lay h0 hro (fun z => absurd (plcI h1 h2) z) (fun _ _ _ _ _ _ _ => ⟨rfl, hI⟩) (fun R' P' e1 e2 g1 g2 z => ?_)
    obtain ⟨rfl, rfl⟩ := nn h1 h2 g1 g2 e1 e2
    exact absurd ((key _ _ h1 h2).mpr z) h3
  · subst e1
    subst e2
    refine c_Mo_lay h0 hro (fun z => absurd (plcI h1 h2) z) (fun R' P' e1 e2 g1 g2 z => ?_) (fun R' P' e1 e2 g1 g2 z => ⟨rfl, ?_⟩)
    · obtain ⟨rfl, rfl⟩ := nn h1 h2 g1 g2 e1 e2
      exact absurd ((key _ _ h1 h2).mp h3) z
    · obtain ⟨rfl, rfl⟩ := nn h1 h2 g1 g2 e1 e2
      refine ⟨hW, hT, hS, ?_, hs, h0⟩
      have hb := bit_on (x := G 37 R') (n := 12 - R') (P := P') (by omega) (by omega) (hP.2.1 R' h1).1 (hP.2.1 R' h1).2
      refine IP_set hP h1 h2 (Or.inr rfl) ⟨hb.1, fun j hj => ?_⟩ ?_
      · rw [show (sG (sG G 15 (upd (G 15) (12 * R' + P') 1)) 14 (upd (G 14) 3 (G 14 3 + 1))) 37 = G 37 from rfl, hb.2 j (by omega)]
        by_cases e : j = P'
        · rw [if_pos e, decide_eq_true e, Bool.or_true]
          exact ⟨fun _ => rfl, fun _ => rfl⟩
        · rw [if_neg e, decide_eq_false e, Bool.or_false]
      · show G 14 3 + 1 = _
        rw [cnt_on h3.1 (by omega), hP.2.2.2, nI_1]
theorem p_lift {X : Xt} {G : Gt} (hI : Inv G) {r p : Int32} : pair X m_SW_lift m_Mo_lift [.int r, .int p] G := by
  obtain ⟨hW, hT, hS, hP, hs, h0⟩ := id hI
  have hro : ∀ r, r < 8 → 0 ≤ (G 37 r).toInt := fun r hr => (hP.2.1 r hr).1
  have kb : ∀ R P : Nat, R < 8 → P < 12 → (brs (G 15) R (nI P) ↔ R < 7 ∧ tb (G 37) (R + 1) P) := by
    intro R P h1 h2
    unfold brs
    rw [nI_1, nI_clamp (by omega)]
    constructor
    · rintro ⟨a, b⟩
      obtain ⟨R1, P1, e1, e2, g1, g2⟩ := plcN a
      rw [nI_eq (by omega) (by omega)] at e1 e2
      subst e1
      subst e2
      exact ⟨by omega, (IP_0 hP (by omega) h2).mp b⟩
    · rintro ⟨a, b⟩
      refine ⟨plcI (by omega) (Nat.lt_of_not_le (fun z => ?_)), (IP_0 hP (by omega) h2).mpr b⟩
      exact IP_hi hP (show R + 1 < 8 by omega) z b
  have key : ∀ R P : Nat, R < 8 → P + R < 12 → (¬ G 15 (12 * R + P) = 0 ∧ ¬ brs (G 15) R (nI P - 1) ∧ ¬ brs (G 15) R (nI P) ↔ offM (G 37) R P) := by
    intro R P h1 h2
    rw [IP_0 hP h1 (show P < 12 by omega), kb R P h1 (by omega)]
    refine and_congr_right (fun _ => ?_)
    have hm : brs (G 15) R (nI P - 1) ↔ R < 7 ∧ 0 < P ∧ tb (G 37) (R + 1) (P - 1) := by
      rcases Nat.eq_zero_or_pos P with hp | hp
      · subst hp
        refine ⟨fun z => ?_, fun z => absurd z.2.1 (by omega)⟩
        exact absurd z.1.2.1 (by decide)
      · rw [nI_m1 hp, kb R (P - 1) h1 (by omega)]
        exact ⟨fun z => ⟨z.1, hp, z.2⟩, fun z => ⟨z.1, z.2.2⟩⟩
    rw [hm]
    constructor
    · rintro ⟨a, b⟩
      by_cases h7 : R = 7
      · exact Or.inl h7
      · refine Or.inr ⟨fun z => b ⟨by omega, z⟩, ?_⟩
        by_cases hp : P = 0
        · exact Or.inl hp
        · exact Or.inr (fun z => a ⟨by omega, by omega, z⟩)
    · rintro (a | ⟨a, b⟩)
      · exact ⟨fun z => by omega, fun z => by omega⟩
      · refine ⟨fun z => ?_, fun z => a z.2⟩
        rcases b with b | b
        · omega
        · exact b z.2.2
  have nn : ∀ {R P R' P' : Nat}, R < 8 → P + R < 12 → R' < 8 → P' + R' < 12 → nI R = nI R' → nI P = nI P' → R' = R ∧ P' = P := by
    intro R P R' P' a b c d e f
    rw [nI_eq (by omega) (by omega)] at e f
    exact ⟨e.symm, f.symm⟩
  refine c_SW_lift (fun h => pq ?_) (fun R P e1 e2 h1 h2 h3 => pq ?_) (fun R P e1 e2 h1 h2 h3 => pq ?_)
  · exact c_Mo_lift h0 hro (fun _ => ⟨rfl, hI⟩) (fun R P e1 e2 h1 h2 _ => absurd (by rw [e1, e2]; exact plcI h1 h2) h) (fun R P e1 e2 h1 h2 _ => absurd (by rw [e1, e2]; exact plcI h1 h2) h)
  · subst e1
    subst e2
    refine c_Mo_lift h0 hro (fun z => absurd (plcI h1 h2) z) (fun _ _ _ _ _ _ _ => ⟨rfl, hI⟩) (fun R' P' e1 e2 g1 g2 z => ?_)
    obtain ⟨rfl, rfl⟩ := nn h1 h2 g1 g2 e1 e2
    exact absurd ((key _ _ h1 h2).mpr z) h3
  · subst e1
    subst e2
    refine c_Mo_lift h0 hro (fun z => absurd (plcI h1 h2) z) (fun R' P' e1 e2 g1 g2 z => ?_) (fun R' P' e1 e2 g1 g2 z => ⟨rfl, ?_⟩)
    · obtain ⟨rfl, rfl⟩ := nn h1 h2 g1 g2 e1 e2
      exact absurd ((key _ _ h1 h2).mp h3) z
    · obtain ⟨rfl, rfl⟩ := nn h1 h2 g1 g2 e1 e2
      refine ⟨hW, hT, hS, ?_, hs, h0⟩
      have hb := bit_off (x := G 37 R') (n := 12 - R') (P := P') (by omega) (by omega) (hP.2.1 R' h1).1 (hP.2.1 R' h1).2
      refine IP_set hP h1 h2 (Or.inl rfl) ⟨hb.1, fun j hj => ?_⟩ ?_
      · rw [show (sG (sG G 15 (upd (G 15) (12 * R' + P') 0)) 14 (upd (G 14) 3 (G 14 3 - 1))) 37 = G 37 from rfl, hb.2 j (by omega)]
        by_cases e : j = P'
        · rw [if_pos e, decide_eq_true e, Bool.not_true, Bool.and_false]
          exact ⟨fun z => absurd z (by decide), fun z => absurd z (by decide)⟩
        · rw [if_neg e, decide_eq_false e, Bool.not_false, Bool.and_true]
      · show G 14 3 - 1 = _
        have := cnt_off h3.1 (n := 96) (by omega)
        rw [hP.2.2.2, this, nI_pred]
