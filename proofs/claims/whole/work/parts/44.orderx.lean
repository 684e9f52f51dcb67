/-! the class: putInTurn's loops -/
/-- L: where blocks lie; nr: what is near -/
abbrev lyX (L : Nat → Nat → Bool) (G : Gt) : Prop := ∀ r p, r < 8 → p < 12 → (L r p = true ↔ ¬ G 15 (12 * r + p) = 0)
abbrev nrB (c k : Int32) : Nat → Nat → Bool := fun r p => decide (nea c k (nI r) (nI p))
theorem brn_on {L nr : Nat → Nat → Bool} {G : Gt} {r p : Nat} (hp : p + r < 12) (h : okX L nr G r p) : brn (G 16) r p ↔ onB L nr r p = true := by
  unfold onB
  by_cases hz : r = 0
  · rw [decide_eq_true hz, Bool.true_or]
    exact ⟨fun _ => rfl, fun _ => Or.inl hz⟩
  · rw [decide_eq_false hz, Bool.false_or]
    have h1 := (h (r - 1) p (Or.inl ⟨by omega, by omega⟩)).1
    have h2 := (h (r - 1) (p + 1) (Or.inl ⟨by omega, by omega⟩)).1
    unfold brn
    rw [h1, h2, bB_0, bB_0, Bool.and_eq_true]
    constructor
    · rintro (q | ⟨q1, q2⟩)
      · exact absurd q hz
      · exact ⟨by simpa using q1, by simpa using q2⟩
    · rintro ⟨q1, q2⟩
      exact Or.inr ⟨by simp [q1], by simp [q2]⟩
set_option maxRecDepth 4000 in
theorem w_pi {X : Xt} {L : Nat → Nat → Bool} {c k m : Int32} {R : Nat} {G : Gt} {Q : Qt} (hR : R < 8) (hL : lyX L G) (K : ∀ G' q n, q = nI (R + 1) → n = nI (dT L (nrB c k) (R + 1)) → FrS G G' → okX L (nrB c k) G' (R + 1) 0 → wp X m_Pile_putInTurn 6 (oL c k m q n) [] G' Q) : ∀ (z p : Nat) (q n : Int32) (G' : Gt), q = nI p → p + z = 12 - R → n = nI (dT L (nrB c k) R + dC L (nrB c k) R p) → FrS G G' → okX L (nrB c k) G' R p → wp X m_Pile_putInTurn 15 ((6, .int q) :: oL c k m (nI R) n) [] G' Q
  | 0, p, q, n, G', hq, hp, hn, hF, hO => by
    subst hq
    have hp : p = 12 - R := by omega
    subst hp
    refine rn_wp (stops := [6, 15, 77]) 60 ?_
    refine bi_t (by rw [show (12 : Int32) = nI 12 from rfl, pk_sub (by omega)]; exact Int32.le_refl _) ?_
    exact wp_pick [0, 2, 3, 4, 5, 6] (K G' _ n (nI_1 R) hn hF (okX_row hO))
  | z + 1, p, q, n, G', hq, hp, hn, hF, hO => by
    subst hq
    subst hn
    refine rn_wp (stops := [6, 15, 77]) 60 ?_
    refine bi_f (by rw [show (12 : Int32) = nI 12 from rfl, pk_sub (by omega), nI_leI (by omega) (by omega)]; omega) ?_
    refine c_at rfl rfl ?_
    have hl : L R p = true ↔ ¬ G' 15 (12 * R + p) = 0 := by
      rw [hF.1 15 rfl (by decide)]
      exact hL R p hR (by omega)
    have hb := brn_on (by omega) hO
    have fin : ∀ d : Int32, d = bB (due L (nrB c k) R p) → wp X m_Pile_putInTurn 77 ((8, .int d) :: (7, .int (nI (12 * R + p))) :: (6, .int (nI p)) :: oL c k m (nI R) (nI (dT L (nrB c k) R + dC L (nrB c k) R p))) [] G' Q := by
      intro d hd
      subst hd
      refine w_pt hR (by omega) hl (fun q n hq hn => ?_)
      refine w_pi hR hL K z (p + 1) q n _ hq (by omega) (by rw [hn, dC, Nat.add_assoc]) ((hF.s rfl).s rfl) ?_
      exact okX_put hR (by omega) hO (by rw [stn_due]) rfl
    refine vi (vp_in_nI (by omega) (by omega)) ?_
    rw [nI_clamp (by omega)]
    refine bj (fun h => ?_) (fun h => ?_)
    · refine fin 0 ?_
      unfold due
      rw [hl.mpr h]
      rfl
    · have hlf : L R p = false := by
        cases e : L R p
        · rfl
        · exact absurd h (hl.mp e)
      refine c_isBorne (Or.inr rfl) rfl rfl hR (by omega) ?_
      refine bib (fun h2 => ?_) (fun h2 => ?_)
      · refine fin 0 ?_
        unfold due
        rw [show onB L (nrB c k) R p = false from Bool.eq_false_iff.mpr (fun e => h2 (hb.mpr e)), Bool.and_false, Bool.and_false]
        rfl
      · refine c_isNear ?_
        refine bib (fun h3 => ?_) (fun h3 => ?_)
        · refine fin 0 ?_
          unfold due nrB
          rw [decide_eq_false h3, Bool.false_and, Bool.and_false]
          rfl
        · refine fin 1 ?_
          unfold due
          rw [hlf, hb.mp h2]
          unfold nrB
          rw [decide_eq_true h3]
          rfl
theorem w_po {X : Xt} {L : Nat → Nat → Bool} {c k : Int32} {M : Nat} {G : Gt} {Q : Qt} (hM : M ≤ 8) (hL : lyX L G) (K : ∀ G', FrS G G' → okX L (nrB c k) G' M 0 → Q (some (.int (nI (dT L (nrB c k) M)))) G') : ∀ (z r : Nat) (q n : Int32) (G' : Gt), q = nI r → r + z = M → n = nI (dT L (nrB c k) r) → FrS G G' → okX L (nrB c k) G' r 0 → wp X m_Pile_putInTurn 6 (oL c k (nI M) q n) [] G' Q
  | 0, r, q, n, G', hq, hr, hn, hF, hO => by
    subst hq
    have hr : r = M := by omega
    subst hr
    refine rn_wp (stops := [6, 15]) 60 ?_
    refine bi_t (Int32.le_refl _) ?_
    exact Qi (K G' hF hO) hn
  | z + 1, r, q, n, G', hq, hr, hn, hF, hO => by
    subst hq
    refine rn_wp (stops := [6, 15]) 60 ?_
    refine bi_f (by simp (disch := omega) only [nI_1, nI_add, nI_clamp, nI_leI, nI_ltI, nI_eq, nI_toInt]; omega) ?_
    exact w_pi (by omega) hL (fun G'' q' n' hq' hn' hF' hO' => w_po hM hL K z (r + 1) q' n' G'' hq' (by omega) hn' hF' hO') (12 - r) 0 _ _ G' rfl (by omega) (by rw [hn]; rfl) hF hO
theorem c_putInTurn {X : Xt} {L : Nat → Nat → Bool} {c k : Int32} {M : Nat} {G : Gt} {Q : Qt} (hM : M ≤ 8) (hL : lyX L G) (K : ∀ G', FrS G G' → okX L (nrB c k) G' M 0 → Q (some (.int (nI (dT L (nrB c k) M)))) G') : con X m_Pile_putInTurn [.ref 14, .int c, .int k, .int (nI M)] G Q := by
  refine con_rn 10 [6] (by decide) rfl ?_
  exact w_po hM hL K M 0 _ _ G rfl (by omega) rfl (FrS.rf G) (fun r p h => by rcases h with ⟨h, -⟩ | ⟨-, h⟩ <;> omega)
theorem mN {m : Int32} (h : 1 ≤ m ∧ m ≤ 8) : ∃ M : Nat, M ≤ 8 ∧ 1 ≤ M ∧ m = nI M := by
  obtain ⟨e, e1, -⟩ := toN (x := m) (Int32.le_trans (by decide) h.1)
  have h1 : 1 ≤ m.toInt := by simpa using le32.mp h.1
  have h2 : m.toInt ≤ 8 := by simpa using le32.mp h.2
  exact ⟨_, by omega, by omega, e⟩
theorem c_SW_order {X : Xt} {L : Nat → Nat → Bool} {c k m : Int32} {G : Gt} {Q : Qt} (hL : lyX L G) (K1 : ¬ (crn c k ∧ 1 ≤ m ∧ m ≤ 8) → Q (some (.int (-1000001))) G) (K2 : ∀ M G', M ≤ 8 → m = nI M → crn c k ∧ 1 ≤ m ∧ m ≤ 8 → FrS G G' → Q (some (.int (nI (dT L (nrB c k) M)))) G') : con X m_SW_order [.ref 0, .int c, .int k, .int m] G Q := by
  refine con_rn 40 [] (by decide) rfl ?_
  refine c_isCrane (bib (fun h => K1 (fun z => h z.1)) (fun hc => ?_))
  refine c_within (bjb (fun hm => ?_) (fun h => K1 (fun z => h z.2)))
  obtain ⟨M, h8, -, e⟩ := mN hm
  subst e
  refine c_putInTurn h8 hL (fun G' hF hO => ?_)
  exact K2 M G' h8 rfl ⟨hc, hm⟩ hF
/-! the model: findOrder -/
abbrev lyM (L : Nat → Nat → Bool) (G : Gt) : Prop := (∀ r, r < 8 → 0 ≤ (G 37 r).toInt ∧ (G 37 r).toInt < 2 ^ (12 - r)) ∧ ∀ r p, r < 8 → p < 12 → (L r p = true ↔ tb (G 37) r p)
def okM (L nr : Nat → Nat → Bool) (G : Gt) (r p : Nat) : Prop := (∀ r' p', r' < r → p' + r' < 12 → 0 ≤ (G 40 r').toInt ∧ (tb (G 40) r' p' ↔ stn L nr r' p' = true)) ∧ (∀ r' p', ahd r' p' r p → due L nr r' p' = true → G 38 (dT L nr r' + dC L nr r' p') = nI r' ∧ G 39 (dT L nr r' + dC L nr r' p') = nI p') ∧ G 26 14 = nI (dT L nr r + dC L nr r p)
/-- the row under way -/
def rwM (L nr : Nat → Nat → Bool) (G : Gt) (r p : Nat) : Prop := (0 ≤ (G 40 r).toInt ∧ (G 40 r).toInt < 2 ^ (12 - r)) ∧ ∀ j, j < 12 → (tb (G 40) r j ↔ L r j = true ∨ (j < p ∧ due L nr r j = true))
theorem rw_row {L nr : Nat → Nat → Bool} {G : Gt} {r : Nat} (h : okM L nr G r (12 - r)) (h2 : rwM L nr G r (12 - r)) : okM L nr G (r + 1) 0 := by
  refine ⟨fun r' p' a b => ?_, fun r' p' a b => ?_, h.2.2⟩
  · by_cases e : r' = r
    · subst e
      refine ⟨h2.1.1, ?_⟩
      rw [h2.2 p' (by omega), stn_due, Bool.or_eq_true]
      refine or_congr_right ?_
      exact ⟨fun z => z.2, fun z => ⟨by omega, z⟩⟩
    · exact h.1 r' p' (by omega) b
  · refine h.2.1 r' p' ?_ b
    rcases a with ⟨a1, a2⟩ | ⟨a1, a2⟩
    · by_cases e : r' = r
      · exact Or.inr ⟨e, by omega⟩
      · exact Or.inl ⟨by omega, a2⟩
    · omega
/-- a place that is not due -/
theorem ok_no {L nr : Nat → Nat → Bool} {G : Gt} {r p : Nat} (hd : due L nr r p = false) (h : okM L nr G r p) (h2 : rwM L nr G r p) : okM L nr G r (p + 1) ∧ rwM L nr G r (p + 1) := by
  refine ⟨⟨h.1, fun r' p' a b => ?_, ?_⟩, h2.1, fun j hj => ?_⟩
  · refine h.2.1 r' p' ?_ b
    rcases a with a | ⟨a1, a2⟩
    · exact Or.inl a
    · refine Or.inr ⟨a1, ?_⟩
      by_cases e : p' = p
      · rw [a1, e, hd] at b; cases b
      · omega
  · rw [h.2.2, dC, hd]
    rfl
  · rw [h2.2 j hj]
    refine or_congr_right ⟨fun z => ⟨by omega, z.2⟩, fun z => ⟨?_, z.2⟩⟩
    by_cases e : j = p
    · have := z.2
      rw [e, hd] at this; cases this
    · omega
/-- one that is -/
theorem ok_yes {L nr : Nat → Nat → Bool} {G : Gt} {r p : Nat} (hr : r < 8) (hp : p + r < 12) (hd : due L nr r p = true) (h : okM L nr G r p) (h2 : rwM L nr G r p) : okM L nr (sG (sG (sG (sG G 40 (upd (G 40) r (G 40 r ||| (1 : Int32) <<< (nI p &&& 31)))) 38 (upd (G 38) (dT L nr r + dC L nr r p) (nI r))) 39 (upd (G 39) (dT L nr r + dC L nr r p) (nI p))) 26 (upd (G 26) 14 (nI (dT L nr r + dC L nr r p) + 1))) r (p + 1) ∧ rwM L nr (sG (sG (sG (sG G 40 (upd (G 40) r (G 40 r ||| (1 : Int32) <<< (nI p &&& 31)))) 38 (upd (G 38) (dT L nr r + dC L nr r p) (nI r))) 39 (upd (G 39) (dT L nr r + dC L nr r p) (nI p))) 26 (upd (G 26) 14 (nI (dT L nr r + dC L nr r p) + 1))) r (p + 1) := by
  have hb := bit_on (x := G 40 r) (n := 12 - r) (P := p) (by omega) (by omega) h2.1.1 h2.1.2
  refine ⟨⟨fun r' p' a b => ?_, fun r' p' a b => ?_, ?_⟩, ?_, fun j hj => ?_⟩
  · show 0 ≤ (upd (G 40) r _ r').toInt ∧ ((upd (G 40) r _ r').toInt.toNat.testBit p' = true ↔ _)
    rw [pk_un (by omega)]
    exact h.1 r' p' a b
  · show upd (G 38) _ _ _ = _ ∧ upd (G 39) _ _ _ = _
    by_cases e : r' = r ∧ p' = p
    · obtain ⟨rfl, rfl⟩ := e
      rw [pk_us, pk_us]
      exact ⟨rfl, rfl⟩
    · have a' : ahd r' p' r p := by
        rcases a with a | ⟨a1, a2⟩
        · exact Or.inl a
        · exact Or.inr ⟨a1, by omega⟩
      have := ord_lt a' b
      rw [pk_un (by omega), pk_un (by omega)]
      exact h.2.1 r' p' a' b
  · show nI _ + 1 = _
    rw [nI_1, dC, if_pos hd]
    rfl
  · show 0 ≤ (upd (G 40) r _ r).toInt ∧ (upd (G 40) r _ r).toInt < _
    rw [pk_us]
    exact hb.1
  · show (upd (G 40) r _ r).toInt.toNat.testBit j = true ↔ _
    rw [pk_us, hb.2 j (by omega), Bool.or_eq_true, decide_eq_true_iff]
    have := h2.2 j hj
    unfold tb at this
    rw [this]
    constructor
    · rintro ((q | ⟨q1, q2⟩) | q)
      · exact Or.inl q
      · exact Or.inr ⟨by omega, q2⟩
      · exact Or.inr ⟨by omega, by rw [q]; exact hd⟩
    · rintro (q | ⟨q1, q2⟩)
      · exact Or.inl (Or.inl q)
      · by_cases e : j = p
        · exact Or.inr e
        · exact Or.inl (Or.inr ⟨by omega, q2⟩)
