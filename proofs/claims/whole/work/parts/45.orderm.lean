/-! the model: findOrder's loops; order -/
abbrev oM (c k m : Int32) (r : Int32) : Lt := [(4, .int r), (0, .ref 26), (1, .int c), (2, .int k), (3, .int m)]
set_option maxRecDepth 4000 in
theorem w_fy {X : Xt} {c k m : Int32} {R P t : Nat} {d : Bool} {G : Gt} {Q : Qt} (hR : R < 8) (hP : P + R < 12) (ht : t < 68) (e : G 26 14 = nI t) (K : ∀ q, q = nI (P + 1) → wp X m_Mo_findOrder 31 ((5, .int q) :: oM c k m (nI R)) [] (if d = true then sG (sG (sG (sG G 40 (upd (G 40) R (G 40 R ||| (1 : Int32) <<< (nI P &&& 31)))) 38 (upd (G 38) t (nI R))) 39 (upd (G 39) t (nI P))) 26 (upd (G 26) 14 (nI t + 1)) else G) Q) : wp X m_Mo_findOrder 116 ((6, .int (bB d)) :: (5, .int (nI P)) :: oM c k m (nI R)) [] G Q := by
  refine rn_wp (stops := [31]) 60 ?_
  cases d
  · refine bi_t rfl ?_
    exact wp_pick [0, 2, 3, 4, 5, 6] (K _ (nI_1 P))
  · refine bi_f (by decide) ?_
    refine vi (vp_in_nI (by omega) (by omega)) ?_
    refine vi (vp_in_nI (by omega) (by omega)) ?_
    rw [nI_clamp (by omega)]
    have hv : vp_in (G 26 14) 68 := by rw [e]; exact vp_in_nI ht (by omega)
    refine vi hv ?_
    refine vi hv ?_
    have K2 : wp X m_Mo_findOrder 31 ((5, .int (nI P + 1)) :: oM c k m (nI R)) [] (sG (sG (sG (sG G 40 (upd (G 40) R (G 40 R ||| (1 : Int32) <<< (nI P &&& 31)))) 38 (upd (G 38) (G 26 14).toNatClampNeg (nI R))) 39 (upd (G 39) (G 26 14).toNatClampNeg (nI P))) 26 (upd (G 26) 14 (G 26 14 + 1))) Q := by
      rw [e, nI_clamp (by omega)]
      exact K _ (nI_1 P)
    exact wp_pick [0, 2, 3, 4, 5, 6] K2
theorem tb_on {L nr : Nat → Nat → Bool} {G : Gt} {r p : Nat} (hr : r ≠ 0) (hp : p + r < 12) (h : okM L nr G r p) : (0 ≤ (G 40 (r - 1)).toInt ∧ ((tb (G 40) (r - 1) p ∧ tb (G 40) (r - 1) (p + 1)) ↔ onB L nr r p = true)) := by
  have h1 := h.1 (r - 1) p (by omega) (by omega)
  have h2 := h.1 (r - 1) (p + 1) (by omega) (by omega)
  refine ⟨h1.1, ?_⟩
  unfold onB
  rw [h1.2, h2.2, decide_eq_false hr, Bool.false_or, Bool.and_eq_true]
set_option maxRecDepth 4000 in
theorem w_fi {X : Xt} {L : Nat → Nat → Bool} {c k m : Int32} {R : Nat} {G : Gt} {Q : Qt} (hR : R < 8) (hL : lyM L G) (K : ∀ G' q, q = nI (R + 1) → FrS G G' → okM L (nrB c k) G' (R + 1) 0 → wp X m_Mo_findOrder 8 (oM c k m q) [] G' Q) : ∀ (z p : Nat) (q : Int32) (G' : Gt), q = nI p → p + z = 12 - R → FrS G G' → okM L (nrB c k) G' R p → rwM L (nrB c k) G' R p → wp X m_Mo_findOrder 31 ((5, .int q) :: oM c k m (nI R)) [] G' Q
  | 0, p, q, G', hq, hp, hF, hO, hW => by
    subst hq
    have hp : p = 12 - R := by omega
    subst hp
    refine rn_wp (stops := [8, 31, 116]) 60 ?_
    refine bi_t (by rw [show (12 : Int32) = nI 12 from rfl, pk_sub (by omega)]; exact Int32.le_refl _) ?_
    exact wp_pick [0, 2, 3, 4, 5] (K G' _ (nI_1 R) hF (rw_row hO hW))
  | z + 1, p, q, G', hq, hp, hF, hO, hW => by
    subst hq
    refine rn_wp (stops := [8, 31, 116]) 60 ?_
    refine bi_f (by rw [show (12 : Int32) = nI 12 from rfl, pk_sub (by omega), nI_leI (by omega) (by omega)]; omega) ?_
    have e37 : G' 37 = G 37 := hF.1 37 rfl (by decide)
    have hl := hL.2 R p hR (by omega)
    have fin : ∀ d : Int32, d = bB (due L (nrB c k) R p) → wp X m_Mo_findOrder 116 ((6, .int d) :: (5, .int (nI p)) :: oM c k m (nI R)) [] G' Q := by
      intro d hd
      subst hd
      refine w_fy hR (by omega) (dT_68 (L := L) (nr := nrB c k) hR (show p + R < 12 by omega)) hO.2.2 (fun q hq => ?_)
      cases hd : due L (nrB c k) R p
      · rw [if_neg (by decide)]
        have := ok_no hd hO hW
        exact w_fi hR hL K z (p + 1) q G' hq (by omega) hF this.1 this.2
      · rw [if_pos rfl]
        have := ok_yes hR (by omega) hd hO hW
        exact w_fi hR hL K z (p + 1) q _ hq (by omega) (FrS.o (((hF.s (p := 40) rfl).s (p := 38) rfl).s (p := 39) rfl)) this.1 this.2
    refine vi (vp_in_nI (by omega) (by omega)) ?_
    rw [nI_clamp (by omega), e37]
    refine c_isIn (rN (hL.1 R hR).1).1 rfl (rN (hL.1 R hR).1).2 (by omega) ?_
    refine bjb (fun h => ?_) (fun h => ?_)
    · refine fin 0 ?_
      unfold due
      rw [hl.mpr h]
      rfl
    · have hlf : L R p = false := by
        cases e : L R p
        · rfl
        · exact absurd (hl.mp e) h
      refine c_isReached ?_
      refine bib (fun h3 => ?_) (fun h3 => ?_)
      · refine fin 0 ?_
        unfold due nrB
        rw [decide_eq_false h3, Bool.false_and, Bool.and_false]
        rfl
      · have yes : onB L (nrB c k) R p = true → (1 : Int32) = bB (due L (nrB c k) R p) := by
          intro hon
          unfold due
          rw [hlf, hon]
          unfold nrB
          rw [decide_eq_true h3]
          rfl
        have no : ¬ onB L (nrB c k) R p = true → (0 : Int32) = bB (due L (nrB c k) R p) := by
          intro hon
          unfold due
          rw [show onB L (nrB c k) R p = false from Bool.eq_false_iff.mpr hon, Bool.and_false, Bool.and_false]
          rfl
        refine bi (fun h4 => ?_) (fun h4 => ?_)
        · have hz : R = 0 := by
            rw [← nI_0, nI_eq (by omega) (by omega)] at h4
            exact h4
          refine fin 1 (yes ?_)
          unfold onB
          rw [decide_eq_true hz, Bool.true_or]
        · have hz : R ≠ 0 := fun z => h4 (by rw [z]; rfl)
          obtain ⟨b0, hb⟩ := tb_on hz (by omega) hO
          refine vi (by rw [nI_m1 (by omega)]; exact vp_in_nI (by omega) (by omega)) ?_
          rw [nI_m1 (by omega), nI_clamp (by omega)]
          refine c_isIn (rN b0).1 rfl (rN b0).2 (by omega) ?_
          refine bib (fun h5 => ?_) (fun h5 => ?_)
          · exact fin 0 (no (fun z => h5 (hb.mpr z).1))
          · refine vi (by rw [nI_m1 (by omega)]; exact vp_in_nI (by omega) (by omega)) ?_
            rw [nI_m1 (by omega), nI_clamp (by omega)]
            refine c_isIn (rN b0).1 (nI_1 p) (rN b0).2 (by omega) ?_
            refine bib (fun h6 => ?_) (fun h6 => ?_)
            · exact fin 0 (no (fun z => h6 (hb.mpr z).2))
            · exact fin 1 (yes (hb.mp ⟨h5, h6⟩))
set_option maxRecDepth 4000 in
theorem w_fo {X : Xt} {L : Nat → Nat → Bool} {c k : Int32} {M : Nat} {G : Gt} {Q : Qt} (hM : M ≤ 8) (hL : lyM L G) (K : ∀ G', FrS G G' → okM L (nrB c k) G' M 0 → Q none G') : ∀ (z r : Nat) (q : Int32) (G' : Gt), q = nI r → r + z = M → FrS G G' → okM L (nrB c k) G' r 0 → wp X m_Mo_findOrder 8 (oM c k (nI M) q) [] G' Q
  | 0, r, q, G', hq, hr, hF, hO => by
    subst hq
    have hr : r = M := by omega
    subst hr
    refine rn_wp (stops := [8, 31]) 60 ?_
    refine bi_t (Int32.le_refl _) ?_
    exact K G' hF hO
  | z + 1, r, q, G', hq, hr, hF, hO => by
    subst hq
    refine rn_wp (stops := [8, 31]) 60 ?_
    refine bi_f (by simp (disch := omega) only [nI_1, nI_add, nI_clamp, nI_leI, nI_ltI, nI_eq, nI_toInt]; omega) ?_
    refine vi (vp_in_nI (by omega) (by omega)) ?_
    refine vi (vp_in_nI (by omega) (by omega)) ?_
    rw [nI_clamp (by omega)]
    have e37 : G' 37 = G 37 := hF.1 37 rfl (by decide)
    refine w_fi (by omega) hL (fun G'' q' hq' hF' hO' => w_fo hM hL K z (r + 1) q' G'' hq' (by omega) hF' hO') (12 - r) 0 _ _ rfl (by omega) (hF.s (p := 40) rfl) ?_ ?_
    · refine ⟨fun r' p' a b => ?_, hO.2.1, hO.2.2⟩
      show 0 ≤ (upd (G' 40) r _ r').toInt ∧ ((upd (G' 40) r _ r').toInt.toNat.testBit p' = true ↔ _)
      rw [pk_un (by omega)]
      exact hO.1 r' p' a b
    · refine ⟨?_, fun j hj => ?_⟩
      · show 0 ≤ (upd (G' 40) r (G' 37 r) r).toInt ∧ (upd (G' 40) r (G' 37 r) r).toInt < _
        rw [pk_us, e37]
        exact hL.1 r (by omega)
      · show (upd (G' 40) r (G' 37 r) r).toInt.toNat.testBit j = true ↔ _
        rw [pk_us, e37]
        have := hL.2 r j (by omega) hj
        unfold tb at this
        rw [← this]
        exact ⟨fun z => Or.inl z, fun z => z.elim id (fun w => absurd w.1 (by omega))⟩
theorem c_findOrder {X : Xt} {L : Nat → Nat → Bool} {c k : Int32} {M : Nat} {G : Gt} {Q : Qt} (hM : M ≤ 8) (hL : lyM L G) (K : ∀ G', FrS G G' → okM L (nrB c k) G' M 0 → Q none G') : con X m_Mo_findOrder [.ref 26, .int c, .int k, .int (nI M)] G Q := by
  refine con_rn 10 [8] (by decide) rfl ?_
  refine w_fo hM hL K M 0 _ _ rfl (by omega) (FrS.o (FrS.rf G)) ⟨fun r' p' a => absurd a (by omega), fun r' p' a => ?_, rfl⟩
  rcases a with ⟨a, -⟩ | ⟨-, a⟩ <;> omega
theorem c_Mo_order {X : Xt} {L : Nat → Nat → Bool} {c k m : Int32} {G : Gt} {Q : Qt} (h0 : G 26 0 = 0) (hL : lyM L G) (K1 : ¬ (crn c k ∧ 1 ≤ m ∧ m ≤ 8) → Q (some (.int (-1000001))) G) (K2 : ∀ M G', M ≤ 8 → m = nI M → crn c k ∧ 1 ≤ m ∧ m ≤ 8 → FrS G G' → Q (some (.int (nI (dT L (nrB c k) M)))) G') : con X m_Mo_order [.ref 26, .int c, .int k, .int m] G Q := by
  refine con_rm 40 [] (by decide) rfl (by decide +kernel) h0 ?_
  refine c_MisCrane (bib (fun h => K1 (fun z => h z.1)) (fun hc => ?_))
  refine c_in 1 8 rfl rfl (bjb (fun hm => ?_) (fun h => K1 (fun z => h z.2)))
  obtain ⟨M, h8, -, e⟩ := mN hm
  subst e
  refine c_findOrder h8 hL (fun G' hF hO => ?_)
  have e := hO.2.2
  exact Qi (K2 M G' h8 rfl ⟨hc, hm⟩ hF) (by rw [e]; rfl)
abbrev LyB (G : Gt) : Nat → Nat → Bool := fun r p => decide (tb (G 37) r p)
theorem LyB_M {G : Gt} (hP : IP (G 15) (G 14 3) (G 37)) : lyM (LyB G) G := ⟨hP.2.1, fun r p _ _ => by unfold LyB; rw [decide_eq_true_iff]⟩
theorem LyB_X {G : Gt} (hP : IP (G 15) (G 14 3) (G 37)) : lyX (LyB G) G := fun r p hr hp => by unfold LyB; rw [decide_eq_true_iff, IP_0 hP hr hp]
theorem lyM_fr {L : Nat → Nat → Bool} {G G' : Gt} (h : lyM L G) (hF : FrS G G') : lyM L G' := by
  have e : G' 37 = G 37 := hF.1 37 rfl (by decide)
  unfold lyM
  rw [e]
  exact h
theorem p_order {X : Xt} {G : Gt} (hI : Inv G) {c k m : Int32} : pair X m_SW_order m_Mo_order [.int c, .int k, .int m] G := by
  obtain ⟨hW, hT, hS, hP, hs, h0⟩ := id hI
  refine c_SW_order (LyB_X hP) (fun h => pq ?_) (fun M G' h1 h2 h3 hF => pq ?_)
  · exact c_Mo_order h0 (LyB_M hP) (fun _ => ⟨rfl, hI⟩) (fun M G' a b c _ => absurd c h)
  · have h0' : G' 26 0 = 0 := by rw [hF.2 0 (by decide)]; exact h0
    subst h2
    refine c_Mo_order h0' (lyM_fr (LyB_M hP) hF) (fun z => ?_) (fun M' G'' a b _ hF' => ⟨?_, Inv_fr hF' (Inv_fr hF hI)⟩)
    · exact absurd h3 z
    · rw [nI_eq (by omega) (by omega)] at b
      rw [b]
