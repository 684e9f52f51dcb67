/-! the law's loop -/
abbrev laL (q : Int32) : Lt := [(3, .int q), (0, .ref 43), (1, .ref 0), (2, .ref 26)]
abbrev laQ : Qt := fun r _ => r = some (.int 1)
theorem cmp_self (v : Int64) : lg_cmp v v = 0 := by
  unfold lg_cmp
  rw [if_neg Int64.lt_irrefl, if_pos rfl]
theorem la_ix {L i : Nat} (c : Nat) {x : Int32} (hL : L ≤ 4608) (hi : i + 9 ≤ L) (hc : c ≤ 8) (hx : x = nI c) : vp_in (nI i + x) L := by
  rw [hx, nI_add]
  exact vp_in_nI (by omega) (by omega)
set_option maxRecDepth 8000 in
theorem la_sheet {L : Nat} {xs : Nat → Int32} {i : Nat} {G : Gt} (hL : L ≤ 4608) (hi : i + 9 ≤ L) (hI : Inv G) (K : ∀ G1 : Gt, Inv G1 → wp (L, xs) m_StoneWorksLaw_law 1354 (laL (nI i)) [] G1 laQ) : wp (L, xs) m_StoneWorksLaw_law 156 (laL (nI i)) [] G laQ := by
  refine rn_wp (stops := [1354]) 120 ?_
  refine vi (la_ix 1 hL hi (by omega) rfl) ?_
  refine vi (la_ix 2 hL hi (by omega) rfl) ?_
  refine vi (la_ix 3 hL hi (by omega) rfl) ?_
  refine con_mono (p_sheet hI) ?_
  rintro r1 G1 ⟨v, rfl, hm⟩
  refine vi (la_ix 1 hL hi (by omega) rfl) ?_
  refine vi (la_ix 2 hL hi (by omega) rfl) ?_
  refine vi (la_ix 3 hL hi (by omega) rfl) ?_
  refine con_mono hm ?_
  rintro r2 G2 ⟨rfl, hI2⟩
  refine bi_t rfl ?_
  exact K G2 hI2
set_option maxRecDepth 8000 in
theorem la_set {L : Nat} {xs : Nat → Int32} {i : Nat} {G : Gt} (hL : L ≤ 4608) (hi : i + 9 ≤ L) (hI : Inv G) (K : ∀ G1 : Gt, Inv G1 → wp (L, xs) m_StoneWorksLaw_law 1354 (laL (nI i)) [] G1 laQ) : wp (L, xs) m_StoneWorksLaw_law 199 (laL (nI i)) [] G laQ := by
  refine rn_wp (stops := [1354]) 120 ?_
  refine vi (la_ix 1 hL hi (by omega) rfl) ?_
  refine vi (la_ix 2 hL hi (by omega) rfl) ?_
  refine vi (la_ix 3 hL hi (by omega) rfl) ?_
  refine con_mono (p_set hI) ?_
  rintro r1 G1 ⟨v, rfl, hm⟩
  refine vi (la_ix 1 hL hi (by omega) rfl) ?_
  refine vi (la_ix 2 hL hi (by omega) rfl) ?_
  refine vi (la_ix 3 hL hi (by omega) rfl) ?_
  refine con_mono hm ?_
  rintro r2 G2 ⟨rfl, hI2⟩
  refine bi_t rfl ?_
  exact K G2 hI2
set_option maxRecDepth 8000 in
theorem la_copy {L : Nat} {xs : Nat → Int32} {i : Nat} {G : Gt} (hL : L ≤ 4608) (hi : i + 9 ≤ L) (hI : Inv G) (K : ∀ G1 : Gt, Inv G1 → wp (L, xs) m_StoneWorksLaw_law 1354 (laL (nI i)) [] G1 laQ) : wp (L, xs) m_StoneWorksLaw_law 242 (laL (nI i)) [] G laQ := by
  refine rn_wp (stops := [1354]) 120 ?_
  refine vi (la_ix 1 hL hi (by omega) rfl) ?_
  refine vi (la_ix 2 hL hi (by omega) rfl) ?_
  refine vi (la_ix 3 hL hi (by omega) rfl) ?_
  refine vi (la_ix 4 hL hi (by omega) rfl) ?_
  refine vi (la_ix 5 hL hi (by omega) rfl) ?_
  refine con_mono (p_copy hI) ?_
  rintro r1 G1 ⟨v, rfl, hm⟩
  refine vi (la_ix 1 hL hi (by omega) rfl) ?_
  refine vi (la_ix 2 hL hi (by omega) rfl) ?_
  refine vi (la_ix 3 hL hi (by omega) rfl) ?_
  refine vi (la_ix 4 hL hi (by omega) rfl) ?_
  refine vi (la_ix 5 hL hi (by omega) rfl) ?_
  refine con_mono hm ?_
  rintro r2 G2 ⟨rfl, hI2⟩
  refine bi_t rfl ?_
  exact K G2 hI2
set_option maxRecDepth 8000 in
theorem la_drop {L : Nat} {xs : Nat → Int32} {i : Nat} {G : Gt} (hL : L ≤ 4608) (hi : i + 9 ≤ L) (hI : Inv G) (K : ∀ G1 : Gt, Inv G1 → wp (L, xs) m_StoneWorksLaw_law 1354 (laL (nI i)) [] G1 laQ) : wp (L, xs) m_StoneWorksLaw_law 305 (laL (nI i)) [] G laQ := by
  refine rn_wp (stops := [1354]) 120 ?_
  refine vi (la_ix 1 hL hi (by omega) rfl) ?_
  refine con_mono (p_drop hI) ?_
  rintro r1 G1 ⟨v, rfl, hm⟩
  refine vi (la_ix 1 hL hi (by omega) rfl) ?_
  refine con_mono hm ?_
  rintro r2 G2 ⟨rfl, hI2⟩
  refine bi_t rfl ?_
  exact K G2 hI2
set_option maxRecDepth 8000 in
theorem la_wall {L : Nat} {xs : Nat → Int32} {i : Nat} {G : Gt} (hL : L ≤ 4608) (hi : i + 9 ≤ L) (hI : Inv G) (K : ∀ G1 : Gt, Inv G1 → wp (L, xs) m_StoneWorksLaw_law 1354 (laL (nI i)) [] G1 laQ) : wp (L, xs) m_StoneWorksLaw_law 328 (laL (nI i)) [] G laQ := by
  refine rn_wp (stops := [1354]) 120 ?_
  refine vi (la_ix 1 hL hi (by omega) rfl) ?_
  refine vi (la_ix 2 hL hi (by omega) rfl) ?_
  refine con_mono (p_wall hI) ?_
  rintro r1 G1 ⟨v, rfl, hm⟩
  refine vi (la_ix 1 hL hi (by omega) rfl) ?_
  refine vi (la_ix 2 hL hi (by omega) rfl) ?_
  refine con_mono hm ?_
  rintro r2 G2 ⟨rfl, hI2⟩
  refine bi_t rfl ?_
  exact K G2 hI2
set_option maxRecDepth 8000 in
theorem la_layer {L : Nat} {xs : Nat → Int32} {i : Nat} {G : Gt} (hL : L ≤ 4608) (hi : i + 9 ≤ L) (hI : Inv G) (K : ∀ G1 : Gt, Inv G1 → wp (L, xs) m_StoneWorksLaw_law 1354 (laL (nI i)) [] G1 laQ) : wp (L, xs) m_StoneWorksLaw_law 361 (laL (nI i)) [] G laQ := by
  refine rn_wp (stops := [1354]) 120 ?_
  refine vi (la_ix 1 hL hi (by omega) rfl) ?_
  refine vi (la_ix 2 hL hi (by omega) rfl) ?_
  refine con_mono (p_layer hI) ?_
  rintro r1 G1 ⟨v, rfl, hm⟩
  refine vi (la_ix 1 hL hi (by omega) rfl) ?_
  refine vi (la_ix 2 hL hi (by omega) rfl) ?_
  refine con_mono hm ?_
  rintro r2 G2 ⟨rfl, hI2⟩
  refine bi_t rfl ?_
  exact K G2 hI2
set_option maxRecDepth 8000 in
theorem la_relay {L : Nat} {xs : Nat → Int32} {i : Nat} {G : Gt} (hL : L ≤ 4608) (hi : i + 9 ≤ L) (hI : Inv G) (K : ∀ G1 : Gt, Inv G1 → wp (L, xs) m_StoneWorksLaw_law 1354 (laL (nI i)) [] G1 laQ) : wp (L, xs) m_StoneWorksLaw_law 394 (laL (nI i)) [] G laQ := by
  refine rn_wp (stops := [1354]) 120 ?_
  refine vi (la_ix 1 hL hi (by omega) rfl) ?_
  refine vi (la_ix 2 hL hi (by omega) rfl) ?_
  refine vi (la_ix 3 hL hi (by omega) rfl) ?_
  refine con_mono (p_relay hI) ?_
  rintro r1 G1 ⟨v, rfl, hm⟩
  refine vi (la_ix 1 hL hi (by omega) rfl) ?_
  refine vi (la_ix 2 hL hi (by omega) rfl) ?_
  refine vi (la_ix 3 hL hi (by omega) rfl) ?_
  refine con_mono hm ?_
  rintro r2 G2 ⟨rfl, hI2⟩
  refine bi_t rfl ?_
  exact K G2 hI2
set_option maxRecDepth 8000 in
theorem la_told {L : Nat} {xs : Nat → Int32} {i : Nat} {G : Gt} (hL : L ≤ 4608) (hi : i + 9 ≤ L) (hI : Inv G) (K : ∀ G1 : Gt, Inv G1 → wp (L, xs) m_StoneWorksLaw_law 1354 (laL (nI i)) [] G1 laQ) : wp (L, xs) m_StoneWorksLaw_law 437 (laL (nI i)) [] G laQ := by
  refine rn_wp (stops := [1354]) 120 ?_
  refine vi (la_ix 1 hL hi (by omega) rfl) ?_
  refine vi (la_ix 2 hL hi (by omega) rfl) ?_
  refine con_mono (p_told hI) ?_
  rintro r1 G1 ⟨v, rfl, hm⟩
  refine vi (la_ix 1 hL hi (by omega) rfl) ?_
  refine vi (la_ix 2 hL hi (by omega) rfl) ?_
  refine con_mono hm ?_
  rintro r2 G2 ⟨rfl, hI2⟩
  refine bi_t rfl ?_
  exact K G2 hI2
set_option maxRecDepth 8000 in
theorem la_wide {L : Nat} {xs : Nat → Int32} {i : Nat} {G : Gt} (hL : L ≤ 4608) (hi : i + 9 ≤ L) (hI : Inv G) (K : ∀ G1 : Gt, Inv G1 → wp (L, xs) m_StoneWorksLaw_law 1354 (laL (nI i)) [] G1 laQ) : wp (L, xs) m_StoneWorksLaw_law 470 (laL (nI i)) [] G laQ := by
  refine rn_wp (stops := [1354]) 120 ?_
  refine vi (la_ix 1 hL hi (by omega) rfl) ?_
  refine vi (la_ix 2 hL hi (by omega) rfl) ?_
  refine con_mono (p_wide hI) ?_
  rintro r1 G1 ⟨v, rfl, hm⟩
  refine vi (la_ix 1 hL hi (by omega) rfl) ?_
  refine vi (la_ix 2 hL hi (by omega) rfl) ?_
  refine con_mono hm ?_
  rintro r2 G2 ⟨rfl, hI2⟩
  refine bi_t rfl ?_
  exact K G2 hI2
set_option maxRecDepth 8000 in
theorem la_volume {L : Nat} {xs : Nat → Int32} {i : Nat} {G : Gt} (hL : L ≤ 4608) (hi : i + 9 ≤ L) (hI : Inv G) (K : ∀ G1 : Gt, Inv G1 → wp (L, xs) m_StoneWorksLaw_law 1354 (laL (nI i)) [] G1 laQ) : wp (L, xs) m_StoneWorksLaw_law 503 (laL (nI i)) [] G laQ := by
  refine rn_wp (stops := [1354]) 120 ?_
  refine vi (la_ix 1 hL hi (by omega) rfl) ?_
  refine con_mono (p_volume hI) ?_
  rintro r1 G1 ⟨v, rfl, hm⟩
  refine vi (la_ix 1 hL hi (by omega) rfl) ?_
  refine con_mono hm ?_
  rintro r2 G2 ⟨rfl, hI2⟩
  refine bi_t rfl ?_
  exact K G2 hI2
set_option maxRecDepth 8000 in
theorem la_shared {L : Nat} {xs : Nat → Int32} {i : Nat} {G : Gt} (hL : L ≤ 4608) (hi : i + 9 ≤ L) (hI : Inv G) (K : ∀ G1 : Gt, Inv G1 → wp (L, xs) m_StoneWorksLaw_law 1354 (laL (nI i)) [] G1 laQ) : wp (L, xs) m_StoneWorksLaw_law 526 (laL (nI i)) [] G laQ := by
  refine rn_wp (stops := [1354]) 120 ?_
  refine vi (la_ix 1 hL hi (by omega) rfl) ?_
  refine vi (la_ix 2 hL hi (by omega) rfl) ?_
  refine vi (la_ix 3 hL hi (by omega) rfl) ?_
  refine vi (la_ix 4 hL hi (by omega) rfl) ?_
  refine con_mono (p_shared hI) ?_
  rintro r1 G1 ⟨v, rfl, hm⟩
  refine vi (la_ix 1 hL hi (by omega) rfl) ?_
  refine vi (la_ix 2 hL hi (by omega) rfl) ?_
  refine vi (la_ix 3 hL hi (by omega) rfl) ?_
  refine vi (la_ix 4 hL hi (by omega) rfl) ?_
  refine con_mono hm ?_
  rintro r2 G2 ⟨rfl, hI2⟩
  refine bi_t rfl ?_
  exact K G2 hI2
set_option maxRecDepth 8000 in
theorem la_lay {L : Nat} {xs : Nat → Int32} {i : Nat} {G : Gt} (hL : L ≤ 4608) (hi : i + 9 ≤ L) (hI : Inv G) (K : ∀ G1 : Gt, Inv G1 → wp (L, xs) m_StoneWorksLaw_law 1354 (laL (nI i)) [] G1 laQ) : wp (L, xs) m_StoneWorksLaw_law 579 (laL (nI i)) [] G laQ := by
  refine rn_wp (stops := [1354]) 120 ?_
  refine vi (la_ix 1 hL hi (by omega) rfl) ?_
  refine vi (la_ix 2 hL hi (by omega) rfl) ?_
  refine con_mono (p_lay hI) ?_
  rintro r1 G1 ⟨v, rfl, hm⟩
  refine vi (la_ix 1 hL hi (by omega) rfl) ?_
  refine vi (la_ix 2 hL hi (by omega) rfl) ?_
  refine con_mono hm ?_
  rintro r2 G2 ⟨rfl, hI2⟩
  refine bi_t rfl ?_
  exact K G2 hI2
set_option maxRecDepth 8000 in
theorem la_lift {L : Nat} {xs : Nat → Int32} {i : Nat} {G : Gt} (hL : L ≤ 4608) (hi : i + 9 ≤ L) (hI : Inv G) (K : ∀ G1 : Gt, Inv G1 → wp (L, xs) m_StoneWorksLaw_law 1354 (laL (nI i)) [] G1 laQ) : wp (L, xs) m_StoneWorksLaw_law 612 (laL (nI i)) [] G laQ := by
  refine rn_wp (stops := [1354]) 120 ?_
  refine vi (la_ix 1 hL hi (by omega) rfl) ?_
  refine vi (la_ix 2 hL hi (by omega) rfl) ?_
  refine con_mono (p_lift hI) ?_
  rintro r1 G1 ⟨v, rfl, hm⟩
  refine vi (la_ix 1 hL hi (by omega) rfl) ?_
  refine vi (la_ix 2 hL hi (by omega) rfl) ?_
  refine con_mono hm ?_
  rintro r2 G2 ⟨rfl, hI2⟩
  refine bi_t rfl ?_
  exact K G2 hI2
set_option maxRecDepth 8000 in
theorem la_reaches {L : Nat} {xs : Nat → Int32} {i : Nat} {G : Gt} (hL : L ≤ 4608) (hi : i + 9 ≤ L) (hI : Inv G) (K : ∀ G1 : Gt, Inv G1 → wp (L, xs) m_StoneWorksLaw_law 1354 (laL (nI i)) [] G1 laQ) : wp (L, xs) m_StoneWorksLaw_law 645 (laL (nI i)) [] G laQ := by
  refine rn_wp (stops := [1354]) 120 ?_
  refine vi (la_ix 1 hL hi (by omega) rfl) ?_
  refine vi (la_ix 2 hL hi (by omega) rfl) ?_
  refine vi (la_ix 3 hL hi (by omega) rfl) ?_
  refine vi (la_ix 4 hL hi (by omega) rfl) ?_
  refine con_mono (p_reaches hI) ?_
  rintro r1 G1 ⟨v, rfl, hm⟩
  refine vi (la_ix 1 hL hi (by omega) rfl) ?_
  refine vi (la_ix 2 hL hi (by omega) rfl) ?_
  refine vi (la_ix 3 hL hi (by omega) rfl) ?_
  refine vi (la_ix 4 hL hi (by omega) rfl) ?_
  refine con_mono hm ?_
  rintro r2 G2 ⟨rfl, hI2⟩
  refine bi_t rfl ?_
  exact K G2 hI2
set_option maxRecDepth 8000 in
theorem la_order {L : Nat} {xs : Nat → Int32} {i : Nat} {G : Gt} (hL : L ≤ 4608) (hi : i + 9 ≤ L) (hI : Inv G) (K : ∀ G1 : Gt, Inv G1 → wp (L, xs) m_StoneWorksLaw_law 1354 (laL (nI i)) [] G1 laQ) : wp (L, xs) m_StoneWorksLaw_law 698 (laL (nI i)) [] G laQ := by
  refine rn_wp (stops := [1354]) 120 ?_
  refine vi (la_ix 1 hL hi (by omega) rfl) ?_
  refine vi (la_ix 2 hL hi (by omega) rfl) ?_
  refine vi (la_ix 3 hL hi (by omega) rfl) ?_
  refine con_mono (p_order hI) ?_
  rintro r1 G1 ⟨v, rfl, hm⟩
  refine vi (la_ix 1 hL hi (by omega) rfl) ?_
  refine vi (la_ix 2 hL hi (by omega) rfl) ?_
  refine vi (la_ix 3 hL hi (by omega) rfl) ?_
  refine con_mono hm ?_
  rintro r2 G2 ⟨rfl, hI2⟩
  refine bi_t rfl ?_
  exact K G2 hI2
set_option maxRecDepth 8000 in
theorem la_planned {L : Nat} {xs : Nat → Int32} {i : Nat} {G : Gt} (hL : L ≤ 4608) (hi : i + 9 ≤ L) (hI : Inv G) (K : ∀ G1 : Gt, Inv G1 → wp (L, xs) m_StoneWorksLaw_law 1354 (laL (nI i)) [] G1 laQ) : wp (L, xs) m_StoneWorksLaw_law 741 (laL (nI i)) [] G laQ := by
  refine rn_wp (stops := [1354]) 120 ?_
  refine vi (la_ix 1 hL hi (by omega) rfl) ?_
  refine vi (la_ix 2 hL hi (by omega) rfl) ?_
  refine vi (la_ix 3 hL hi (by omega) rfl) ?_
  refine vi (la_ix 4 hL hi (by omega) rfl) ?_
  refine vi (la_ix 5 hL hi (by omega) rfl) ?_
  refine vi (la_ix 6 hL hi (by omega) rfl) ?_
  refine vi (la_ix 7 hL hi (by omega) rfl) ?_
  refine vi (la_ix 8 hL hi (by omega) rfl) ?_
  refine con_mono (p_planned hI) ?_
  rintro r1 G1 ⟨v, rfl, hm⟩
  refine vi (la_ix 1 hL hi (by omega) rfl) ?_
  refine vi (la_ix 2 hL hi (by omega) rfl) ?_
  refine vi (la_ix 3 hL hi (by omega) rfl) ?_
  refine vi (la_ix 4 hL hi (by omega) rfl) ?_
  refine vi (la_ix 5 hL hi (by omega) rfl) ?_
  refine vi (la_ix 6 hL hi (by omega) rfl) ?_
  refine vi (la_ix 7 hL hi (by omega) rfl) ?_
  refine vi (la_ix 8 hL hi (by omega) rfl) ?_
  refine con_mono hm ?_
  rintro r2 G2 ⟨rfl, hI2⟩
  refine bi_t rfl ?_
  exact K G2 hI2
set_option maxRecDepth 8000 in
theorem la_storm {L : Nat} {xs : Nat → Int32} {i : Nat} {G : Gt} (hL : L ≤ 4608) (hi : i + 9 ≤ L) (hI : Inv G) (K : ∀ G1 : Gt, Inv G1 → wp (L, xs) m_StoneWorksLaw_law 1354 (laL (nI i)) [] G1 laQ) : wp (L, xs) m_StoneWorksLaw_law 840 (laL (nI i)) [] G laQ := by
  refine rn_wp (stops := [1354]) 120 ?_
  refine vi (la_ix 1 hL hi (by omega) rfl) ?_
  refine vi (la_ix 2 hL hi (by omega) rfl) ?_
  refine vi (la_ix 3 hL hi (by omega) rfl) ?_
  refine vi (la_ix 4 hL hi (by omega) rfl) ?_
  refine con_mono (p_storm hI) ?_
  rintro r1 G1 ⟨v, rfl, hm⟩
  refine vi (la_ix 1 hL hi (by omega) rfl) ?_
  refine vi (la_ix 2 hL hi (by omega) rfl) ?_
  refine vi (la_ix 3 hL hi (by omega) rfl) ?_
  refine vi (la_ix 4 hL hi (by omega) rfl) ?_
  refine con_mono hm ?_
  rintro r2 G2 ⟨rfl, hI2⟩
  refine bi_t rfl ?_
  exact K G2 hI2
set_option maxRecDepth 8000 in
theorem la_design {L : Nat} {xs : Nat → Int32} {i : Nat} {G : Gt} (hL : L ≤ 4608) (hi : i + 9 ≤ L) (hI : Inv G) (K : ∀ G1 : Gt, Inv G1 → wp (L, xs) m_StoneWorksLaw_law 1354 (laL (nI i)) [] G1 laQ) : wp (L, xs) m_StoneWorksLaw_law 893 (laL (nI i)) [] G laQ := by
  refine rn_wp (stops := [1354]) 120 ?_
  refine vi (la_ix 1 hL hi (by omega) rfl) ?_
  refine vi (la_ix 2 hL hi (by omega) rfl) ?_
  refine vi (la_ix 3 hL hi (by omega) rfl) ?_
  refine vi (la_ix 4 hL hi (by omega) rfl) ?_
  refine vi (la_ix 5 hL hi (by omega) rfl) ?_
  refine vi (la_ix 6 hL hi (by omega) rfl) ?_
  refine con_mono (p_design hI) ?_
  rintro r1 G1 ⟨v, rfl, hm⟩
  refine vi (la_ix 1 hL hi (by omega) rfl) ?_
  refine vi (la_ix 2 hL hi (by omega) rfl) ?_
  refine vi (la_ix 3 hL hi (by omega) rfl) ?_
  refine vi (la_ix 4 hL hi (by omega) rfl) ?_
  refine vi (la_ix 5 hL hi (by omega) rfl) ?_
  refine vi (la_ix 6 hL hi (by omega) rfl) ?_
  refine con_mono hm ?_
  rintro r2 G2 ⟨rfl, hI2⟩
  refine bi_t rfl ?_
  exact K G2 hI2
set_option maxRecDepth 8000 in
theorem la_survey {L : Nat} {xs : Nat → Int32} {i : Nat} {G : Gt} (hL : L ≤ 4608) (hi : i + 9 ≤ L) (hI : Inv G) (K : ∀ G1 : Gt, Inv G1 → wp (L, xs) m_StoneWorksLaw_law 1354 (laL (nI i)) [] G1 laQ) : wp (L, xs) m_StoneWorksLaw_law 968 (laL (nI i)) [] G laQ := by
  refine rn_wp (stops := [1354]) 120 ?_
  refine vi (la_ix 1 hL hi (by omega) rfl) ?_
  refine vi (la_ix 2 hL hi (by omega) rfl) ?_
  refine vi (la_ix 3 hL hi (by omega) rfl) ?_
  refine vi (la_ix 4 hL hi (by omega) rfl) ?_
  refine vi (la_ix 5 hL hi (by omega) rfl) ?_
  refine vi (la_ix 6 hL hi (by omega) rfl) ?_
  refine con_mono (p_survey hI) ?_
  rintro r1 G1 ⟨v, rfl, hm⟩
  refine vi (la_ix 1 hL hi (by omega) rfl) ?_
  refine vi (la_ix 2 hL hi (by omega) rfl) ?_
  refine vi (la_ix 3 hL hi (by omega) rfl) ?_
  refine vi (la_ix 4 hL hi (by omega) rfl) ?_
  refine vi (la_ix 5 hL hi (by omega) rfl) ?_
  refine vi (la_ix 6 hL hi (by omega) rfl) ?_
  refine con_mono hm ?_
  rintro r2 G2 ⟨rfl, hI2⟩
  refine bi_t rfl ?_
  exact K G2 hI2
set_option maxRecDepth 8000 in
theorem la_wave {L : Nat} {xs : Nat → Int32} {i : Nat} {G : Gt} (hL : L ≤ 4608) (hi : i + 9 ≤ L) (hI : Inv G) (K : ∀ G1 : Gt, Inv G1 → wp (L, xs) m_StoneWorksLaw_law 1354 (laL (nI i)) [] G1 laQ) : wp (L, xs) m_StoneWorksLaw_law 1043 (laL (nI i)) [] G laQ := by
  refine rn_wp (stops := [1354]) 120 ?_
  refine vi (la_ix 1 hL hi (by omega) rfl) ?_
  refine vi (la_ix 2 hL hi (by omega) rfl) ?_
  refine vi (la_ix 3 hL hi (by omega) rfl) ?_
  refine vi (la_ix 4 hL hi (by omega) rfl) ?_
  refine vi (la_ix 5 hL hi (by omega) rfl) ?_
  refine vi (la_ix 6 hL hi (by omega) rfl) ?_
  refine vi (la_ix 7 hL hi (by omega) rfl) ?_
  refine con_mono (p_wave hI) ?_
  rintro r1 G1 ⟨v, rfl, hm⟩
  refine vi (la_ix 1 hL hi (by omega) rfl) ?_
  refine vi (la_ix 2 hL hi (by omega) rfl) ?_
  refine vi (la_ix 3 hL hi (by omega) rfl) ?_
  refine vi (la_ix 4 hL hi (by omega) rfl) ?_
  refine vi (la_ix 5 hL hi (by omega) rfl) ?_
  refine vi (la_ix 6 hL hi (by omega) rfl) ?_
  refine vi (la_ix 7 hL hi (by omega) rfl) ?_
  refine con_mono hm ?_
  rintro r2 G2 ⟨rfl, hI2⟩
  refine bi_t (cmp_self v) ?_
  exact K G2 hI2
set_option maxRecDepth 8000 in
theorem la_calm {L : Nat} {xs : Nat → Int32} {i : Nat} {G : Gt} (hL : L ≤ 4608) (hi : i + 9 ≤ L) (hI : Inv G) (K : ∀ G1 : Gt, Inv G1 → wp (L, xs) m_StoneWorksLaw_law 1354 (laL (nI i)) [] G1 laQ) : wp (L, xs) m_StoneWorksLaw_law 1131 (laL (nI i)) [] G laQ := by
  refine rn_wp (stops := [1354]) 120 ?_
  refine vi (la_ix 1 hL hi (by omega) rfl) ?_
  refine vi (la_ix 2 hL hi (by omega) rfl) ?_
  refine vi (la_ix 3 hL hi (by omega) rfl) ?_
  refine vi (la_ix 4 hL hi (by omega) rfl) ?_
  refine vi (la_ix 5 hL hi (by omega) rfl) ?_
  refine vi (la_ix 6 hL hi (by omega) rfl) ?_
  refine con_mono (p_calm hI) ?_
  rintro r1 G1 ⟨v, rfl, hm⟩
  refine vi (la_ix 1 hL hi (by omega) rfl) ?_
  refine vi (la_ix 2 hL hi (by omega) rfl) ?_
  refine vi (la_ix 3 hL hi (by omega) rfl) ?_
  refine vi (la_ix 4 hL hi (by omega) rfl) ?_
  refine vi (la_ix 5 hL hi (by omega) rfl) ?_
  refine vi (la_ix 6 hL hi (by omega) rfl) ?_
  refine con_mono hm ?_
  rintro r2 G2 ⟨rfl, hI2⟩
  refine bi_t rfl ?_
  exact K G2 hI2
set_option maxRecDepth 8000 in
theorem la_kind {L : Nat} {xs : Nat → Int32} {i : Nat} {G : Gt} (hL : L ≤ 4608) (hi : i + 9 ≤ L) (hI : Inv G) (K : ∀ G1 : Gt, Inv G1 → wp (L, xs) m_StoneWorksLaw_law 1354 (laL (nI i)) [] G1 laQ) : wp (L, xs) m_StoneWorksLaw_law 1206 (laL (nI i)) [] G laQ := by
  refine rn_wp (stops := [1354]) 120 ?_
  refine vi (la_ix 1 hL hi (by omega) rfl) ?_
  refine con_mono (p_kind hI) ?_
  rintro r1 G1 ⟨v, rfl, hm⟩
  refine vi (la_ix 1 hL hi (by omega) rfl) ?_
  refine con_mono hm ?_
  rintro r2 G2 ⟨rfl, hI2⟩
  refine bi_t rfl ?_
  exact K G2 hI2
set_option maxRecDepth 8000 in
theorem la_as {L : Nat} {xs : Nat → Int32} {i : Nat} {G : Gt} (hL : L ≤ 4608) (hi : i + 9 ≤ L) (hI : Inv G) (K : ∀ G1 : Gt, Inv G1 → wp (L, xs) m_StoneWorksLaw_law 1354 (laL (nI i)) [] G1 laQ) : wp (L, xs) m_StoneWorksLaw_law 1229 (laL (nI i)) [] G laQ := by
  refine rn_wp (stops := [1354]) 120 ?_
  refine vi (la_ix 1 hL hi (by omega) rfl) ?_
  refine vi (la_ix 2 hL hi (by omega) rfl) ?_
  refine con_mono (p_as hI) ?_
  rintro r1 G1 ⟨v, rfl, hm⟩
  refine vi (la_ix 1 hL hi (by omega) rfl) ?_
  refine vi (la_ix 2 hL hi (by omega) rfl) ?_
  refine con_mono hm ?_
  rintro r2 G2 ⟨rfl, hI2⟩
  refine bi_t rfl ?_
  exact K G2 hI2
set_option maxRecDepth 8000 in
theorem la_ask {L : Nat} {xs : Nat → Int32} {i : Nat} {G : Gt} (hL : L ≤ 4608) (hi : i + 9 ≤ L) (hI : Inv G) (K : ∀ G1 : Gt, Inv G1 → wp (L, xs) m_StoneWorksLaw_law 1354 (laL (nI i)) [] G1 laQ) : wp (L, xs) m_StoneWorksLaw_law 1262 (laL (nI i)) [] G laQ := by
  refine rn_wp (stops := [1354]) 120 ?_
  refine vi (la_ix 1 hL hi (by omega) rfl) ?_
  refine vi (la_ix 2 hL hi (by omega) rfl) ?_
  refine con_mono (p_ask hI) ?_
  rintro r1 G1 ⟨v, rfl, hm⟩
  refine vi (la_ix 1 hL hi (by omega) rfl) ?_
  refine vi (la_ix 2 hL hi (by omega) rfl) ?_
  refine con_mono hm ?_
  rintro r2 G2 ⟨rfl, hI2⟩
  refine bi_t rfl ?_
  exact K G2 hI2
set_option maxRecDepth 8000 in
theorem la_trace {L : Nat} {xs : Nat → Int32} {i : Nat} {G : Gt} (hL : L ≤ 4608) (hi : i + 9 ≤ L) (hI : Inv G) (K : ∀ G1 : Gt, Inv G1 → wp (L, xs) m_StoneWorksLaw_law 1354 (laL (nI i)) [] G1 laQ) : wp (L, xs) m_StoneWorksLaw_law 1295 (laL (nI i)) [] G laQ := by
  refine rn_wp (stops := [1354]) 120 ?_
  refine vi (la_ix 1 hL hi (by omega) rfl) ?_
  refine con_mono (p_trace hI) ?_
  rintro r1 G1 ⟨v, rfl, hm⟩
  refine vi (la_ix 1 hL hi (by omega) rfl) ?_
  refine con_mono hm ?_
  rintro r2 G2 ⟨rfl, hI2⟩
  refine bi_t rfl ?_
  exact K G2 hI2
set_option maxRecDepth 8000 in
theorem la_count {L : Nat} {xs : Nat → Int32} {i : Nat} {G : Gt} (hL : L ≤ 4608) (hi : i + 9 ≤ L) (hI : Inv G) (K : ∀ G1 : Gt, Inv G1 → wp (L, xs) m_StoneWorksLaw_law 1354 (laL (nI i)) [] G1 laQ) : wp (L, xs) m_StoneWorksLaw_law 1318 (laL (nI i)) [] G laQ := by
  refine rn_wp (stops := [1354]) 120 ?_
  refine vi (la_ix 1 hL hi (by omega) rfl) ?_
  refine con_mono (p_count hI) ?_
  rintro r1 G1 ⟨v, rfl, hm⟩
  refine vi (la_ix 1 hL hi (by omega) rfl) ?_
  refine con_mono hm ?_
  rintro r2 G2 ⟨rfl, hI2⟩
  refine bi_t rfl ?_
  exact K G2 hI2
set_option maxRecDepth 8000 in
theorem la_status {L : Nat} {xs : Nat → Int32} {i : Nat} {G : Gt} (hL : L ≤ 4608) (hi : i + 9 ≤ L) (hI : Inv G) (K : ∀ G1 : Gt, Inv G1 → wp (L, xs) m_StoneWorksLaw_law 1354 (laL (nI i)) [] G1 laQ) : wp (L, xs) m_StoneWorksLaw_law 1341 (laL (nI i)) [] G laQ := by
  refine rn_wp (stops := [1354]) 120 ?_
  refine con_mono (p_status hI) ?_
  rintro r1 G1 ⟨v, rfl, hm⟩
  refine con_mono hm ?_
  rintro r2 G2 ⟨rfl, hI2⟩
  refine bi_t rfl ?_
  exact K G2 hI2
