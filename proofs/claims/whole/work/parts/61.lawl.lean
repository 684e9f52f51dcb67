/-! the law: its loop -/
set_option maxRecDepth 8000 in
theorem w_law {L : Nat} {xs : Nat → Int32} (hL : L ≤ 4608) : ∀ (z i : Nat) (q : Int32) (G : Gt), q = nI i → i ≤ 5000 → L < i + z → Inv G → wp (L, xs) m_StoneWorksLaw_law 18 (laL q) [] G laQ
  | 0, i, q, G, hq, h5, hz, hI => by
    subst hq
    refine rn_wp (stops := [1354]) 20 ?_
    refine bi_t ?_ ?_
    · rw [lt32, show Int32.ofNat (xL (L, xs) 43) = nI L from rfl, show (9 : Int32) = nI 9 from rfl, pk_sub_toInt (by omega) (by omega), nI_toInt (by omega)]
      omega
    · exact ni rfl rfl
  | z + 1, i, q, G, hq, h5, hz, hI => by
    subst hq
    refine rn_wp (stops := [1354, 156, 199, 242, 305, 328, 361, 394, 437, 470, 503, 526, 579, 612, 645, 698, 741, 840, 893, 968, 1043, 1131, 1206, 1229, 1262, 1295, 1318, 1341]) 20 ?_
    refine bi (fun h => ?_) (fun h => ?_)
    · exact ni rfl rfl
    · rw [lt32, show Int32.ofNat (xL (L, xs) 43) = nI L from rfl, show (9 : Int32) = nI 9 from rfl, pk_sub_toInt (by omega) (by omega), nI_toInt (by omega)] at h
      have hi : i + 9 ≤ L := by omega
      have K : ∀ G1 : Gt, Inv G1 → wp (L, xs) m_StoneWorksLaw_law 1354 (laL (nI i)) [] G1 laQ := by
        intro G1 hI1
        refine rn_wp (stops := [18]) 5 ?_
        exact w_law hL z (i + 9) _ G1 (by rw [show (9 : Int32) = nI 9 from rfl, nI_add]) (by omega) (by omega) hI1
      refine vi (show vp_in (nI i) L from vp_in_nI (by omega) (by omega)) ?_
      exact ⟨fun _ => K G hI, fun _ => la_sheet hL hi hI K, fun _ => la_set hL hi hI K, fun _ => la_copy hL hi hI K, fun _ => la_drop hL hi hI K, fun _ => la_wall hL hi hI K, fun _ => la_layer hL hi hI K, fun _ => la_relay hL hi hI K, fun _ => la_told hL hi hI K, fun _ => la_wide hL hi hI K, fun _ => la_volume hL hi hI K, fun _ => la_shared hL hi hI K, fun _ => la_lay hL hi hI K, fun _ => la_lift hL hi hI K, fun _ => la_reaches hL hi hI K, fun _ => la_order hL hi hI K, fun _ => la_planned hL hi hI K, fun _ => la_storm hL hi hI K, fun _ => la_design hL hi hI K, fun _ => la_survey hL hi hI K, fun _ => la_wave hL hi hI K, fun _ => la_calm hL hi hI K, fun _ => la_kind hL hi hI K, fun _ => la_as hL hi hI K, fun _ => la_ask hL hi hI K, fun _ => la_trace hL hi hI K, fun _ => la_count hL hi hI K, fun _ => la_status hL hi hI K, trivial⟩
