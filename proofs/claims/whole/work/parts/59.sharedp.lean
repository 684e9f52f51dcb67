/-! shared: the model's whole, the pair -/
set_option maxRecDepth 8000 in
theorem c_Mo_shared {X : Xt} {s i so k : Int32} {G : Gt} {Q : Qt} (h0 : G 26 0 = 0) (hz : 0 ≤ s ∧ s ≤ 7 → 0 ≤ G 27 s.toNatClampNeg → 0 ≤ G 28 s.toNatClampNeg ∧ G 28 s.toNatClampNeg ≤ 100)
    (K1 : ¬ shP s so k → Q (some (.int (-1000001))) G)
    (K2 : shP s so k → ¬ 0 ≤ G 27 s.toNatClampNeg → Q (some (.int (-1000011))) (sG G 26 (upd (G 26) 1 1)))
    (K3 : shP s so k → 0 ≤ G 27 s.toNatClampNeg → ¬ fnd (G 28 s.toNatClampNeg) i 10 = 0 → Q (some (.int (-1000012))) (sG G 26 (upd (G 26) 1 2)))
    (K4 : shP s so k → 0 ≤ G 27 s.toNatClampNeg → fnd (G 28 s.toNatClampNeg) i 10 = 0 → ¬ rdP (fM G s.toNatClampNeg i.toNatClampNeg) → Q (some (.int (-1000001))) G)
    (K5 : shP s so k → 0 ≤ G 27 s.toNatClampNeg → fnd (G 28 s.toNatClampNeg) i 10 = 0 → rdP (fM G s.toNatClampNeg i.toNatClampNeg) → so = -1000000 → ∀ G' L, FrS (sG G 26 (upd (G 26) 1 0)) G' → mnX (yF (fM G s.toNatClampNeg i.toNatClampNeg)) (nF (fM G s.toNatClampNeg i.toNatClampNeg)) (tF (fM G s.toNatClampNeg i.toNatClampNeg)) 8 = L → Q (some (.int (100 - nI L))) G')
    (K6 : shP s so k → 0 ≤ G 27 s.toNatClampNeg → fnd (G 28 s.toNatClampNeg) i 10 = 0 → rdP (fM G s.toNatClampNeg i.toNatClampNeg) → ¬ so = -1000000 → ∀ G' L A B, FrS (sG G 26 (upd (G 26) 1 0)) G' → so = nI A → k = nI B → A < 4 → B < 3 → mnX (yF (fM G s.toNatClampNeg i.toNatClampNeg)) (nF (fM G s.toNatClampNeg i.toNatClampNeg)) (tF (fM G s.toNatClampNeg i.toNatClampNeg)) 8 = L → Q (some (.int (nI (vQ (shQ (yF (fM G s.toNatClampNeg i.toNatClampNeg), nF (fM G s.toNatClampNeg i.toNatClampNeg), tF (fM G s.toNatClampNeg i.toNatClampNeg), L) (3 * A + B)) (3 * A + B))))) G') : con X m_Mo_shared [.ref 26, .int s, .int i, .int so, .int k] G Q := by
  have main : 0 ≤ s ∧ s ≤ 7 → (so = -1000000 ∨ (0 ≤ so ∧ so ≤ 3)) → wp X m_Mo_shared 30 [(0, .ref 26), (1, .int s), (2, .int i), (3, .int so), (4, .int k)] [] G Q := by
    intro hs hso
    refine rn_wp (stops := [78]) 80 ?_
    refine c_in 0 2 rfl rfl (bjb (fun hk => ?_) (fun h => K1 (fun z => h z.2.2)))
    have hp : shP s so k := ⟨hs, hso, hk⟩
    refine c_lookAt hs (by decide) (hz hs) (fun g => ?_) (fun g g2 => ?_) (fun g g2 => ?_)
    · refine bi_f (by decide) ?_
      exact K2 hp g
    · refine bi_f (by decide) ?_
      exact K3 hp g g2
    · refine bi_t (by decide) ?_
      obtain ⟨ei, hI, -⟩ := fnd_I (N := 10) (fun _ => hz hs g) rfl (by decide) g2
      obtain ⟨es, -, -⟩ := toN hs.1
      have hS := (sN hs).1
      have k4 := K4 hp g g2
      have k5 := K5 hp g g2
      have k6 := K6 hp g g2
      clear K1 K2 K3 K4 K5 K6 g g2 hz hp hs
      generalize s.toNatClampNeg = S at *
      generalize i.toNatClampNeg = I at *
      subst es
      subst ei
      have e8 : 100 * nI S + nI I = nI (100 * S + I) := (ixM hS (by omega)).2
      have hw : wp X m_Mo_shared 78 ((8, .int 0) :: (7, .int 0) :: sB (100 * S + I) so k) [] G Q := by
        refine w_sck hS hI (fun hc => ?_) (fun hc => k4 (fun w => hc (rd_ck.mp w).1)) 10 0 _ _ rfl rfl rfl (fun j hj => absurd hj (by omega))
        have hsb : tS (tR (fM G S I)) 10 ≤ 1000 := by
          have tb : ∀ j, j < 10 → tR (fM G S I) j ≤ 100 := by
            intro j hj
            have := (ck_td (hc j hj)).2
            unfold tR
            split <;> omega
          have := tS_le (f := fun j => tR (fM G S I) j / 5) (N := 10) (fun d hd => by have := tb d hd; omega) 10 (Nat.le_refl _)
          have b0 := tb 0 (by omega)
          have b1 := tb 1 (by omega)
          have b2 := tb 2 (by omega)
          have b3 := tb 3 (by omega)
          have b4 := tb 4 (by omega)
          have b5 := tb 5 (by omega)
          have b6 := tb 6 (by omega)
          have b7 := tb 7 (by omega)
          have b8 := tb 8 (by omega)
          have b9 := tb 9 (by omega)
          show 0 + tR (fM G S I) 0 + tR (fM G S I) 1 + tR (fM G S I) 2 + tR (fM G S I) 3 + tR (fM G S I) 4 + tR (fM G S I) 5 + tR (fM G S I) 6 + tR (fM G S I) 7 + tR (fM G S I) 8 + tR (fM G S I) 9 ≤ 1000
          omega
        refine rn_wp (stops := [167]) 20 ?_
        refine bi (fun h => ?_) (fun h => ?_)
        · rw [show (100 : Int32) = nI 100 from rfl, nI_eq (by omega) (by omega)] at h
          have hrd : rdP (fM G S I) := rd_ck.mpr ⟨hc, h⟩
          have hB := rd_B hrd
          refine wp_pick [0, 2, 3, 4, 5] ?_
          refine w_sh (G0 := sG G 26 (upd (G 26) 1 0)) (f := fM G S I) hS hI rfl hc (fun G1 hF1 h33 => ?_) 4 0 _ _ rfl rfl (FrS.rf _) (fun j hj => absurd hj (by omega))
          refine rn_wp (stops := [199]) 5 ?_
          refine w_sn (G0 := sG G 26 (upd (G 26) 1 0)) (f := fM G S I) hS hI rfl hc (fun G2 hF2 hq2 => ?_) 3 0 _ _ rfl rfl hF1 ⟨h33, fun j hj => absurd hj (by omega)⟩ (fun s j hs hj => absurd hj (by omega))
          have he := mn_eq (n := nF (fM G S I)) (t := tF (fM G S I)) hrd.2 (fun m _ => cutN_b hB.1 hB.2.1 m)
          have k5' := fun h G' hF => k5 hrd h G' _ hF rfl
          have k6' := fun h G' A B hF e1 e2 l1 l2 => k6 hrd h G' _ A B hF e1 e2 l1 l2 rfl
          obtain ⟨p1, p2, p3⟩ := mnX_P (yF (fM G S I)) (nF (fM G S I)) (tF (fM G S I)) 8 (Nat.le_refl _)
          refine rn_wp (stops := [300]) 20 ?_
          refine c_most hq2 hB ?_
          rw [he]
          generalize mnX (yF (fM G S I)) (nF (fM G S I)) (tF (fM G S I)) 8 = L at *
          intro v hv
          subst hv
          obtain ⟨hP, hA⟩ := S_P hB hrd.2 p1 p2 p3
          refine w_smO hP hA (G0 := sG G 26 (upd (G 26) 1 0)) (fun G3 h3 => ?_) 4 0 _ _ _ rfl rfl rfl ⟨hF2, hq2, fun j hj => absurd hj (by omega)⟩
          refine rn_wp (stops := []) 20 ?_
          refine bj (fun h => ?_) (fun h => ?_)
          · have hso2 : 0 ≤ so ∧ so ≤ 3 := hso.elim (fun z => absurd z h) id
            obtain ⟨A, hA, eA⟩ := fewN (B := 3) rfl hso2
            obtain ⟨B, hB, eB⟩ := fewN (B := 2) rfl hk
            have k6'' := k6' h G3 A B h3.1 eA eB (by omega) (by omega)
            have e36 := h3.2.2 (3 * A + B) (by omega)
            subst eA
            subst eB
            refine vi (by rw [o35]; exact vp_in_nI (by omega) (by omega)) ?_
            rw [o35, nI_clamp (by omega), e36]
            exact k6''
          · exact k5' h G3 h3.1
        · rw [show (100 : Int32) = nI 100 from rfl, nI_eq (by omega) (by omega)] at h
          exact k4 (fun w => h (rd_ck.mp w).2)
      refine wp_pick [0, 1, 2, 4, 7, 8] ?_
      rw [e8]
      exact hw
  refine con_rm 40 [30] (by decide) rfl (by decide +kernel) h0 ?_
  refine c_isSheet (bib (fun h => K1 (fun z => h z.1)) (fun hs => ?_))
  refine bi (fun h => ?_) (fun h => ?_)
  · exact main hs (Or.inl h)
  · refine c_in 0 3 rfl rfl (bib (fun h2 => ?_) (fun h2 => ?_))
    · exact K1 (fun z => z.2.1.elim h h2)
    · exact main hs (Or.inr h2)
theorem rd_congr {f f' : Nat → Int32} (h : ∀ k, k < 10 → f k = f' k) (hr : rdP f) : rdP f' := by
  refine ⟨⟨fun j hj => ?_, fun j hj => ?_⟩, ?_⟩
  · rw [← h j (by omega)]; exact hr.1.1 j hj
  · rw [← h (7 + j) (by omega)]; exact hr.1.2 j hj
  · rw [← hr.2]
    refine tS_congr 4 (fun d hd => ?_)
    unfold tdN
    rw [h d (by omega)]
/-- the first of the items alone count -/
def cF (f : Nat → Int32) : Nat → Int32 := fun k => if k < 10 then f k else 0
theorem cF_eq {f f' : Nat → Int32} (h : ∀ k, k < 10 → f k = f' k) : cF f = cF f' := by
  funext k
  unfold cF
  split
  · rename_i q; exact h k q
  · rfl
theorem cut_congr {y y' n n' t t' : Nat → Nat} (h1 : ∀ s, s < 4 → y s = y' s) (h2 : ∀ k, k < 3 → n k = n' k) (h3 : ∀ s, s < 4 → t s = t' s) (m : Nat) : cutN y n t m = cutN y' n' t' m := by
  unfold cutN
  rw [tS_congr 3 (f := ndT n m) (g := ndT n' m) (fun k hk => by unfold ndT; rw [h2 k hk]), tS_congr 4 (f := ylT y t m) (g := ylT y' t' m) (fun s hs => by unfold ylT; rw [h1 s hs, h3 s hs])]
theorem mnX_congr {y y' n n' t t' : Nat → Nat} (h : ∀ m, cutN y n t m = cutN y' n' t' m) : ∀ i, mnX y n t i = mnX y' n' t' i
  | 0 => rfl
  | i + 1 => by rw [mnX, mnX, mnX_congr h i, h i]
def Sim (S S' : Sq) : Prop := (∀ s, s < 4 → S.1 s = S'.1 s) ∧ (∀ k, k < 3 → S.2.1 k = S'.2.1 k) ∧ (∀ s, s < 4 → S.2.2.1 s = S'.2.2.1 s) ∧ S.2.2.2 = S'.2.2.2
theorem mnH_congr {y y' n n' t t' : Nat → Nat} {a b L : Nat} (ha : a < 4) (hb : b < 3) (h1 : ∀ s, s < 4 → y s = y' s) (h2 : ∀ k, k < 3 → n k = n' k) (h3 : ∀ s, s < 4 → t s = t' s) : ∀ i, mnH y n t a b L i = mnH y' n' t' a b L i
  | 0 => by rw [mnH, mnH, h1 a ha, h2 b hb]
  | i + 1 => by rw [mnH, mnH, mnH_congr ha hb h1 h2 h3 i, h3 a ha, cut_congr h1 h2 h3 i]
theorem vQ_sim {S S' : Sq} (h : Sim S S') {i : Nat} (hi : i < 12) : vQ S i = vQ S' i := by
  unfold vQ hiF
  rw [mnH_congr (by omega) (by omega) h.1 h.2.1 h.2.2.1, h.2.2.1 (i / 3) (by omega), h.2.2.2]
theorem st_sim {S S' : Sq} (h : Sim S S') {i : Nat} (hi : i < 12) : Sim (stQ S i) (stQ S' i) := by
  have hv := vQ_sim h hi
  refine ⟨fun s hs => ?_, fun k hk => ?_, fun s hs => ?_, ?_⟩
  · show upn _ _ _ s = upn _ _ _ s
    unfold upn
    rw [hv, h.1 (i / 3) (by omega), h.1 s hs]
  · show upn _ _ _ k = upn _ _ _ k
    unfold upn
    rw [hv, h.2.1 (i % 3) (by omega), h.2.1 k hk]
  · show upn _ _ _ s = upn _ _ _ s
    unfold upn
    rw [h.2.2.1 (i / 3) (by omega), h.2.2.1 s hs]
  · show S.2.2.2 - _ = S'.2.2.2 - _
    rw [hv, h.2.2.2]
theorem sh_sim {S S' : Sq} (h : Sim S S') : ∀ i, i ≤ 12 → Sim (shQ S i) (shQ S' i)
  | 0, _ => h
  | i + 1, hi => st_sim (sh_sim h i (by omega)) (by omega)
theorem tk_congr {x x' : Nat → Nat} {s : Nat} : ∀ k, (∀ j, j < k → x j = x' j) → tkF x s k = tkF x' s k
  | 0, _ => rfl
  | k + 1, h => by rw [tkF, tkF, tk_congr k (fun j hj => h j (by omega)), h k (by omega)]
theorem f_sim {f f' : Nat → Int32} (h : ∀ k, k < 10 → f k = f' k) : (∀ s, s < 4 → yF f s = yF f' s) ∧ (∀ k, k < 3 → nF f k = nF f' k) ∧ ∀ s, s < 4 → tF f s = tF f' s := by
  refine ⟨fun s hs => ?_, fun k hk => ?_, fun s hs => tk_congr 3 (fun j hj => ?_)⟩
  · unfold yF tdN; rw [h s (by omega)]
  · unfold nF tdN; rw [h (4 + k) (by omega)]
  · unfold tdN; rw [h (7 + j) (by omega)]
theorem p_shared {X : Xt} {G : Gt} (hI : Inv G) {s i so k : Int32} : pair X m_SW_shared m_Mo_shared [.int s, .int i, .int so, .int k] G := by
  obtain ⟨hW, hT, hS, hP, hs, h0⟩ := id hI
  have hzx : 0 ≤ s ∧ s ≤ 7 → ¬ G 4 s.toNatClampNeg = -1 → 0 ≤ G 4 s.toNatClampNeg ∧ G 4 s.toNatClampNeg ≤ 100 := fun h h2 => hzX hS h h2
  have hzm : 0 ≤ s ∧ s ≤ 7 → 0 ≤ G 27 s.toNatClampNeg → 0 ≤ G 28 s.toNatClampNeg ∧ G 28 s.toNatClampNeg ≤ 100 := fun h h2 => hzM hS h h2
  have hq : shP s so k → fnd (G 4 s.toNatClampNeg) i 10 = 0 → 0 ≤ G 27 s.toNatClampNeg ∧ G 28 s.toNatClampNeg = G 4 s.toNatClampNeg ∧ ∀ k, k < 10 → fX G s i.toNatClampNeg k = fM G s.toNatClampNeg i.toNatClampNeg k := by
    intro h h2
    rcases look_both hS h.1 i 10 with ⟨g1, g2⟩ | ⟨g1, g2, g3⟩ | ⟨g1, g2, g3, g4, g5⟩
    · rw [g1] at h2; exact absurd h2 (by decide)
    · rw [g1] at h2; exact absurd h2 (by decide)
    · have h5 := (fnd_0 g4 (by decide)).mp h2
      obtain ⟨-, ei2, -⟩ := toN h5.1
      have h6 : i.toInt + 10 ≤ (G 4 s.toNatClampNeg).toInt := h5.2
      exact ⟨g2, g3, fun k hk => g5 _ (by omega)⟩
  refine c_SW_shared hzx (fun h => pq ?_) (fun h h2 => pq ?_) (fun h h2 h3 G' hF => pq ?_) (fun h h2 h3 hn G' L hF eL => pq ?_) (fun h h2 h3 hn G' L A B hF eA eB hA hB eL => pq ?_)
  · exact c_Mo_shared h0 hzm (fun _ => ⟨rfl, hI⟩) (fun z => absurd z h) (fun z => absurd z h) (fun z => absurd z h) (fun z => absurd z h) (fun z => absurd z h)
  · rcases look_both hS h.1 i 10 with ⟨g1, g2⟩ | ⟨g1, g2, g3⟩ | ⟨g1, -⟩
    · rw [g1]
      exact c_Mo_shared h0 hzm (fun z => absurd h z) (fun _ _ => ⟨rfl, ⟨hW, hT, hS, hP, rfl, h0⟩⟩) (fun _ z => absurd z g2) (fun _ z => absurd z g2) (fun _ z => absurd z g2) (fun _ z => absurd z g2)
    · rw [g1]
      have h2' : ¬ fnd (G 28 s.toNatClampNeg) i 10 = 0 := by rw [g3]; exact h2
      exact c_Mo_shared h0 hzm (fun z => absurd h z) (fun _ z => absurd g2 z) (fun _ _ _ => ⟨rfl, ⟨hW, hT, hS, hP, rfl, h0⟩⟩) (fun _ _ z => absurd z h2') (fun _ _ z => absurd z h2') (fun _ _ z => absurd z h2')
    · exact absurd g1 h2
  all_goals
    obtain ⟨y1, y2, y3⟩ := hq h h2
    have f27 : G' 27 = G 27 := hF.1 27 rfl (by decide)
    have f28 : G' 28 = G 28 := hF.1 28 rfl (by decide)
    have f29 : G' 29 = G 29 := hF.1 29 rfl (by decide)
    have h0' : G' 26 0 = 0 := by rw [hF.2 0 (by decide)]; exact h0
    have hI' := Inv_fr hF hI
    have hzm' : 0 ≤ s ∧ s ≤ 7 → 0 ≤ G' 27 s.toNatClampNeg → 0 ≤ G' 28 s.toNatClampNeg ∧ G' 28 s.toNatClampNeg ≤ 100 := by rw [f27, f28]; exact hzm
    have y1' : 0 ≤ G' 27 s.toNatClampNeg := by rw [f27]; exact y1
    have h2' : fnd (G' 28 s.toNatClampNeg) i 10 = 0 := by rw [f28, y2]; exact h2
    have eM' : fM G' s.toNatClampNeg i.toNatClampNeg = fM G s.toNatClampNeg i.toNatClampNeg := by unfold fM; rw [f29]
    have y4 : ∀ k, k < 10 → fX G s i.toNatClampNeg k = fM G' s.toNatClampNeg i.toNatClampNeg k := by rw [eM']; exact y3
    obtain ⟨z1, z2, z3⟩ := f_sim y4
    have eLL : mnX (yF (fX G s i.toNatClampNeg)) (nF (fX G s i.toNatClampNeg)) (tF (fX G s i.toNatClampNeg)) 8 = mnX (yF (fM G' s.toNatClampNeg i.toNatClampNeg)) (nF (fM G' s.toNatClampNeg i.toNatClampNeg)) (tF (fM G' s.toNatClampNeg i.toNatClampNeg)) 8 := mnX_congr (cut_congr z1 z2 z3) 8
  · refine c_Mo_shared (G := G') h0' hzm' (fun z => absurd h z) (fun _ z => absurd y1' z) (fun _ _ z => absurd h2' z) (fun _ _ _ _ => ⟨rfl, hI'⟩) (fun _ _ _ z => absurd (rd_congr (fun k hk => (y4 k hk).symm) z) h3) (fun _ _ _ z => absurd (rd_congr (fun k hk => (y4 k hk).symm) z) h3)
  · refine c_Mo_shared (G := sG G' 0 (upd (G' 0) 7 0)) h0' hzm' (fun z => absurd h z) (fun _ z => absurd y1' z) (fun _ _ z => absurd h2' z) (fun _ _ _ z => absurd (rd_congr y4 h3) z) (fun _ _ _ _ _ G'' L' hF' eL' => ⟨?_, Inv_fr hF' (Inv_st hI' 0)⟩) (fun _ _ _ _ z => absurd hn z)
    have : L' = L := by rw [← eL', ← eL]; exact eLL.symm
    rw [this]
  · refine c_Mo_shared (G := sG G' 0 (upd (G' 0) 7 0)) h0' hzm' (fun z => absurd h z) (fun _ z => absurd y1' z) (fun _ _ z => absurd h2' z) (fun _ _ _ z => absurd (rd_congr y4 h3) z) (fun _ _ _ _ z => absurd z hn) (fun _ _ _ _ _ G'' L' A' B' hF' eA' eB' hA' hB' eL' => ⟨?_, Inv_fr hF' (Inv_st hI' 0)⟩)
    have e1 : L' = L := by rw [← eL', ← eL]; exact eLL.symm
    have e2 : A' = A := by rw [eA, nI_eq (by omega) (by omega)] at eA'; exact eA'.symm
    have e3 : B' = B := by rw [eB, nI_eq (by omega) (by omega)] at eB'; exact eB'.symm
    subst e1
    subst e2
    subst e3
    have hsim : Sim (yF (fM G' s.toNatClampNeg i.toNatClampNeg), nF (fM G' s.toNatClampNeg i.toNatClampNeg), tF (fM G' s.toNatClampNeg i.toNatClampNeg), L') (yF (fX G s i.toNatClampNeg), nF (fX G s i.toNatClampNeg), tF (fX G s i.toNatClampNeg), L') := ⟨fun s hs => (z1 s hs).symm, fun k hk => (z2 k hk).symm, fun s hs => (z3 s hs).symm, rfl⟩
    have := vQ_sim (sh_sim hsim (3 * A' + B') (by omega)) (i := 3 * A' + B') (by omega)
    show some (Value.int (nI (vQ (shQ (yF (fM G' s.toNatClampNeg i.toNatClampNeg), nF (fM G' s.toNatClampNeg i.toNatClampNeg), tF (fM G' s.toNatClampNeg i.toNatClampNeg), L') (3 * A' + B')) (3 * A' + B')))) = _
    rw [this]
