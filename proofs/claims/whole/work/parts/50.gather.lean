/-! the class: gather, compare -/
theorem Us_lt {w h : Nat} {U : Nat → Prop} (hU : ∀ x, U x → x < w * h) : ∀ k x, Us w h U k x → x < w * h
  | 0, x, hx => hU x hx
  | k + 1, x, hx => Us_lt hU k x hx.1
def gI (w h : Nat) (U : Nat → Prop) (lo he : Int32) (G0 : Gt) (k : Nat) (G : Gt) : Prop := FrS G0 G ∧ (∀ x, x < w * h → (¬ G 22 x = 0 ↔ Us w h U k x)) ∧ (G 21 3 = lo ∧ G 21 4 = he) ∧ G 21 5 = nI (pcs w h U k).1 ∧ G 21 6 = nI (pcs w h U k).2
theorem inL_pos {G : Gt} {f x : Nat} (h : inL G f x) : 0 < f := by
  obtain ⟨i, h1, -⟩ := h
  omega
set_option maxRecDepth 4000 in
theorem w_gather {X : Xt} {w h : Nat} {U : Nat → Prop} {lo he : Int32} {G0 : Gt} {Q : Qt} (hw : 0 < w) (hh : 0 < h) (hwb : w ≤ 10) (hhb : h ≤ 10) (hn : w * h ≤ 100) (hU : ∀ x, U x → x < w * h) (K : ∀ G, gI w h U lo he G0 (w * h) G → Q none G) : ∀ (z k : Nat) (q : Int32) (G : Gt), q = nI k → k + z = w * h → gI w h U lo he G0 k G → wp X m_Surveys_gather 12 [(3, .int q), (0, .ref 21), (1, .int (nI w)), (2, .int (nI h))] [] G Q
  | 0, k, q, G, hq, hz, hg => by
    subst hq
    have hk : k = w * h := by omega
    refine rn_wp (stops := [12]) 60 ?_
    refine bi_t (by rw [pk_mul, hk]; exact Int32.le_refl _) ?_
    rw [hk] at hg
    exact K G hg
  | z + 1, k, q, G, hq, hz, hg => by
    subst hq
    have hk : k < w * h := by omega
    obtain ⟨g1, g2, ⟨g3, g4⟩, g5, g6⟩ := hg
    have hr := pcs_rng (U := U) hn k
    refine rn_wp (stops := [12]) 60 ?_
    refine bi_f (by rw [pk_mul, nI_leI (by omega) (by omega)]; omega) ?_
    by_cases hkk : Us w h U k k
    · have hS : SI w h (Us w h U k) k (sG G 21 (upd (G 21) 2 0)) (sG G 21 (upd (G 21) 2 0)) 0 := by
        refine ⟨⟨rfl, FrS.rf _, fun _ _ => rfl⟩, fun i hi => absurd hi (by omega), fun x hx => ?_, ?_⟩
        · show ¬ G 22 x = 0 ↔ _
          rw [g2 x hx]
          exact ⟨fun q => ⟨q, fun y => absurd (inL_pos y) (by omega)⟩, fun q => q.1⟩
        · rw [Nat.zero_add]
          exact cP_congr (fun x hx => g2 x hx)
      refine c_joinS hn hk (fun _ => rch_rf _ _ _ _) hS (fun G1 f1 s1 s2 s3 s4 s5 => ?_) rfl
      refine c_spread hw hh hwb hhb hn s1 (s5 hkk) (fun G2 f2 t1 t2 t3 => ?_)
      have hf := SI_f hn t1
      have hpos := inL_pos t3
      have hend := SI_end hw hn t1 t2 t3 (Us_lt hU k) hkk
      have e2 : G2 21 2 = nI f2 := t1.1.1
      have e5 : G2 21 5 = nI (pcs w h U k).1 := (t1.1.2.2 5 (by decide)).trans g5
      have e6 : G2 21 6 = nI (pcs w h U k).2 := (t1.1.2.2 6 (by decide)).trans g6
      have e3 : G2 21 3 = lo := (t1.1.2.2 3 (by decide)).trans g3
      have e4 : G2 21 4 = he := (t1.1.2.2 4 (by decide)).trans g4
      have esz : szS w h U k = f2 := by
        have h1 := t1.2.2.2
        have h2 : cP (fun x => ¬ G2 22 x = 0) (w * h) = cP (Us w h U (k + 1)) (w * h) := cP_congr (fun x hx => (hend x hx).trans (Us_1 hkk x).symm)
        unfold szS
        rw [← h2, ← h1]
        exact Nat.add_sub_cancel _ _
      refine bi_f (by rw [e2, ← nI_0, nI_leI (by omega) (by omega)]; omega) ?_
      refine w_gather hw hh hwb hhb hn hU K z (k + 1) _ _ (nI_1 _) (by omega) ⟨((g1.s rfl).tr (t1.1.2.1)).s rfl |>.s rfl, fun x hx => ?_, ⟨?_, ?_⟩, ?_, ?_⟩
      · show ¬ G2 22 x = 0 ↔ _
        rw [Us_1 hkk]
        exact hend x hx
      · exact e3
      · exact e4
      · show G2 21 5 + 1 = _
        rw [e5, pcs_1 hkk, nI_1]
      · show (if G2 21 6 < G2 21 2 then G2 21 2 else G2 21 6) = _
        rw [e2, e6, pcs_1 hkk, esz]
        show _ = nI (if (pcs w h U k).2 < f2 then f2 else (pcs w h U k).2)
        by_cases hlt : (pcs w h U k).2 < f2
        · rw [if_pos hlt, if_pos (by rw [nI_ltI (by omega) (by omega)]; exact hlt)]
        · rw [if_neg hlt, if_neg (by rw [nI_ltI (by omega) (by omega)]; exact hlt)]
    · have hz22 : G 22 k = 0 := Decidable.byContradiction (fun y => hkk ((g2 k hk).mp y))
      refine c_join (G := sG G 21 (upd (G 21) 2 0)) (f := 0) (by omega) rfl (fun _ => by omega) (fun _ => ?_) (fun y => absurd hz22 y) rfl
      refine c_spread0 rfl ?_
      refine bi_t (show (0 : Int32) ≤ 0 from Int32.le_refl _) ?_
      refine w_gather hw hh hwb hhb hn hU K z (k + 1) _ _ (nI_1 _) (by omega) ⟨g1.s rfl, fun x hx => ?_, ⟨g3, g4⟩, ?_, ?_⟩
      · show ¬ G 22 x = 0 ↔ _
        rw [Us_0 hkk, g2 x hx]
      · show G 21 5 = _
        rw [pcs_0 hkk, g5]
      · show G 21 6 = _
        rw [pcs_0 hkk, g6]
theorem c_gather {X : Xt} {w h : Nat} {U : Nat → Prop} {lo he : Int32} {G : Gt} {Q : Qt} (hw : 0 < w) (hh : 0 < h) (hwb : w ≤ 10) (hhb : h ≤ 10) (hn : w * h ≤ 100) (hU : ∀ x, U x → x < w * h) (h22 : ∀ x, x < w * h → (¬ G 22 x = 0 ↔ U x)) (e3 : G 21 3 = lo) (e4 : G 21 4 = he) (K : ∀ G', gI w h U lo he G (w * h) G' → Q none G') : con X m_Surveys_gather [.ref 21, .int (nI w), .int (nI h)] G Q := by
  refine con_rn 12 [12] (by decide) rfl ?_
  refine w_gather hw hh hwb hhb hn hU K (w * h) 0 _ _ rfl (by omega) ⟨((FrS.rf G).s rfl).s rfl, h22, ⟨e3, e4⟩, rfl, rfl⟩
abbrev lsP (ga gb : Nat → Int32) (s : Int32) (x : Nat) : Prop := ¬ 0 < lg_cmp ((gb x).toInt64 - (ga x).toInt64) ((-s).toInt64)
abbrev hpP (ga gb : Nat → Int32) (s : Int32) (x : Nat) : Prop := ¬ lg_cmp ((gb x).toInt64 - (ga x).toInt64) (s.toInt64) < 0
abbrev gX (G : Gt) (a : Int32) : Nat → Int32 := fun x => G 2 (100 * a.toNatClampNeg + x)
def cI (ga gb : Nat → Int32) (s : Int32) (G0 : Gt) (k : Nat) (G : Gt) : Prop := FrS G0 G ∧ (∀ x, x < k → (¬ G 22 x = 0 ↔ lsP ga gb s x)) ∧ G 21 3 = sI (fun x => bI (lsP ga gb s x)) k ∧ G 21 4 = sI (fun x => bI (hpP ga gb s x)) k
theorem cI_put {ga gb : Nat → Int32} {s v l e : Int32} {G0 G : Gt} {k : Nat} (h : cI ga gb s G0 k G) (hv : ¬ v = 0 ↔ lsP ga gb s k) (hl : l = bI (lsP ga gb s k)) (he : e = bI (hpP ga gb s k)) : cI ga gb s G0 (k + 1) (sG (sG (sG G 22 (upd (G 22) k v)) 21 (upd (G 21) 3 (G 21 3 + l))) 21 (upd (upd (G 21) 3 (G 21 3 + l)) 4 (G 21 4 + e))) := by
  obtain ⟨h1, h2, h3, h4⟩ := h
  refine ⟨((h1.s rfl).s rfl).s rfl, fun x hx => ?_, ?_, ?_⟩
  · show ¬ upd (G 22) k v x = 0 ↔ _
    by_cases q : x = k
    · subst q
      rw [pk_us]
      exact hv
    · rw [pk_un q]
      exact h2 x (by omega)
  · show G 21 3 + l = _
    rw [h3, hl]
    rfl
  · show G 21 4 + e = _
    rw [h4, he]
    rfl
set_option maxRecDepth 4000 in
theorem w_compare {X : Xt} {a b s : Int32} {N : Nat} {G0 : Gt} {Q : Qt} (ha : 0 ≤ a ∧ a ≤ 7) (hb : 0 ≤ b ∧ b ≤ 7) (hN : N ≤ 100) (K : ∀ G, cI (gX G0 a) (gX G0 b) s G0 N G → Q none G) : ∀ (z k : Nat) (q : Int32) (G : Gt), q = nI k → k + z = N → cI (gX G0 a) (gX G0 b) s G0 k G → wp X m_Surveys_compare 13 [(6, .int q), (0, .ref 21), (1, .ref 1), (2, .int a), (3, .int b), (4, .int (nI N)), (5, .int s)] [] G Q
  | 0, k, q, G, hq, hz, hc => by
    subst hq
    have hk : k = N := by omega
    subst hk
    refine rn_wp (stops := [13]) 80 ?_
    refine bi_t (Int32.le_refl _) ?_
    exact K G hc
  | z + 1, k, q, G, hq, hz, hc => by
    subst hq
    have n1 : vp_nar .boolean 1 = 1 := rfl
    have n0 : vp_nar .boolean 0 = 0 := rfl
    have e2 : G 2 = G0 2 := hc.1.1 2 rfl (by decide)
    refine rn_wp (stops := [13]) 80 ?_
    refine bi_f (by simp (disch := omega) only [nI_1, nI_add, nI_clamp, nI_leI, nI_ltI, nI_eq, nI_toInt]; omega) ?_
    refine c_itemN (j := k) hb rfl (by omega) ?_
    refine c_itemN (j := k) ha rfl (by omega) ?_
    rw [e2]
    have nx : ∀ v l e : Int32, (¬ v = 0 ↔ lsP (gX G0 a) (gX G0 b) s k) → l = bI (lsP (gX G0 a) (gX G0 b) s k) → e = bI (hpP (gX G0 a) (gX G0 b) s k) → wp X m_Surveys_compare 13 [(6, .int (nI k + 1)), (7, .long ((gX G0 b k).toInt64 - (gX G0 a k).toInt64)), (0, .ref 21), (1, .ref 1), (2, .int a), (3, .int b), (4, .int (nI N)), (5, .int s)] [] (sG (sG (sG G 22 (upd (G 22) k v)) 21 (upd (G 21) 3 (G 21 3 + l))) 21 (upd (upd (G 21) 3 (G 21 3 + l)) 4 (G 21 4 + e))) Q := by
      intro v l e hv hl he
      exact wp_pick [0, 2, 3, 4, 5, 6, 7] (w_compare ha hb hN K z (k + 1) _ _ (nI_1 _) (by omega) (cI_put hc hv hl he))
    refine bi (fun h => ?_) (fun h => ?_)
    · refine vi (vp_in_nI (by omega) (by omega)) ?_
      rw [nI_clamp (by omega), n0]
      refine vi (vp_in_nI (by omega) (by omega)) ?_
      rw [nI_clamp (by omega)]
      refine bi_t (show upd (G 22) k 0 k = 0 from pk_us) ?_
      have hl : ¬ lsP (gX G0 a) (gX G0 b) s k := fun y => y h
      refine bi (fun h2 => ?_) (fun h2 => ?_)
      · have hh : ¬ hpP (gX G0 a) (gX G0 b) s k := fun y => y h2
        exact nx 0 0 0 ⟨fun y => absurd rfl y, fun y => absurd y hl⟩ (bI_f hl).symm (bI_f hh).symm
      · have hh : hpP (gX G0 a) (gX G0 b) s k := h2
        exact nx 0 0 1 ⟨fun y => absurd rfl y, fun y => absurd y hl⟩ (bI_f hl).symm (bI_t hh).symm
    · refine vi (vp_in_nI (by omega) (by omega)) ?_
      rw [nI_clamp (by omega), n1]
      refine vi (vp_in_nI (by omega) (by omega)) ?_
      rw [nI_clamp (by omega)]
      refine bi_f (show ¬ upd (G 22) k 1 k = 0 by rw [pk_us]; decide) ?_
      have hl : lsP (gX G0 a) (gX G0 b) s k := h
      refine bi (fun h2 => ?_) (fun h2 => ?_)
      · have hh : ¬ hpP (gX G0 a) (gX G0 b) s k := fun y => y h2
        exact nx 1 1 0 ⟨fun _ => hl, fun _ => by decide⟩ (bI_t hl).symm (bI_f hh).symm
      · have hh : hpP (gX G0 a) (gX G0 b) s k := h2
        exact nx 1 1 1 ⟨fun _ => hl, fun _ => by decide⟩ (bI_t hl).symm (bI_t hh).symm
theorem c_compare {X : Xt} {a b s : Int32} {N : Nat} {G : Gt} {Q : Qt} (ha : 0 ≤ a ∧ a ≤ 7) (hb : 0 ≤ b ∧ b ≤ 7) (hN : N ≤ 100) (K : ∀ G', cI (gX G a) (gX G b) s G N G' → Q none G') {n : Int32} (hn : n = nI N) : con X m_Surveys_compare [.ref 21, .ref 1, .int a, .int b, .int n, .int s] G Q := by
  subst hn
  refine con_rn 12 [13] (by decide) rfl ?_
  exact w_compare ha hb hN K N 0 _ _ rfl (by omega) ⟨((FrS.rf G).s rfl).s rfl, fun x hx => absurd hx (by omega), rfl, rfl⟩
def svU (ga gb : Nat → Int32) (s : Int32) (n : Nat) : Nat → Prop := fun x => x < n ∧ lsP ga gb s x
noncomputable def svV (ga gb : Nat → Int32) (s : Int32) (w h : Nat) (a : Int32) : Int32 := if a = 0 then sI (fun x => bI (lsP ga gb s x)) (w * h) else if a = 1 then sI (fun x => bI (hpP ga gb s x)) (w * h) else if a = 2 then nI (pcs w h (svU ga gb s (w * h)) (w * h)).1 else nI (pcs w h (svU ga gb s (w * h)) (w * h)).2
theorem c_result {X : Xt} {a : Int32} {G : Gt} {Q : Qt} (ha : 0 ≤ a ∧ a ≤ 3) (K : Q (some (.int (if a = 0 then G 21 3 else if a = 1 then G 21 4 else if a = 2 then G 21 5 else G 21 6))) G) : con X m_Surveys_result [.ref 21, .int a] G Q := by
  refine con_rn 20 [] (by decide) rfl ?_
  refine ⟨fun h => ?_, fun h => ?_, fun h => ?_, fun h => ?_, trivial⟩
  · have h0 : ¬ a = 0 := fun z => by rw [z] at h; exact absurd h (by decide)
    have h1 : ¬ a = 1 := fun z => by rw [z] at h; exact absurd h (by decide)
    have h2 : ¬ a = 2 := fun z => by rw [z] at h; exact absurd h (by decide)
    rw [if_neg h0, if_neg h1, if_neg h2] at K
    exact K
  · have h : a = 0 := h
    subst h
    exact K
  · have h : a = 1 := h
    subst h
    exact K
  · have h : a = 2 := h
    subst h
    exact K
abbrev svP (a b w h s e : Int32) : Prop := (0 ≤ a ∧ a ≤ 7) ∧ (0 ≤ b ∧ b ≤ 7) ∧ (1 ≤ w ∧ w ≤ 10) ∧ (1 ≤ h ∧ h ≤ 10) ∧ (1 ≤ s ∧ s ≤ 1000) ∧ 0 ≤ e ∧ e ≤ 3
theorem tenN {w : Int32} (h : 1 ≤ w ∧ w ≤ 10) : ∃ W : Nat, 0 < W ∧ W ≤ 10 ∧ w = nI W := by
  obtain ⟨e, e1, -⟩ := toN (x := w) (Int32.le_trans (by decide) h.1)
  have h1 : 1 ≤ w.toInt := by simpa using le32.mp h.1
  have h2 : w.toInt ≤ 10 := by simpa using le32.mp h.2
  exact ⟨_, by omega, by omega, e⟩
set_option maxRecDepth 8000 in
theorem c_SW_survey {X : Xt} {a b w h s e : Int32} {G : Gt} {Q : Qt}
    (K1 : ¬ svP a b w h s e → Q (some (.int (-1000001))) G)
    (K2 : svP a b w h s e → G 4 a.toNatClampNeg = -1 ∨ G 4 b.toNatClampNeg = -1 → Q (some (.int (-1000011))) (sG G 0 (upd (G 0) 7 1)))
    (K3 : svP a b w h s e → ¬ G 4 a.toNatClampNeg = -1 → ¬ G 4 b.toNatClampNeg = -1 → ¬ (hasI (G 4 a.toNatClampNeg) 0 (w * h) ∧ hasI (G 4 b.toNatClampNeg) 0 (w * h)) → Q (some (.int (-1000012))) (sG G 0 (upd (G 0) 7 2)))
    (K4 : svP a b w h s e → ¬ G 4 a.toNatClampNeg = -1 → ¬ G 4 b.toNatClampNeg = -1 → hasI (G 4 a.toNatClampNeg) 0 (w * h) → hasI (G 4 b.toNatClampNeg) 0 (w * h) → ∀ G' W H, FrS G G' → w = nI W → h = nI H → 0 < W → 0 < H → W ≤ 10 → H ≤ 10 → W * H ≤ 100 → Q (some (.int (svV (gX G a) (gX G b) s W H e))) (sG G' 0 (upd (G' 0) 7 0))) : con X m_SW_survey [.ref 0, .int a, .int b, .int w, .int h, .int s, .int e] G Q := by
  refine con_rn 120 [] (by decide) rfl ?_
  refine c_isNumber (bib (fun g => K1 (fun z => g z.1)) (fun ha => ?_))
  refine c_isNumber (bib (fun g => K1 (fun z => g z.2.1)) (fun hb => ?_))
  refine c_within (bib (fun g => K1 (fun z => g z.2.2.1)) (fun hw => ?_))
  refine c_within (bib (fun g => K1 (fun z => g z.2.2.2.1)) (fun hh => ?_))
  refine c_within (bib (fun g => K1 (fun z => g z.2.2.2.2.1)) (fun hs => ?_))
  refine c_within (bjb (fun he => ?_) (fun g => K1 (fun z => g z.2.2.2.2.2)))
  have hp : svP a b w h s e := ⟨ha, hb, hw, hh, hs, he⟩
  refine c_isMissing ha (bjb (fun g => ?_) (fun m1 => ?_))
  · refine c_found ?_
    exact K2 hp (Or.inl g)
  refine c_isMissing hb (bib (fun m2 => ?_) (fun g => ?_))
  · refine c_hasItems ha (bib (fun g => ?_) (fun h1 => ?_))
    · refine c_found ?_
      exact K3 hp m1 m2 (fun z => g z.1)
    · refine c_hasItems hb (bjb (fun h2 => ?_) (fun g => ?_))
      · obtain ⟨W, W0, W10, eW⟩ := tenN hw
        obtain ⟨H, H0, H10, eH⟩ := tenN hh
        have hn : W * H ≤ 100 := Nat.mul_le_mul W10 H10
        subst eW
        subst eH
        have k4 := K4 hp m1 m2 h1 h2
        refine c_compare (N := W * H) ha hb hn (fun G1 c1 => ?_) (pk_mul W H)
        refine c_gather (U := svU (gX G a) (gX G b) s (W * H)) W0 H0 W10 H10 hn (fun x hx => hx.1) (fun x hx => ?_) c1.2.2.1 c1.2.2.2 (fun G2 g2 => ?_)
        · rw [c1.2.1 x hx]
          exact ⟨fun z => ⟨hx, z⟩, fun z => z.2⟩
        · obtain ⟨f1, f2, ⟨f3, f4⟩, f5, f6⟩ := g2
          refine c_result he ?_
          refine c_fine ?_
          refine Qi (k4 G2 W H (c1.1.tr f1) rfl rfl W0 H0 W10 H10 hn) ?_
          rw [f3, f4, f5, f6]
          rfl
      · refine c_found ?_
        exact K3 hp m1 m2 (fun z => g z.2)
  · refine c_found ?_
    exact K2 hp (Or.inr g)
