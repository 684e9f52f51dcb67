/-! the model: sweeps -/
def MI (w h : Nat) (U : Nat → Prop) (k0 p : Nat) (G0 G : Gt) (m : Nat) : Prop := FrS G0 G ∧ (∀ x, x < w * h → (G 41 x = 0 ↔ U x ∧ ¬ G 41 x = nI (p + 1))) ∧ (∀ x, x < w * h → G 41 x = nI (p + 1) → U x ∧ rch w h U k0 x) ∧ (m + cP (fun x => G 41 x = 0) (w * h) = cP U (w * h)) ∧ (∀ x, x < w * h → (G 41 x).toInt ≤ p + 1) ∧ G 41 k0 = nI (p + 1)
theorem MI_put {w h : Nat} {U : Nat → Prop} {k0 p y m : Nat} {G0 G : Gt} (hp : p ≤ 100) (hk0 : ¬ y = k0) (hy : y < w * h) (hr : U y → rch w h U k0 y) (hM : MI w h U k0 p G0 G m) (hq : G 41 y = 0) : MI w h U k0 p G0 (sG G 41 (upd (G 41) y (nI (p + 1)))) (m + 1) ∧ cP (fun x => (sG G 41 (upd (G 41) y (nI (p + 1)))) 41 x = 0) (w * h) < cP (fun x => G 41 x = 0) (w * h) := by
  obtain ⟨m0, m1, m2, m3, m4, m5⟩ := hM
  have hy2 := (m1 y hy).mp hq
  have hne : ¬ nI (p + 1) = 0 := nI_ne0 (by omega) (by omega)
  have h1 : cP (fun x => G 41 x = 0) (w * h) = cP (fun x => upd (G 41) y (nI (p + 1)) x = 0) (w * h) + 1 := by
    refine cP_del (k := y) hq (fun z => hne (by rw [pk_us] at z; exact z)) hy (fun x hx e => ?_)
    show _ ↔ upd (G 41) y (nI (p + 1)) x = 0
    rw [pk_un e]
  refine ⟨⟨m0.s rfl, fun x hx => ?_, fun x hx => ?_, ?_, fun x hx => ?_, ?_⟩, ?_⟩
  · show upd (G 41) y (nI (p + 1)) x = 0 ↔ U x ∧ ¬ upd (G 41) y (nI (p + 1)) x = nI (p + 1)
    by_cases e : x = y
    · subst e
      rw [pk_us]
      exact ⟨fun z => absurd z hne, fun z => absurd rfl z.2⟩
    · rw [pk_un e]
      exact m1 x hx
  · show upd (G 41) y (nI (p + 1)) x = nI (p + 1) → _
    by_cases e : x = y
    · subst e
      exact fun _ => ⟨hy2.1, hr hy2.1⟩
    · rw [pk_un e]
      exact m2 x hx
  · show m + 1 + cP (fun x => upd (G 41) y (nI (p + 1)) x = 0) (w * h) = _
    omega
  · show (upd (G 41) y (nI (p + 1)) x).toInt ≤ _
    by_cases e : x = y
    · subst e
      rw [pk_us, nI_toInt (by omega)]
      omega
    · rw [pk_un e]
      exact m4 x hx
  · show upd (G 41) y (nI (p + 1)) k0 = _
    rw [pk_un (Ne.symm hk0)]
    exact m5
  · show cP (fun x => upd (G 41) y (nI (p + 1)) x = 0) (w * h) < _
    omega
def bsM (w h p : Nat) (G : Gt) (j : Nat) : Prop := ∃ x, adj w h j x ∧ G 41 x = nI (p + 1)
def clM (w h p : Nat) (G : Gt) (j : Nat) : Prop := ∀ y, y < j → ¬ (G 41 y = 0 ∧ bsM w h p G y)
theorem MI_end {w h : Nat} {U : Nat → Prop} {k0 p m : Nat} {G0 G : Gt} (hw : 0 < w) (hU : ∀ x, U x → x < w * h) (hk0 : U k0) (hM : MI w h U k0 p G0 G m) (hc : clM w h p G (w * h)) : ∀ x, x < w * h → (G 41 x = 0 ↔ U x ∧ ¬ rch w h U k0 x) := by
  obtain ⟨m0, m1, m2, m3, m4, m5⟩ := hM
  intro x hx
  rw [m1 x hx]
  refine and_congr_right (fun hUx => not_congr ⟨fun z => (m2 x hx z).2, fun z => ?_⟩)
  refine (z (fun y => U y ∧ G 41 y = nI (p + 1)) ⟨hk0, m5⟩ (fun u v hu hv ha => ⟨hv, ?_⟩)).2
  refine Classical.byContradiction (fun hq => ?_)
  have h0 := (m1 v (hU v hv)).mpr ⟨hv, hq⟩
  exact hc v (hU v hv) ⟨h0, u, adj_sym hw (hU u hu.1) ha, hu.2⟩
abbrev svB (w h : Nat) (e lo he : Int32) : Lt := [(0, .ref 26), (3, .int (nI w)), (4, .int (nI h)), (6, .int e), (7, .int lo), (8, .int he)]
abbrev L305 (w h : Nat) (e lo he : Int32) (j : Nat) (mo m : Int32) (p k : Nat) (la : Int32) : Lt := (14, .int (nI j)) :: (13, .int mo) :: (12, .int m) :: (9, .int (nI p)) :: (11, .int (nI k)) :: (10, .int la) :: svB w h e lo he
section
variable {X : Xt} {w h : Nat} {e lo he : Int32} {j p k : Nat} {mo m la : Int32} {G : Gt} {Q : Qt}
set_option maxRecDepth 4000 in
theorem w_b4 (hw : 0 < w) (hn : w * h ≤ 100) (hwb : w ≤ 10) (hj : j < w * h) (h1 : ∀ x, 0 < j % w ∧ x + 1 = j → ¬ G 41 x = nI p) (h2 : ∀ x, j % w + 1 < w ∧ x = j + 1 → ¬ G 41 x = nI p) (h3 : ∀ x, w ≤ j ∧ x + w = j → ¬ G 41 x = nI p) (K1 : (∃ x, adj w h j x ∧ G 41 x = nI p) → wp X m_Mo_survey 411 ((15, .int 1) :: L305 w h e lo he j mo m p k la) [] G Q) (K0 : (¬ ∃ x, adj w h j x ∧ G 41 x = nI p) → wp X m_Mo_survey 411 ((15, .int 0) :: L305 w h e lo he j mo m p k la) [] G Q) : wp X m_Mo_survey 379 (L305 w h e lo he j mo m p k la) [] G Q := by
  have no : (∀ x, j + w < w * h ∧ x = j + w → ¬ G 41 x = nI p) → ¬ ∃ x, adj w h j x ∧ G 41 x = nI p := by
    rintro h4 ⟨x, ha, hx⟩
    rcases ha with ha | ha | ha | ha
    · exact h1 x ha hx
    · exact h2 x ha hx
    · exact h3 x ha hx
    · exact h4 x ha hx
  refine rn_wp (stops := [411]) 40 ?_
  refine bi (fun z => ?_) (fun z => ?_)
  · rw [pk_mul, nI_add, nI_leI (by omega) (by omega)] at z
    exact K0 (no (fun x hx => absurd hx.1 (by omega)))
  · rw [pk_mul, nI_add, nI_leI (by omega) (by omega)] at z
    refine vi (by rw [nI_add]; exact vp_in_nI (by omega) (by omega)) ?_
    rw [nI_add, nI_clamp (by omega)]
    refine bj (fun q => ?_) (fun q => ?_)
    · exact K0 (no (fun x hx => by rw [hx.2]; exact q))
    · exact K1 ⟨j + w, Or.inr (Or.inr (Or.inr ⟨by omega, rfl⟩)), q⟩
set_option maxRecDepth 4000 in
theorem w_b3 (hw : 0 < w) (hn : w * h ≤ 100) (hwb : w ≤ 10) (hj : j < w * h) (h1 : ∀ x, 0 < j % w ∧ x + 1 = j → ¬ G 41 x = nI p) (h2 : ∀ x, j % w + 1 < w ∧ x = j + 1 → ¬ G 41 x = nI p) (K1 : (∃ x, adj w h j x ∧ G 41 x = nI p) → wp X m_Mo_survey 411 ((15, .int 1) :: L305 w h e lo he j mo m p k la) [] G Q) (K0 : (¬ ∃ x, adj w h j x ∧ G 41 x = nI p) → wp X m_Mo_survey 411 ((15, .int 0) :: L305 w h e lo he j mo m p k la) [] G Q) : wp X m_Mo_survey 359 (L305 w h e lo he j mo m p k la) [] G Q := by
  refine rn_wp (stops := [379, 411]) 40 ?_
  refine bi (fun z => ?_) (fun z => ?_)
  · rw [nI_ltI (by omega) (by omega)] at z
    exact w_b4 hw hn hwb hj h1 h2 (fun x hx => absurd hx.1 (by omega)) K1 K0
  · rw [nI_ltI (by omega) (by omega)] at z
    refine vi (by rw [pk_sub (by omega)]; exact vp_in_nI (by omega) (by omega)) ?_
    rw [pk_sub (by omega), nI_clamp (by omega)]
    refine bi (fun q => ?_) (fun q => ?_)
    · exact K1 ⟨j - w, Or.inr (Or.inr (Or.inl ⟨by omega, by omega⟩)), q⟩
    · exact w_b4 hw hn hwb hj h1 h2 (fun x hx => by rw [show x = j - w by omega]; exact q) K1 K0
set_option maxRecDepth 4000 in
theorem w_b2 (hw : 0 < w) (hn : w * h ≤ 100) (hwb : w ≤ 10) (hj : j < w * h) (h1 : ∀ x, 0 < j % w ∧ x + 1 = j → ¬ G 41 x = nI p) (K1 : (∃ x, adj w h j x ∧ G 41 x = nI p) → wp X m_Mo_survey 411 ((15, .int 1) :: L305 w h e lo he j mo m p k la) [] G Q) (K0 : (¬ ∃ x, adj w h j x ∧ G 41 x = nI p) → wp X m_Mo_survey 411 ((15, .int 0) :: L305 w h e lo he j mo m p k la) [] G Q) : wp X m_Mo_survey 335 (L305 w h e lo he j mo m p k la) [] G Q := by
  have hm := Nat.mod_lt j hw
  refine rn_wp (stops := [359, 411]) 40 ?_
  refine zi (nI_ne0 hw (by omega)) ?_
  refine bi (fun z => ?_) (fun z => ?_)
  · rw [pk_rem (by omega) hw (by omega), nI_m1 hw, nI_leI (by omega) (by omega)] at z
    exact w_b3 hw hn hwb hj h1 (fun x hx => absurd hx.1 (by omega)) K1 K0
  · rw [pk_rem (by omega) hw (by omega), nI_m1 hw, nI_leI (by omega) (by omega)] at z
    have ha : adj w h j (j + 1) := Or.inr (Or.inl ⟨by omega, rfl⟩)
    have hlt := adj_lt hw hj ha
    refine vi (by rw [nI_1]; exact vp_in_nI (by omega) (by omega)) ?_
    rw [nI_1, nI_clamp (by omega)]
    refine bi (fun q => ?_) (fun q => ?_)
    · exact K1 ⟨j + 1, ha, q⟩
    · exact w_b3 hw hn hwb hj h1 (fun x hx => by rw [hx.2]; exact q) K1 K0
set_option maxRecDepth 4000 in
theorem w_b1 (hw : 0 < w) (hn : w * h ≤ 100) (hwb : w ≤ 10) (hj : j < w * h) (K1 : (∃ x, adj w h j x ∧ G 41 x = nI p) → wp X m_Mo_survey 411 ((15, .int 1) :: L305 w h e lo he j mo m p k la) [] G Q) (K0 : (¬ ∃ x, adj w h j x ∧ G 41 x = nI p) → wp X m_Mo_survey 411 ((15, .int 0) :: L305 w h e lo he j mo m p k la) [] G Q) : wp X m_Mo_survey 314 (L305 w h e lo he j mo m p k la) [] G Q := by
  have hm := Nat.mod_lt j hw
  have hm2 := Nat.mod_le j w
  refine rn_wp (stops := [335, 411]) 40 ?_
  refine zi (nI_ne0 hw (by omega)) ?_
  refine bi (fun z => ?_) (fun z => ?_)
  · rw [pk_rem (by omega) hw (by omega), ← nI_0, nI_leI (by omega) (by omega)] at z
    exact w_b2 hw hn hwb hj (fun x hx => absurd hx.1 (by omega)) K1 K0
  · rw [pk_rem (by omega) hw (by omega), ← nI_0, nI_leI (by omega) (by omega)] at z
    refine vi (by rw [nI_m1 (by omega)]; exact vp_in_nI (by omega) (by omega)) ?_
    rw [nI_m1 (by omega), nI_clamp (by omega)]
    refine bi (fun q => ?_) (fun q => ?_)
    · exact K1 ⟨j - 1, Or.inl ⟨by omega, by omega⟩, q⟩
    · exact w_b2 hw hn hwb hj (fun x hx => by rw [show x = j - 1 by omega]; exact q) K1 K0
end
abbrev L294 (w h : Nat) (e lo he : Int32) (mo m : Int32) (p k : Nat) (la : Int32) : Lt := (13, .int mo) :: (12, .int m) :: (9, .int (nI p)) :: (11, .int (nI k)) :: (10, .int la) :: svB w h e lo he
set_option maxRecDepth 4000 in
theorem w_mi {X : Xt} {w h : Nat} {U : Nat → Prop} {e lo he la : Int32} {p k c0 : Nat} {G0 : Gt} {Q : Qt} (hw : 0 < w) (hn : w * h ≤ 100) (hwb : w ≤ 10) (hp : p ≤ 100) (hU : ∀ x, U x → x < w * h) (hk : U k) (K : ∀ G m mo, MI w h U k p G0 G m → ((mo = 0 ∧ clM w h p G (w * h)) ∨ (mo = 1 ∧ cP (fun x => G 41 x = 0) (w * h) < c0)) → wp X m_Mo_survey 294 (L294 w h e lo he mo (nI m) (p + 1) k la) [] G Q) : ∀ (z j m : Nat) (q mo mm : Int32) (G : Gt), q = nI j → mm = nI m → j + z = w * h → MI w h U k p G0 G m → ((mo = 0 ∧ clM w h p G j ∧ cP (fun x => G 41 x = 0) (w * h) ≤ c0) ∨ (mo = 1 ∧ cP (fun x => G 41 x = 0) (w * h) < c0)) → wp X m_Mo_survey 305 ((14, .int q) :: (13, .int mo) :: (12, .int mm) :: (9, .int (nI (p + 1))) :: (11, .int (nI k)) :: (10, .int la) :: svB w h e lo he) [] G Q
  | 0, j, m, q, mo, mm, G, hq, hm, hz, hM, hst => by
    subst hq
    subst hm
    have hj : j = w * h := by omega
    refine rn_wp (stops := [294, 305, 314]) 40 ?_
    refine bi_t (by rw [pk_mul, hj]; exact Int32.le_refl _) ?_
    refine wp_pick [1, 2, 3, 4, 5, 6, 7, 8, 9, 10, 11] (K G m mo hM ?_)
    rw [hj] at hst
    rcases hst with ⟨a, b, -⟩ | a
    · exact Or.inl ⟨a, b⟩
    · exact Or.inr a
  | z + 1, j, m, q, mo, mm, G, hq, hm, hz, hM, hst => by
    subst hq
    subst hm
    have hj : j < w * h := by omega
    refine rn_wp (stops := [294, 305, 314]) 40 ?_
    refine bi_f (by rw [pk_mul, nI_leI (by omega) (by omega)]; omega) ?_
    have no : ∀ b : Int32, ¬ (G 41 j = 0 ∧ bsM w h p G j) → wp X m_Mo_survey 305 ((14, .int (nI j + 1)) :: (15, .int b) :: (13, .int mo) :: (12, .int (nI m)) :: (9, .int (nI (p + 1))) :: (11, .int (nI k)) :: (10, .int la) :: svB w h e lo he) [] G Q := by
      intro b hb
      refine wp_pick [0, 2, 3, 4, 5, 6, 7, 8, 9, 10, 11, 12] (w_mi hw hn hwb hp hU hk K z (j + 1) m _ mo _ G (nI_1 _) rfl (by omega) hM ?_)
      rcases hst with ⟨a, b, c⟩ | a
      · refine Or.inl ⟨a, fun y hy => ?_, c⟩
        rcases Nat.lt_succ_iff_lt_or_eq.mp hy with y1 | y1
        · exact b y y1
        · rw [y1]; exact hb
      · exact Or.inr a
    refine w_b1 hw hn hwb hj (fun hb => ?_) (fun hb => ?_)
    · refine rn_wp (stops := [305]) 20 ?_
      refine vi (vp_in_nI (by omega) (by omega)) ?_
      rw [nI_clamp (by omega)]
      refine bj (fun g => ?_) (fun g => ?_)
      · exact no 1 (fun y => g y.1)
      · refine bi_f (by decide) ?_
        refine vi (vp_in_nI (by omega) (by omega)) ?_
        rw [nI_clamp (by omega)]
        obtain ⟨x, hx1, hx2⟩ := hb
        have hxl := adj_lt hw hj hx1
        have hne : ¬ j = k := fun y => by
          have := hM.2.2.2.2.2
          rw [← y, g] at this
          exact absurd this.symm (nI_ne0 (by omega) (by omega))
        obtain ⟨u1, u2⟩ := MI_put hp hne hj (fun hUj => rch_st (hM.2.2.1 x hxl hx2).2 hUj (adj_sym hw hj hx1)) hM g
        refine wp_pick [0, 1, 2, 4, 5, 6, 7, 8, 9, 10, 11, 12] (w_mi hw hn hwb hp hU hk K z (j + 1) (m + 1) _ 1 _ _ (nI_1 _) (nI_1 _) (by omega) u1 (Or.inr ⟨rfl, ?_⟩))
        rcases hst with ⟨a, b, c⟩ | a
        · omega
        · omega
    · refine rn_wp (stops := [305]) 20 ?_
      refine vi (vp_in_nI (by omega) (by omega)) ?_
      rw [nI_clamp (by omega)]
      refine bj (fun g => ?_) (fun g => ?_)
      · exact no 0 (fun y => g y.1)
      · refine bi_t rfl ?_
        exact no 0 (fun y => hb y.2)
set_option maxRecDepth 4000 in
theorem w_mw {X : Xt} {w h : Nat} {U : Nat → Prop} {e lo he la : Int32} {p k : Nat} {G0 : Gt} {Q : Qt} (hw : 0 < w) (hn : w * h ≤ 100) (hwb : w ≤ 10) (hp : p ≤ 100) (hU : ∀ x, U x → x < w * h) (hk : U k) (K : ∀ G m, MI w h U k p G0 G m → clM w h p G (w * h) → wp X m_Mo_survey 450 (L294 w h e lo he 0 (nI m) (p + 1) k la) [] G Q) : ∀ (c m : Nat) (G : Gt), cP (fun x => G 41 x = 0) (w * h) ≤ c → MI w h U k p G0 G m → wp X m_Mo_survey 294 (L294 w h e lo he 1 (nI m) (p + 1) k la) [] G Q
  | 0, m, G, hc, hM => by
    refine rn_wp (stops := [305, 450]) 20 ?_
    refine bi_f (by decide) ?_
    refine w_mi (c0 := 0) hw hn hwb hp hU hk (fun G' m' mo' hM' hst => ?_) (w * h) 0 m _ _ _ G rfl rfl (by omega) hM (Or.inl ⟨rfl, fun y hy => absurd hy (by omega), hc⟩)
    rcases hst with ⟨a, b⟩ | ⟨-, b⟩
    · subst a
      refine rn_wp (stops := [450]) 5 ?_
      refine bi_t rfl ?_
      exact K G' m' hM' b
    · omega
  | c + 1, m, G, hc, hM => by
    refine rn_wp (stops := [305, 450]) 20 ?_
    refine bi_f (by decide) ?_
    refine w_mi (c0 := c + 1) hw hn hwb hp hU hk (fun G' m' mo' hM' hst => ?_) (w * h) 0 m _ _ _ G rfl rfl (by omega) hM (Or.inl ⟨rfl, fun y hy => absurd hy (by omega), hc⟩)
    rcases hst with ⟨a, b⟩ | ⟨a, b⟩
    · subst a
      refine rn_wp (stops := [450]) 5 ?_
      refine bi_t rfl ?_
      exact K G' m' hM' b
    · subst a
      exact w_mw hw hn hwb hp hU hk K c m' G' (by omega) hM'
